section
-- ===== PART A: goes FIRST, ahead of the names: the tables' words, and 'selects' of the private methods out of them =====
/-- a private method of a class that the tables say can be made, by its rows of tables_1 -/
def lw_okq (q : MethodName × Nat) : Prop := (q.1.cls ≠ "java/lang/invoke/MethodHandle" ∧ q.1.cls ≠ "java/lang/invoke/VarHandle") ∧ Cond.instantiable q.1.cls q.2 ∈ tables_1 ∧ Cond.privateMethod q.1 ∈ tables_1 ∧ Cond.instanceMethod q.1 ∈ tables_1
theorem lw_p0 : lw_okq (⟨"VotesUntouched", "comesFrom", "(II)Z"⟩, 10) := ⟨⟨by decide +kernel, by decide +kernel⟩, List.mem_of_getElem? (i := 17) (by decide +kernel), List.mem_of_getElem? (i := 307) (by decide +kernel), List.mem_of_getElem? (i := 308) (by decide +kernel)⟩
theorem lw_p1 : lw_okq (⟨"VotesUntouched$Changes", "forgetOldest", "()V"⟩, 6) := ⟨⟨by decide +kernel, by decide +kernel⟩, List.mem_of_getElem? (i := 67) (by decide +kernel), List.mem_of_getElem? (i := 383) (by decide +kernel), List.mem_of_getElem? (i := 384) (by decide +kernel)⟩
theorem lw_p2 : lw_okq (⟨"VotesUntouched", "toldOrVoid", "(I)I"⟩, 10) := ⟨⟨by decide +kernel, by decide +kernel⟩, List.mem_of_getElem? (i := 17) (by decide +kernel), List.mem_of_getElem? (i := 398) (by decide +kernel), List.mem_of_getElem? (i := 399) (by decide +kernel)⟩
theorem lw_p3 : lw_okq (⟨"VotesUntouched$Reader", "readLine", "()Z"⟩, 4) := ⟨⟨by decide +kernel, by decide +kernel⟩, List.mem_of_getElem? (i := 92) (by decide +kernel), List.mem_of_getElem? (i := 429) (by decide +kernel), List.mem_of_getElem? (i := 430) (by decide +kernel)⟩
theorem lw_p4 : lw_okq (⟨"VotesUntouched$Reader", "readChain", "(II)Z"⟩, 4) := ⟨⟨by decide +kernel, by decide +kernel⟩, List.mem_of_getElem? (i := 92) (by decide +kernel), List.mem_of_getElem? (i := 433) (by decide +kernel), List.mem_of_getElem? (i := 434) (by decide +kernel)⟩
theorem lw_p5 : lw_okq (⟨"VotesUntouched$Reader", "readOperand", "(I)Z"⟩, 4) := ⟨⟨by decide +kernel, by decide +kernel⟩, List.mem_of_getElem? (i := 92) (by decide +kernel), List.mem_of_getElem? (i := 437) (by decide +kernel), List.mem_of_getElem? (i := 438) (by decide +kernel)⟩
theorem lw_p6 : lw_okq (⟨"VotesUntouched$Reader", "next", "()I"⟩, 4) := ⟨⟨by decide +kernel, by decide +kernel⟩, List.mem_of_getElem? (i := 92) (by decide +kernel), List.mem_of_getElem? (i := 441) (by decide +kernel), List.mem_of_getElem? (i := 442) (by decide +kernel)⟩
theorem lw_p7 : lw_okq (⟨"VotesUntouched$Reader", "readOpened", "(II)Z"⟩, 4) := ⟨⟨by decide +kernel, by decide +kernel⟩, List.mem_of_getElem? (i := 92) (by decide +kernel), List.mem_of_getElem? (i := 445) (by decide +kernel), List.mem_of_getElem? (i := 446) (by decide +kernel)⟩
theorem lw_p8 : lw_okq (⟨"VotesUntouched$Reader", "readNumber", "()V"⟩, 4) := ⟨⟨by decide +kernel, by decide +kernel⟩, List.mem_of_getElem? (i := 92) (by decide +kernel), List.mem_of_getElem? (i := 456) (by decide +kernel), List.mem_of_getElem? (i := 457) (by decide +kernel)⟩
theorem lw_p9 : lw_okq (⟨"VotesUntouched", "isPut", "(II)Z"⟩, 10) := ⟨⟨by decide +kernel, by decide +kernel⟩, List.mem_of_getElem? (i := 17) (by decide +kernel), List.mem_of_getElem? (i := 475) (by decide +kernel), List.mem_of_getElem? (i := 476) (by decide +kernel)⟩
theorem lw_p10 : lw_okq (⟨"VotesUntouched$Ballot", "weigh", "(II)V"⟩, 5) := ⟨⟨by decide +kernel, by decide +kernel⟩, List.mem_of_getElem? (i := 134) (by decide +kernel), List.mem_of_getElem? (i := 499) (by decide +kernel), List.mem_of_getElem? (i := 500) (by decide +kernel)⟩
theorem lw_p11 : lw_okq (⟨"VotesUntouched$Ballot", "isFree", "(II)Z"⟩, 5) := ⟨⟨by decide +kernel, by decide +kernel⟩, List.mem_of_getElem? (i := 134) (by decide +kernel), List.mem_of_getElem? (i := 512) (by decide +kernel), List.mem_of_getElem? (i := 513) (by decide +kernel)⟩
theorem lw_p12 : lw_okq (⟨"VotesUntouched$Ballot", "nearOf", "(I)I"⟩, 5) := ⟨⟨by decide +kernel, by decide +kernel⟩, List.mem_of_getElem? (i := 134) (by decide +kernel), List.mem_of_getElem? (i := 516) (by decide +kernel), List.mem_of_getElem? (i := 517) (by decide +kernel)⟩
theorem lw_p13 : lw_okq (⟨"VotesUntouched$Ballot", "isAllowed", "(III)Z"⟩, 5) := ⟨⟨by decide +kernel, by decide +kernel⟩, List.mem_of_getElem? (i := 134) (by decide +kernel), List.mem_of_getElem? (i := 522) (by decide +kernel), List.mem_of_getElem? (i := 523) (by decide +kernel)⟩
theorem lw_p14 : lw_okq (⟨"VotesUntouched$Ballot", "whoLeans", "(II)I"⟩, 5) := ⟨⟨by decide +kernel, by decide +kernel⟩, List.mem_of_getElem? (i := 134) (by decide +kernel), List.mem_of_getElem? (i := 553) (by decide +kernel), List.mem_of_getElem? (i := 554) (by decide +kernel)⟩
theorem lw_p15 : lw_okq (⟨"VotesUntouched$Finder", "isCheaper", "(II)Z"⟩, 6) := ⟨⟨by decide +kernel, by decide +kernel⟩, List.mem_of_getElem? (i := 156) (by decide +kernel), List.mem_of_getElem? (i := 599) (by decide +kernel), List.mem_of_getElem? (i := 600) (by decide +kernel)⟩
def lw_privs_1 : List (MethodName × Nat) := [(⟨"VotesUntouched", "comesFrom", "(II)Z"⟩, 10), (⟨"VotesUntouched$Changes", "forgetOldest", "()V"⟩, 6), (⟨"VotesUntouched", "toldOrVoid", "(I)I"⟩, 10), (⟨"VotesUntouched$Reader", "readLine", "()Z"⟩, 4), (⟨"VotesUntouched$Reader", "readChain", "(II)Z"⟩, 4), (⟨"VotesUntouched$Reader", "readOperand", "(I)Z"⟩, 4), (⟨"VotesUntouched$Reader", "next", "()I"⟩, 4), (⟨"VotesUntouched$Reader", "readOpened", "(II)Z"⟩, 4), (⟨"VotesUntouched$Reader", "readNumber", "()V"⟩, 4), (⟨"VotesUntouched", "isPut", "(II)Z"⟩, 10), (⟨"VotesUntouched$Ballot", "weigh", "(II)V"⟩, 5), (⟨"VotesUntouched$Ballot", "isFree", "(II)Z"⟩, 5), (⟨"VotesUntouched$Ballot", "nearOf", "(I)I"⟩, 5), (⟨"VotesUntouched$Ballot", "isAllowed", "(III)Z"⟩, 5), (⟨"VotesUntouched$Ballot", "whoLeans", "(II)I"⟩, 5), (⟨"VotesUntouched$Finder", "isCheaper", "(II)Z"⟩, 6)]
theorem lw_r1 : ∀ q ∈ lw_privs_1, lw_okq q := List.forall_mem_cons.mpr ⟨lw_p0, List.forall_mem_cons.mpr ⟨lw_p1, List.forall_mem_cons.mpr ⟨lw_p2, List.forall_mem_cons.mpr ⟨lw_p3, List.forall_mem_cons.mpr ⟨lw_p4, List.forall_mem_cons.mpr ⟨lw_p5, List.forall_mem_cons.mpr ⟨lw_p6, List.forall_mem_cons.mpr ⟨lw_p7, List.forall_mem_cons.mpr ⟨lw_p8, List.forall_mem_cons.mpr ⟨lw_p9, List.forall_mem_cons.mpr ⟨lw_p10, List.forall_mem_cons.mpr ⟨lw_p11, List.forall_mem_cons.mpr ⟨lw_p12, List.forall_mem_cons.mpr ⟨lw_p13, List.forall_mem_cons.mpr ⟨lw_p14, List.forall_mem_cons.mpr ⟨lw_p15, fun _ h => absurd h List.not_mem_nil⟩⟩⟩⟩⟩⟩⟩⟩⟩⟩⟩⟩⟩⟩⟩⟩
theorem lw_p16 : lw_okq (⟨"VotesUntouched$Finder", "countSays", "()V"⟩, 6) := ⟨⟨by decide +kernel, by decide +kernel⟩, List.mem_of_getElem? (i := 156) (by decide +kernel), List.mem_of_getElem? (i := 649) (by decide +kernel), List.mem_of_getElem? (i := 650) (by decide +kernel)⟩
theorem lw_p17 : lw_okq (⟨"VotesUntouched$Finder", "weightOf", "(II)I"⟩, 6) := ⟨⟨by decide +kernel, by decide +kernel⟩, List.mem_of_getElem? (i := 156) (by decide +kernel), List.mem_of_getElem? (i := 676) (by decide +kernel), List.mem_of_getElem? (i := 677) (by decide +kernel)⟩
theorem lw_p18 : lw_okq (⟨"VotesUntouched$Years", "isWhole", "(II)Z"⟩, 3) := ⟨⟨by decide +kernel, by decide +kernel⟩, List.mem_of_getElem? (i := 201) (by decide +kernel), List.mem_of_getElem? (i := 739) (by decide +kernel), List.mem_of_getElem? (i := 740) (by decide +kernel)⟩
theorem lw_p19 : lw_okq (⟨"VotesUntouched$Years", "bundleAt", "(II)I"⟩, 3) := ⟨⟨by decide +kernel, by decide +kernel⟩, List.mem_of_getElem? (i := 201) (by decide +kernel), List.mem_of_getElem? (i := 744) (by decide +kernel), List.mem_of_getElem? (i := 745) (by decide +kernel)⟩
theorem lw_p20 : lw_okq (⟨"VotesUntouched$Years", "silentAt", "(II)I"⟩, 3) := ⟨⟨by decide +kernel, by decide +kernel⟩, List.mem_of_getElem? (i := 201) (by decide +kernel), List.mem_of_getElem? (i := 750) (by decide +kernel), List.mem_of_getElem? (i := 751) (by decide +kernel)⟩
theorem lw_p21 : lw_okq (⟨"VotesUntouched$Years", "mustBeSilent", "(I)I"⟩, 3) := ⟨⟨by decide +kernel, by decide +kernel⟩, List.mem_of_getElem? (i := 201) (by decide +kernel), List.mem_of_getElem? (i := 754) (by decide +kernel), List.mem_of_getElem? (i := 755) (by decide +kernel)⟩
theorem lw_p22 : lw_okq (⟨"VotesUntouched$Years", "isSilentFor", "(IIII)Z"⟩, 3) := ⟨⟨by decide +kernel, by decide +kernel⟩, List.mem_of_getElem? (i := 201) (by decide +kernel), List.mem_of_getElem? (i := 768) (by decide +kernel), List.mem_of_getElem? (i := 769) (by decide +kernel)⟩
theorem lw_p23 : lw_okq (⟨"VotesUntouched$Years", "hasVotedOn", "(IIII)Z"⟩, 3) := ⟨⟨by decide +kernel, by decide +kernel⟩, List.mem_of_getElem? (i := 201) (by decide +kernel), List.mem_of_getElem? (i := 772) (by decide +kernel), List.mem_of_getElem? (i := 773) (by decide +kernel)⟩
theorem lw_p24 : lw_okq (⟨"VotesUntouched$Voters", "own", "(IIII)I"⟩, 4) := ⟨⟨by decide +kernel, by decide +kernel⟩, List.mem_of_getElem? (i := 233) (by decide +kernel), List.mem_of_getElem? (i := 864) (by decide +kernel), List.mem_of_getElem? (i := 865) (by decide +kernel)⟩
theorem lw_p25 : lw_okq (⟨"VotesUntouched$Voters", "runFrom", "(IIIII)I"⟩, 4) := ⟨⟨by decide +kernel, by decide +kernel⟩, List.mem_of_getElem? (i := 233) (by decide +kernel), List.mem_of_getElem? (i := 872) (by decide +kernel), List.mem_of_getElem? (i := 873) (by decide +kernel)⟩
theorem lw_p26 : lw_okq (⟨"VotesUntouched$Voters", "begin", "(I)V"⟩, 4) := ⟨⟨by decide +kernel, by decide +kernel⟩, List.mem_of_getElem? (i := 233) (by decide +kernel), List.mem_of_getElem? (i := 887) (by decide +kernel), List.mem_of_getElem? (i := 888) (by decide +kernel)⟩
theorem lw_p27 : lw_okq (⟨"VotesUntouched$Voters", "run", "(IIIII)I"⟩, 4) := ⟨⟨by decide +kernel, by decide +kernel⟩, List.mem_of_getElem? (i := 233) (by decide +kernel), List.mem_of_getElem? (i := 891) (by decide +kernel), List.mem_of_getElem? (i := 892) (by decide +kernel)⟩
theorem lw_p28 : lw_okq (⟨"VotesUntouchedModel", "isPerson", "(I)Z"⟩, 42) := ⟨⟨by decide +kernel, by decide +kernel⟩, List.mem_of_getElem? (i := 983) (by decide +kernel), List.mem_of_getElem? (i := 1146) (by decide +kernel), List.mem_of_getElem? (i := 1147) (by decide +kernel)⟩
theorem lw_p29 : lw_okq (⟨"VotesUntouchedModel", "isPm", "(I)Z"⟩, 42) := ⟨⟨by decide +kernel, by decide +kernel⟩, List.mem_of_getElem? (i := 983) (by decide +kernel), List.mem_of_getElem? (i := 1161) (by decide +kernel), List.mem_of_getElem? (i := 1162) (by decide +kernel)⟩
theorem lw_p30 : lw_okq (⟨"VotesUntouchedModel", "isMatter", "(I)Z"⟩, 42) := ⟨⟨by decide +kernel, by decide +kernel⟩, List.mem_of_getElem? (i := 983) (by decide +kernel), List.mem_of_getElem? (i := 1165) (by decide +kernel), List.mem_of_getElem? (i := 1166) (by decide +kernel)⟩
theorem lw_p31 : lw_okq (⟨"VotesUntouchedModel", "becomes", "(II)I"⟩, 42) := ⟨⟨by decide +kernel, by decide +kernel⟩, List.mem_of_getElem? (i := 983) (by decide +kernel), List.mem_of_getElem? (i := 1172) (by decide +kernel), List.mem_of_getElem? (i := 1173) (by decide +kernel)⟩
def lw_privs_2 : List (MethodName × Nat) := [(⟨"VotesUntouched$Finder", "countSays", "()V"⟩, 6), (⟨"VotesUntouched$Finder", "weightOf", "(II)I"⟩, 6), (⟨"VotesUntouched$Years", "isWhole", "(II)Z"⟩, 3), (⟨"VotesUntouched$Years", "bundleAt", "(II)I"⟩, 3), (⟨"VotesUntouched$Years", "silentAt", "(II)I"⟩, 3), (⟨"VotesUntouched$Years", "mustBeSilent", "(I)I"⟩, 3), (⟨"VotesUntouched$Years", "isSilentFor", "(IIII)Z"⟩, 3), (⟨"VotesUntouched$Years", "hasVotedOn", "(IIII)Z"⟩, 3), (⟨"VotesUntouched$Voters", "own", "(IIII)I"⟩, 4), (⟨"VotesUntouched$Voters", "runFrom", "(IIIII)I"⟩, 4), (⟨"VotesUntouched$Voters", "begin", "(I)V"⟩, 4), (⟨"VotesUntouched$Voters", "run", "(IIIII)I"⟩, 4), (⟨"VotesUntouchedModel", "isPerson", "(I)Z"⟩, 42), (⟨"VotesUntouchedModel", "isPm", "(I)Z"⟩, 42), (⟨"VotesUntouchedModel", "isMatter", "(I)Z"⟩, 42), (⟨"VotesUntouchedModel", "becomes", "(II)I"⟩, 42)]
theorem lw_r2 : ∀ q ∈ lw_privs_2, lw_okq q := List.forall_mem_cons.mpr ⟨lw_p16, List.forall_mem_cons.mpr ⟨lw_p17, List.forall_mem_cons.mpr ⟨lw_p18, List.forall_mem_cons.mpr ⟨lw_p19, List.forall_mem_cons.mpr ⟨lw_p20, List.forall_mem_cons.mpr ⟨lw_p21, List.forall_mem_cons.mpr ⟨lw_p22, List.forall_mem_cons.mpr ⟨lw_p23, List.forall_mem_cons.mpr ⟨lw_p24, List.forall_mem_cons.mpr ⟨lw_p25, List.forall_mem_cons.mpr ⟨lw_p26, List.forall_mem_cons.mpr ⟨lw_p27, List.forall_mem_cons.mpr ⟨lw_p28, List.forall_mem_cons.mpr ⟨lw_p29, List.forall_mem_cons.mpr ⟨lw_p30, List.forall_mem_cons.mpr ⟨lw_p31, fun _ h => absurd h List.not_mem_nil⟩⟩⟩⟩⟩⟩⟩⟩⟩⟩⟩⟩⟩⟩⟩⟩
theorem lw_p32 : lw_okq (⟨"VotesUntouchedModel", "stepsTo", "(II)I"⟩, 42) := ⟨⟨by decide +kernel, by decide +kernel⟩, List.mem_of_getElem? (i := 983) (by decide +kernel), List.mem_of_getElem? (i := 1189) (by decide +kernel), List.mem_of_getElem? (i := 1190) (by decide +kernel)⟩
theorem lw_p33 : lw_okq (⟨"VotesUntouchedModel", "workOut", "(II)I"⟩, 42) := ⟨⟨by decide +kernel, by decide +kernel⟩, List.mem_of_getElem? (i := 983) (by decide +kernel), List.mem_of_getElem? (i := 1202) (by decide +kernel), List.mem_of_getElem? (i := 1203) (by decide +kernel)⟩
theorem lw_p34 : lw_okq (⟨"VotesUntouchedModel", "either", "()I"⟩, 42) := ⟨⟨by decide +kernel, by decide +kernel⟩, List.mem_of_getElem? (i := 983) (by decide +kernel), List.mem_of_getElem? (i := 1206) (by decide +kernel), List.mem_of_getElem? (i := 1207) (by decide +kernel)⟩
theorem lw_p35 : lw_okq (⟨"VotesUntouchedModel", "both", "()I"⟩, 42) := ⟨⟨by decide +kernel, by decide +kernel⟩, List.mem_of_getElem? (i := 983) (by decide +kernel), List.mem_of_getElem? (i := 1210) (by decide +kernel), List.mem_of_getElem? (i := 1211) (by decide +kernel)⟩
theorem lw_p36 : lw_okq (⟨"VotesUntouchedModel", "compared", "()I"⟩, 42) := ⟨⟨by decide +kernel, by decide +kernel⟩, List.mem_of_getElem? (i := 983) (by decide +kernel), List.mem_of_getElem? (i := 1214) (by decide +kernel), List.mem_of_getElem? (i := 1215) (by decide +kernel)⟩
theorem lw_p37 : lw_okq (⟨"VotesUntouchedModel", "sums", "()I"⟩, 42) := ⟨⟨by decide +kernel, by decide +kernel⟩, List.mem_of_getElem? (i := 983) (by decide +kernel), List.mem_of_getElem? (i := 1218) (by decide +kernel), List.mem_of_getElem? (i := 1219) (by decide +kernel)⟩
theorem lw_p38 : lw_okq (⟨"VotesUntouchedModel", "product", "()I"⟩, 42) := ⟨⟨by decide +kernel, by decide +kernel⟩, List.mem_of_getElem? (i := 983) (by decide +kernel), List.mem_of_getElem? (i := 1222) (by decide +kernel), List.mem_of_getElem? (i := 1223) (by decide +kernel)⟩
theorem lw_p39 : lw_okq (⟨"VotesUntouchedModel", "one", "()I"⟩, 42) := ⟨⟨by decide +kernel, by decide +kernel⟩, List.mem_of_getElem? (i := 983) (by decide +kernel), List.mem_of_getElem? (i := 1226) (by decide +kernel), List.mem_of_getElem? (i := 1227) (by decide +kernel)⟩
theorem lw_p40 : lw_okq (⟨"VotesUntouchedModel", "byteAt", "()I"⟩, 42) := ⟨⟨by decide +kernel, by decide +kernel⟩, List.mem_of_getElem? (i := 983) (by decide +kernel), List.mem_of_getElem? (i := 1230) (by decide +kernel), List.mem_of_getElem? (i := 1231) (by decide +kernel)⟩
theorem lw_p41 : lw_okq (⟨"VotesUntouchedModel", "wrong", "()I"⟩, 42) := ⟨⟨by decide +kernel, by decide +kernel⟩, List.mem_of_getElem? (i := 983) (by decide +kernel), List.mem_of_getElem? (i := 1234) (by decide +kernel), List.mem_of_getElem? (i := 1235) (by decide +kernel)⟩
theorem lw_p42 : lw_okq (⟨"VotesUntouchedModel", "takes", "(I)Z"⟩, 42) := ⟨⟨by decide +kernel, by decide +kernel⟩, List.mem_of_getElem? (i := 983) (by decide +kernel), List.mem_of_getElem? (i := 1238) (by decide +kernel), List.mem_of_getElem? (i := 1239) (by decide +kernel)⟩
theorem lw_p43 : lw_okq (⟨"VotesUntouchedModel", "isBundle", "(I)Z"⟩, 42) := ⟨⟨by decide +kernel, by decide +kernel⟩, List.mem_of_getElem? (i := 983) (by decide +kernel), List.mem_of_getElem? (i := 1249) (by decide +kernel), List.mem_of_getElem? (i := 1250) (by decide +kernel)⟩
theorem lw_p44 : lw_okq (⟨"VotesUntouchedModel", "areGifts", "(I)Z"⟩, 42) := ⟨⟨by decide +kernel, by decide +kernel⟩, List.mem_of_getElem? (i := 983) (by decide +kernel), List.mem_of_getElem? (i := 1253) (by decide +kernel), List.mem_of_getElem? (i := 1254) (by decide +kernel)⟩
theorem lw_p45 : lw_okq (⟨"VotesUntouchedModel", "asks", "(III)V"⟩, 42) := ⟨⟨by decide +kernel, by decide +kernel⟩, List.mem_of_getElem? (i := 983) (by decide +kernel), List.mem_of_getElem? (i := 1257) (by decide +kernel), List.mem_of_getElem? (i := 1258) (by decide +kernel)⟩
theorem lw_p46 : lw_okq (⟨"VotesUntouchedModel", "touches", "(III)V"⟩, 42) := ⟨⟨by decide +kernel, by decide +kernel⟩, List.mem_of_getElem? (i := 983) (by decide +kernel), List.mem_of_getElem? (i := 1261) (by decide +kernel), List.mem_of_getElem? (i := 1262) (by decide +kernel)⟩
theorem lw_p47 : lw_okq (⟨"VotesUntouchedModel", "mayVote", "(III)Z"⟩, 42) := ⟨⟨by decide +kernel, by decide +kernel⟩, List.mem_of_getElem? (i := 983) (by decide +kernel), List.mem_of_getElem? (i := 1265) (by decide +kernel), List.mem_of_getElem? (i := 1266) (by decide +kernel)⟩
def lw_privs_3 : List (MethodName × Nat) := [(⟨"VotesUntouchedModel", "stepsTo", "(II)I"⟩, 42), (⟨"VotesUntouchedModel", "workOut", "(II)I"⟩, 42), (⟨"VotesUntouchedModel", "either", "()I"⟩, 42), (⟨"VotesUntouchedModel", "both", "()I"⟩, 42), (⟨"VotesUntouchedModel", "compared", "()I"⟩, 42), (⟨"VotesUntouchedModel", "sums", "()I"⟩, 42), (⟨"VotesUntouchedModel", "product", "()I"⟩, 42), (⟨"VotesUntouchedModel", "one", "()I"⟩, 42), (⟨"VotesUntouchedModel", "byteAt", "()I"⟩, 42), (⟨"VotesUntouchedModel", "wrong", "()I"⟩, 42), (⟨"VotesUntouchedModel", "takes", "(I)Z"⟩, 42), (⟨"VotesUntouchedModel", "isBundle", "(I)Z"⟩, 42), (⟨"VotesUntouchedModel", "areGifts", "(I)Z"⟩, 42), (⟨"VotesUntouchedModel", "asks", "(III)V"⟩, 42), (⟨"VotesUntouchedModel", "touches", "(III)V"⟩, 42), (⟨"VotesUntouchedModel", "mayVote", "(III)Z"⟩, 42)]
theorem lw_r3 : ∀ q ∈ lw_privs_3, lw_okq q := List.forall_mem_cons.mpr ⟨lw_p32, List.forall_mem_cons.mpr ⟨lw_p33, List.forall_mem_cons.mpr ⟨lw_p34, List.forall_mem_cons.mpr ⟨lw_p35, List.forall_mem_cons.mpr ⟨lw_p36, List.forall_mem_cons.mpr ⟨lw_p37, List.forall_mem_cons.mpr ⟨lw_p38, List.forall_mem_cons.mpr ⟨lw_p39, List.forall_mem_cons.mpr ⟨lw_p40, List.forall_mem_cons.mpr ⟨lw_p41, List.forall_mem_cons.mpr ⟨lw_p42, List.forall_mem_cons.mpr ⟨lw_p43, List.forall_mem_cons.mpr ⟨lw_p44, List.forall_mem_cons.mpr ⟨lw_p45, List.forall_mem_cons.mpr ⟨lw_p46, List.forall_mem_cons.mpr ⟨lw_p47, fun _ h => absurd h List.not_mem_nil⟩⟩⟩⟩⟩⟩⟩⟩⟩⟩⟩⟩⟩⟩⟩⟩
theorem lw_p48 : lw_okq (⟨"VotesUntouchedModel", "nearOf", "(I)I"⟩, 42) := ⟨⟨by decide +kernel, by decide +kernel⟩, List.mem_of_getElem? (i := 983) (by decide +kernel), List.mem_of_getElem? (i := 1269) (by decide +kernel), List.mem_of_getElem? (i := 1270) (by decide +kernel)⟩
theorem lw_p49 : lw_okq (⟨"VotesUntouchedModel", "isCarried", "(II)Z"⟩, 42) := ⟨⟨by decide +kernel, by decide +kernel⟩, List.mem_of_getElem? (i := 983) (by decide +kernel), List.mem_of_getElem? (i := 1281) (by decide +kernel), List.mem_of_getElem? (i := 1282) (by decide +kernel)⟩
theorem lw_p50 : lw_okq (⟨"VotesUntouchedModel", "isCarriedBy", "(I)Z"⟩, 42) := ⟨⟨by decide +kernel, by decide +kernel⟩, List.mem_of_getElem? (i := 983) (by decide +kernel), List.mem_of_getElem? (i := 1285) (by decide +kernel), List.mem_of_getElem? (i := 1286) (by decide +kernel)⟩
theorem lw_p51 : lw_okq (⟨"VotesUntouchedModel", "isMore", "(I)Z"⟩, 42) := ⟨⟨by decide +kernel, by decide +kernel⟩, List.mem_of_getElem? (i := 983) (by decide +kernel), List.mem_of_getElem? (i := 1289) (by decide +kernel), List.mem_of_getElem? (i := 1290) (by decide +kernel)⟩
theorem lw_p52 : lw_okq (⟨"VotesUntouchedModel", "sideOf", "(IZ)I"⟩, 42) := ⟨⟨by decide +kernel, by decide +kernel⟩, List.mem_of_getElem? (i := 983) (by decide +kernel), List.mem_of_getElem? (i := 1293) (by decide +kernel), List.mem_of_getElem? (i := 1294) (by decide +kernel)⟩
theorem lw_p53 : lw_okq (⟨"VotesUntouchedModel", "feesOf", "(I)I"⟩, 42) := ⟨⟨by decide +kernel, by decide +kernel⟩, List.mem_of_getElem? (i := 983) (by decide +kernel), List.mem_of_getElem? (i := 1305) (by decide +kernel), List.mem_of_getElem? (i := 1306) (by decide +kernel)⟩
theorem lw_p54 : lw_okq (⟨"VotesUntouchedModel", "parts", "()V"⟩, 42) := ⟨⟨by decide +kernel, by decide +kernel⟩, List.mem_of_getElem? (i := 983) (by decide +kernel), List.mem_of_getElem? (i := 1321) (by decide +kernel), List.mem_of_getElem? (i := 1322) (by decide +kernel)⟩
theorem lw_p55 : lw_okq (⟨"VotesUntouchedModel", "sayOf", "(II)I"⟩, 42) := ⟨⟨by decide +kernel, by decide +kernel⟩, List.mem_of_getElem? (i := 983) (by decide +kernel), List.mem_of_getElem? (i := 1329) (by decide +kernel), List.mem_of_getElem? (i := 1330) (by decide +kernel)⟩
theorem lw_p56 : lw_okq (⟨"VotesUntouchedModel", "drawnOf", "(II)I"⟩, 42) := ⟨⟨by decide +kernel, by decide +kernel⟩, List.mem_of_getElem? (i := 983) (by decide +kernel), List.mem_of_getElem? (i := 1358) (by decide +kernel), List.mem_of_getElem? (i := 1359) (by decide +kernel)⟩
theorem lw_p57 : lw_okq (⟨"VotesUntouchedModel", "yearIs", "(I)I"⟩, 42) := ⟨⟨by decide +kernel, by decide +kernel⟩, List.mem_of_getElem? (i := 983) (by decide +kernel), List.mem_of_getElem? (i := 1366) (by decide +kernel), List.mem_of_getElem? (i := 1367) (by decide +kernel)⟩
theorem lw_p58 : lw_okq (⟨"VotesUntouchedModel", "bundleAt", "(II)I"⟩, 42) := ⟨⟨by decide +kernel, by decide +kernel⟩, List.mem_of_getElem? (i := 983) (by decide +kernel), List.mem_of_getElem? (i := 1370) (by decide +kernel), List.mem_of_getElem? (i := 1371) (by decide +kernel)⟩
theorem lw_p59 : lw_okq (⟨"VotesUntouchedModel", "silentAt", "(II)I"⟩, 42) := ⟨⟨by decide +kernel, by decide +kernel⟩, List.mem_of_getElem? (i := 983) (by decide +kernel), List.mem_of_getElem? (i := 1374) (by decide +kernel), List.mem_of_getElem? (i := 1375) (by decide +kernel)⟩
theorem lw_p60 : lw_okq (⟨"VotesUntouchedModel", "isVotedBeside", "(IIII)Z"⟩, 42) := ⟨⟨by decide +kernel, by decide +kernel⟩, List.mem_of_getElem? (i := 983) (by decide +kernel), List.mem_of_getElem? (i := 1382) (by decide +kernel), List.mem_of_getElem? (i := 1383) (by decide +kernel)⟩
theorem lw_p61 : lw_okq (⟨"VotesUntouchedModel", "isBody", "(I)Z"⟩, 42) := ⟨⟨by decide +kernel, by decide +kernel⟩, List.mem_of_getElem? (i := 983) (by decide +kernel), List.mem_of_getElem? (i := 1411) (by decide +kernel), List.mem_of_getElem? (i := 1412) (by decide +kernel)⟩
theorem lw_p62 : lw_okq (⟨"VotesUntouchedModel", "votesAs", "(II)I"⟩, 42) := ⟨⟨by decide +kernel, by decide +kernel⟩, List.mem_of_getElem? (i := 983) (by decide +kernel), List.mem_of_getElem? (i := 1415) (by decide +kernel), List.mem_of_getElem? (i := 1416) (by decide +kernel)⟩
theorem lw_p63 : lw_okq (⟨"VotesUntouchedModel", "begins", "(I)V"⟩, 42) := ⟨⟨by decide +kernel, by decide +kernel⟩, List.mem_of_getElem? (i := 983) (by decide +kernel), List.mem_of_getElem? (i := 1419) (by decide +kernel), List.mem_of_getElem? (i := 1420) (by decide +kernel)⟩
def lw_privs_4 : List (MethodName × Nat) := [(⟨"VotesUntouchedModel", "nearOf", "(I)I"⟩, 42), (⟨"VotesUntouchedModel", "isCarried", "(II)Z"⟩, 42), (⟨"VotesUntouchedModel", "isCarriedBy", "(I)Z"⟩, 42), (⟨"VotesUntouchedModel", "isMore", "(I)Z"⟩, 42), (⟨"VotesUntouchedModel", "sideOf", "(IZ)I"⟩, 42), (⟨"VotesUntouchedModel", "feesOf", "(I)I"⟩, 42), (⟨"VotesUntouchedModel", "parts", "()V"⟩, 42), (⟨"VotesUntouchedModel", "sayOf", "(II)I"⟩, 42), (⟨"VotesUntouchedModel", "drawnOf", "(II)I"⟩, 42), (⟨"VotesUntouchedModel", "yearIs", "(I)I"⟩, 42), (⟨"VotesUntouchedModel", "bundleAt", "(II)I"⟩, 42), (⟨"VotesUntouchedModel", "silentAt", "(II)I"⟩, 42), (⟨"VotesUntouchedModel", "isVotedBeside", "(IIII)Z"⟩, 42), (⟨"VotesUntouchedModel", "isBody", "(I)Z"⟩, 42), (⟨"VotesUntouchedModel", "votesAs", "(II)I"⟩, 42), (⟨"VotesUntouchedModel", "begins", "(I)V"⟩, 42)]
theorem lw_r4 : ∀ q ∈ lw_privs_4, lw_okq q := List.forall_mem_cons.mpr ⟨lw_p48, List.forall_mem_cons.mpr ⟨lw_p49, List.forall_mem_cons.mpr ⟨lw_p50, List.forall_mem_cons.mpr ⟨lw_p51, List.forall_mem_cons.mpr ⟨lw_p52, List.forall_mem_cons.mpr ⟨lw_p53, List.forall_mem_cons.mpr ⟨lw_p54, List.forall_mem_cons.mpr ⟨lw_p55, List.forall_mem_cons.mpr ⟨lw_p56, List.forall_mem_cons.mpr ⟨lw_p57, List.forall_mem_cons.mpr ⟨lw_p58, List.forall_mem_cons.mpr ⟨lw_p59, List.forall_mem_cons.mpr ⟨lw_p60, List.forall_mem_cons.mpr ⟨lw_p61, List.forall_mem_cons.mpr ⟨lw_p62, List.forall_mem_cons.mpr ⟨lw_p63, fun _ h => absurd h List.not_mem_nil⟩⟩⟩⟩⟩⟩⟩⟩⟩⟩⟩⟩⟩⟩⟩⟩
theorem lw_p64 : lw_okq (⟨"VotesUntouchedModel", "ownsAs", "(II)I"⟩, 42) := ⟨⟨by decide +kernel, by decide +kernel⟩, List.mem_of_getElem? (i := 983) (by decide +kernel), List.mem_of_getElem? (i := 1423) (by decide +kernel), List.mem_of_getElem? (i := 1424) (by decide +kernel)⟩
theorem lw_p65 : lw_okq (⟨"VotesUntouchedModel", "givesAs", "(II)I"⟩, 42) := ⟨⟨by decide +kernel, by decide +kernel⟩, List.mem_of_getElem? (i := 983) (by decide +kernel), List.mem_of_getElem? (i := 1427) (by decide +kernel), List.mem_of_getElem? (i := 1428) (by decide +kernel)⟩
theorem lw_p66 : lw_okq (⟨"VotesUntouchedModel", "tellsAs", "(II)I"⟩, 42) := ⟨⟨by decide +kernel, by decide +kernel⟩, List.mem_of_getElem? (i := 983) (by decide +kernel), List.mem_of_getElem? (i := 1431) (by decide +kernel), List.mem_of_getElem? (i := 1432) (by decide +kernel)⟩
theorem lw_p67 : lw_okq (⟨"VotesUntouchedModel", "refusal", "(II)I"⟩, 42) := ⟨⟨by decide +kernel, by decide +kernel⟩, List.mem_of_getElem? (i := 983) (by decide +kernel), List.mem_of_getElem? (i := 1451) (by decide +kernel), List.mem_of_getElem? (i := 1452) (by decide +kernel)⟩
theorem lw_p68 : lw_okq (⟨"VotesUntouchedModel", "kindOf", "(I)I"⟩, 42) := ⟨⟨by decide +kernel, by decide +kernel⟩, List.mem_of_getElem? (i := 983) (by decide +kernel), List.mem_of_getElem? (i := 1471) (by decide +kernel), List.mem_of_getElem? (i := 1472) (by decide +kernel)⟩
def lw_privs_5 : List (MethodName × Nat) := [(⟨"VotesUntouchedModel", "ownsAs", "(II)I"⟩, 42), (⟨"VotesUntouchedModel", "givesAs", "(II)I"⟩, 42), (⟨"VotesUntouchedModel", "tellsAs", "(II)I"⟩, 42), (⟨"VotesUntouchedModel", "refusal", "(II)I"⟩, 42), (⟨"VotesUntouchedModel", "kindOf", "(I)I"⟩, 42)]
theorem lw_r5 : ∀ q ∈ lw_privs_5, lw_okq q := List.forall_mem_cons.mpr ⟨lw_p64, List.forall_mem_cons.mpr ⟨lw_p65, List.forall_mem_cons.mpr ⟨lw_p66, List.forall_mem_cons.mpr ⟨lw_p67, List.forall_mem_cons.mpr ⟨lw_p68, fun _ h => absurd h List.not_mem_nil⟩⟩⟩⟩⟩
def lw_privs : List (MethodName × Nat) := lw_privs_1 ++ (lw_privs_2 ++ (lw_privs_3 ++ (lw_privs_4 ++ (lw_privs_5))))
def lw_tbl : List Cond := k2_sels lw_privs ++ tables_1
theorem lw_privs_ok : ∀ q ∈ lw_privs, lw_okq q := by
  show ∀ q ∈ lw_privs_1 ++ (lw_privs_2 ++ (lw_privs_3 ++ (lw_privs_4 ++ (lw_privs_5)))), lw_okq q
  exact List.forall_mem_append.mpr ⟨lw_r1, List.forall_mem_append.mpr ⟨lw_r2, List.forall_mem_append.mpr ⟨lw_r3, List.forall_mem_append.mpr ⟨lw_r4, lw_r5⟩⟩⟩⟩
-- ===== end of PART A; then your names; then what follows =====
/-! ===== BEGIN words of one list among another's, by their places ===== -/
theorem goodIn_r {big : List Cond} (ws : List Cond) (ps : List Nat) (hp : ws = ps.filterMap (fun i => big[i]?)) (h : ws.all goodWord = true) : GoodIn big ws := by
  intro w hw
  have h1 := List.all_eq_true.mp h w hw
  rw [hp] at hw
  obtain ⟨i, -, hi⟩ := List.mem_filterMap.mp hw
  have hm : w ∈ big := by first | exact List.mem_of_getElem? hi | exact List.getElem?_mem hi
  exact ⟨hm, good_of_word h1⟩
theorem goodIn_app {big a b : List Cond} (ha : GoodIn big a) (hb : GoodIn big b) : GoodIn big (a ++ b) := fun w h => (List.mem_append.mp h).elim (ha w) (hb w)
theorem goodIn_ca {big a b : List Cond} {c : Cond} (ha : GoodIn big (c :: a)) (hb : GoodIn big b) : GoodIn big (c :: (a ++ b)) := fun w h => (List.mem_cons.mp h).elim (fun e => ha w (List.mem_cons.mpr (Or.inl e))) (fun h => (List.mem_append.mp h).elim (fun h => ha w (List.mem_cons.mpr (Or.inr h))) (hb w))
theorem goodIn_sub {big ws : List Cond} (hm : ∀ w ∈ ws, w ∈ big) (h : ws.all goodWord = true) : GoodIn big ws := fun w hw => ⟨hm w hw, good_of_word (List.all_eq_true.mp h w hw)⟩
/-! ===== END ===== -/

/-! ===== BEGIN printed: names, fields, word lists, decode rows ===== -/
def RX0 : String := "VotesUntouched$Ballot"
def TX0 : u_T := fun k => match k with
  | 0 => ("VotesUntouched$Ballot", "council", "LVotesUntouched$Council;", true)
  | 1 => ("VotesUntouched$Ballot", "text", "LVotesUntouched$Code;", true)
  | 2 => ("VotesUntouched$Ballot", "touches", "[I", true)
  | 3 => ("VotesUntouched$Ballot", "names", "[I", true)
  | _ => ("VotesUntouched$Ballot", "touched", "I", false)
def tyX0 : Nat → FieldType := fun k => match k with
  | 0 => .object "VotesUntouched$Council"
  | 1 => .object "VotesUntouched$Code"
  | 2 => .array .int
  | 3 => .array .int
  | _ => .int
abbrev wsX00 : List Cond := u_ws RX0 TX0 5
theorem nmX0 : ∀ a, a < 5 → ∀ b, b < 5 → a ≠ b → (TX0 a).2.1 ≠ (TX0 b).2.1 := by decide +kernel
theorem tyX0_ok : ∀ k, k < 5 → parseFieldDescriptor (TX0 k).2.2.1 = some (tyX0 k) := by decide +kernel
abbrev cX0_init : ByteArray := prog_2_method_1_code
def yX0_init : MethodName := ⟨RX0, "<init>", "(LVotesUntouched$Council;LVotesUntouched$Code;)V"⟩
abbrev cX0_whoMay : ByteArray := prog_2_method_2_code
def yX0_whoMay : MethodName := ⟨RX0, "whoMay", "(III)I"⟩
abbrev cX0_whoIsFree : ByteArray := prog_2_method_3_code
def yX0_whoIsFree : MethodName := ⟨RX0, "whoIsFree", "(II)I"⟩
abbrev cX0_weigh : ByteArray := prog_2_method_4_code
def yX0_weigh : MethodName := ⟨RX0, "weigh", "(II)V"⟩
abbrev cX0_isFree : ByteArray := prog_2_method_5_code
def yX0_isFree : MethodName := ⟨RX0, "isFree", "(II)Z"⟩
abbrev cX0_isAllowed : ByteArray := prog_2_method_6_code
def yX0_isAllowed : MethodName := ⟨RX0, "isAllowed", "(III)Z"⟩
abbrev cX0_nearOf : ByteArray := prog_2_method_7_code
def yX0_nearOf : MethodName := ⟨RX0, "nearOf", "(I)I"⟩
abbrev cX0_fans : ByteArray := prog_2_method_8_code
def yX0_fans : MethodName := ⟨RX0, "fans", "(I)I"⟩
abbrev cX0_foes : ByteArray := prog_2_method_9_code
def yX0_foes : MethodName := ⟨RX0, "foes", "(I)I"⟩
abbrev cX0_whoLeans : ByteArray := prog_2_method_10_code
def yX0_whoLeans : MethodName := ⟨RX0, "whoLeans", "(II)I"⟩
abbrev cX0_isCarried : ByteArray := prog_2_method_11_code
def yX0_isCarried : MethodName := ⟨RX0, "isCarried", "(II)Z"⟩
abbrev cX0_isCarriedBy : ByteArray := prog_2_method_12_code
def yX0_isCarriedBy : MethodName := ⟨RX0, "isCarriedBy", "(III)Z"⟩
abbrev cX0_isMore : ByteArray := prog_2_method_13_code
def yX0_isMore : MethodName := ⟨RX0, "isMore", "(II)Z"⟩
def RX1 : String := "VotesUntouched$Changes"
def TX1 : u_T := fun k => match k with
  | 0 => ("VotesUntouched$Changes", "council", "LVotesUntouched$Council;", true)
  | 1 => ("VotesUntouched$Changes", "slots", "[I", true)
  | 2 => ("VotesUntouched$Changes", "before", "[I", true)
  | 3 => ("VotesUntouched$Changes", "after", "[I", true)
  | 4 => ("VotesUntouched$Changes", "done", "I", false)
  | _ => ("VotesUntouched$Changes", "kept", "I", false)
def tyX1 : Nat → FieldType := fun k => match k with
  | 0 => .object "VotesUntouched$Council"
  | 1 => .array .int
  | 2 => .array .int
  | 3 => .array .int
  | 4 => .int
  | _ => .int
abbrev wsX10 : List Cond := u_ws RX1 TX1 6
theorem nmX1 : ∀ a, a < 6 → ∀ b, b < 6 → a ≠ b → (TX1 a).2.1 ≠ (TX1 b).2.1 := by decide +kernel
theorem tyX1_ok : ∀ k, k < 6 → parseFieldDescriptor (TX1 k).2.2.1 = some (tyX1 k) := by decide +kernel
abbrev cX1_init : ByteArray := prog_3_method_1_code
def yX1_init : MethodName := ⟨RX1, "<init>", "(LVotesUntouched$Council;)V"⟩
abbrev cX1_make : ByteArray := prog_3_method_2_code
def yX1_make : MethodName := ⟨RX1, "make", "(II)I"⟩
abbrev cX1_forgetOldest : ByteArray := prog_3_method_3_code
def yX1_forgetOldest : MethodName := ⟨RX1, "forgetOldest", "()V"⟩
abbrev cX1_takeBack : ByteArray := prog_3_method_4_code
def yX1_takeBack : MethodName := ⟨RX1, "takeBack", "()Z"⟩
abbrev cX1_makeAgain : ByteArray := prog_3_method_5_code
def yX1_makeAgain : MethodName := ⟨RX1, "makeAgain", "()Z"⟩
abbrev cX1_undoable : ByteArray := prog_3_method_6_code
def yX1_undoable : MethodName := ⟨RX1, "undoable", "()I"⟩
abbrev cX1_redoable : ByteArray := prog_3_method_7_code
def yX1_redoable : MethodName := ⟨RX1, "redoable", "()I"⟩
def RX2 : String := "VotesUntouched$Code"
def TX2 : u_T := fun k => match k with
  | 0 => ("VotesUntouched$Code", "steps", "[I", true)
  | 1 => ("VotesUntouched$Code", "values", "[I", true)
  | 2 => ("VotesUntouched$Code", "stack", "[I", true)
  | _ => ("VotesUntouched$Code", "length", "I", false)
def tyX2 : Nat → FieldType := fun k => match k with
  | 0 => .array .int
  | 1 => .array .int
  | 2 => .array .int
  | _ => .int
abbrev wsX20 : List Cond := u_ws RX2 TX2 4
theorem nmX2 : ∀ a, a < 4 → ∀ b, b < 4 → a ≠ b → (TX2 a).2.1 ≠ (TX2 b).2.1 := by decide +kernel
theorem tyX2_ok : ∀ k, k < 4 → parseFieldDescriptor (TX2 k).2.2.1 = some (tyX2 k) := by decide +kernel
abbrev cX2_init : ByteArray := prog_4_method_1_code
def yX2_init : MethodName := ⟨RX2, "<init>", "()V"⟩
abbrev cX2_isEmpty : ByteArray := prog_4_method_2_code
def yX2_isEmpty : MethodName := ⟨RX2, "isEmpty", "()Z"⟩
abbrev cX2_empty : ByteArray := prog_4_method_3_code
def yX2_empty : MethodName := ⟨RX2, "empty", "()V"⟩
abbrev cX2_add : ByteArray := prog_4_method_4_code
def yX2_add : MethodName := ⟨RX2, "add", "(II)V"⟩
abbrev cX2_becomes : ByteArray := prog_4_method_5_code
def yX2_becomes : MethodName := ⟨RX2, "becomes", "(LVotesUntouched$Code;)V"⟩
abbrev cX2_worth : ByteArray := prog_4_method_6_code
def yX2_worth : MethodName := ⟨RX2, "worth", "([I)I"⟩
abbrev cX2_named : ByteArray := prog_4_method_7_code
def yX2_named : MethodName := ⟨RX2, "named", "([II)I"⟩
abbrev cX2_needOf : ByteArray := prog_4_method_8_code
def yX2_needOf : MethodName := ⟨RX2, "needOf", "(I)I"⟩
abbrev cX2_joined : ByteArray := prog_4_method_9_code
def yX2_joined : MethodName := ⟨RX2, "joined", "(III)I"⟩
def RX3 : String := "VotesUntouched$Council"
def TX3 : u_T := fun k => match k with
  | 0 => ("VotesUntouched$Council", "fees", "[I", true)
  | 1 => ("VotesUntouched$Council", "steps", "[I", true)
  | 2 => ("VotesUntouched$Council", "told", "[I", true)
  | 3 => ("VotesUntouched$Council", "people", "I", false)
  | 4 => ("VotesUntouched$Council", "pairs", "I", false)
  | 5 => ("VotesUntouched$Council", "matters", "I", false)
  | 6 => ("VotesUntouched$Council", "reach", "I", false)
  | _ => ("VotesUntouched$Council", "quorum", "I", false)
def tyX3 : Nat → FieldType := fun k => match k with
  | 0 => .array .int
  | 1 => .array .int
  | 2 => .array .int
  | 3 => .int
  | 4 => .int
  | 5 => .int
  | 6 => .int
  | _ => .int
abbrev wsX30 : List Cond := u_ws RX3 TX3 8
theorem nmX3 : ∀ a, a < 8 → ∀ b, b < 8 → a ≠ b → (TX3 a).2.1 ≠ (TX3 b).2.1 := by decide +kernel
theorem tyX3_ok : ∀ k, k < 8 → parseFieldDescriptor (TX3 k).2.2.1 = some (tyX3 k) := by decide +kernel
abbrev cX3_init : ByteArray := prog_5_method_1_code
def yX3_init : MethodName := ⟨RX3, "<init>", "()V"⟩
abbrev cX3_isPerson : ByteArray := prog_5_method_2_code
def yX3_isPerson : MethodName := ⟨RX3, "isPerson", "(I)Z"⟩
abbrev cX3_isMatter : ByteArray := prog_5_method_3_code
def yX3_isMatter : MethodName := ⟨RX3, "isMatter", "(I)Z"⟩
abbrev cX3_isTwo : ByteArray := prog_5_method_4_code
def yX3_isTwo : MethodName := ⟨RX3, "isTwo", "(I)Z"⟩
abbrev cX3_isBundle : ByteArray := prog_5_method_5_code
def yX3_isBundle : MethodName := ⟨RX3, "isBundle", "(I)Z"⟩
abbrev cX3_isGifts : ByteArray := prog_5_method_6_code
def yX3_isGifts : MethodName := ⟨RX3, "isGifts", "(I)Z"⟩
abbrev cX3_everybody : ByteArray := prog_5_method_7_code
def yX3_everybody : MethodName := ⟨RX3, "everybody", "()I"⟩
abbrev cX3_everything : ByteArray := prog_5_method_8_code
def yX3_everything : MethodName := ⟨RX3, "everything", "()I"⟩
abbrev cX3_addPerson : ByteArray := prog_5_method_9_code
def yX3_addPerson : MethodName := ⟨RX3, "addPerson", "(I)I"⟩
abbrev cX3_addPair : ByteArray := prog_5_method_10_code
def yX3_addPair : MethodName := ⟨RX3, "addPair", "(II)I"⟩
abbrev cX3_addMatter : ByteArray := prog_5_method_11_code
def yX3_addMatter : MethodName := ⟨RX3, "addMatter", "()I"⟩
abbrev cX3_feeOf : ByteArray := prog_5_method_12_code
def yX3_feeOf : MethodName := ⟨RX3, "feeOf", "(I)I"⟩
abbrev cX3_feesOf : ByteArray := prog_5_method_13_code
def yX3_feesOf : MethodName := ⟨RX3, "feesOf", "(I)I"⟩
abbrev cX3_stepsOf : ByteArray := prog_5_method_14_code
def yX3_stepsOf : MethodName := ⟨RX3, "stepsOf", "(II)I"⟩
abbrev cX3_slotOf : ByteArray := prog_5_method_15_code
def yX3_slotOf : MethodName := ⟨RX3, "slotOf", "(II)I"⟩
abbrev cX3_leastOf : ByteArray := prog_5_method_16_code
def yX3_leastOf : MethodName := ⟨RX3, "leastOf", "(I)I"⟩
abbrev cX3_mostOf : ByteArray := prog_5_method_17_code
def yX3_mostOf : MethodName := ⟨RX3, "mostOf", "(I)I"⟩
abbrev cX3_toldAt : ByteArray := prog_5_method_18_code
def yX3_toldAt : MethodName := ⟨RX3, "toldAt", "(I)I"⟩
abbrev cX3_tell : ByteArray := prog_5_method_19_code
def yX3_tell : MethodName := ⟨RX3, "tell", "(II)V"⟩
abbrev cX3_sumOf : ByteArray := prog_5_method_20_code
def yX3_sumOf : MethodName := ⟨RX3, "sumOf", "(III)I"⟩
abbrev cX3_rumourOf : ByteArray := prog_5_method_21_code
def yX3_rumourOf : MethodName := ⟨RX3, "rumourOf", "(I)I"⟩
def RX4 : String := "VotesUntouched$Deeds"
def TX4 : u_T := fun k => match k with
  | 0 => ("VotesUntouched$Deeds", "now", "[I", true)
  | 1 => ("VotesUntouched$Deeds", "kept", "[I", true)
  | _ => ("VotesUntouched$Deeds", "hasImage", "Z", false)
def tyX4 : Nat → FieldType := fun k => match k with
  | 0 => .array .int
  | 1 => .array .int
  | _ => .boolean
abbrev wsX40 : List Cond := u_ws RX4 TX4 3
theorem nmX4 : ∀ a, a < 3 → ∀ b, b < 3 → a ≠ b → (TX4 a).2.1 ≠ (TX4 b).2.1 := by decide +kernel
theorem tyX4_ok : ∀ k, k < 3 → parseFieldDescriptor (TX4 k).2.2.1 = some (tyX4 k) := by decide +kernel
abbrev cX4_init : ByteArray := prog_6_method_1_code
def yX4_init : MethodName := ⟨RX4, "<init>", "()V"⟩
abbrev cX4_decided : ByteArray := prog_6_method_2_code
def yX4_decided : MethodName := ⟨RX4, "decided", "()I"⟩
abbrev cX4_isAny : ByteArray := prog_6_method_3_code
def yX4_isAny : MethodName := ⟨RX4, "isAny", "()Z"⟩
abbrev cX4_told : ByteArray := prog_6_method_4_code
def yX4_told : MethodName := ⟨RX4, "told", "(I)I"⟩
abbrev cX4_enter : ByteArray := prog_6_method_5_code
def yX4_enter : MethodName := ⟨RX4, "enter", "(IIII)V"⟩
abbrev cX4_keepImage : ByteArray := prog_6_method_6_code
def yX4_keepImage : MethodName := ⟨RX4, "keepImage", "()V"⟩
abbrev cX4_goBack : ByteArray := prog_6_method_7_code
def yX4_goBack : MethodName := ⟨RX4, "goBack", "()Z"⟩
def RX5 : String := "VotesUntouched$Finder"
def TX5 : u_T := fun k => match k with
  | 0 => ("VotesUntouched$Finder", "council", "LVotesUntouched$Council;", true)
  | 1 => ("VotesUntouched$Finder", "ballot", "LVotesUntouched$Ballot;", true)
  | 2 => ("VotesUntouched$Finder", "says", "[I", true)
  | 3 => ("VotesUntouched$Finder", "most", "[I", true)
  | 4 => ("VotesUntouched$Finder", "first", "[I", true)
  | _ => ("VotesUntouched$Finder", "gains", "[I", true)
def tyX5 : Nat → FieldType := fun k => match k with
  | 0 => .object "VotesUntouched$Council"
  | 1 => .object "VotesUntouched$Ballot"
  | 2 => .array .int
  | 3 => .array .int
  | 4 => .array .int
  | _ => .array .int
abbrev wsX50 : List Cond := u_ws RX5 TX5 6
theorem nmX5 : ∀ a, a < 6 → ∀ b, b < 6 → a ≠ b → (TX5 a).2.1 ≠ (TX5 b).2.1 := by decide +kernel
theorem tyX5_ok : ∀ k, k < 6 → parseFieldDescriptor (TX5 k).2.2.1 = some (tyX5 k) := by decide +kernel
abbrev cX5_init : ByteArray := prog_7_method_1_code
def yX5_init : MethodName := ⟨RX5, "<init>", "(LVotesUntouched$Council;LVotesUntouched$Ballot;)V"⟩
abbrev cX5_smallestCarriedWith : ByteArray := prog_7_method_2_code
def yX5_smallestCarriedWith : MethodName := ⟨RX5, "smallestCarriedWith", "(I)I"⟩
abbrev cX5_isFewer : ByteArray := prog_7_method_3_code
def yX5_isFewer : MethodName := ⟨RX5, "isFewer", "(II)Z"⟩
abbrev cX5_cheapestGifts : ByteArray := prog_7_method_4_code
def yX5_cheapestGifts : MethodName := ⟨RX5, "cheapestGifts", "(I)I"⟩
abbrev cX5_isCheaper : ByteArray := prog_7_method_5_code
def yX5_isCheaper : MethodName := ⟨RX5, "isCheaper", "(II)Z"⟩
abbrev cX5_fewestLeftOut : ByteArray := prog_7_method_6_code
def yX5_fewestLeftOut : MethodName := ⟨RX5, "fewestLeftOut", "(II)I"⟩
abbrev cX5_carriedAlone : ByteArray := prog_7_method_7_code
def yX5_carriedAlone : MethodName := ⟨RX5, "carriedAlone", "()I"⟩
abbrev cX5_part : ByteArray := prog_7_method_8_code
def yX5_part : MethodName := ⟨RX5, "part", "()V"⟩
abbrev cX5_mostCarried : ByteArray := prog_7_method_9_code
def yX5_mostCarried : MethodName := ⟨RX5, "mostCarried", "()I"⟩
abbrev cX5_partOf : ByteArray := prog_7_method_10_code
def yX5_partOf : MethodName := ⟨RX5, "partOf", "(I)I"⟩
abbrev cX5_sayOf : ByteArray := prog_7_method_11_code
def yX5_sayOf : MethodName := ⟨RX5, "sayOf", "(I)I"⟩
abbrev cX5_countSays : ByteArray := prog_7_method_12_code
def yX5_countSays : MethodName := ⟨RX5, "countSays", "()V"⟩
abbrev cX5_powerOf : ByteArray := prog_7_method_13_code
def yX5_powerOf : MethodName := ⟨RX5, "powerOf", "(I)I"⟩
abbrev cX5_mostSaying : ByteArray := prog_7_method_14_code
def yX5_mostSaying : MethodName := ⟨RX5, "mostSaying", "()I"⟩
abbrev cX5_twelfthsCarried : ByteArray := prog_7_method_15_code
def yX5_twelfthsCarried : MethodName := ⟨RX5, "twelfthsCarried", "(I)I"⟩
abbrev cX5_weightOf : ByteArray := prog_7_method_16_code
def yX5_weightOf : MethodName := ⟨RX5, "weightOf", "(II)I"⟩
abbrev cX5_twelfths : ByteArray := prog_7_method_17_code
def yX5_twelfths : MethodName := ⟨RX5, "twelfths", "(I)I"⟩
abbrev cX5_commonDivisor : ByteArray := prog_7_method_18_code
def yX5_commonDivisor : MethodName := ⟨RX5, "commonDivisor", "(II)I"⟩
abbrev cX5_fewestLies : ByteArray := prog_7_method_19_code
def yX5_fewestLies : MethodName := ⟨RX5, "fewestLies", "(I)I"⟩
abbrev cX5_stepWithFewer : ByteArray := prog_7_method_20_code
def yX5_stepWithFewer : MethodName := ⟨RX5, "stepWithFewer", "(II)I"⟩
abbrev cX5_oftenCarriedByLot : ByteArray := prog_7_method_21_code
def yX5_oftenCarriedByLot : MethodName := ⟨RX5, "oftenCarriedByLot", "(IIII)I"⟩
abbrev cX5_bitAt : ByteArray := prog_7_method_22_code
def yX5_bitAt : MethodName := ⟨RX5, "bitAt", "(II)I"⟩
def RX6 : String := "VotesUntouched$Reader"
def TX6 : u_T := fun k => match k with
  | 0 => ("VotesUntouched$Reader", "tape", "[I", true)
  | 1 => ("VotesUntouched$Reader", "draft", "LVotesUntouched$Code;", true)
  | 2 => ("VotesUntouched$Reader", "length", "I", false)
  | _ => ("VotesUntouched$Reader", "place", "I", false)
def tyX6 : Nat → FieldType := fun k => match k with
  | 0 => .array .int
  | 1 => .object "VotesUntouched$Code"
  | 2 => .int
  | _ => .int
abbrev wsX60 : List Cond := u_ws RX6 TX6 4
theorem nmX6 : ∀ a, a < 4 → ∀ b, b < 4 → a ≠ b → (TX6 a).2.1 ≠ (TX6 b).2.1 := by decide +kernel
theorem tyX6_ok : ∀ k, k < 4 → parseFieldDescriptor (TX6 k).2.2.1 = some (tyX6 k) := by decide +kernel
abbrev cX6_init : ByteArray := prog_8_method_1_code
def yX6_init : MethodName := ⟨RX6, "<init>", "()V"⟩
abbrev cX6_take : ByteArray := prog_8_method_2_code
def yX6_take : MethodName := ⟨RX6, "take", "(I)I"⟩
abbrev cX6_read : ByteArray := prog_8_method_3_code
def yX6_read : MethodName := ⟨RX6, "read", "()I"⟩
abbrev cX6_readLine : ByteArray := prog_8_method_4_code
def yX6_readLine : MethodName := ⟨RX6, "readLine", "()Z"⟩
abbrev cX6_next : ByteArray := prog_8_method_5_code
def yX6_next : MethodName := ⟨RX6, "next", "()I"⟩
abbrev cX6_readChain : ByteArray := prog_8_method_6_code
def yX6_readChain : MethodName := ⟨RX6, "readChain", "(II)Z"⟩
abbrev cX6_levelOf : ByteArray := prog_8_method_7_code
def yX6_levelOf : MethodName := ⟨RX6, "levelOf", "(I)I"⟩
abbrev cX6_readOperand : ByteArray := prog_8_method_8_code
def yX6_readOperand : MethodName := ⟨RX6, "readOperand", "(I)Z"⟩
abbrev cX6_readOpened : ByteArray := prog_8_method_9_code
def yX6_readOpened : MethodName := ⟨RX6, "readOpened", "(II)Z"⟩
abbrev cX6_readNumber : ByteArray := prog_8_method_10_code
def yX6_readNumber : MethodName := ⟨RX6, "readNumber", "()V"⟩
abbrev cX6_isDigit : ByteArray := prog_8_method_11_code
def yX6_isDigit : MethodName := ⟨RX6, "isDigit", "(I)Z"⟩
abbrev cX6_nameOf : ByteArray := prog_8_method_12_code
def yX6_nameOf : MethodName := ⟨RX6, "nameOf", "(I)I"⟩
def RX7 : String := "VotesUntouched$Shelves"
def TX7 : u_T := fun k => match k with
  | 0 => ("VotesUntouched$Shelves", "holds", "[I", true)
  | 1 => ("VotesUntouched$Shelves", "sizes", "[I", true)
  | 2 => ("VotesUntouched$Shelves", "voters", "[I", true)
  | _ => ("VotesUntouched$Shelves", "elements", "[J", true)
def tyX7 : Nat → FieldType := fun k => match k with
  | 0 => .array .int
  | 1 => .array .int
  | 2 => .array .int
  | _ => .array .long
abbrev wsX70 : List Cond := u_ws RX7 TX7 4
theorem nmX7 : ∀ a, a < 4 → ∀ b, b < 4 → a ≠ b → (TX7 a).2.1 ≠ (TX7 b).2.1 := by decide +kernel
theorem tyX7_ok : ∀ k, k < 4 → parseFieldDescriptor (TX7 k).2.2.1 = some (tyX7 k) := by decide +kernel
abbrev cX7_init : ByteArray := prog_9_method_1_code
def yX7_init : MethodName := ⟨RX7, "<init>", "()V"⟩
abbrev cX7_isShelf : ByteArray := prog_9_method_2_code
def yX7_isShelf : MethodName := ⟨RX7, "isShelf", "(I)Z"⟩
abbrev cX7_isSort : ByteArray := prog_9_method_3_code
def yX7_isSort : MethodName := ⟨RX7, "isSort", "(I)Z"⟩
abbrev cX7_held : ByteArray := prog_9_method_4_code
def yX7_held : MethodName := ⟨RX7, "held", "(I)I"⟩
abbrev cX7_sizeOf : ByteArray := prog_9_method_5_code
def yX7_sizeOf : MethodName := ⟨RX7, "sizeOf", "(I)I"⟩
abbrev cX7_voterOn : ByteArray := prog_9_method_6_code
def yX7_voterOn : MethodName := ⟨RX7, "voterOn", "(I)I"⟩
abbrev cX7_holdVoter : ByteArray := prog_9_method_7_code
def yX7_holdVoter : MethodName := ⟨RX7, "holdVoter", "(II)V"⟩
abbrev cX7_holdRow : ByteArray := prog_9_method_8_code
def yX7_holdRow : MethodName := ⟨RX7, "holdRow", "(III)V"⟩
abbrev cX7_refusedAsRow : ByteArray := prog_9_method_9_code
def yX7_refusedAsRow : MethodName := ⟨RX7, "refusedAsRow", "(II)I"⟩
abbrev cX7_refusedAt : ByteArray := prog_9_method_10_code
def yX7_refusedAt : MethodName := ⟨RX7, "refusedAt", "(II)I"⟩
abbrev cX7_hasPlace : ByteArray := prog_9_method_11_code
def yX7_hasPlace : MethodName := ⟨RX7, "hasPlace", "(II)Z"⟩
abbrev cX7_hasPlaces : ByteArray := prog_9_method_12_code
def yX7_hasPlaces : MethodName := ⟨RX7, "hasPlaces", "(III)Z"⟩
abbrev cX7_valueAt : ByteArray := prog_9_method_13_code
def yX7_valueAt : MethodName := ⟨RX7, "valueAt", "(II)J"⟩
abbrev cX7_set : ByteArray := prog_9_method_14_code
def yX7_set : MethodName := ⟨RX7, "set", "(IIJ)V"⟩
abbrev cX7_lowestBits : ByteArray := prog_9_method_15_code
def yX7_lowestBits : MethodName := ⟨RX7, "lowestBits", "(IJ)J"⟩
abbrev cX7_copy : ByteArray := prog_9_method_16_code
def yX7_copy : MethodName := ⟨RX7, "copy", "(IIIII)V"⟩
def RX8 : String := "VotesUntouched$Voters"
def TX8 : u_T := fun k => match k with
  | 0 => ("VotesUntouched$Voters", "kinds", "[I", true)
  | 1 => ("VotesUntouched$Voters", "traced", "[I", true)
  | 2 => ("VotesUntouched$Voters", "size", "I", false)
  | _ => ("VotesUntouched$Voters", "ran", "I", false)
def tyX8 : Nat → FieldType := fun k => match k with
  | 0 => .array .int
  | 1 => .array .int
  | 2 => .int
  | _ => .int
abbrev wsX80 : List Cond := u_ws RX8 TX8 4
theorem nmX8 : ∀ a, a < 4 → ∀ b, b < 4 → a ≠ b → (TX8 a).2.1 ≠ (TX8 b).2.1 := by decide +kernel
theorem tyX8_ok : ∀ k, k < 4 → parseFieldDescriptor (TX8 k).2.2.1 = some (tyX8 k) := by decide +kernel
abbrev cX8_init : ByteArray := prog_10_method_1_code
def yX8_init : MethodName := ⟨RX8, "<init>", "()V"⟩
abbrev cX8_isKind : ByteArray := prog_10_method_2_code
def yX8_isKind : MethodName := ⟨RX8, "isKind", "(I)Z"⟩
abbrev cX8_isUnder : ByteArray := prog_10_method_3_code
def yX8_isUnder : MethodName := ⟨RX8, "isUnder", "(II)Z"⟩
abbrev cX8_add : ByteArray := prog_10_method_4_code
def yX8_add : MethodName := ⟨RX8, "add", "(I)I"⟩
abbrev cX8_isVoter : ByteArray := prog_10_method_5_code
def yX8_isVoter : MethodName := ⟨RX8, "isVoter", "(I)Z"⟩
abbrev cX8_size : ByteArray := prog_10_method_6_code
def yX8_size : MethodName := ⟨RX8, "size", "()I"⟩
abbrev cX8_kindOf : ByteArray := prog_10_method_7_code
def yX8_kindOf : MethodName := ⟨RX8, "kindOf", "(I)I"⟩
abbrev cX8_ranInAll : ByteArray := prog_10_method_8_code
def yX8_ranInAll : MethodName := ⟨RX8, "ranInAll", "()I"⟩
abbrev cX8_ranAt : ByteArray := prog_10_method_9_code
def yX8_ranAt : MethodName := ⟨RX8, "ranAt", "(I)I"⟩
abbrev cX8_perform : ByteArray := prog_10_method_10_code
def yX8_perform : MethodName := ⟨RX8, "perform", "(III)I"⟩
abbrev cX8_own : ByteArray := prog_10_method_11_code
def yX8_own : MethodName := ⟨RX8, "own", "(IIII)I"⟩
abbrev cX8_runFrom : ByteArray := prog_10_method_12_code
def yX8_runFrom : MethodName := ⟨RX8, "runFrom", "(IIIII)I"⟩
abbrev cX8_bodyAt : ByteArray := prog_10_method_13_code
def yX8_bodyAt : MethodName := ⟨RX8, "bodyAt", "(II)I"⟩
abbrev cX8_aboveOf : ByteArray := prog_10_method_14_code
def yX8_aboveOf : MethodName := ⟨RX8, "aboveOf", "(I)I"⟩
abbrev cX8_begin : ByteArray := prog_10_method_15_code
def yX8_begin : MethodName := ⟨RX8, "begin", "(I)V"⟩
abbrev cX8_run : ByteArray := prog_10_method_16_code
def yX8_run : MethodName := ⟨RX8, "run", "(IIIII)I"⟩
def RX9 : String := "VotesUntouched$Years"
def TX9 : u_T := fun k => match k with
  | 0 => ("VotesUntouched$Years", "council", "LVotesUntouched$Council;", true)
  | 1 => ("VotesUntouched$Years", "ballot", "LVotesUntouched$Ballot;", true)
  | _ => ("VotesUntouched$Years", "shelves", "LVotesUntouched$Shelves;", true)
def tyX9 : Nat → FieldType := fun k => match k with
  | 0 => .object "VotesUntouched$Council"
  | 1 => .object "VotesUntouched$Ballot"
  | _ => .object "VotesUntouched$Shelves"
abbrev wsX90 : List Cond := u_ws RX9 TX9 3
theorem nmX9 : ∀ a, a < 3 → ∀ b, b < 3 → a ≠ b → (TX9 a).2.1 ≠ (TX9 b).2.1 := by decide +kernel
theorem tyX9_ok : ∀ k, k < 3 → parseFieldDescriptor (TX9 k).2.2.1 = some (tyX9 k) := by decide +kernel
abbrev cX9_init : ByteArray := prog_11_method_1_code
def yX9_init : MethodName := ⟨RX9, "<init>", "(LVotesUntouched$Council;LVotesUntouched$Ballot;LVotesUntouched$Shelves;)V"⟩
abbrev cX9_firstWrong : ByteArray := prog_11_method_2_code
def yX9_firstWrong : MethodName := ⟨RX9, "firstWrong", "(I)I"⟩
abbrev cX9_mustBeSilent : ByteArray := prog_11_method_3_code
def yX9_mustBeSilent : MethodName := ⟨RX9, "mustBeSilent", "(I)I"⟩
abbrev cX9_isWhole : ByteArray := prog_11_method_4_code
def yX9_isWhole : MethodName := ⟨RX9, "isWhole", "(II)Z"⟩
abbrev cX9_bundleAt : ByteArray := prog_11_method_5_code
def yX9_bundleAt : MethodName := ⟨RX9, "bundleAt", "(II)I"⟩
abbrev cX9_silentAt : ByteArray := prog_11_method_6_code
def yX9_silentAt : MethodName := ⟨RX9, "silentAt", "(II)I"⟩
abbrev cX9_isShown : ByteArray := prog_11_method_7_code
def yX9_isShown : MethodName := ⟨RX9, "isShown", "(III)Z"⟩
abbrev cX9_isSilentFor : ByteArray := prog_11_method_8_code
def yX9_isSilentFor : MethodName := ⟨RX9, "isSilentFor", "(IIII)Z"⟩
abbrev cX9_hasVotedOn : ByteArray := prog_11_method_9_code
def yX9_hasVotedOn : MethodName := ⟨RX9, "hasVotedOn", "(IIII)Z"⟩
def RX10 : String := "VotesUntouched"
def TX10 : u_T := fun k => match k with
  | 0 => ("VotesUntouched", "council", "LVotesUntouched$Council;", true)
  | 1 => ("VotesUntouched", "changes", "LVotesUntouched$Changes;", true)
  | 2 => ("VotesUntouched", "reader", "LVotesUntouched$Reader;", true)
  | 3 => ("VotesUntouched", "text", "LVotesUntouched$Code;", true)
  | 4 => ("VotesUntouched", "ballot", "LVotesUntouched$Ballot;", true)
  | 5 => ("VotesUntouched", "finder", "LVotesUntouched$Finder;", true)
  | 6 => ("VotesUntouched", "shelves", "LVotesUntouched$Shelves;", true)
  | 7 => ("VotesUntouched", "years", "LVotesUntouched$Years;", true)
  | 8 => ("VotesUntouched", "deeds", "LVotesUntouched$Deeds;", true)
  | _ => ("VotesUntouched", "voters", "LVotesUntouched$Voters;", true)
def tyX10 : Nat → FieldType := fun k => match k with
  | 0 => .object "VotesUntouched$Council"
  | 1 => .object "VotesUntouched$Changes"
  | 2 => .object "VotesUntouched$Reader"
  | 3 => .object "VotesUntouched$Code"
  | 4 => .object "VotesUntouched$Ballot"
  | 5 => .object "VotesUntouched$Finder"
  | 6 => .object "VotesUntouched$Shelves"
  | 7 => .object "VotesUntouched$Years"
  | 8 => .object "VotesUntouched$Deeds"
  | _ => .object "VotesUntouched$Voters"
abbrev wsX100 : List Cond := u_ws RX10 TX10 10
theorem nmX10 : ∀ a, a < 10 → ∀ b, b < 10 → a ≠ b → (TX10 a).2.1 ≠ (TX10 b).2.1 := by decide +kernel
theorem tyX10_ok : ∀ k, k < 10 → parseFieldDescriptor (TX10 k).2.2.1 = some (tyX10 k) := by decide +kernel
abbrev cX10_init : ByteArray := prog_1_method_1_code
def yX10_init : MethodName := ⟨RX10, "<init>", "()V"⟩
abbrev cX10_person : ByteArray := prog_1_method_2_code
def yX10_person : MethodName := ⟨RX10, "person", "(I)I"⟩
abbrev cX10_people : ByteArray := prog_1_method_3_code
def yX10_people : MethodName := ⟨RX10, "people", "(III)I"⟩
abbrev cX10_comesFrom : ByteArray := prog_1_method_4_code
def yX10_comesFrom : MethodName := ⟨RX10, "comesFrom", "(II)Z"⟩
abbrev cX10_isFee : ByteArray := prog_1_method_5_code
def yX10_isFee : MethodName := ⟨RX10, "isFee", "(I)Z"⟩
abbrev cX10_cousins : ByteArray := prog_1_method_6_code
def yX10_cousins : MethodName := ⟨RX10, "cousins", "(I)I"⟩
abbrev cX10_matter : ByteArray := prog_1_method_7_code
def yX10_matter : MethodName := ⟨RX10, "matter", "()I"⟩
abbrev cX10_mend : ByteArray := prog_1_method_8_code
def yX10_mend : MethodName := ⟨RX10, "mend", "(III)I"⟩
abbrev cX10_rule : ByteArray := prog_1_method_9_code
def yX10_rule : MethodName := ⟨RX10, "rule", "(II)I"⟩
abbrev cX10_of : ByteArray := prog_1_method_10_code
def yX10_of : MethodName := ⟨RX10, "of", "(II)I"⟩
abbrev cX10_toldOrVoid : ByteArray := prog_1_method_11_code
def yX10_toldOrVoid : MethodName := ⟨RX10, "toldOrVoid", "(I)I"⟩
abbrev cX10_feed : ByteArray := prog_1_method_12_code
def yX10_feed : MethodName := ⟨RX10, "feed", "(I)I"⟩
abbrev cX10_law : ByteArray := prog_1_method_13_code
def yX10_law : MethodName := ⟨RX10, "law", "()I"⟩
abbrev cX10_may : ByteArray := prog_1_method_14_code
def yX10_may : MethodName := ⟨RX10, "may", "(III)I"⟩
abbrev cX10_vote : ByteArray := prog_1_method_15_code
def yX10_vote : MethodName := ⟨RX10, "vote", "(III)I"⟩
abbrev cX10_isPut : ByteArray := prog_1_method_16_code
def yX10_isPut : MethodName := ⟨RX10, "isPut", "(II)Z"⟩
abbrev cX10_together : ByteArray := prog_1_method_17_code
def yX10_together : MethodName := ⟨RX10, "together", "(I)I"⟩
abbrev cX10_silenced : ByteArray := prog_1_method_18_code
def yX10_silenced : MethodName := ⟨RX10, "silenced", "(II)I"⟩
abbrev cX10_leaveOut : ByteArray := prog_1_method_19_code
def yX10_leaveOut : MethodName := ⟨RX10, "leaveOut", "(II)I"⟩
abbrev cX10_alone : ByteArray := prog_1_method_20_code
def yX10_alone : MethodName := ⟨RX10, "alone", "()I"⟩
abbrev cX10_parted : ByteArray := prog_1_method_21_code
def yX10_parted : MethodName := ⟨RX10, "parted", "(I)I"⟩
abbrev cX10_say : ByteArray := prog_1_method_22_code
def yX10_say : MethodName := ⟨RX10, "say", "(II)I"⟩
abbrev cX10_hermit : ByteArray := prog_1_method_23_code
def yX10_hermit : MethodName := ⟨RX10, "hermit", "()I"⟩
abbrev cX10_chance : ByteArray := prog_1_method_24_code
def yX10_chance : MethodName := ⟨RX10, "chance", "(II)I"⟩
abbrev cX10_lies : ByteArray := prog_1_method_25_code
def yX10_lies : MethodName := ⟨RX10, "lies", "(I)I"⟩
abbrev cX10_step : ByteArray := prog_1_method_26_code
def yX10_step : MethodName := ⟨RX10, "step", "(II)I"⟩
abbrev cX10_lots : ByteArray := prog_1_method_27_code
def yX10_lots : MethodName := ⟨RX10, "lots", "(III)I"⟩
abbrev cX10_judge : ByteArray := prog_1_method_28_code
def yX10_judge : MethodName := ⟨RX10, "judge", "(I)I"⟩
abbrev cX10_must : ByteArray := prog_1_method_29_code
def yX10_must : MethodName := ⟨RX10, "must", "(II)I"⟩
abbrev cX10_decide : ByteArray := prog_1_method_30_code
def yX10_decide : MethodName := ⟨RX10, "decide", "(II)I"⟩
abbrev cX10_led : ByteArray := prog_1_method_31_code
def yX10_led : MethodName := ⟨RX10, "led", "(I)I"⟩
abbrev cX10_image : ByteArray := prog_1_method_32_code
def yX10_image : MethodName := ⟨RX10, "image", "()I"⟩
abbrev cX10_back : ByteArray := prog_1_method_33_code
def yX10_back : MethodName := ⟨RX10, "back", "()I"⟩
abbrev cX10_undo : ByteArray := prog_1_method_34_code
def yX10_undo : MethodName := ⟨RX10, "undo", "()I"⟩
abbrev cX10_redo : ByteArray := prog_1_method_35_code
def yX10_redo : MethodName := ⟨RX10, "redo", "()I"⟩
abbrev cX10_body : ByteArray := prog_1_method_36_code
def yX10_body : MethodName := ⟨RX10, "body", "(I)I"⟩
abbrev cX10_act : ByteArray := prog_1_method_37_code
def yX10_act : MethodName := ⟨RX10, "act", "(III)I"⟩
abbrev cX10_trace : ByteArray := prog_1_method_38_code
def yX10_trace : MethodName := ⟨RX10, "trace", "(I)I"⟩
abbrev cX10_keep : ByteArray := prog_1_method_39_code
def yX10_keep : MethodName := ⟨RX10, "keep", "(II)I"⟩
abbrev cX10_row : ByteArray := prog_1_method_40_code
def yX10_row : MethodName := ⟨RX10, "row", "(III)I"⟩
abbrev cX10_put : ByteArray := prog_1_method_41_code
def yX10_put : MethodName := ⟨RX10, "put", "(IIJ)I"⟩
abbrev cX10_element : ByteArray := prog_1_method_42_code
def yX10_element : MethodName := ⟨RX10, "element", "(II)J"⟩
abbrev cX10_shift : ByteArray := prog_1_method_43_code
def yX10_shift : MethodName := ⟨RX10, "shift", "(IIIII)I"⟩
abbrev cX10_taken : ByteArray := prog_1_method_44_code
def yX10_taken : MethodName := ⟨RX10, "taken", "(II)I"⟩
abbrev cX10_count : ByteArray := prog_1_method_45_code
def yX10_count : MethodName := ⟨RX10, "count", "(I)I"⟩
def RX11 : String := "VotesUntouchedModel"
def TX11 : u_T := fun k => match k with
  | 0 => ("VotesUntouchedModel", "may", "[I", true)
  | 1 => ("VotesUntouchedModel", "changeAt", "[I", true)
  | 2 => ("VotesUntouchedModel", "changeWas", "[I", true)
  | 3 => ("VotesUntouchedModel", "changeIs", "[I", true)
  | 4 => ("VotesUntouchedModel", "keptMany", "I", false)
  | 5 => ("VotesUntouchedModel", "done", "I", false)
  | 6 => ("VotesUntouchedModel", "people", "I", false)
  | 7 => ("VotesUntouchedModel", "matters", "I", false)
  | 8 => ("VotesUntouchedModel", "fee", "[I", true)
  | 9 => ("VotesUntouchedModel", "pairs", "I", false)
  | 10 => ("VotesUntouchedModel", "cousinsOf", "[I", true)
  | 11 => ("VotesUntouchedModel", "near", "I", false)
  | 12 => ("VotesUntouchedModel", "quorum", "I", false)
  | 13 => ("VotesUntouchedModel", "tape", "[I", true)
  | 14 => ("VotesUntouchedModel", "tapeMany", "I", false)
  | 15 => ("VotesUntouchedModel", "text", "[I", true)
  | 16 => ("VotesUntouchedModel", "textMany", "I", false)
  | 17 => ("VotesUntouchedModel", "base", "I", false)
  | 18 => ("VotesUntouchedModel", "at", "I", false)
  | 19 => ("VotesUntouchedModel", "ends", "I", false)
  | 20 => ("VotesUntouchedModel", "fault", "I", false)
  | 21 => ("VotesUntouchedModel", "opened", "I", false)
  | 22 => ("VotesUntouchedModel", "names", "[I", true)
  | 23 => ("VotesUntouchedModel", "own", "[I", true)
  | 24 => ("VotesUntouchedModel", "liked", "[I", true)
  | 25 => ("VotesUntouchedModel", "mayBits", "I", false)
  | 26 => ("VotesUntouchedModel", "carries", "[Z", true)
  | 27 => ("VotesUntouchedModel", "most", "[I", true)
  | 28 => ("VotesUntouchedModel", "firstPart", "[I", true)
  | 29 => ("VotesUntouchedModel", "ledNow", "[I", true)
  | 30 => ("VotesUntouchedModel", "imageLed", "[I", true)
  | 31 => ("VotesUntouchedModel", "isKept", "Z", false)
  | 32 => ("VotesUntouchedModel", "bodies", "I", false)
  | 33 => ("VotesUntouchedModel", "bodyKind", "[I", true)
  | 34 => ("VotesUntouchedModel", "trace", "[I", true)
  | 35 => ("VotesUntouchedModel", "ran", "I", false)
  | 36 => ("VotesUntouchedModel", "ownKind", "I", false)
  | 37 => ("VotesUntouchedModel", "ownNumber", "I", false)
  | 38 => ("VotesUntouchedModel", "shelf", "[I", true)
  | 39 => ("VotesUntouchedModel", "many", "[I", true)
  | 40 => ("VotesUntouchedModel", "items", "[J", true)
  | _ => ("VotesUntouchedModel", "carried", "[J", true)
def tyX11 : Nat → FieldType := fun k => match k with
  | 0 => .array .int
  | 1 => .array .int
  | 2 => .array .int
  | 3 => .array .int
  | 4 => .int
  | 5 => .int
  | 6 => .int
  | 7 => .int
  | 8 => .array .int
  | 9 => .int
  | 10 => .array .int
  | 11 => .int
  | 12 => .int
  | 13 => .array .int
  | 14 => .int
  | 15 => .array .int
  | 16 => .int
  | 17 => .int
  | 18 => .int
  | 19 => .int
  | 20 => .int
  | 21 => .int
  | 22 => .array .int
  | 23 => .array .int
  | 24 => .array .int
  | 25 => .int
  | 26 => .array .boolean
  | 27 => .array .int
  | 28 => .array .int
  | 29 => .array .int
  | 30 => .array .int
  | 31 => .boolean
  | 32 => .int
  | 33 => .array .int
  | 34 => .array .int
  | 35 => .int
  | 36 => .int
  | 37 => .int
  | 38 => .array .int
  | 39 => .array .int
  | 40 => .array .long
  | _ => .array .long
abbrev wsX110 : List Cond := u_ws RX11 TX11 42
theorem nmX11 : ∀ a, a < 42 → ∀ b, b < 42 → a ≠ b → (TX11 a).2.1 ≠ (TX11 b).2.1 := by decide +kernel
theorem tyX11_ok : ∀ k, k < 42 → parseFieldDescriptor (TX11 k).2.2.1 = some (tyX11 k) := by decide +kernel
abbrev cX11_within : ByteArray := prog_13_method_1_code
def yX11_within : MethodName := ⟨RX11, "within", "(JJJ)Z"⟩
abbrev cX11_bitsOf : ByteArray := prog_13_method_2_code
def yX11_bitsOf : MethodName := ⟨RX11, "bitsOf", "(I)I"⟩
abbrev cX11_isIn : ByteArray := prog_13_method_3_code
def yX11_isIn : MethodName := ⟨RX11, "isIn", "(II)Z"⟩
abbrev cX11_init : ByteArray := prog_13_method_4_code
def yX11_init : MethodName := ⟨RX11, "<init>", "()V"⟩
abbrev cX11_becomes : ByteArray := prog_13_method_5_code
def yX11_becomes : MethodName := ⟨RX11, "becomes", "(II)I"⟩
abbrev cX11_undo : ByteArray := prog_13_method_6_code
def yX11_undo : MethodName := ⟨RX11, "undo", "()I"⟩
abbrev cX11_redo : ByteArray := prog_13_method_7_code
def yX11_redo : MethodName := ⟨RX11, "redo", "()I"⟩
abbrev cX11_isPerson : ByteArray := prog_13_method_8_code
def yX11_isPerson : MethodName := ⟨RX11, "isPerson", "(I)Z"⟩
abbrev cX11_isMatter : ByteArray := prog_13_method_9_code
def yX11_isMatter : MethodName := ⟨RX11, "isMatter", "(I)Z"⟩
abbrev cX11_isPm : ByteArray := prog_13_method_10_code
def yX11_isPm : MethodName := ⟨RX11, "isPm", "(I)Z"⟩
abbrev cX11_isBundle : ByteArray := prog_13_method_11_code
def yX11_isBundle : MethodName := ⟨RX11, "isBundle", "(I)Z"⟩
abbrev cX11_areGifts : ByteArray := prog_13_method_12_code
def yX11_areGifts : MethodName := ⟨RX11, "areGifts", "(I)Z"⟩
abbrev cX11_person : ByteArray := prog_13_method_13_code
def yX11_person : MethodName := ⟨RX11, "person", "(I)I"⟩
abbrev cX11_people : ByteArray := prog_13_method_14_code
def yX11_people : MethodName := ⟨RX11, "people", "(III)I"⟩
abbrev cX11_cousins : ByteArray := prog_13_method_15_code
def yX11_cousins : MethodName := ⟨RX11, "cousins", "(I)I"⟩
abbrev cX11_matter : ByteArray := prog_13_method_16_code
def yX11_matter : MethodName := ⟨RX11, "matter", "()I"⟩
abbrev cX11_placeOf : ByteArray := prog_13_method_17_code
def yX11_placeOf : MethodName := ⟨RX11, "placeOf", "(II)I"⟩
abbrev cX11_mend : ByteArray := prog_13_method_18_code
def yX11_mend : MethodName := ⟨RX11, "mend", "(III)I"⟩
abbrev cX11_rule : ByteArray := prog_13_method_19_code
def yX11_rule : MethodName := ⟨RX11, "rule", "(II)I"⟩
abbrev cX11_stepsTo : ByteArray := prog_13_method_20_code
def yX11_stepsTo : MethodName := ⟨RX11, "stepsTo", "(II)I"⟩
abbrev cX11_of : ByteArray := prog_13_method_21_code
def yX11_of : MethodName := ⟨RX11, "of", "(II)I"⟩
abbrev cX11_feed : ByteArray := prog_13_method_22_code
def yX11_feed : MethodName := ⟨RX11, "feed", "(I)I"⟩
abbrev cX11_byteAt : ByteArray := prog_13_method_23_code
def yX11_byteAt : MethodName := ⟨RX11, "byteAt", "()I"⟩
abbrev cX11_wrong : ByteArray := prog_13_method_24_code
def yX11_wrong : MethodName := ⟨RX11, "wrong", "()I"⟩
abbrev cX11_takes : ByteArray := prog_13_method_25_code
def yX11_takes : MethodName := ⟨RX11, "takes", "(I)Z"⟩
abbrev cX11_either : ByteArray := prog_13_method_26_code
def yX11_either : MethodName := ⟨RX11, "either", "()I"⟩
abbrev cX11_both : ByteArray := prog_13_method_27_code
def yX11_both : MethodName := ⟨RX11, "both", "()I"⟩
abbrev cX11_compared : ByteArray := prog_13_method_28_code
def yX11_compared : MethodName := ⟨RX11, "compared", "()I"⟩
abbrev cX11_sums : ByteArray := prog_13_method_29_code
def yX11_sums : MethodName := ⟨RX11, "sums", "()I"⟩
abbrev cX11_product : ByteArray := prog_13_method_30_code
def yX11_product : MethodName := ⟨RX11, "product", "()I"⟩
abbrev cX11_nameOf : ByteArray := prog_13_method_31_code
def yX11_nameOf : MethodName := ⟨RX11, "nameOf", "(I)I"⟩
abbrev cX11_one : ByteArray := prog_13_method_32_code
def yX11_one : MethodName := ⟨RX11, "one", "()I"⟩
abbrev cX11_workOut : ByteArray := prog_13_method_33_code
def yX11_workOut : MethodName := ⟨RX11, "workOut", "(II)I"⟩
abbrev cX11_law : ByteArray := prog_13_method_34_code
def yX11_law : MethodName := ⟨RX11, "law", "()I"⟩
abbrev cX11_touches : ByteArray := prog_13_method_35_code
def yX11_touches : MethodName := ⟨RX11, "touches", "(III)V"⟩
abbrev cX11_nearOf : ByteArray := prog_13_method_36_code
def yX11_nearOf : MethodName := ⟨RX11, "nearOf", "(I)I"⟩
abbrev cX11_mayVote : ByteArray := prog_13_method_37_code
def yX11_mayVote : MethodName := ⟨RX11, "mayVote", "(III)Z"⟩
abbrev cX11_asks : ByteArray := prog_13_method_38_code
def yX11_asks : MethodName := ⟨RX11, "asks", "(III)V"⟩
abbrev cX11_sideOf : ByteArray := prog_13_method_39_code
def yX11_sideOf : MethodName := ⟨RX11, "sideOf", "(IZ)I"⟩
abbrev cX11_isMore : ByteArray := prog_13_method_40_code
def yX11_isMore : MethodName := ⟨RX11, "isMore", "(I)Z"⟩
abbrev cX11_isCarriedBy : ByteArray := prog_13_method_41_code
def yX11_isCarriedBy : MethodName := ⟨RX11, "isCarriedBy", "(I)Z"⟩
abbrev cX11_isCarried : ByteArray := prog_13_method_42_code
def yX11_isCarried : MethodName := ⟨RX11, "isCarried", "(II)Z"⟩
abbrev cX11_may : ByteArray := prog_13_method_43_code
def yX11_may : MethodName := ⟨RX11, "may", "(III)I"⟩
abbrev cX11_vote : ByteArray := prog_13_method_44_code
def yX11_vote : MethodName := ⟨RX11, "vote", "(III)I"⟩
abbrev cX11_together : ByteArray := prog_13_method_45_code
def yX11_together : MethodName := ⟨RX11, "together", "(I)I"⟩
abbrev cX11_feesOf : ByteArray := prog_13_method_46_code
def yX11_feesOf : MethodName := ⟨RX11, "feesOf", "(I)I"⟩
abbrev cX11_silenced : ByteArray := prog_13_method_47_code
def yX11_silenced : MethodName := ⟨RX11, "silenced", "(II)I"⟩
abbrev cX11_leaveOut : ByteArray := prog_13_method_48_code
def yX11_leaveOut : MethodName := ⟨RX11, "leaveOut", "(II)I"⟩
abbrev cX11_alone : ByteArray := prog_13_method_49_code
def yX11_alone : MethodName := ⟨RX11, "alone", "()I"⟩
abbrev cX11_parts : ByteArray := prog_13_method_50_code
def yX11_parts : MethodName := ⟨RX11, "parts", "()V"⟩
abbrev cX11_parted : ByteArray := prog_13_method_51_code
def yX11_parted : MethodName := ⟨RX11, "parted", "(I)I"⟩
abbrev cX11_sayOf : ByteArray := prog_13_method_52_code
def yX11_sayOf : MethodName := ⟨RX11, "sayOf", "(II)I"⟩
abbrev cX11_say : ByteArray := prog_13_method_53_code
def yX11_say : MethodName := ⟨RX11, "say", "(II)I"⟩
abbrev cX11_hermit : ByteArray := prog_13_method_54_code
def yX11_hermit : MethodName := ⟨RX11, "hermit", "()I"⟩
abbrev cX11_common : ByteArray := prog_13_method_55_code
def yX11_common : MethodName := ⟨RX11, "common", "(II)I"⟩
abbrev cX11_chance : ByteArray := prog_13_method_56_code
def yX11_chance : MethodName := ⟨RX11, "chance", "(II)I"⟩
abbrev cX11_lies : ByteArray := prog_13_method_57_code
def yX11_lies : MethodName := ⟨RX11, "lies", "(I)I"⟩
abbrev cX11_step : ByteArray := prog_13_method_58_code
def yX11_step : MethodName := ⟨RX11, "step", "(II)I"⟩
abbrev cX11_drawnOf : ByteArray := prog_13_method_59_code
def yX11_drawnOf : MethodName := ⟨RX11, "drawnOf", "(II)I"⟩
abbrev cX11_lots : ByteArray := prog_13_method_60_code
def yX11_lots : MethodName := ⟨RX11, "lots", "(III)I"⟩
abbrev cX11_yearIs : ByteArray := prog_13_method_61_code
def yX11_yearIs : MethodName := ⟨RX11, "yearIs", "(I)I"⟩
abbrev cX11_bundleAt : ByteArray := prog_13_method_62_code
def yX11_bundleAt : MethodName := ⟨RX11, "bundleAt", "(II)I"⟩
abbrev cX11_silentAt : ByteArray := prog_13_method_63_code
def yX11_silentAt : MethodName := ⟨RX11, "silentAt", "(II)I"⟩
abbrev cX11_judge : ByteArray := prog_13_method_64_code
def yX11_judge : MethodName := ⟨RX11, "judge", "(I)I"⟩
abbrev cX11_isVotedBeside : ByteArray := prog_13_method_65_code
def yX11_isVotedBeside : MethodName := ⟨RX11, "isVotedBeside", "(IIII)Z"⟩
abbrev cX11_must : ByteArray := prog_13_method_66_code
def yX11_must : MethodName := ⟨RX11, "must", "(II)I"⟩
abbrev cX11_decide : ByteArray := prog_13_method_67_code
def yX11_decide : MethodName := ⟨RX11, "decide", "(II)I"⟩
abbrev cX11_led : ByteArray := prog_13_method_68_code
def yX11_led : MethodName := ⟨RX11, "led", "(I)I"⟩
abbrev cX11_image : ByteArray := prog_13_method_69_code
def yX11_image : MethodName := ⟨RX11, "image", "()I"⟩
abbrev cX11_back : ByteArray := prog_13_method_70_code
def yX11_back : MethodName := ⟨RX11, "back", "()I"⟩
abbrev cX11_isBody : ByteArray := prog_13_method_71_code
def yX11_isBody : MethodName := ⟨RX11, "isBody", "(I)Z"⟩
abbrev cX11_kindOf : ByteArray := prog_13_method_72_code
def yX11_kindOf : MethodName := ⟨RX11, "kindOf", "(I)I"⟩
abbrev cX11_body : ByteArray := prog_13_method_73_code
def yX11_body : MethodName := ⟨RX11, "body", "(I)I"⟩
abbrev cX11_above : ByteArray := prog_13_method_74_code
def yX11_above : MethodName := ⟨RX11, "above", "(I)I"⟩
abbrev cX11_begins : ByteArray := prog_13_method_75_code
def yX11_begins : MethodName := ⟨RX11, "begins", "(I)V"⟩
abbrev cX11_votesAs : ByteArray := prog_13_method_76_code
def yX11_votesAs : MethodName := ⟨RX11, "votesAs", "(II)I"⟩
abbrev cX11_ownsAs : ByteArray := prog_13_method_77_code
def yX11_ownsAs : MethodName := ⟨RX11, "ownsAs", "(II)I"⟩
abbrev cX11_givesAs : ByteArray := prog_13_method_78_code
def yX11_givesAs : MethodName := ⟨RX11, "givesAs", "(II)I"⟩
abbrev cX11_tellsAs : ByteArray := prog_13_method_79_code
def yX11_tellsAs : MethodName := ⟨RX11, "tellsAs", "(II)I"⟩
abbrev cX11_act : ByteArray := prog_13_method_80_code
def yX11_act : MethodName := ⟨RX11, "act", "(III)I"⟩
abbrev cX11_trace : ByteArray := prog_13_method_81_code
def yX11_trace : MethodName := ⟨RX11, "trace", "(I)I"⟩
abbrev cX11_isShelf : ByteArray := prog_13_method_82_code
def yX11_isShelf : MethodName := ⟨RX11, "isShelf", "(I)Z"⟩
abbrev cX11_keep : ByteArray := prog_13_method_83_code
def yX11_keep : MethodName := ⟨RX11, "keep", "(II)I"⟩
abbrev cX11_row : ByteArray := prog_13_method_84_code
def yX11_row : MethodName := ⟨RX11, "row", "(III)I"⟩
abbrev cX11_refusal : ByteArray := prog_13_method_85_code
def yX11_refusal : MethodName := ⟨RX11, "refusal", "(II)I"⟩
abbrev cX11_asSort : ByteArray := prog_13_method_86_code
def yX11_asSort : MethodName := ⟨RX11, "asSort", "(IJ)J"⟩
abbrev cX11_put : ByteArray := prog_13_method_87_code
def yX11_put : MethodName := ⟨RX11, "put", "(IIJ)I"⟩
abbrev cX11_element : ByteArray := prog_13_method_88_code
def yX11_element : MethodName := ⟨RX11, "element", "(II)J"⟩
abbrev cX11_shift : ByteArray := prog_13_method_89_code
def yX11_shift : MethodName := ⟨RX11, "shift", "(IIIII)I"⟩
abbrev cX11_taken : ByteArray := prog_13_method_90_code
def yX11_taken : MethodName := ⟨RX11, "taken", "(II)I"⟩
abbrev cX11_count : ByteArray := prog_13_method_91_code
def yX11_count : MethodName := ⟨RX11, "count", "(I)I"⟩
def RJ6 : String := "java/lang/Integer"
def TJ6 : u_T := fun k => match k with
  | _ => ("", "", "", false)
def tyJ6 : Nat → FieldType := fun k => match k with
  | _ => .int
abbrev wsJ60 : List Cond := u_ws RJ6 TJ6 0
theorem nmJ6 : ∀ a, a < 0 → ∀ b, b < 0 → a ≠ b → (TJ6 a).2.1 ≠ (TJ6 b).2.1 := by decide +kernel
theorem tyJ6_ok : ∀ k, k < 0 → parseFieldDescriptor (TJ6 k).2.2.1 = some (tyJ6 k) := by decide +kernel
abbrev cJ6_bitCount_0f7a4 : ByteArray := prog_14_method_49_code
def yJ6_bitCount_0f7a4 : MethodName := ⟨RJ6, "bitCount", "(I)I"⟩
def RJ9 : String := "java/lang/Math"
def TJ9 : u_T := fun k => match k with
  | _ => ("", "", "", false)
def tyJ9 : Nat → FieldType := fun k => match k with
  | _ => .int
abbrev wsJ90 : List Cond := u_ws RJ9 TJ9 0
theorem nmJ9 : ∀ a, a < 0 → ∀ b, b < 0 → a ≠ b → (TJ9 a).2.1 ≠ (TJ9 b).2.1 := by decide +kernel
theorem tyJ9_ok : ∀ k, k < 0 → parseFieldDescriptor (TJ9 k).2.2.1 = some (tyJ9 k) := by decide +kernel
abbrev cJ9_min_7cf53 : ByteArray := prog_15_method_69_code
def yJ9_min_7cf53 : MethodName := ⟨RJ9, "min", "(II)I"⟩
def RJ10 : String := "java/lang/System"
def TJ10 : u_T := fun k => match k with
  | _ => ("", "", "", false)
def tyJ10 : Nat → FieldType := fun k => match k with
  | _ => .int
abbrev wsJ100 : List Cond := u_ws RJ10 TJ10 0
theorem nmJ10 : ∀ a, a < 0 → ∀ b, b < 0 → a ≠ b → (TJ10 a).2.1 ≠ (TJ10 b).2.1 := by decide +kernel
theorem tyJ10_ok : ∀ k, k < 0 → parseFieldDescriptor (TJ10 k).2.2.1 = some (tyJ10 k) := by decide +kernel
def RL : String := "VotesUntouchedLaw"
abbrev cL_law : ByteArray := code
def yL_law : MethodName := ⟨RL, "law", "([I)Z"⟩
end
section
/-! THE STATE OF BOTH SIDES IN NUMBERS: scalars by 100 * place + slot, int rows by place, long rows by place. -/
abbrev ZSt : Type := (Nat → Int32) × (Nat → Nat → Int32) × (Nat → Nat → Int64)
def zs (u : ZSt) (i : Nat) (v : Int32) : ZSt := (fun j => if j = i then v else u.1 j, u.2.1, u.2.2)
def za (u : ZSt) (k i : Nat) (v : Int32) : ZSt := (u.1, fun j => if j = k then upd (u.2.1 k) i v else u.2.1 j, u.2.2)
def zl (u : ZSt) (k i : Nat) (v : Int64) : ZSt := (u.1, u.2.1, fun j => if j = k then vp_updL (u.2.2 k) i v else u.2.2 j)
def zcp (u : ZSt) (k k' sp dp n : Nat) : ZSt := (u.1, fun j => if j = k' then va_cpy (u.2.1 k) (u.2.1 k') sp dp n else u.2.1 j, u.2.2)
def zcpl (u : ZSt) (k k' sp dp n : Nat) : ZSt := (u.1, u.2.1, fun j => if j = k' then va_cpy (u.2.2 k) (u.2.2 k') sp dp n else u.2.2 j)
/-- a place: an object (its class, its fields: a place, or a number), or a row (0 ints, 1 longs, 2 booleans; its length) -/
abbrev ZSE : Type := (Nat × List (Option Nat)) ⊕ (Nat × Nat)
def zsch : List ZSE := [
  .inl (10, [some 1, some 5, some 9, some 15, some 19, some 22, some 27, some 32, some 33, some 36]),
  .inl (3, [some 2, some 3, some 4, none, none, none, none, none]), .inr (0, 10), .inr (0, 100), .inr (0, 206),
  .inl (1, [some 1, some 6, some 7, some 8, none, none]), .inr (0, 40), .inr (0, 40), .inr (0, 40),
  .inl (6, [some 10, some 11, none, none]), .inr (0, 120),
  .inl (2, [some 12, some 13, some 14, none]), .inr (0, 128), .inr (0, 128), .inr (0, 128),
  .inl (2, [some 16, some 17, some 18, none]), .inr (0, 128), .inr (0, 128), .inr (0, 128),
  .inl (0, [some 1, some 15, some 20, some 21, none]), .inr (0, 10), .inr (0, 6),
  .inl (5, [some 1, some 19, some 23, some 24, some 25, some 26]), .inr (0, 10), .inr (0, 64), .inr (0, 64), .inr (0, 64),
  .inl (7, [some 28, some 29, some 30, some 31]), .inr (0, 6), .inr (0, 6), .inr (0, 6), .inr (1, 360),
  .inl (9, [some 1, some 19, some 27]),
  .inl (4, [some 34, some 35, none]), .inr (0, 6), .inr (0, 6),
  .inl (8, [some 37, some 38, none, none]), .inr (0, 50), .inr (0, 24),
  .inl (11, [some 40, some 41, some 42, some 43, none, none, none, none, some 44, none, some 45, none, none, some 46, none, some 47, none, none, none, none, none, none, some 48, some 49, some 50, none, some 51, some 52, some 53, some 54, some 55, none, none, some 56, some 57, none, none, none, some 58, some 59, some 60, some 61]),
  .inr (0, 126), .inr (0, 40), .inr (0, 40), .inr (0, 40), .inr (0, 10), .inr (0, 10), .inr (0, 120), .inr (0, 120), .inr (0, 6), .inr (0, 10), .inr (0, 10), .inr (2, 64), .inr (0, 64), .inr (0, 64), .inr (0, 5), .inr (0, 5), .inr (0, 50), .inr (0, 24), .inr (0, 6), .inr (0, 6), .inr (1, 360), .inr (1, 60)]
abbrev zcl : List vw_C := [(RX0, TX0, 5), (RX1, TX1, 6), (RX2, TX2, 4), (RX3, TX3, 8), (RX4, TX4, 3), (RX5, TX5, 6), (RX6, TX6, 4), (RX7, TX7, 4), (RX8, TX8, 4), (RX9, TX9, 3), (RX10, TX10, 10), (RX11, TX11, 42)]
def zcv (ad : Nat → Nat) : Value → Value
  | .ref k => .ref (ad k)
  | v => v
theorem zcv_cat (ad : Nat → Nat) (v : Value) : (zcv ad v).category = v.category := by cases v <;> rfl
def zfv (ad : Nat → Nat) (u : ZSt) (k j : Nat) : Option Nat → Value
  | some q => .ref (ad q)
  | none => .int (u.1 (100 * k + j))
def zE (ad : Nat → Nat) (ca : Nat → ClassId) (u : ZSt) (k : Nat) : ZSE → va_E
  | .inl o => .inr (o.1, o.2.mapIdx (fun j f => zfv ad u k j f))
  | .inr a => match a.1 with
    | 0 => .inl (ca 0, (a.2, .inl (u.2.1 k)))
    | 1 => .inl (ca 1, (a.2, .inr (.inl (u.2.2 k))))
    | _ => .inl (ca 2, (a.2, .inl (u.2.1 k)))
def zw (ad : Nat → Nat) (ca : Nat → ClassId) (u : ZSt) : va_W := zsch.mapIdx (fun k e => (ad k, zE ad ca u k e))
def ztys (ca : Nat → ClassId) : List (ClassId × FieldType) := [(ca 0, .int), (ca 1, .long), (ca 2, .boolean)]
theorem zw_at (ad : Nat → Nat) (ca : Nat → ClassId) (u : ZSt) (k : Nat) : (zw ad ca u)[k]? = (zsch[k]?).map (fun e => (ad k, zE ad ca u k e)) := by
  simp [zw, List.getElem?_mapIdx]
theorem zw_set {ad : Nat → Nat} {ca : Nat → ClassId} {u u' : ZSt} {k : Nat} {e : ZSE} {x : va_E} (hk : zsch[k]? = some e) (hx : zE ad ca u' k e = x) (ho : ∀ j e', j ≠ k → zsch[j]? = some e' → zE ad ca u' j e' = zE ad ca u j e') : (zw ad ca u).set k (ad k, x) = zw ad ca u' := by
  apply List.ext_getElem?
  intro j
  rw [zw_at]
  by_cases hj : k = j
  · subst hj
    have hl : k < (zw ad ca u).length := by
      have := (List.getElem?_eq_some_iff.mp hk).1
      simpa [zw] using this
    rw [List.getElem?_set_self hl, hk, ← hx]
    rfl
  · rw [List.getElem?_set_ne hj, zw_at]
    cases h : zsch[j]? with
    | none => rfl
    | some e' => simp only [Option.map_some]; rw [ho j e' (Ne.symm hj) h]
theorem zw_mapIdx_set {ad : Nat → Nat} {u : ZSt} {k j : Nat} {v : Int32} {fs : List (Option Nat)} (hj : fs[j]? = some none) : fs.mapIdx (fun i f => zfv ad (zs u (100 * k + j) v) k i f) = (fs.mapIdx (fun i f => zfv ad u k i f)).set j (.int v) := by
  apply List.ext_getElem?
  intro i
  rw [List.getElem?_mapIdx]
  by_cases h : j = i
  · subst h
    have hl : j < (fs.mapIdx (fun i f => zfv ad u k i f)).length := by
      have := (List.getElem?_eq_some_iff.mp hj).1
      simpa using this
    rw [List.getElem?_set_self hl, hj]
    simp [zfv, zs]
  · rw [List.getElem?_set_ne h, List.getElem?_mapIdx]
    cases fs[i]? with
    | none => rfl
    | some f =>
      cases f with
      | some q => rfl
      | none =>
        simp only [Option.map_some, zfv, zs]
        rw [if_neg (by omega)]
theorem zw_put {ad : Nat → Nat} {ca : Nat → ClassId} {u : ZSt} {k j ci : Nat} {v : Int32} {fs : List (Option Nat)} (hlen : ∀ (k' : Nat) (o : Nat × List (Option Nat)), zsch[k']? = some (.inl o) → o.2.length ≤ 100) (hk : zsch[k]? = some (.inl (ci, fs))) (hj : fs[j]? = some none) :
    (zw ad ca u).set k (ad k, .inr (ci, (fs.mapIdx (fun i f => zfv ad u k i f)).set j (.int v))) = zw ad ca (zs u (100 * k + j) v) := by
  refine zw_set hk ?_ ?_
  · show (Sum.inr (ci, fs.mapIdx _) : va_E) = _
    rw [zw_mapIdx_set hj]
  · intro k' e' hne he
    cases e' with
    | inr a => rfl
    | inl o =>
      show (Sum.inr (o.1, o.2.mapIdx _) : va_E) = Sum.inr (o.1, o.2.mapIdx _)
      congr 2
      apply List.ext_getElem?
      intro i
      rw [List.getElem?_mapIdx, List.getElem?_mapIdx]
      cases hf : o.2[i]? with
      | none => rfl
      | some f =>
        cases f with
        | some q => rfl
        | none =>
          have h1 := (List.getElem?_eq_some_iff.mp hf).1
          have h2 := hlen k' o he
          have h3 := (List.getElem?_eq_some_iff.mp hj).1
          have h4 := hlen k (ci, fs) hk
          simp only [Option.map_some, zfv, zs]
          rw [if_neg (by simp only at h4; omega)]
theorem zw_putA {ad : Nat → Nat} {ca : Nat → ClassId} {u u' : ZSt} {k : Nat} {a : Nat × Nat} {x : va_E} (hk : zsch[k]? = some (.inr a)) (hx : zE ad ca u' k (.inr a) = x) (h1 : u'.1 = u.1) (h2 : ∀ j, j ≠ k → u'.2.1 j = u.2.1 j ∧ u'.2.2 j = u.2.2 j) : (zw ad ca u).set k (ad k, x) = zw ad ca u' := by
  refine zw_set hk hx ?_
  intro j e' hne he
  cases e' with
  | inl o =>
    show (Sum.inr (o.1, o.2.mapIdx _) : va_E) = Sum.inr (o.1, o.2.mapIdx _)
    have e : (fun (i : Nat) (f : Option Nat) => zfv ad u' j i f) = (fun i f => zfv ad u j i f) := by
      funext i f
      cases f with
      | some q => rfl
      | none => simp only [zfv, h1]
    rw [e]
  | inr b =>
    obtain ⟨e1, e2⟩ := h2 j hne
    obtain ⟨t, n⟩ := b
    match t with
    | 0 => simp only [zE, e1]
    | 1 => simp only [zE, e2]
    | t + 2 => simp only [zE, e1]
theorem zsch_len : ∀ (k : Nat) (o : Nat × List (Option Nat)), zsch[k]? = some (.inl o) → o.2.length ≤ 100 := by
  have h : zsch.all (fun e => match e with | .inl o => decide (o.2.length ≤ 100) | .inr _ => true) = true := by decide +kernel
  intro k o hk
  have h1 := List.all_eq_true.mp h _ (List.mem_of_getElem? hk)
  simpa using h1
/-! the fixed things of a run: launch, class ids, addresses, array classes, the script -/
abbrev ZG : Type := Launch × va_G × (Nat → Nat) × (Nat → ClassId) × Nat × (Nat → Int32)
abbrev zgl (G : ZG) : Launch := G.1
abbrev zgD (G : ZG) : va_G := G.2.1
abbrev zga (G : ZG) : Nat → Nat := G.2.2.1
abbrev zgc (G : ZG) : Nat → ClassId := G.2.2.2.1
abbrev zgL (G : ZG) : Nat := G.2.2.2.2.1
abbrev zgx (G : ZG) : Nat → Int32 := G.2.2.2.2.2
def zBOD (i : Nat) : Int32 := ([1, 10, 11, 2, 20, 0, 0, 0, 0, 30, 0, 0, 0, 41, 40, 0, 0, 0, 50, 0, 0, 0, 0, 60, 70, 0, 0, 0, 0, 80, 0, 81] : List Int32).getD i 0
def zABV (i : Nat) : Int32 := ([-1, 0, 0, 2, 1, 3, 0, 4] : List Int32).getD i 0
def zok (w : Cond) : Bool := w.onTables && (w.keeps || match w with | .fieldLinkNest .. => true | .methodLinkNest .. => true | _ => false)
def zAW (U : State) : Prop := ∀ w ∈ lw_tbl, zok w = true → w.before #[] U = true
theorem zok_on {w : Cond} (h : zok w = true) : w.onTables = true := by
  simp only [zok, Bool.and_eq_true] at h
  exact h.1
theorem zAW.at {U : State} (h : zAW U) {w : Cond} (hw : w ∈ lw_tbl) (hk : zok w = true) {A : Array Value} : w.before A U = true := va_Nw.use (zok_on hk) (h w hw hk)
theorem zAW.warm {s U : State} (hW : s.WarmedH U.vm) (h : zAW s) : zAW U := by
  intro w hw hk
  have h1 := h w hw hk
  have h2 := zok_on hk
  by_cases h3 : w.keeps = true
  · exact word_at hW (Or.inl (by rw [h2, h3]; rfl)) h1
  · have h3 : w.keeps = false := by simpa using h3
    simp only [zok, h2, h3, Bool.true_and, Bool.false_or] at hk
    cases w <;> first | exact va_Nw.warmF hW h1 | exact va_Nw.warmM hW h1 | (exact absurd hk (by simp))
theorem zAW.same {u U : State} (hu : u.vm = U.vm) (h : zAW u) : zAW U := fun w hw hk => va_Nw.same (zok_on hk) hu (h w hw hk)
def zA (G : ZG) (sz : Nat) : Nat → Prop := fun q => (∃ k, k < zsch.length ∧ q = zga G k) ∨ sz ≤ q
def zSt (G : ZG) (A : Nat → Prop) (U : State) (H : Heap) : Prop :=
  (va_X (zga G 100) 32 zBOD U H ∧ zga G 100 < H.size ∧ ¬ A (zga G 100)) ∧ (va_X (zga G 101) 8 zABV U H ∧ zga G 101 < H.size ∧ ¬ A (zga G 101)) ∧ (va_X (zga G 102) (zgL G) (zgx G) U H ∧ zga G 102 < H.size ∧ ¬ A (zga G 102)) ∧
  va_Z RX8 "BODIES" "[I" (.ref (zga G 100)) A U H ∧ va_Z RX8 "ABOVE" "[I" (.ref (zga G 101)) A U H
theorem zSt.go {G : ZG} {A B : Nat → Prop} {s U : State} {H : Heap} {locs : List Loc} (h : zSt G A s s.heap) (hvm : s.vm.Alike U.vm) (hS : va_S A s.heap H locs) (hB : ∀ q, B q → A q) : zSt G B U H := by
  obtain ⟨⟨a1, a2, a3⟩, ⟨b1, b2, b3⟩, ⟨c1, c2, c3⟩, d1, d2⟩ := h
  have kp : ∀ q, q < s.heap.size → ¬ A q → H[q]? = s.heap[q]? := hS.2.1
  refine ⟨⟨(a1.kept (kp _ a2 a3)).moved hvm, Nat.lt_of_lt_of_le a2 hS.1, fun h => a3 (hB _ h)⟩, ⟨(b1.kept (kp _ b2 b3)).moved hvm, Nat.lt_of_lt_of_le b2 hS.1, fun h => b3 (hB _ h)⟩, ⟨(c1.kept (kp _ c2 c3)).moved hvm, Nat.lt_of_lt_of_le c2 hS.1, fun h => c3 (hB _ h)⟩, ?_, ?_⟩
  · exact ((d1.kept kp).narrow hB).moved hvm
  · exact ((d2.kept kp).narrow hB).moved hvm
theorem zw_len (ad : Nat → Nat) (ca : Nat → ClassId) (u : ZSt) : (zw ad ca u).length = zsch.length := by simp [zw]
theorem zw_addr {ad : Nat → Nat} {ca : Nat → ClassId} {u : ZSt} {k : Nat} {q : Nat × va_E} (h : (zw ad ca u)[k]? = some q) : k < zsch.length ∧ q.1 = ad k := by
  rw [zw_at] at h
  cases he : zsch[k]? with
  | none => rw [he] at h; cases h
  | some e =>
    rw [he] at h
    cases h
    exact ⟨(List.getElem?_eq_some_iff.mp he).1, rfl⟩
theorem zw_D {A : Nat → Prop} {ad : Nat → Nat} {ca : Nat → ClassId} {u u' : ZSt} (h : va_D A (zw ad ca u)) : va_D A (zw ad ca u') := by
  have key : ∀ (k : Nat) (q : Nat × va_E), (zw ad ca u')[k]? = some q → ∃ q0, (zw ad ca u)[k]? = some q0 ∧ q0.1 = q.1 := by
    intro k q hk
    obtain ⟨h1, h2⟩ := zw_addr hk
    refine ⟨(ad k, zE ad ca u k zsch[k]), ?_, h2.symm⟩
    rw [zw_at, List.getElem?_eq_getElem h1]
    rfl
  refine ⟨fun i j p q hi hj hpq => ?_, fun k q hk => ?_⟩
  · obtain ⟨p0, a1, a2⟩ := key i p hi
    obtain ⟨q0, b1, b2⟩ := key j q hj
    exact h.1 i j p0 q0 a1 b1 (a2.trans (hpq.trans b2.symm))
  · obtain ⟨q0, a1, a2⟩ := key k q hk
    rw [← a2]
    exact h.2 k q0 a1
theorem zA_in {G : ZG} {A : Nat → Prop} {u : ZSt} {H0 H : Heap} {locs : List Loc} (hD : va_D A (zw (zga G) (zgc G) u)) (hS : va_S A H0 H locs) (hA : ∀ q, H0.size ≤ q → A q) : ∀ q, zA G H.size q → A q := by
  intro q h
  rcases h with ⟨k, hk, rfl⟩ | h
  · have := hD.2 k (zga G k, zE (zga G) (zgc G) u k zsch[k]) (by rw [zw_at, List.getElem?_eq_getElem hk]; rfl)
    exact this
  · exact hA q (Nat.le_trans hS.1 h)
theorem zA_D {G : ZG} {B : Nat → Prop} {u : ZSt} {sz : Nat} (hD : va_D B (zw (zga G) (zgc G) u)) : va_D (zA G sz) (zw (zga G) (zgc G) u) := hD.weaken fun k q hk _ => by
  obtain ⟨h1, h2⟩ := zw_addr hk
  exact Or.inl ⟨k, h1, h2⟩
/-! a method: its name, code, locals, answer, its instructions (pc, instruction, length, the place of a branch's target) -/
abbrev ZI : Type := Nat × Instr × Nat × Nat
abbrev ZM : Type := MethodName × ByteArray × Nat × Option FieldType × List ZI
abbrev zy (M : ZM) : MethodName := M.1
abbrev zcc (M : ZM) : ByteArray := M.2.1
abbrev znL (M : ZM) : Nat := M.2.2.1
abbrev zrt (M : ZM) : Option FieldType := M.2.2.2.1
abbrev ztb (M : ZM) : List ZI := M.2.2.2.2
def zpc (M : ZM) (i : Nat) : Nat := (((ztb M)[i]?).map (fun e => e.1)).getD 0
def zjump : Instr → Option Int
  | .goto off => some off
  | .ifCond _ off => some off
  | .if_icmp _ off => some off
  | _ => none
def zends : Instr → Bool
  | .goto _ | .ireturn | .lreturn | .return_ | .tableswitch .. | .lookupswitch .. => true
  | _ => false
def zchk1 (M : ZM) : List ZI → Bool
  | [] => true
  | e :: r => decide (decode (zcc M) e.1 = .ok (e.2.1, e.2.2.1)) && (zends e.2.1 || (match r with | e2 :: _ => e2.1 == e.1 + e.2.2.1 | [] => false)) && (match zjump e.2.1 with | some off => decide ((e.1 : Int) + off = (zpc M e.2.2.2 : Int)) | none => true) && zchk1 M r
def zchk (M : ZM) : Bool := zchk1 M (ztb M) && (zpc M 0 == 0) && plainName (zy M).cls && (match zrt M with | none => true | some .int => true | some .boolean => true | some .long => true | _ => false)
theorem zchk1_at {M : ZM} : ∀ (l : List ZI), zchk1 M l = true → ∀ (i : Nat) (e : ZI), l[i]? = some e → decode (zcc M) e.1 = .ok (e.2.1, e.2.2.1) ∧ (zends e.2.1 = false → ∃ e2, l[i + 1]? = some e2 ∧ e2.1 = e.1 + e.2.2.1) ∧ (∀ off, zjump e.2.1 = some off → (e.1 : Int) + off = (zpc M e.2.2.2 : Int))
  | [], _, i, e, h => by simp at h
  | e0 :: r, hc, i, e, h => by
    simp only [zchk1, Bool.and_eq_true, decide_eq_true_eq, Bool.or_eq_true] at hc
    obtain ⟨⟨⟨c1, c2⟩, c3⟩, c4⟩ := hc
    cases i with
    | zero =>
      simp only [List.getElem?_cons_zero, Option.some.injEq] at h
      subst h
      refine ⟨c1, fun hz => ?_, fun off ho => ?_⟩
      · rcases c2 with c2 | c2
        · rw [hz] at c2; cases c2
        · cases r with
          | nil => cases c2
          | cons e2 r => exact ⟨e2, by simp, by simpa using c2⟩
      · rw [ho] at c3
        simpa using c3
    | succ i =>
      rw [List.getElem?_cons_succ] at h
      obtain ⟨h1, h2, h3⟩ := zchk1_at r c4 i e h
      exact ⟨h1, fun hz => by obtain ⟨e2, q1, q2⟩ := h2 hz; exact ⟨e2, by rw [List.getElem?_cons_succ]; exact q1, q2⟩, h3⟩
theorem zchk_at {M : ZM} (hc : zchk M = true) {i pc len a : Nat} {ins : Instr} (h : (ztb M)[i]? = some (pc, ins, len, a)) : decode (zcc M) pc = .ok (ins, len) ∧ zpc M i = pc ∧ (zends ins = false → zpc M (i + 1) = pc + len) ∧ (∀ off, zjump ins = some off → (pc : Int) + off = (zpc M a : Int)) := by
  simp only [zchk, Bool.and_eq_true] at hc
  obtain ⟨h1, h2, h3⟩ := zchk1_at (ztb M) hc.1.1.1 i _ h
  refine ⟨h1, by simp [zpc, h], fun hz => ?_, h3⟩
  obtain ⟨e2, q1, q2⟩ := h2 hz
  simp [zpc, q1, q2]
end
section
/-! THE JUDGEMENT: from instruction i, with the locals lv, the stack st and the numbers u (references are places), the method ends with tgt: its answer, the numbers then. -/
def zretAt (M : ZM) (pc : Nat) : Value → Prop
  | .int r => decode (zcc M) pc = .ok (.ireturn, 1) ∧ (zrt M = some .int ∨ (zrt M = some .boolean ∧ (r = 0 ∨ r = 1)))
  | .long _ => decode (zcc M) pc = .ok (.lreturn, 1) ∧ zrt M = some .long
  | .null => decode (zcc M) pc = .ok (.return_, 1) ∧ zrt M = none
  | _ => False
def zrst : Value → List Value
  | .null => []
  | v => [v]
abbrev zwg (G : ZG) (u : ZSt) : va_W := zw (zga G) (zgc G) u
def zCx (G : ZG) (M : ZM) (d : Nat) (tgt : Value × ZSt) (p : Program) (e : Env) (R : Room) (s : State) (m : MethodId) (args : Array Value) (below : List Frame) (meth : Method) (c : Code) (A : Nat → Prop) (cells slots : Nat) (Qf : State → Prop) : Prop :=
  p.tables.exec = Jvm.exec ∧ c.code = zcc M ∧ c.maxLocals = znL M ∧ s.vm.findClass (zy M).cls = some m.cls ∧ zAW s ∧ va_K (zgD G) zcl (ztys (zgc G)) s ∧ zSt G A s s.heap ∧ (∀ q, s.heap.size ≤ q → A q) ∧ (d ≤ R.frames ∧ 64 * d ≤ R.locals ∧ cells ≤ R.cells ∧ slots ≤ R.slots) ∧
  ∀ (pc : Nat) (H : Heap) (locs : List Loc) (ls : Array Slot), zretAt M pc tgt.1 → va_P (zgD G) zcl (zwg G tgt.2) H → va_D A (zwg G tgt.2) → va_S A s.heap H locs → W p (zgl G) e R s m args below meth c H locs cells slots Qf (F0 m pc ls (zrst tgt.1))
def zlv (G : ZG) (lv : List (Nat × Value)) : List (Nat × Value) := lv.map (fun q => (q.1, zcv (zga G) q.2))
abbrev zst (G : ZG) (st : List Value) : List Value := st.map (zcv (zga G))
def ZW (G : ZG) (M : ZM) (d : Nat) (tgt : Value × ZSt) (i : Nat) (lv : List (Nat × Value)) (st : List Value) (u : ZSt) : Prop :=
  zchk M = true → ∀ (p : Program) (e : Env) (R : Room) (s : State) (m : MethodId) (args : Array Value) (below : List Frame) (meth : Method) (c : Code) (A : Nat → Prop) (cells slots : Nat) (Qf : State → Prop), zCx G M d tgt p e R s m args below meth c A cells slots Qf →
    ∀ (H : Heap) (locs : List Loc) (ls : Array Slot), va_P (zgD G) zcl (zwg G u) H → va_D A (zwg G u) → va_S A s.heap H locs → lv_has ls (znL M) (zlv G lv) → W p (zgl G) e R s m args below meth c H locs cells slots Qf (F0 m (zpc M i) ls (zst G st))
/-- the same, where the end is told by a tree: t, and what is made of its leaves -/
def ZGo (G : ZG) (M : ZM) (d : Nat) {β : Type} (t : Option β) (K : β → Option (Value × ZSt)) (i : Nat) (lv : List (Nat × Value)) (st : List Value) (u : ZSt) : Prop :=
  ∀ tgt, t.bind K = some tgt → ZW G M d tgt i lv st u
def zlk (lv : List (Nat × Value)) (k : Nat) : Option Value := (lv.find? (fun q => q.1 == k)).map (fun q => q.2)
def zset (lv : List (Nat × Value)) (k : Nat) (v : Value) : List (Nat × Value) := lv.map (fun q => if q.1 = k then (k, v) else q) ++ (if lv.any (fun q => q.1 == k) then [] else [(k, v)])
def zfree (lv : List (Nat × Value)) (k : Nat) : Bool := lv.all (fun q => !(q.1 + 1 == k && q.2.category == 2))
theorem zlk_mem {lv : List (Nat × Value)} {k : Nat} {v : Value} (h : zlk lv k = some v) : (k, v) ∈ lv := by
  unfold zlk at h
  cases hf : lv.find? (fun q => q.1 == k) with
  | none => rw [hf] at h; cases h
  | some q =>
    rw [hf] at h
    have h1 := List.mem_of_find?_eq_some hf
    have h2 := List.find?_some hf
    have h3 : q.1 = k := by simpa using h2
    have h4 : q.2 = v := by simpa using h
    rw [← h3, ← h4]
    exact h1
theorem zlk_has {G : ZG} {lv : List (Nat × Value)} {ls : Array Slot} {n k : Nat} {v : Value} (hl : lv_has ls n (zlv G lv)) (h : zlk lv k = some v) : ls[k]? = some (.val (zcv (zga G) v)) :=
  hl.2.2 (k, zcv (zga G) v) (List.mem_map.mpr ⟨(k, v), zlk_mem h, rfl⟩)
theorem zset_has {G : ZG} {lv lv' : List (Nat × Value)} {ls : Array Slot} {n k : Nat} {v : Value} (hs : zset lv k v = lv') (hf : zfree lv k = true)
    (hl : lv_has ls n ((k, zcv (zga G) v) :: (zlv G lv).filter (fun q => !(q.1 == k) && !(q.1 + 1 == k && q.2.category == 2)))) : lv_has ls n (zlv G lv') := by
  subst hs
  refine ⟨hl.1, hl.2.1, fun q hq => ?_⟩
  obtain ⟨q0, hq0, rfl⟩ := List.mem_map.mp hq
  refine hl.2.2 _ ?_
  unfold zset at hq0
  rcases List.mem_append.mp hq0 with h | h
  · obtain ⟨q1, h1, rfl⟩ := List.mem_map.mp h
    by_cases hk : q1.1 = k
    · rw [if_pos hk]
      exact List.mem_cons_self
    · rw [if_neg hk]
      refine List.mem_cons_of_mem _ (List.mem_filter.mpr ⟨List.mem_map.mpr ⟨q1, h1, rfl⟩, ?_⟩)
      have h2 := List.all_eq_true.mp hf q1 h1
      simp only [zcv_cat]
      rw [h2]
      simp [hk]
  · split at h
    · cases h
    · have h5 : q0 = (k, v) := by simpa using h
      subst h5
      exact List.mem_cons_self
theorem zsub_has {G : ZG} {lv lv' : List (Nat × Value)} {ls : Array Slot} {n : Nat} (hs : ∀ q ∈ lv', q ∈ lv) (hl : lv_has ls n (zlv G lv)) : lv_has ls n (zlv G lv') :=
  ⟨hl.1, hl.2.1, fun q hq => by
    obtain ⟨q0, h1, rfl⟩ := List.mem_map.mp hq
    exact hl.2.2 _ (List.mem_map.mpr ⟨q0, hs q0 h1, rfl⟩)⟩
theorem zE_int {ad : Nat → Nat} {ca : Nat → ClassId} {u : ZSt} {k n : Nat} : zE ad ca u k (.inr (0, n)) = .inl (ca 0, (n, .inl (u.2.1 k))) := rfl
theorem zw_int {ad : Nat → Nat} {ca : Nat → ClassId} {u : ZSt} {k n : Nat} (h : zsch[k]? = some (.inr (0, n))) : (zw ad ca u)[k]? = some (ad k, .inl (ca 0, (n, .inl (u.2.1 k)))) := by rw [zw_at, h]; rfl
theorem zw_long {ad : Nat → Nat} {ca : Nat → ClassId} {u : ZSt} {k n : Nat} (h : zsch[k]? = some (.inr (1, n))) : (zw ad ca u)[k]? = some (ad k, .inl (ca 1, (n, .inr (.inl (u.2.2 k))))) := by rw [zw_at, h]; rfl
theorem zw_bool {ad : Nat → Nat} {ca : Nat → ClassId} {u : ZSt} {k n : Nat} (h : zsch[k]? = some (.inr (2, n))) : (zw ad ca u)[k]? = some (ad k, .inl (ca 2, (n, .inl (u.2.1 k)))) := by rw [zw_at, h]; rfl
theorem zw_obj {ad : Nat → Nat} {ca : Nat → ClassId} {u : ZSt} {k ci : Nat} {fs : List (Option Nat)} (h : zsch[k]? = some (.inl (ci, fs))) : (zw ad ca u)[k]? = some (ad k, .inr (ci, fs.mapIdx (fun j f => zfv ad u k j f))) := by rw [zw_at, h]; rfl
abbrev zin (i : Int32) (n : Nat) : Prop := ¬ (i < 0 ∨ n ≤ i.toNatClampNeg)
abbrev zushr (x y : Int32) : Int32 := (x.toUInt32 >>> (y.toUInt32 &&& Int32.toUInt32 31)).toInt32
abbrev zrem (x y : Int32) : Int32 := x - x / y * y
/-- the words of the fields: which fields a class' links name -/
def zcls (ci : Nat) : String × u_T × Nat := (zcl[ci]?).getD ("", TX0, 0)
theorem zcl_in : ∀ ci, ci < 12 → ∀ w ∈ u_ws (zcls ci).1 (zcls ci).2.1 (zcls ci).2.2, w ∈ lw_tbl ∧ zok w = true := by
  have h : (List.range 12).all (fun ci => (u_ws (zcls ci).1 (zcls ci).2.1 (zcls ci).2.2).all (fun w => decide (w ∈ lw_tbl) && zok w)) = true := by decide +kernel
  intro ci hci w hw
  have h1 := List.all_eq_true.mp (List.all_eq_true.mp h ci (List.mem_range.mpr hci)) w hw
  simpa using h1
def zty (ci k : Nat) : FieldType := (parseFieldDescriptor ((zcls ci).2.1 k).2.2.1).getD .int
theorem zcl_ty : ∀ ci, ci < 12 → ∀ k, k < (zcls ci).2.2 → parseFieldDescriptor ((zcls ci).2.1 k).2.2.1 = some (zty ci k) := by decide +kernel
theorem zcl_nm : ∀ ci, ci < 12 → ∀ a, a < (zcls ci).2.2 → ∀ b, b < (zcls ci).2.2 → a ≠ b → ((zcls ci).2.1 a).2.1 ≠ ((zcls ci).2.1 b).2.1 := by decide +kernel
theorem zcl_at : ∀ ci, ci < 12 → zcl[ci]? = some (zcls ci) := by
  intro ci h
  have : ∃ x, zcl[ci]? = some x := ⟨zcl[ci], List.getElem?_eq_getElem h⟩
  obtain ⟨x, hx⟩ := this
  simp only [zcls, hx, Option.getD_some]
theorem zAW.cls {s : State} (h : zAW s) {ci : Nat} (hci : ci < 12) {args : Array Value} : ∀ w ∈ u_ws (zcls ci).1 (zcls ci).2.1 (zcls ci).2.2, w.before args s = true := fun w hw => h.at (zcl_in ci hci w hw).1 (zcl_in ci hci w hw).2
/-- the link at 'idx' of the class 'own' names field k of the class ci -/
def zFL (own : String) (idx ci k : Nat) : Prop := ci < 12 ∧ k < (zcls ci).2.2 ∧ ((zcls ci).2.1 k).1 = (zcls ci).1 ∧ ((Cond.fieldLink own idx (zcls ci).1 ((zcls ci).2.1 k).2.1 ((zcls ci).2.1 k).2.2.1 ∈ lw_tbl) ∨ ∃ host, Cond.fieldLinkNest own idx (zcls ci).1 ((zcls ci).2.1 k).2.1 ((zcls ci).2.1 k).2.2.1 host ∈ lw_tbl)
section ZROWS
variable {G : ZG} {M : ZM} {d i pc len a : Nat} {tgt : Value × ZSt} {lv lv' : List (Nat × Value)} {st st' rest : List Value} {u : ZSt} {ins : Instr} {β : Type} {t tA tB : Option β} {K : β → Option (Value × ZSt)}
theorem z_bs {α : Type} (x : Option α) : x.bind some = x := by cases x <;> rfl
theorem zgo_op (ht : (ztb M)[i]? = some (pc, ins, len, a)) (hz : zends ins = false)
    (hrow : ∀ (p : Program) (e : Env) (R : Room) (s : State) (m : MethodId) (args : Array Value) (below : List Frame) (meth : Method) (c : Code) (H : Heap) (locs : List Loc) (cells slots : Nat) (Qf : State → Prop) (ls : Array Slot), p.tables.exec = Jvm.exec → c.code = zcc M → s.vm.findClass (zy M).cls = some m.cls → zAW s → decode (zcc M) pc = .ok (ins, len) → lv_has ls (znL M) (zlv G lv) → W p (zgl G) e R s m args below meth c H locs cells slots Qf (F0 m (pc + len) ls (zst G st')) → W p (zgl G) e R s m args below meth c H locs cells slots Qf (F0 m pc ls (zst G st)))
    (h : ZGo G M d t K (i + 1) lv st' u) : ZGo G M d t K i lv st u := by
  intro tgt htg hc p e R s m args below meth c A cells slots Qf cx H locs ls hP hD hS hl
  obtain ⟨h1, h2, h3, h4⟩ := zchk_at hc ht
  rw [h2]
  refine hrow p e R s m args below meth c H locs cells slots Qf ls cx.1 cx.2.1 cx.2.2.2.1 cx.2.2.2.2.1 h1 hl ?_
  have := h tgt htg hc p e R s m args below meth c A cells slots Qf cx H locs ls hP hD hS hl
  rw [h3 hz] at this
  exact this
theorem zgo_sub (hs : ∀ q ∈ lv', q ∈ lv) (h : ZGo G M d t K i lv' st u) : ZGo G M d t K i lv st u := by
  intro tgt htg hc p e R s m args below meth c A cells slots Qf cx H locs ls hP hD hS hl
  exact h tgt htg hc p e R s m args below meth c A cells slots Qf cx H locs ls hP hD hS (zsub_has hs hl)
theorem zgo_leaf {x : β} (h : ZGo G M d (K x) some i lv st u) : ZGo G M d (some x) K i lv st u := by
  intro tgt htg
  exact h tgt ((z_bs (K x)).trans htg)
theorem zgo_unleaf (h : ZGo G M d t K i lv st u) : ZGo G M d (t.bind K) some i lv st u := by
  intro tgt htg
  rw [z_bs] at htg
  exact h tgt htg
theorem zgo_none : ZGo G M d (none : Option β) K i lv st u := by
  intro tgt htg
  cases htg
theorem g_aload_n {k : Fin 4} {x : Nat} (ht : (ztb M)[i]? = some (pc, .aload_n k, 1, a)) (hv : zlk lv k.val = some (.ref x)) (h : ZGo G M d t K (i + 1) lv (.ref x :: st) u) : ZGo G M d t K i lv (st) u :=
  zgo_op (st := st) (st' := .ref x :: st) ht rfl (fun p e R s m args below meth c H locs cells slots Qf ls hx hb hown hAW hd hl k => lv_aload_n hx hb hd rfl (zlk_has hl hv) k) h
theorem g_iload_n {k : Fin 4} {x : Int32} (ht : (ztb M)[i]? = some (pc, .iload_n k, 1, a)) (hv : zlk lv k.val = some (.int x)) (h : ZGo G M d t K (i + 1) lv (.int x :: st) u) : ZGo G M d t K i lv (st) u :=
  zgo_op (st := st) (st' := .int x :: st) ht rfl (fun p e R s m args below meth c H locs cells slots Qf ls hx hb hown hAW hd hl k => lv_iload_n hx hb hd rfl (zlk_has hl hv) k) h
theorem g_iload {k : Nat} {x : Int32} (ht : (ztb M)[i]? = some (pc, .iload k, 2, a)) (hv : zlk lv k = some (.int x)) (h : ZGo G M d t K (i + 1) lv (.int x :: st) u) : ZGo G M d t K i lv (st) u :=
  zgo_op (st := st) (st' := .int x :: st) ht rfl (fun p e R s m args below meth c H locs cells slots Qf ls hx hb hown hAW hd hl k => lv_iload hx hb hd (zlk_has hl hv) k) h
theorem g_lload_n {k : Fin 4} {x : Int64} (ht : (ztb M)[i]? = some (pc, .lload_n k, 1, a)) (hv : zlk lv k.val = some (.long x)) (h : ZGo G M d t K (i + 1) lv (.long x :: st) u) : ZGo G M d t K i lv (st) u :=
  zgo_op (st := st) (st' := .long x :: st) ht rfl (fun p e R s m args below meth c H locs cells slots Qf ls hx hb hown hAW hd hl k => lv_lload_n hx hb hd rfl (zlk_has hl hv) k) h
theorem g_lload {k : Nat} {x : Int64} (ht : (ztb M)[i]? = some (pc, .lload k, 2, a)) (hv : zlk lv k = some (.long x)) (h : ZGo G M d t K (i + 1) lv (.long x :: st) u) : ZGo G M d t K i lv (st) u :=
  zgo_op (st := st) (st' := .long x :: st) ht rfl (fun p e R s m args below meth c H locs cells slots Qf ls hx hb hown hAW hd hl k => lv_lload hx hb hd (zlk_has hl hv) k) h
theorem g_iconst {n : Int} {v : Int32} (ht : (ztb M)[i]? = some (pc, .iconst n, 1, a)) (hv : Int32.ofInt n = v) (h : ZGo G M d t K (i + 1) lv (.int v :: st) u) : ZGo G M d t K i lv (st) u :=
  zgo_op (st := st) (st' := .int v :: st) ht rfl (fun p e R s m args below meth c H locs cells slots Qf ls hx hb hown hAW hd hl k => lv_iconst hx hb hd hv k) h
theorem g_bipush {n : Int} {v : Int32} (ht : (ztb M)[i]? = some (pc, .bipush n, 2, a)) (hv : (Int8.ofInt n).toInt32 = v) (h : ZGo G M d t K (i + 1) lv (.int v :: st) u) : ZGo G M d t K i lv (st) u :=
  zgo_op (st := st) (st' := .int v :: st) ht rfl (fun p e R s m args below meth c H locs cells slots Qf ls hx hb hown hAW hd hl k => lv_bipush hx hb hd hv k) h
theorem g_sipush {n : Int} {v : Int32} (ht : (ztb M)[i]? = some (pc, .sipush n, 3, a)) (hv : (Int16.ofInt n).toInt32 = v) (h : ZGo G M d t K (i + 1) lv (.int v :: st) u) : ZGo G M d t K i lv (st) u :=
  zgo_op (st := st) (st' := .int v :: st) ht rfl (fun p e R s m args below meth c H locs cells slots Qf ls hx hb hown hAW hd hl k => lv_sipush hx hb hd hv k) h
theorem g_lconst {n : Fin 2} {v : Int64} (ht : (ztb M)[i]? = some (pc, .lconst n, 1, a)) (hv : Int64.ofNat (n : Nat) = v) (h : ZGo G M d t K (i + 1) lv (.long v :: st) u) : ZGo G M d t K i lv (st) u :=
  zgo_op (st := st) (st' := .long v :: st) ht rfl (fun p e R s m args below meth c H locs cells slots Qf ls hx hb hown hAW hd hl k => lv_lconst hx hb hd hv k) h
theorem g_ldc {idx : Nat} {v : Int32} (ht : (ztb M)[i]? = some (pc, .ldc idx, 2, a)) (hv : Cond.constant (zy M).cls idx v ∈ lw_tbl) (h : ZGo G M d t K (i + 1) lv (.int v :: st) u) : ZGo G M d t K i lv (st) u :=
  zgo_op (st := st) (st' := .int v :: st) ht rfl (fun p e R s m args below meth c H locs cells slots Qf ls hx hb hown hAW hd hl k => lv_ldc hx hb hown (hAW.at hv rfl) hd k) h
theorem g_ldc_w {idx : Nat} {v : Int32} (ht : (ztb M)[i]? = some (pc, .ldc_w idx, 3, a)) (hv : Cond.constant (zy M).cls idx v ∈ lw_tbl) (h : ZGo G M d t K (i + 1) lv (.int v :: st) u) : ZGo G M d t K i lv (st) u :=
  zgo_op (st := st) (st' := .int v :: st) ht rfl (fun p e R s m args below meth c H locs cells slots Qf ls hx hb hown hAW hd hl k => lv_ldcw hx hb hown (hAW.at hv rfl) hd k) h
theorem g_ldc2 {idx : Nat} {v : Int64} (ht : (ztb M)[i]? = some (pc, .ldc2_w idx, 3, a)) (hv : Cond.constantLong (zy M).cls idx v ∈ lw_tbl) (h : ZGo G M d t K (i + 1) lv (.long v :: st) u) : ZGo G M d t K i lv (st) u :=
  zgo_op (st := st) (st' := .long v :: st) ht rfl (fun p e R s m args below meth c H locs cells slots Qf ls hx hb hown hAW hd hl k => lv_ldc2 hx hb hown (hAW.at hv rfl) hd k) h
theorem g_iadd {x y : Int32} (ht : (ztb M)[i]? = some (pc, .iadd, 1, a)) (h : ZGo G M d t K (i + 1) lv (.int (x + y) :: st) u) : ZGo G M d t K i lv (.int y :: .int x :: st) u :=
  zgo_op (st := .int y :: .int x :: st) (st' := .int (x + y) :: st) ht rfl (fun p e R s m args below meth c H locs cells slots Qf ls hx hb hown hAW hd hl k => lv_iadd hx hb hd k) h
theorem g_isub {x y : Int32} (ht : (ztb M)[i]? = some (pc, .isub, 1, a)) (h : ZGo G M d t K (i + 1) lv (.int (x - y) :: st) u) : ZGo G M d t K i lv (.int y :: .int x :: st) u :=
  zgo_op (st := .int y :: .int x :: st) (st' := .int (x - y) :: st) ht rfl (fun p e R s m args below meth c H locs cells slots Qf ls hx hb hown hAW hd hl k => lv_isub hx hb hd k) h
theorem g_imul {x y : Int32} (ht : (ztb M)[i]? = some (pc, .imul, 1, a)) (h : ZGo G M d t K (i + 1) lv (.int (x * y) :: st) u) : ZGo G M d t K i lv (.int y :: .int x :: st) u :=
  zgo_op (st := .int y :: .int x :: st) (st' := .int (x * y) :: st) ht rfl (fun p e R s m args below meth c H locs cells slots Qf ls hx hb hown hAW hd hl k => lv_imul hx hb hd k) h
theorem g_iand {x y : Int32} (ht : (ztb M)[i]? = some (pc, .iand, 1, a)) (h : ZGo G M d t K (i + 1) lv (.int (x &&& y) :: st) u) : ZGo G M d t K i lv (.int y :: .int x :: st) u :=
  zgo_op (st := .int y :: .int x :: st) (st' := .int (x &&& y) :: st) ht rfl (fun p e R s m args below meth c H locs cells slots Qf ls hx hb hown hAW hd hl k => lv_iand hx hb hd k) h
theorem g_ior {x y : Int32} (ht : (ztb M)[i]? = some (pc, .ior, 1, a)) (h : ZGo G M d t K (i + 1) lv (.int (x ||| y) :: st) u) : ZGo G M d t K i lv (.int y :: .int x :: st) u :=
  zgo_op (st := .int y :: .int x :: st) (st' := .int (x ||| y) :: st) ht rfl (fun p e R s m args below meth c H locs cells slots Qf ls hx hb hown hAW hd hl k => lv_ior hx hb hd k) h
theorem g_ixor {x y : Int32} (ht : (ztb M)[i]? = some (pc, .ixor, 1, a)) (h : ZGo G M d t K (i + 1) lv (.int (x ^^^ y) :: st) u) : ZGo G M d t K i lv (.int y :: .int x :: st) u :=
  zgo_op (st := .int y :: .int x :: st) (st' := .int (x ^^^ y) :: st) ht rfl (fun p e R s m args below meth c H locs cells slots Qf ls hx hb hown hAW hd hl k => lv_ixor hx hb hd k) h
theorem g_ishl {x y : Int32} (ht : (ztb M)[i]? = some (pc, .ishl, 1, a)) (h : ZGo G M d t K (i + 1) lv (.int (x <<< (y &&& 31)) :: st) u) : ZGo G M d t K i lv (.int y :: .int x :: st) u :=
  zgo_op (st := .int y :: .int x :: st) (st' := .int (x <<< (y &&& 31)) :: st) ht rfl (fun p e R s m args below meth c H locs cells slots Qf ls hx hb hown hAW hd hl k => lv_ishl hx hb hd k) h
theorem g_ishr {x y : Int32} (ht : (ztb M)[i]? = some (pc, .ishr, 1, a)) (h : ZGo G M d t K (i + 1) lv (.int (x >>> (y &&& 31)) :: st) u) : ZGo G M d t K i lv (.int y :: .int x :: st) u :=
  zgo_op (st := .int y :: .int x :: st) (st' := .int (x >>> (y &&& 31)) :: st) ht rfl (fun p e R s m args below meth c H locs cells slots Qf ls hx hb hown hAW hd hl k => lv_ishr hx hb hd k) h
theorem g_iushr {x y : Int32} (ht : (ztb M)[i]? = some (pc, .iushr, 1, a)) (h : ZGo G M d t K (i + 1) lv (.int (zushr x y) :: st) u) : ZGo G M d t K i lv (.int y :: .int x :: st) u :=
  zgo_op (st := .int y :: .int x :: st) (st' := .int (zushr x y) :: st) ht rfl (fun p e R s m args below meth c H locs cells slots Qf ls hx hb hown hAW hd hl k => lv_iushr hx hb hd rfl k) h
theorem g_idiv {x y : Int32} (ht : (ztb M)[i]? = some (pc, .idiv, 1, a)) (hne : ¬ y = 0) (h : ZGo G M d t K (i + 1) lv (.int (x / y) :: st) u) : ZGo G M d t K i lv (.int y :: .int x :: st) u :=
  zgo_op (st := .int y :: .int x :: st) (st' := .int (x / y) :: st) ht rfl (fun p e R s m args below meth c H locs cells slots Qf ls hx hb hown hAW hd hl k => lv_idiv hx hb hd hne k) h
theorem g_irem {x y : Int32} (ht : (ztb M)[i]? = some (pc, .irem, 1, a)) (hne : ¬ y = 0) (h : ZGo G M d t K (i + 1) lv (.int (zrem x y) :: st) u) : ZGo G M d t K i lv (.int y :: .int x :: st) u :=
  zgo_op (st := .int y :: .int x :: st) (st' := .int (zrem x y) :: st) ht rfl (fun p e R s m args below meth c H locs cells slots Qf ls hx hb hown hAW hd hl k => lv_irem hx hb hd hne k) h
theorem g_ineg {x : Int32} (ht : (ztb M)[i]? = some (pc, .ineg, 1, a)) (h : ZGo G M d t K (i + 1) lv (.int (-x) :: st) u) : ZGo G M d t K i lv (.int x :: st) u :=
  zgo_op (st := .int x :: st) (st' := .int (-x) :: st) ht rfl (fun p e R s m args below meth c H locs cells slots Qf ls hx hb hown hAW hd hl k => lv_ineg hx hb hd k) h
theorem g_i2l {x : Int32} (ht : (ztb M)[i]? = some (pc, .i2l, 1, a)) (h : ZGo G M d t K (i + 1) lv (.long x.toInt64 :: st) u) : ZGo G M d t K i lv (.int x :: st) u :=
  zgo_op (st := .int x :: st) (st' := .long x.toInt64 :: st) ht rfl (fun p e R s m args below meth c H locs cells slots Qf ls hx hb hown hAW hd hl k => lv_i2l hx hb hd rfl k) h
theorem g_l2i {x : Int64} (ht : (ztb M)[i]? = some (pc, .l2i, 1, a)) (h : ZGo G M d t K (i + 1) lv (.int x.toInt32 :: st) u) : ZGo G M d t K i lv (.long x :: st) u :=
  zgo_op (st := .long x :: st) (st' := .int x.toInt32 :: st) ht rfl (fun p e R s m args below meth c H locs cells slots Qf ls hx hb hown hAW hd hl k => lv_l2i hx hb hd rfl k) h
theorem g_i2b {x : Int32} (ht : (ztb M)[i]? = some (pc, .i2b, 1, a)) (h : ZGo G M d t K (i + 1) lv (.int x.toInt8.toInt32 :: st) u) : ZGo G M d t K i lv (.int x :: st) u :=
  zgo_op (st := .int x :: st) (st' := .int x.toInt8.toInt32 :: st) ht rfl (fun p e R s m args below meth c H locs cells slots Qf ls hx hb hown hAW hd hl k => lv_i2b hx hb hd rfl k) h
theorem g_i2s {x : Int32} (ht : (ztb M)[i]? = some (pc, .i2s, 1, a)) (h : ZGo G M d t K (i + 1) lv (.int x.toInt16.toInt32 :: st) u) : ZGo G M d t K i lv (.int x :: st) u :=
  zgo_op (st := .int x :: st) (st' := .int x.toInt16.toInt32 :: st) ht rfl (fun p e R s m args below meth c H locs cells slots Qf ls hx hb hown hAW hd hl k => lv_i2s hx hb hd rfl k) h
theorem g_land {x y : Int64} (ht : (ztb M)[i]? = some (pc, .land, 1, a)) (h : ZGo G M d t K (i + 1) lv (.long (x &&& y) :: st) u) : ZGo G M d t K i lv (.long y :: .long x :: st) u :=
  zgo_op (st := .long y :: .long x :: st) (st' := .long (x &&& y) :: st) ht rfl (fun p e R s m args below meth c H locs cells slots Qf ls hx hb hown hAW hd hl k => lv_land hx hb hd k) h
theorem g_lor {x y : Int64} (ht : (ztb M)[i]? = some (pc, .lor, 1, a)) (h : ZGo G M d t K (i + 1) lv (.long (x ||| y) :: st) u) : ZGo G M d t K i lv (.long y :: .long x :: st) u :=
  zgo_op (st := .long y :: .long x :: st) (st' := .long (x ||| y) :: st) ht rfl (fun p e R s m args below meth c H locs cells slots Qf ls hx hb hown hAW hd hl k => lv_lor hx hb hd k) h
theorem g_lshl {x : Int64} {y : Int32} (ht : (ztb M)[i]? = some (pc, .lshl, 1, a)) (h : ZGo G M d t K (i + 1) lv (.long (x <<< (y.toInt64 &&& 63)) :: st) u) : ZGo G M d t K i lv (.int y :: .long x :: st) u :=
  zgo_op (st := .int y :: .long x :: st) (st' := .long (x <<< (y.toInt64 &&& 63)) :: st) ht rfl (fun p e R s m args below meth c H locs cells slots Qf ls hx hb hown hAW hd hl k => lv_lshl hx hb hd rfl k) h
theorem g_dup {v : Value} (ht : (ztb M)[i]? = some (pc, .dup, 1, a)) (hv : v.category = 1) (h : ZGo G M d t K (i + 1) lv (v :: v :: st) u) : ZGo G M d t K i lv (v :: st) u :=
  zgo_op (st := v :: st) (st' := v :: v :: st) ht rfl (fun p e R s m args below meth c H locs cells slots Qf ls hx hb hown hAW hd hl k => lv_dup hx hb hd (by rw [zcv_cat]; exact hv) k) h
theorem g_dup2 {v w : Value} (ht : (ztb M)[i]? = some (pc, .dup2, 1, a)) (hv : v.category = 1) (hw : w.category = 1) (h : ZGo G M d t K (i + 1) lv (v :: w :: v :: w :: st) u) : ZGo G M d t K i lv (v :: w :: st) u :=
  zgo_op (st := v :: w :: st) (st' := v :: w :: v :: w :: st) ht rfl (fun p e R s m args below meth c H locs cells slots Qf ls hx hb hown hAW hd hl k => lv_dup2_11 hx hb hd (by rw [zcv_cat]; exact hv) (by rw [zcv_cat]; exact hw) k) h

theorem g_istore_n {k : Fin 4} {x : Int32} (ht : (ztb M)[i]? = some (pc, .istore_n k, 1, a)) (hn : k.val < znL M) (hf : zfree lv k.val = true) (hl' : zset lv k.val (.int x) = lv') (h : ZGo G M d t K (i + 1) lv' st u) : ZGo G M d t K i lv (.int x :: st) u := by
  intro tgt htg hc p e R s m args below meth c A cells slots Qf cx H locs ls hP hD hS hl
  obtain ⟨h1, h2, h3, h4⟩ := zchk_at hc ht
  rw [h2]
  refine lv_istore_n cx.1 cx.2.1 h1 rfl hl hn rfl (fun ls' hl2 => ?_)
  have := h tgt htg hc p e R s m args below meth c A cells slots Qf cx H locs ls' hP hD hS (zset_has hl' hf hl2)
  rw [h3 rfl] at this
  exact this
theorem g_istore {k : Nat} {x : Int32} (ht : (ztb M)[i]? = some (pc, .istore k, 2, a)) (hn : k < znL M) (hf : zfree lv k = true) (hl' : zset lv k (.int x) = lv') (h : ZGo G M d t K (i + 1) lv' st u) : ZGo G M d t K i lv (.int x :: st) u := by
  intro tgt htg hc p e R s m args below meth c A cells slots Qf cx H locs ls hP hD hS hl
  obtain ⟨h1, h2, h3, h4⟩ := zchk_at hc ht
  rw [h2]
  refine lv_istore cx.1 cx.2.1 h1 hl hn rfl (fun ls' hl2 => ?_)
  have := h tgt htg hc p e R s m args below meth c A cells slots Qf cx H locs ls' hP hD hS (zset_has hl' hf hl2)
  rw [h3 rfl] at this
  exact this
theorem g_iinc {k : Nat} {n : Int} {x v : Int32} (ht : (ztb M)[i]? = some (pc, .iinc k n, 3, a)) (hk : zlk lv k = some (.int x)) (hv : Int32.ofInt n = v) (hn : k < znL M) (hf : zfree lv k = true) (hl' : zset lv k (.int (x + v)) = lv') (h : ZGo G M d t K (i + 1) lv' st u) : ZGo G M d t K i lv st u := by
  intro tgt htg hc p e R s m args below meth c A cells slots Qf cx H locs ls hP hD hS hl
  obtain ⟨h1, h2, h3, h4⟩ := zchk_at hc ht
  rw [h2]
  subst hv
  have hm : (k, Value.int x) ∈ zlv G lv := List.mem_map.mpr ⟨(k, .int x), zlk_mem hk, rfl⟩
  obtain ⟨j, hj⟩ := List.getElem?_of_mem hm
  refine lv_iinc cx.1 cx.2.1 h1 hl hj rfl hn rfl (fun ls' hl2 => ?_)
  have := h tgt htg hc p e R s m args below meth c A cells slots Qf cx H locs ls' hP hD hS (zset_has (G := G) (v := .int (x + Int32.ofInt n)) hl' hf hl2)
  rw [h3 rfl] at this
  exact this
theorem zgo_pc (htg0 : True) (h : ZGo G M d t K i lv st u) : ZGo G M d t K i lv st u := h
theorem g_goto {off : Int} (ht : (ztb M)[i]? = some (pc, .goto off, 3, a)) (h : ZGo G M d t K a lv st u) : ZGo G M d t K i lv st u := by
  intro tgt htg hc p e R s m args below meth c A cells slots Qf cx H locs ls hP hD hS hl
  obtain ⟨h1, h2, h3, h4⟩ := zchk_at hc ht
  rw [h2]
  exact lv_goto cx.1 cx.2.1 h1 (h4 off rfl) (h tgt htg hc p e R s m args below meth c A cells slots Qf cx H locs ls hP hD hS hl)
theorem g_ifeq {x : Int32} {off : Int} (ht : (ztb M)[i]? = some (pc, .ifCond .eq off, 3, a)) (hT : x = 0 → ZGo G M d tA K a lv st u) (hF : ¬ x = 0 → ZGo G M d tB K (i + 1) lv st u) : ZGo G M d (if x = 0 then tA else tB) K i lv (.int x :: st) u := by
  intro tgt htg hc p e R s m args below meth c A cells slots Qf cx H locs ls hP hD hS hl
  obtain ⟨h1, h2, h3, h4⟩ := zchk_at hc ht
  rw [h2]
  refine lv_if_eq cx.1 cx.2.1 h1 (h4 off rfl) (fun hq => ?_) (fun hq => ?_)
  · rw [if_pos hq] at htg
    exact hT hq tgt htg hc p e R s m args below meth c A cells slots Qf cx H locs ls hP hD hS hl
  · rw [if_neg hq] at htg
    have := hF hq tgt htg hc p e R s m args below meth c A cells slots Qf cx H locs ls hP hD hS hl
    rw [h3 rfl] at this
    exact this
theorem g_ifne {x : Int32} {off : Int} (ht : (ztb M)[i]? = some (pc, .ifCond .ne off, 3, a)) (hT : ¬ x = 0 → ZGo G M d tB K a lv st u) (hF : x = 0 → ZGo G M d tA K (i + 1) lv st u) : ZGo G M d (if x = 0 then tA else tB) K i lv (.int x :: st) u := by
  intro tgt htg hc p e R s m args below meth c A cells slots Qf cx H locs ls hP hD hS hl
  obtain ⟨h1, h2, h3, h4⟩ := zchk_at hc ht
  rw [h2]
  refine lv_if_ne cx.1 cx.2.1 h1 (h4 off rfl) (fun hq => ?_) (fun hq => ?_)
  · rw [if_neg hq] at htg
    exact hT hq tgt htg hc p e R s m args below meth c A cells slots Qf cx H locs ls hP hD hS hl
  · rw [if_pos hq] at htg
    have := hF hq tgt htg hc p e R s m args below meth c A cells slots Qf cx H locs ls hP hD hS hl
    rw [h3 rfl] at this
    exact this
theorem g_iflt {x : Int32} {off : Int} (ht : (ztb M)[i]? = some (pc, .ifCond .lt off, 3, a)) (hT : x < 0 → ZGo G M d tA K a lv st u) (hF : ¬ x < 0 → ZGo G M d tB K (i + 1) lv st u) : ZGo G M d (if x < 0 then tA else tB) K i lv (.int x :: st) u := by
  intro tgt htg hc p e R s m args below meth c A cells slots Qf cx H locs ls hP hD hS hl
  obtain ⟨h1, h2, h3, h4⟩ := zchk_at hc ht
  rw [h2]
  refine lv_if_lt cx.1 cx.2.1 h1 (h4 off rfl) (fun hq => ?_) (fun hq => ?_)
  · rw [if_pos hq] at htg
    exact hT hq tgt htg hc p e R s m args below meth c A cells slots Qf cx H locs ls hP hD hS hl
  · rw [if_neg hq] at htg
    have := hF hq tgt htg hc p e R s m args below meth c A cells slots Qf cx H locs ls hP hD hS hl
    rw [h3 rfl] at this
    exact this
theorem g_ifge {x : Int32} {off : Int} (ht : (ztb M)[i]? = some (pc, .ifCond .ge off, 3, a)) (hT : 0 ≤ x → ZGo G M d tA K a lv st u) (hF : ¬ 0 ≤ x → ZGo G M d tB K (i + 1) lv st u) : ZGo G M d (if 0 ≤ x then tA else tB) K i lv (.int x :: st) u := by
  intro tgt htg hc p e R s m args below meth c A cells slots Qf cx H locs ls hP hD hS hl
  obtain ⟨h1, h2, h3, h4⟩ := zchk_at hc ht
  rw [h2]
  refine lv_if_ge cx.1 cx.2.1 h1 (h4 off rfl) (fun hq => ?_) (fun hq => ?_)
  · rw [if_pos hq] at htg
    exact hT hq tgt htg hc p e R s m args below meth c A cells slots Qf cx H locs ls hP hD hS hl
  · rw [if_neg hq] at htg
    have := hF hq tgt htg hc p e R s m args below meth c A cells slots Qf cx H locs ls hP hD hS hl
    rw [h3 rfl] at this
    exact this
theorem g_ifgt {x : Int32} {off : Int} (ht : (ztb M)[i]? = some (pc, .ifCond .gt off, 3, a)) (hT : 0 < x → ZGo G M d tA K a lv st u) (hF : ¬ 0 < x → ZGo G M d tB K (i + 1) lv st u) : ZGo G M d (if 0 < x then tA else tB) K i lv (.int x :: st) u := by
  intro tgt htg hc p e R s m args below meth c A cells slots Qf cx H locs ls hP hD hS hl
  obtain ⟨h1, h2, h3, h4⟩ := zchk_at hc ht
  rw [h2]
  refine lv_if_gt cx.1 cx.2.1 h1 (h4 off rfl) (fun hq => ?_) (fun hq => ?_)
  · rw [if_pos hq] at htg
    exact hT hq tgt htg hc p e R s m args below meth c A cells slots Qf cx H locs ls hP hD hS hl
  · rw [if_neg hq] at htg
    have := hF hq tgt htg hc p e R s m args below meth c A cells slots Qf cx H locs ls hP hD hS hl
    rw [h3 rfl] at this
    exact this
theorem g_ifle {x : Int32} {off : Int} (ht : (ztb M)[i]? = some (pc, .ifCond .le off, 3, a)) (hT : x ≤ 0 → ZGo G M d tA K a lv st u) (hF : ¬ x ≤ 0 → ZGo G M d tB K (i + 1) lv st u) : ZGo G M d (if x ≤ 0 then tA else tB) K i lv (.int x :: st) u := by
  intro tgt htg hc p e R s m args below meth c A cells slots Qf cx H locs ls hP hD hS hl
  obtain ⟨h1, h2, h3, h4⟩ := zchk_at hc ht
  rw [h2]
  refine lv_if_le cx.1 cx.2.1 h1 (h4 off rfl) (fun hq => ?_) (fun hq => ?_)
  · rw [if_pos hq] at htg
    exact hT hq tgt htg hc p e R s m args below meth c A cells slots Qf cx H locs ls hP hD hS hl
  · rw [if_neg hq] at htg
    have := hF hq tgt htg hc p e R s m args below meth c A cells slots Qf cx H locs ls hP hD hS hl
    rw [h3 rfl] at this
    exact this
theorem g_icmpeq {x y : Int32} {off : Int} (ht : (ztb M)[i]? = some (pc, .if_icmp .eq off, 3, a)) (hT : x = y → ZGo G M d tA K a lv st u) (hF : ¬ x = y → ZGo G M d tB K (i + 1) lv st u) : ZGo G M d (if x = y then tA else tB) K i lv (.int y :: .int x :: st) u := by
  intro tgt htg hc p e R s m args below meth c A cells slots Qf cx H locs ls hP hD hS hl
  obtain ⟨h1, h2, h3, h4⟩ := zchk_at hc ht
  rw [h2]
  refine lv_icmp_eq cx.1 cx.2.1 h1 (h4 off rfl) (fun hq => ?_) (fun hq => ?_)
  · rw [if_pos hq] at htg
    exact hT hq tgt htg hc p e R s m args below meth c A cells slots Qf cx H locs ls hP hD hS hl
  · rw [if_neg hq] at htg
    have := hF hq tgt htg hc p e R s m args below meth c A cells slots Qf cx H locs ls hP hD hS hl
    rw [h3 rfl] at this
    exact this
theorem g_icmpne {x y : Int32} {off : Int} (ht : (ztb M)[i]? = some (pc, .if_icmp .ne off, 3, a)) (hT : ¬ x = y → ZGo G M d tB K a lv st u) (hF : x = y → ZGo G M d tA K (i + 1) lv st u) : ZGo G M d (if x = y then tA else tB) K i lv (.int y :: .int x :: st) u := by
  intro tgt htg hc p e R s m args below meth c A cells slots Qf cx H locs ls hP hD hS hl
  obtain ⟨h1, h2, h3, h4⟩ := zchk_at hc ht
  rw [h2]
  refine lv_icmp_ne cx.1 cx.2.1 h1 (h4 off rfl) (fun hq => ?_) (fun hq => ?_)
  · rw [if_neg hq] at htg
    exact hT hq tgt htg hc p e R s m args below meth c A cells slots Qf cx H locs ls hP hD hS hl
  · rw [if_pos hq] at htg
    have := hF hq tgt htg hc p e R s m args below meth c A cells slots Qf cx H locs ls hP hD hS hl
    rw [h3 rfl] at this
    exact this
theorem g_icmplt {x y : Int32} {off : Int} (ht : (ztb M)[i]? = some (pc, .if_icmp .lt off, 3, a)) (hT : x < y → ZGo G M d tA K a lv st u) (hF : ¬ x < y → ZGo G M d tB K (i + 1) lv st u) : ZGo G M d (if x < y then tA else tB) K i lv (.int y :: .int x :: st) u := by
  intro tgt htg hc p e R s m args below meth c A cells slots Qf cx H locs ls hP hD hS hl
  obtain ⟨h1, h2, h3, h4⟩ := zchk_at hc ht
  rw [h2]
  refine lv_icmp_lt cx.1 cx.2.1 h1 (h4 off rfl) (fun hq => ?_) (fun hq => ?_)
  · rw [if_pos hq] at htg
    exact hT hq tgt htg hc p e R s m args below meth c A cells slots Qf cx H locs ls hP hD hS hl
  · rw [if_neg hq] at htg
    have := hF hq tgt htg hc p e R s m args below meth c A cells slots Qf cx H locs ls hP hD hS hl
    rw [h3 rfl] at this
    exact this
theorem g_icmpge {x y : Int32} {off : Int} (ht : (ztb M)[i]? = some (pc, .if_icmp .ge off, 3, a)) (hT : y ≤ x → ZGo G M d tA K a lv st u) (hF : ¬ y ≤ x → ZGo G M d tB K (i + 1) lv st u) : ZGo G M d (if y ≤ x then tA else tB) K i lv (.int y :: .int x :: st) u := by
  intro tgt htg hc p e R s m args below meth c A cells slots Qf cx H locs ls hP hD hS hl
  obtain ⟨h1, h2, h3, h4⟩ := zchk_at hc ht
  rw [h2]
  refine lv_icmp_ge cx.1 cx.2.1 h1 (h4 off rfl) (fun hq => ?_) (fun hq => ?_)
  · rw [if_pos hq] at htg
    exact hT hq tgt htg hc p e R s m args below meth c A cells slots Qf cx H locs ls hP hD hS hl
  · rw [if_neg hq] at htg
    have := hF hq tgt htg hc p e R s m args below meth c A cells slots Qf cx H locs ls hP hD hS hl
    rw [h3 rfl] at this
    exact this
theorem g_icmpgt {x y : Int32} {off : Int} (ht : (ztb M)[i]? = some (pc, .if_icmp .gt off, 3, a)) (hT : y < x → ZGo G M d tA K a lv st u) (hF : ¬ y < x → ZGo G M d tB K (i + 1) lv st u) : ZGo G M d (if y < x then tA else tB) K i lv (.int y :: .int x :: st) u := by
  intro tgt htg hc p e R s m args below meth c A cells slots Qf cx H locs ls hP hD hS hl
  obtain ⟨h1, h2, h3, h4⟩ := zchk_at hc ht
  rw [h2]
  refine lv_icmp_gt cx.1 cx.2.1 h1 (h4 off rfl) (fun hq => ?_) (fun hq => ?_)
  · rw [if_pos hq] at htg
    exact hT hq tgt htg hc p e R s m args below meth c A cells slots Qf cx H locs ls hP hD hS hl
  · rw [if_neg hq] at htg
    have := hF hq tgt htg hc p e R s m args below meth c A cells slots Qf cx H locs ls hP hD hS hl
    rw [h3 rfl] at this
    exact this
theorem g_icmple {x y : Int32} {off : Int} (ht : (ztb M)[i]? = some (pc, .if_icmp .le off, 3, a)) (hT : x ≤ y → ZGo G M d tA K a lv st u) (hF : ¬ x ≤ y → ZGo G M d tB K (i + 1) lv st u) : ZGo G M d (if x ≤ y then tA else tB) K i lv (.int y :: .int x :: st) u := by
  intro tgt htg hc p e R s m args below meth c A cells slots Qf cx H locs ls hP hD hS hl
  obtain ⟨h1, h2, h3, h4⟩ := zchk_at hc ht
  rw [h2]
  refine lv_icmp_le cx.1 cx.2.1 h1 (h4 off rfl) (fun hq => ?_) (fun hq => ?_)
  · rw [if_pos hq] at htg
    exact hT hq tgt htg hc p e R s m args below meth c A cells slots Qf cx H locs ls hP hD hS hl
  · rw [if_neg hq] at htg
    have := hF hq tgt htg hc p e R s m args below meth c A cells slots Qf cx H locs ls hP hD hS hl
    rw [h3 rfl] at this
    exact this
theorem g_tswIn {dflt lo hi : Int} {offs : Array Int} {x v : Int32} {off : Int} (ht : (ztb M)[i]? = some (pc, .tableswitch dflt lo hi offs, len, a)) (hv : x = v) (h1 : ¬ v.toInt < lo) (h2 : ¬ hi < v.toInt) (ho : offs[(v.toInt - lo).toNat]? = some off) (b : Nat) (hb : (pc : Int) + off = (zpc M b : Int)) (h : ZGo G M d t K b lv st u) : ZGo G M d t K i lv (.int x :: st) u := by
  intro tgt htg hc p e R s m args below meth c A cells slots Qf cx H locs ls hP hD hS hl
  obtain ⟨g1, g2, g3, g4⟩ := zchk_at hc ht
  rw [g2]
  subst hv
  exact lv_tableIn cx.1 cx.2.1 g1 h1 h2 ho hb (h tgt htg hc p e R s m args below meth c A cells slots Qf cx H locs ls hP hD hS hl)
theorem g_tswOut {dflt lo hi : Int} {offs : Array Int} {x : Int32} (ht : (ztb M)[i]? = some (pc, .tableswitch dflt lo hi offs, len, a)) (hx : x.toInt < lo ∨ hi < x.toInt) (b : Nat) (hb : (pc : Int) + dflt = (zpc M b : Int)) (h : ZGo G M d t K b lv st u) : ZGo G M d t K i lv (.int x :: st) u := by
  intro tgt htg hc p e R s m args below meth c A cells slots Qf cx H locs ls hP hD hS hl
  obtain ⟨g1, g2, g3, g4⟩ := zchk_at hc ht
  rw [g2]
  exact lv_tableOut cx.1 cx.2.1 g1 hx hb (h tgt htg hc p e R s m args below meth c A cells slots Qf cx H locs ls hP hD hS hl)
theorem g_lsw {dflt : Int} {ps : Array (Int × Int)} {x : Int32} {off : Int} (ht : (ztb M)[i]? = some (pc, .lookupswitch dflt ps, len, a)) (hp : (ps.toList.zip (ps.toList.drop 1)).all (fun (a, next) => a.1 < next.1) = true) (ho : Op.lookupswitch.offset ps.toList dflt x.toInt = off) (b : Nat) (hb : (pc : Int) + off = (zpc M b : Int)) (h : ZGo G M d t K b lv st u) : ZGo G M d t K i lv (.int x :: st) u := by
  intro tgt htg hc p e R s m args below meth c A cells slots Qf cx H locs ls hP hD hS hl
  obtain ⟨g1, g2, g3, g4⟩ := zchk_at hc ht
  rw [g2]
  exact lv_lookup cx.1 cx.2.1 g1 hp ho hb (h tgt htg hc p e R s m args below meth c A cells slots Qf cx H locs ls hP hD hS hl)
theorem g_lcmp {x y : Int64} (ht : (ztb M)[i]? = some (pc, .lcmp, 1, a)) (h : ZGo G M d t K (i + 1) lv (.int (lg_cmp x y) :: st) u) : ZGo G M d t K i lv (.long y :: .long x :: st) u := by
  refine zgo_op (st := .long y :: .long x :: st) (st' := .int (lg_cmp x y) :: st) ht rfl (fun p e R s m args below meth c H locs cells slots Qf ls hx hb hown hAW hd hl k => ?_) h
  exact W.lcmp hx hb hd k
/-! fields and rows -/
def zfa (u : ZSt) (o k : Nat) : Option Nat → Value
  | some q => .ref q
  | none => .int (u.1 (100 * o + k))
theorem g_get {o ci k idx : Nat} {fs : List (Option Nat)} {f : Option Nat} (ht : (ztb M)[i]? = some (pc, .getfield idx, 3, a)) (hw : zFL (zy M).cls idx ci k) (ho : zsch[o]? = some (.inl (ci, fs))) (hf : fs[k]? = some f) (h : ZGo G M d t K (i + 1) lv (zfa u o k f :: st) u) : ZGo G M d t K i lv (.ref o :: st) u := by
  intro tgt htg hc p e R s m args below meth c A cells slots Qf cx H locs ls hP hD hS hl
  obtain ⟨g1, g2, g3, g4⟩ := zchk_at hc ht
  rw [g2]
  obtain ⟨c1, c2, c3, c4, c5, c6, c7, c8, c9, c10⟩ := id cx
  obtain ⟨w1, w2, w3, w4⟩ := hw
  have hv : (fs.mapIdx (fun j f => zfv (zga G) u o j f))[k]? = some (zcv (zga G) (zfa u o k f)) := by
    rw [List.getElem?_mapIdx, hf]
    cases f <;> rfl
  have kk := h tgt htg hc p e R s m args below meth c A cells slots Qf cx H locs ls hP hD hS hl
  rw [g3 rfl] at kk
  rcases w4 with w4 | ⟨host, w4⟩
  · exact va_get (D := zgD G) (ws := zwg G u) (ci := ci) (C := (zcls ci).1) (T := (zcls ci).2.1) (N := (zcls ci).2.2) c1 c2 (c5.cls w1) (fun _ h => h) c4 c6 hP o (zw_obj ho) (zcl_at ci w1) k w2 (c5.at w4 rfl) (fun x h => by rw [w3] at h; exact h) hv g1 kk
  · exact va_getN (D := zgD G) (ws := zwg G u) (ci := ci) (C := (zcls ci).1) (T := (zcls ci).2.1) (N := (zcls ci).2.2) c1 c2 (c5.cls w1) (fun _ h => h) c4 c6 hP o (zw_obj ho) (zcl_at ci w1) k w2 (c5.at w4 rfl) (fun x h => by rw [w3] at h; exact h) hv g1 kk
theorem g_getR {o ci k idx q : Nat} {fs : List (Option Nat)} (ht : (ztb M)[i]? = some (pc, .getfield idx, 3, a)) (hw : zFL (zy M).cls idx ci k) (ho : zsch[o]? = some (.inl (ci, fs))) (hf : fs[k]? = some (some q)) (h : ZGo G M d t K (i + 1) lv (.ref q :: st) u) : ZGo G M d t K i lv (.ref o :: st) u := g_get ht hw ho hf h
theorem g_getI {o ci k idx j : Nat} {fs : List (Option Nat)} (ht : (ztb M)[i]? = some (pc, .getfield idx, 3, a)) (hw : zFL (zy M).cls idx ci k) (ho : zsch[o]? = some (.inl (ci, fs))) (hf : fs[k]? = some none) (hj : 100 * o + k = j) (h : ZGo G M d t K (i + 1) lv (.int (u.1 j) :: st) u) : ZGo G M d t K i lv (.ref o :: st) u := by
  subst hj
  exact g_get ht hw ho hf h
theorem g_put {o ci k idx : Nat} {fs : List (Option Nat)} {x : Int32} (ht : (ztb M)[i]? = some (pc, .putfield idx, 3, a)) (hw : zFL (zy M).cls idx ci k) (ho : zsch[o]? = some (.inl (ci, fs))) (hf : fs[k]? = some none) (hfin : ((zcls ci).2.1 k).2.2.2 = false) (hty : zty ci k = .int ∨ (zty ci k = .boolean ∧ (x = 0 ∨ x = 1))) {j : Nat} (hj : 100 * o + k = j) (h : ZGo G M d t K (i + 1) lv st (zs u j x)) : ZGo G M d t K i lv (.int x :: .ref o :: st) u := by
  subst hj
  intro tgt htg hc p e R s m args below meth c A cells slots Qf cx H locs ls hP hD hS hl
  obtain ⟨g1, g2, g3, g4⟩ := zchk_at hc ht
  rw [g2]
  obtain ⟨c1, c2, c3, c4, c5, c6, c7, c8, c9, c10⟩ := id cx
  obtain ⟨w1, w2, w3, w4⟩ := hw
  have hl2 : k < (fs.mapIdx (fun j f => zfv (zga G) u o j f)).length := by
    have := (List.getElem?_eq_some_iff.mp hf).1
    simpa using this
  have hd := zcl_ty ci w1 k w2
  have hnar : narrow (zty ci k) (.int x) = .int x ∧ fits (zty ci k) (.int x) = true := by
    rcases hty with hty | ⟨hty, rfl | rfl⟩ <;> rw [hty] <;> exact ⟨rfl, rfl⟩
  have kk : ∀ (H1 : Heap) (locs1 : List Loc), va_P (zgD G) zcl ((zwg G u).set o (zga G o, .inr (ci, (fs.mapIdx (fun j f => zfv (zga G) u o j f)).set k (.int x)))) H1 → va_D A ((zwg G u).set o (zga G o, .inr (ci, (fs.mapIdx (fun j f => zfv (zga G) u o j f)).set k (.int x)))) → va_S A s.heap H1 locs1 → W p (zgl G) e R s m args below meth c H1 locs1 cells slots Qf (F0 m (pc + 3) ls (zst G st)) := by
    intro H1 locs1 hP1 hD1 hS1
    rw [zwg, zw_put zsch_len ho hf] at hP1 hD1
    have kk := h tgt htg hc p e R s m args below meth c A cells slots Qf cx H1 locs1 ls hP1 hD1 hS1 hl
    rw [g3 rfl] at kk
    exact kk
  rcases w4 with w4 | ⟨host, w4⟩
  · exact va_put (D := zgD G) (ws := zwg G u) (ci := ci) (C := (zcls ci).1) (T := (zcls ci).2.1) (N := (zcls ci).2.2) c1 c2 (c5.cls w1) (fun _ h => h) (zty ci) (zcl_ty ci w1) (zcl_nm ci w1) c4 c6 hP hD hS o (zw_obj ho) (zcl_at ci w1) k w2 (c5.at w4 rfl) (fun x h => by rw [w3] at h; exact h) hfin hd hnar.1 hnar.2 hl2 g1 kk
  · exact va_putN (D := zgD G) (ws := zwg G u) (ci := ci) (C := (zcls ci).1) (T := (zcls ci).2.1) (N := (zcls ci).2.2) c1 c2 (c5.cls w1) (fun _ h => h) (zty ci) (zcl_ty ci w1) (zcl_nm ci w1) c4 c6 hP hD hS o (zw_obj ho) (zcl_at ci w1) k w2 (c5.at w4 rfl) (fun x h => by rw [w3] at h; exact h) hfin hd hnar.1 hnar.2 hl2 g1 kk
theorem g_iald {k n : Nat} {x : Int32} (ht : (ztb M)[i]? = some (pc, .iaload, 1, a)) (hk : zsch[k]? = some (.inr (0, n))) (h : zin x n → ZGo G M d t K (i + 1) lv (.int (u.2.1 k x.toNatClampNeg) :: st) u) : ZGo G M d (if zin x n then t else none) K i lv (.int x :: .ref k :: st) u := by
  intro tgt htg hc p e R s m args below meth c A cells slots Qf cx H locs ls hP hD hS hl
  by_cases hq : zin x n
  · rw [if_pos hq] at htg
    obtain ⟨g1, g2, g3, g4⟩ := zchk_at hc ht
    rw [g2]
    obtain ⟨c1, c2, c3, c4, c5, c6, c7, c8, c9, c10⟩ := id cx
    have kk := h hq tgt htg hc p e R s m args below meth c A cells slots Qf cx H locs ls hP hD hS hl
    rw [g3 rfl] at kk
    exact va_iald c1 c2 c6 hP k 0 (zw_int hk) rfl hq g1 kk
  · rw [if_neg hq] at htg
    cases htg
theorem g_lald {k n : Nat} {x : Int32} (ht : (ztb M)[i]? = some (pc, .laload, 1, a)) (hk : zsch[k]? = some (.inr (1, n))) (h : zin x n → ZGo G M d t K (i + 1) lv (.long (u.2.2 k x.toNatClampNeg) :: st) u) : ZGo G M d (if zin x n then t else none) K i lv (.int x :: .ref k :: st) u := by
  intro tgt htg hc p e R s m args below meth c A cells slots Qf cx H locs ls hP hD hS hl
  by_cases hq : zin x n
  · rw [if_pos hq] at htg
    obtain ⟨g1, g2, g3, g4⟩ := zchk_at hc ht
    rw [g2]
    obtain ⟨c1, c2, c3, c4, c5, c6, c7, c8, c9, c10⟩ := id cx
    have kk := h hq tgt htg hc p e R s m args below meth c A cells slots Qf cx H locs ls hP hD hS hl
    rw [g3 rfl] at kk
    exact va_lald c1 c2 c6 hP k 1 (zw_long hk) rfl hq g1 kk
  · rw [if_neg hq] at htg
    cases htg
theorem g_bald {k n : Nat} {x : Int32} (ht : (ztb M)[i]? = some (pc, .baload, 1, a)) (hk : zsch[k]? = some (.inr (2, n))) (h : zin x n → ZGo G M d t K (i + 1) lv (.int (u.2.1 k x.toNatClampNeg) :: st) u) : ZGo G M d (if zin x n then t else none) K i lv (.int x :: .ref k :: st) u := by
  intro tgt htg hc p e R s m args below meth c A cells slots Qf cx H locs ls hP hD hS hl
  by_cases hq : zin x n
  · rw [if_pos hq] at htg
    obtain ⟨g1, g2, g3, g4⟩ := zchk_at hc ht
    rw [g2]
    obtain ⟨c1, c2, c3, c4, c5, c6, c7, c8, c9, c10⟩ := id cx
    have kk := h hq tgt htg hc p e R s m args below meth c A cells slots Qf cx H locs ls hP hD hS hl
    rw [g3 rfl] at kk
    exact va_zald c1 c2 c6 hP k 2 (zw_bool hk) rfl hq g1 kk
  · rw [if_neg hq] at htg
    cases htg
theorem g_iast {k n : Nat} {x : Int32} {y : Int32} (ht : (ztb M)[i]? = some (pc, .iastore, 1, a)) (hk : zsch[k]? = some (.inr (0, n))) (h : zin x n → ZGo G M d t K (i + 1) lv st (za u k x.toNatClampNeg y)) : ZGo G M d (if zin x n then t else none) K i lv (.int y :: .int x :: .ref k :: st) u := by
  intro tgt htg hc p e0 R s m args below meth c A cells slots Qf cx H locs ls hP hD hS hl
  by_cases hq : zin x n
  · rw [if_pos hq] at htg
    obtain ⟨g1, g2, g3, g4⟩ := zchk_at hc ht
    rw [g2]
    obtain ⟨c1, c2, c3, c4, c5, c6, c7, c8, c9, c10⟩ := id cx
    refine va_iast c1 c2 c6 hP hD hS k 0 (zw_int hk) rfl hq g1 (fun H1 locs1 hP1 hD1 hS1 => ?_)
    have e : (zwg G u).set k (zga G k, .inl (zgc G 0, n, .inl (upd (u.2.1 k) x.toNatClampNeg y))) = zwg G (za u k x.toNatClampNeg y) := by
      refine zw_putA hk ?_ rfl ?_
      · simp [zE, za, zl]
      · intro j hj
        simp [za, zl, hj]
    rw [e] at hP1 hD1
    have kk := h hq tgt htg hc p e0 R s m args below meth c A cells slots Qf cx H1 locs1 ls hP1 hD1 hS1 hl
    rw [g3 rfl] at kk
    exact kk
  · rw [if_neg hq] at htg
    cases htg
theorem g_last {k n : Nat} {x : Int32} {y : Int64} (ht : (ztb M)[i]? = some (pc, .lastore, 1, a)) (hk : zsch[k]? = some (.inr (1, n))) (h : zin x n → ZGo G M d t K (i + 1) lv st (zl u k x.toNatClampNeg y)) : ZGo G M d (if zin x n then t else none) K i lv (.long y :: .int x :: .ref k :: st) u := by
  intro tgt htg hc p e0 R s m args below meth c A cells slots Qf cx H locs ls hP hD hS hl
  by_cases hq : zin x n
  · rw [if_pos hq] at htg
    obtain ⟨g1, g2, g3, g4⟩ := zchk_at hc ht
    rw [g2]
    obtain ⟨c1, c2, c3, c4, c5, c6, c7, c8, c9, c10⟩ := id cx
    refine va_last c1 c2 c6 hP hD hS k 1 (zw_long hk) rfl hq g1 (fun H1 locs1 hP1 hD1 hS1 => ?_)
    have e : (zwg G u).set k (zga G k, .inl (zgc G 1, n, .inr (.inl (vp_updL (u.2.2 k) x.toNatClampNeg y)))) = zwg G (zl u k x.toNatClampNeg y) := by
      refine zw_putA hk ?_ rfl ?_
      · simp [zE, za, zl]
      · intro j hj
        simp [za, zl, hj]
    rw [e] at hP1 hD1
    have kk := h hq tgt htg hc p e0 R s m args below meth c A cells slots Qf cx H1 locs1 ls hP1 hD1 hS1 hl
    rw [g3 rfl] at kk
    exact kk
  · rw [if_neg hq] at htg
    cases htg
theorem g_bast {k n : Nat} {x : Int32} {y : Int32} (ht : (ztb M)[i]? = some (pc, .bastore, 1, a)) (hk : zsch[k]? = some (.inr (2, n))) (hy : y = 0 ∨ y = 1) (h : zin x n → ZGo G M d t K (i + 1) lv st (za u k x.toNatClampNeg y)) : ZGo G M d (if zin x n then t else none) K i lv (.int y :: .int x :: .ref k :: st) u := by
  intro tgt htg hc p e0 R s m args below meth c A cells slots Qf cx H locs ls hP hD hS hl
  by_cases hq : zin x n
  · rw [if_pos hq] at htg
    obtain ⟨g1, g2, g3, g4⟩ := zchk_at hc ht
    rw [g2]
    obtain ⟨c1, c2, c3, c4, c5, c6, c7, c8, c9, c10⟩ := id cx
    refine va_zast c1 c2 c6 hP hD hS k 2 (zw_bool hk) rfl hq g1 (fun H1 locs1 hP1 hD1 hS1 => ?_)
    rw [show vp_nar .boolean y = y by rcases hy with rfl | rfl <;> rfl] at hP1 hD1
    have e : (zwg G u).set k (zga G k, .inl (zgc G 2, n, .inl (upd (u.2.1 k) x.toNatClampNeg y))) = zwg G (za u k x.toNatClampNeg y) := by
      refine zw_putA hk ?_ rfl ?_
      · simp [zE, za, zl]
      · intro j hj
        simp [za, zl, hj]
    rw [e] at hP1 hD1
    have kk := h hq tgt htg hc p e0 R s m args below meth c A cells slots Qf cx H1 locs1 ls hP1 hD1 hS1 hl
    rw [g3 rfl] at kk
    exact kk
  · rw [if_neg hq] at htg
    cases htg
theorem g_sldB {x : Int32} (ht : (ztb M)[i]? = some (pc, .iaload, 1, a)) (h : zin x 32 → ZGo G M d t K (i + 1) lv (.int (zBOD x.toNatClampNeg) :: st) u) : ZGo G M d (if zin x 32 then t else none) K i lv (.int x :: .ref 100 :: st) u := by
  intro tgt htg hc p e R s m args below meth c A cells slots Qf cx H locs ls hP hD hS hl
  by_cases hq : zin x 32
  · rw [if_pos hq] at htg
    obtain ⟨g1, g2, g3, g4⟩ := zchk_at hc ht
    rw [g2]
    obtain ⟨c1, c2, c3, c4, c5, c6, c7, c8, c9, c10⟩ := id cx
    have kk := h hq tgt htg hc p e R s m args below meth c A cells slots Qf cx H locs ls hP hD hS hl
    rw [g3 rfl] at kk
    exact va_sld c1 c2 c7.1.1 c7.1.2.1 c7.1.2.2 hS hq g1 kk
  · rw [if_neg hq] at htg
    cases htg
theorem g_sldA {x : Int32} (ht : (ztb M)[i]? = some (pc, .iaload, 1, a)) (h : zin x 8 → ZGo G M d t K (i + 1) lv (.int (zABV x.toNatClampNeg) :: st) u) : ZGo G M d (if zin x 8 then t else none) K i lv (.int x :: .ref 101 :: st) u := by
  intro tgt htg hc p e R s m args below meth c A cells slots Qf cx H locs ls hP hD hS hl
  by_cases hq : zin x 8
  · rw [if_pos hq] at htg
    obtain ⟨g1, g2, g3, g4⟩ := zchk_at hc ht
    rw [g2]
    obtain ⟨c1, c2, c3, c4, c5, c6, c7, c8, c9, c10⟩ := id cx
    have kk := h hq tgt htg hc p e R s m args below meth c A cells slots Qf cx H locs ls hP hD hS hl
    rw [g3 rfl] at kk
    exact va_sld c1 c2 c7.2.1.1 c7.2.1.2.1 c7.2.1.2.2 hS hq g1 kk
  · rw [if_neg hq] at htg
    cases htg
theorem g_sldX {x : Int32} (ht : (ztb M)[i]? = some (pc, .iaload, 1, a)) (h : zin x (zgL G) → ZGo G M d t K (i + 1) lv (.int (zgx G x.toNatClampNeg) :: st) u) : ZGo G M d (if zin x (zgL G) then t else none) K i lv (.int x :: .ref 102 :: st) u := by
  intro tgt htg hc p e R s m args below meth c A cells slots Qf cx H locs ls hP hD hS hl
  by_cases hq : zin x (zgL G)
  · rw [if_pos hq] at htg
    obtain ⟨g1, g2, g3, g4⟩ := zchk_at hc ht
    rw [g2]
    obtain ⟨c1, c2, c3, c4, c5, c6, c7, c8, c9, c10⟩ := id cx
    have kk := h hq tgt htg hc p e R s m args below meth c A cells slots Qf cx H locs ls hP hD hS hl
    rw [g3 rfl] at kk
    exact va_sld c1 c2 c7.2.2.1.1 c7.2.2.1.2.1 c7.2.2.1.2.2 hS hq g1 kk
  · rw [if_neg hq] at htg
    cases htg
theorem g_slenX (ht : (ztb M)[i]? = some (pc, .arraylength, 1, a)) (h : ZGo G M d t K (i + 1) lv (.int (Int32.ofNat (zgL G)) :: st) u) : ZGo G M d t K i lv (.ref 102 :: st) u := by
  intro tgt htg hc p e R s m args below meth c A cells slots Qf cx H locs ls hP hD hS hl
  obtain ⟨g1, g2, g3, g4⟩ := zchk_at hc ht
  rw [g2]
  obtain ⟨c1, c2, c3, c4, c5, c6, c7, c8, c9, c10⟩ := id cx
  have kk := h tgt htg hc p e R s m args below meth c A cells slots Qf cx H locs ls hP hD hS hl
  rw [g3 rfl] at kk
  exact va_slen c1 c2 c7.2.2.1.1 c7.2.2.1.2.1 c7.2.2.1.2.2 hS g1 kk
theorem g_slenB (ht : (ztb M)[i]? = some (pc, .arraylength, 1, a)) (h : ZGo G M d t K (i + 1) lv (.int (Int32.ofNat 32) :: st) u) : ZGo G M d t K i lv (.ref 100 :: st) u := by
  intro tgt htg hc p e R s m args below meth c A cells slots Qf cx H locs ls hP hD hS hl
  obtain ⟨g1, g2, g3, g4⟩ := zchk_at hc ht
  rw [g2]
  obtain ⟨c1, c2, c3, c4, c5, c6, c7, c8, c9, c10⟩ := id cx
  have kk := h tgt htg hc p e R s m args below meth c A cells slots Qf cx H locs ls hP hD hS hl
  rw [g3 rfl] at kk
  exact va_slen c1 c2 c7.1.1 c7.1.2.1 c7.1.2.2 hS g1 kk
theorem g_slenA (ht : (ztb M)[i]? = some (pc, .arraylength, 1, a)) (h : ZGo G M d t K (i + 1) lv (.int (Int32.ofNat 8) :: st) u) : ZGo G M d t K i lv (.ref 101 :: st) u := by
  intro tgt htg hc p e R s m args below meth c A cells slots Qf cx H locs ls hP hD hS hl
  obtain ⟨g1, g2, g3, g4⟩ := zchk_at hc ht
  rw [g2]
  obtain ⟨c1, c2, c3, c4, c5, c6, c7, c8, c9, c10⟩ := id cx
  have kk := h tgt htg hc p e R s m args below meth c A cells slots Qf cx H locs ls hP hD hS hl
  rw [g3 rfl] at kk
  exact va_slen c1 c2 c7.2.1.1 c7.2.1.2.1 c7.2.1.2.2 hS g1 kk
theorem g_alen {k n : Nat} {v : Int32} (ht : (ztb M)[i]? = some (pc, .arraylength, 1, a)) (hk : zsch[k]? = some (.inr (0, n))) (hv : Int32.ofNat n = v) (h : ZGo G M d t K (i + 1) lv (.int v :: st) u) : ZGo G M d t K i lv (.ref k :: st) u := by
  intro tgt htg hc p e R s m args below meth c A cells slots Qf cx H locs ls hP hD hS hl
  obtain ⟨g1, g2, g3, g4⟩ := zchk_at hc ht
  rw [g2]
  obtain ⟨c1, c2, c3, c4, c5, c6, c7, c8, c9, c10⟩ := id cx
  have kk := h tgt htg hc p e R s m args below meth c A cells slots Qf cx H locs ls hP hD hS hl
  rw [g3 rfl] at kk
  exact va_alen c1 c2 c6 hP k 0 (zw_int hk) rfl hv g1 kk
theorem g_getsB {idx : Nat} (ht : (ztb M)[i]? = some (pc, .getstatic idx, 3, a)) (hw : Cond.fieldLink (zy M).cls idx RX8 "BODIES" "[I" ∈ lw_tbl) (h : ZGo G M d t K (i + 1) lv (.ref 100 :: st) u) : ZGo G M d t K i lv st u := by
  intro tgt htg hc p e R s m args below meth c A cells slots Qf cx H locs ls hP hD hS hl
  obtain ⟨g1, g2, g3, g4⟩ := zchk_at hc ht
  rw [g2]
  obtain ⟨c1, c2, c3, c4, c5, c6, c7, c8, c9, c10⟩ := id cx
  have kk := h tgt htg hc p e R s m args below meth c A cells slots Qf cx H locs ls hP hD hS hl
  rw [g3 rfl] at kk
  exact va_gets c1 c2 c7.2.2.2.1 hS c4 (c5.at hw rfl) (fun _ h => h) g1 kk
theorem g_getsA {idx : Nat} (ht : (ztb M)[i]? = some (pc, .getstatic idx, 3, a)) (hw : Cond.fieldLink (zy M).cls idx RX8 "ABOVE" "[I" ∈ lw_tbl) (h : ZGo G M d t K (i + 1) lv (.ref 101 :: st) u) : ZGo G M d t K i lv st u := by
  intro tgt htg hc p e R s m args below meth c A cells slots Qf cx H locs ls hP hD hS hl
  obtain ⟨g1, g2, g3, g4⟩ := zchk_at hc ht
  rw [g2]
  obtain ⟨c1, c2, c3, c4, c5, c6, c7, c8, c9, c10⟩ := id cx
  have kk := h tgt htg hc p e R s m args below meth c A cells slots Qf cx H locs ls hP hD hS hl
  rw [g3 rfl] at kk
  exact va_gets c1 c2 c7.2.2.2.2 hS c4 (c5.at hw rfl) (fun _ h => h) g1 kk
/-! ends -/
theorem g_iret {r : Int32} {x : β} (ht : (ztb M)[i]? = some (pc, .ireturn, 1, a)) (hr : zrt M = some .int ∨ (zrt M = some .boolean ∧ (r = 0 ∨ r = 1))) (hK : K x = some (.int r, u)) : ZGo G M d (some x) K i lv [.int r] u := by
  intro tgt htg hc p e R s m args below meth c A cells slots Qf cx H locs ls hP hD hS hl
  rw [Option.bind_some, hK] at htg
  cases htg
  obtain ⟨g1, g2, g3, g4⟩ := zchk_at hc ht
  rw [g2]
  exact cx.2.2.2.2.2.2.2.2.2 pc H locs ls ⟨g1, hr⟩ hP hD hS
theorem g_lret {r : Int64} {x : β} (ht : (ztb M)[i]? = some (pc, .lreturn, 1, a)) (hr : zrt M = some .long) (hK : K x = some (.long r, u)) : ZGo G M d (some x) K i lv [.long r] u := by
  intro tgt htg hc p e R s m args below meth c A cells slots Qf cx H locs ls hP hD hS hl
  rw [Option.bind_some, hK] at htg
  cases htg
  obtain ⟨g1, g2, g3, g4⟩ := zchk_at hc ht
  rw [g2]
  exact cx.2.2.2.2.2.2.2.2.2 pc H locs ls ⟨g1, hr⟩ hP hD hS
theorem g_vret {x : β} (ht : (ztb M)[i]? = some (pc, .return_, 1, a)) (hr : zrt M = none) (hK : K x = some (.null, u)) : ZGo G M d (some x) K i lv [] u := by
  intro tgt htg hc p e R s m args below meth c A cells slots Qf cx H locs ls hP hD hS hl
  rw [Option.bind_some, hK] at htg
  cases htg
  obtain ⟨g1, g2, g3, g4⟩ := zchk_at hc ht
  rw [g2]
  exact cx.2.2.2.2.2.2.2.2.2 pc H locs ls ⟨g1, hr⟩ hP hD hS
end ZROWS
end
section
/-! a method's contract over numbers, and calls -/
def zroom (d : Nat) : Room := { frames := d, cells := 0, slots := 0, locals := 64 * d }
def zEnt (G : ZG) (u : ZSt) (sz : Nat) (U : State) : Prop := U.heap.size = sz ∧ va_P (zgD G) zcl (zwg G u) U.heap ∧ va_K (zgD G) zcl (ztys (zgc G)) U ∧ va_D (fun _ => True) (zwg G u) ∧ zAW U ∧ zSt G (zA G sz) U U.heap
def zQ (G : ZG) (ret : Option FieldType) (tgt : Value × ZSt) (sz : Nat) : Array Value → State → Outcome → State → Prop := match ret with
  | none => va_Qv (fun u' : ZSt => tgt = (.null, u')) (fun u' t => va_P (zgD G) zcl (zwg G u') t.heap) (zA G sz)
  | some .long => va_Ql (fun (r : Int64) (u' : ZSt) => tgt = (.long r, u')) (fun u' t => va_P (zgD G) zcl (zwg G u') t.heap) (zA G sz)
  | some ty => va_Qi (fun (r : Int32) (u' : ZSt) => tgt = (.int r, u') ∧ (ty = .boolean → r = 0 ∨ r = 1)) (fun u' t => va_P (zgD G) zcl (zwg G u') t.heap) (zA G sz)
def ZSpec (G : ZG) (M : ZM) (d : Nat) (as : List Value) (u : ZSt) (tgt : Value × ZSt) : Prop :=
  ∀ sz : Nat, Met (zgl G) (zy M) [Cond.code (zy M) (zcc M) (znL M) (zrt M)] (zroom d) (va_Pc (zst G as) (zEnt G u sz)) (zQ G (zrt M) tgt sz) 0 0 (zA G sz)
theorem lg_sl_cv (G : ZG) (as : List Value) : (lg_sl (zst G as)).length = (lg_sl as).length := by
  induction as with
  | nil => rfl
  | cons v vs ih =>
    simp only [lg_sl, zst, List.map_cons, List.flatMap_cons, List.length_append, zcv_cat] at ih ⊢
    rw [ih]
    split <;> rfl
theorem lv_args_cv (G : ZG) : ∀ (as : List Value) (i : Nat), lv_args i (zst G as) = zlv G (lv_args i as)
  | [], _ => rfl
  | v :: vs, i => by
    simp only [zst, List.map_cons, lv_args, zcv_cat, zlv]
    rw [show List.map (zcv (zga G)) vs = zst G vs from rfl, lv_args_cv G vs]
    rfl
theorem zroom_eq (ws : List Cond) (d : Nat) : (headSpec ws (zroom d)).room = zroom d := rfl
set_option maxHeartbeats 1000000 in
theorem ZSpec.of {G : ZG} {M : ZM} {d : Nat} {as : List Value} {u : ZSt} {tgt : Value × ZSt} (hc : zchk M = true) (hn : (lg_sl as).length ≤ znL M) (h : ZW G M d tgt 0 (lv_args 0 as) [] u) : ZSpec G M d as u tgt := by
  intro sz
  have hc' := hc
  simp only [zchk, Bool.and_eq_true, beq_iff_eq] at hc'
  obtain ⟨⟨⟨-, hpc0⟩, hpl⟩, -⟩ := hc'
  refine Met.ofW (cc := zcc M) (maxL := znL M) (ret := zrt M) hpl rfl ?_
  intro p e s m args below meth c s₁ B hml hv
  obtain ⟨rfl, hsz, hP, hK, hD0, hAW, hSt⟩ := hv
  subst hsz
  have hx := B.exec
  have hb := B.bytes
  have hr := B.returns
  have hown : s.vm.findClass (zy M).cls = some m.cls := findClass_of_methodNamed B.named
  have hlocks := B.notSynchronized
  have hD : va_D (zA G s.heap.size) (zwg G u) := zA_D hD0
  have hA : ∀ q : Nat, s.heap.size ≤ q → zA G s.heap.size q := fun q h => Or.inr h
  have hS : va_S (zA G s.heap.size) s.heap s.heap [] := va_S.rf
  have hl := lv_entry (zst G as) (n := znL M) (by rw [lg_sl_cv]; exact hn)
  rw [lg_entry_eq]
  generalize (lg_sl (zst G as) ++ List.replicate (znL M - (lg_sl (zst G as)).length) Slot.unset).toArray = ls at hl ⊢
  rw [lv_args_cv] at hl
  have hex : ∀ (pc : Nat) (H : Heap) (locs : List Loc) (ls : Array Slot), zretAt M pc tgt.1 → va_P (zgD G) zcl (zwg G tgt.2) H → va_D (zA G s.heap.size) (zwg G tgt.2) → va_S (zA G s.heap.size) s.heap H locs → W p (zgl G) e (zroom d) s m (zst G as).toArray below meth c H locs 0 0 (MQ below (zQ G (zrt M) tgt s.heap.size) (zst G as).toArray s 0 0 (zA G s.heap.size)) (F0 m pc ls (zrst tgt.1)) := by
    intro pc H locs ls hra hP hD hS
    obtain ⟨v, u'⟩ := tgt
    cases v with
    | int r =>
      obtain ⟨hdg, hre⟩ := hra
      rcases hre with hre | ⟨hre, h01⟩
      · rw [hre] at hr ⊢
        exact W.iret (v := r) hx hb hr (fun t ht hW => ⟨⟨r, u', rfl, ⟨rfl, fun h => by cases h⟩, by show va_P _ _ _ t.heap; rw [ht]; exact hP⟩, hS.F ht⟩) hS.2.2 hdg
      · rw [hre] at hr ⊢
        exact W.zret (v := r) hx hb hr (by rcases h01 with rfl | rfl <;> rfl) (fun t ht hW => ⟨⟨r, u', rfl, ⟨rfl, fun _ => h01⟩, by show va_P _ _ _ t.heap; rw [ht]; exact hP⟩, hS.F ht⟩) hS.2.2 hdg
    | long r =>
      obtain ⟨hdg, hre⟩ := hra
      rw [hre] at hr ⊢
      exact W.lret (v := r) hx hb hr (fun t ht hW => ⟨⟨r, u', rfl, rfl, by show va_P _ _ _ t.heap; rw [ht]; exact hP⟩, hS.F ht⟩) hS.2.2 hdg
    | null =>
      obtain ⟨hdg, hre⟩ := hra
      rw [hre] at hr ⊢
      exact W.vret hx hb hr (fun t ht hW => ⟨⟨u', rfl, rfl, by show va_P _ _ _ t.heap; rw [ht]; exact hP⟩, hS.F ht⟩) hS.2.2 hdg
    | _ => exact absurd hra (fun h => h)
  have key := h hc p e (zroom d) s m (zst G as).toArray below meth c (zA G s.heap.size) 0 0 (MQ below (zQ G (zrt M) tgt s.heap.size) (zst G as).toArray s 0 0 (zA G s.heap.size)) ⟨hx, hb, hml, hown, hAW, hK, hSt, hA, ⟨Nat.le_refl _, Nat.le_refl _, Nat.zero_le _, Nat.zero_le _⟩, hex⟩ s.heap [] ls hP hD hS hl
  rw [hpc0] at key
  exact key
theorem ZSpec.go {G : ZG} {M : ZM} {d : Nat} {as : List Value} {u : ZSt} {β : Type} {t : Option β} {K : β → Option (Value × ZSt)} (hc : zchk M = true) (hn : (lg_sl as).length ≤ znL M) (h : ZGo G M d t K 0 (lv_args 0 as) [] u) {tgt : Value × ZSt} (ht : t.bind K = some tgt) : ZSpec G M d as u tgt := ZSpec.of hc hn (h tgt ht)
def zbo (ret : Option FieldType) (v : Value) : Prop := ret = some .boolean → v = .int 0 ∨ v = .int 1
section ZCALL
variable {p : Program} {e : Env} {R : Room} {s : State} {m : MethodId} {args : Array Value} {below : List Frame} {meth : Method} {c : Code} {H : Heap} {locs : List Loc} {cells slots : Nat} {Qf : State → Prop} {A : Nat → Prop} {G : ZG} {pc : Nat} {ls : Array Slot} {st0 rest : List Value} {a : Array Value}
theorem z_ret (ret : Option FieldType) {tgt : Value × ZSt} (hr : va_Run p (zgl G) e R s m args below meth c H locs cells slots 0 0 (F0 m pc ls st0) rest (zQ G ret tgt H.size a) (zA G H.size)) (hS : va_S A s.heap H locs) (hsub : ∀ q, zA G H.size q → A q)
    (kk : ∀ (H1 : Heap) (locs1 : List Loc), zbo ret tgt.1 → va_P (zgD G) zcl (zwg G tgt.2) H1 → va_S A s.heap H1 locs1 → W p (zgl G) e R s m args below meth c H1 locs1 cells slots Qf (F0 m (pc + 3) ls (zrst tgt.1 ++ rest))) : W p (zgl G) e R s m args below meth c H locs cells slots Qf (F0 m pc ls st0) := by
  match ret, hr, kk with
  | none, hr, kk =>
    refine va_callv (a := a) hr hS (fun q _ h => hsub q h) hsub (fun u t H1 locs1 ht hvm hp hB hz hk hS1 => ?_)
    have h := kk H1 locs1 (fun h => by cases h) (by rw [hp]; have hB : va_P _ _ _ t.heap := hB; rw [ht] at hB; exact hB) hS1
    rw [hp] at h
    exact h
  | some .long, hr, kk =>
    refine va_calll (a := a) hr hS (fun q _ h => hsub q h) hsub (fun r u t H1 locs1 ht hvm hp hB hz hk hS1 => ?_)
    have h := kk H1 locs1 (fun h => by cases h) (by rw [hp]; have hB : va_P _ _ _ t.heap := hB; rw [ht] at hB; exact hB) hS1
    rw [hp] at h
    exact h
  | some .boolean, hr, kk =>
    refine va_calli (a := a) hr hS (fun q _ h => hsub q h) hsub (fun r u t H1 locs1 ht hvm hp hB hz hk hS1 => ?_)
    have h := kk H1 locs1 (fun _ => by rw [hp.1]; rcases hp.2 rfl with h | h <;> rw [h] <;> simp) (by rw [hp.1]; have hB : va_P _ _ _ t.heap := hB; rw [ht] at hB; exact hB) hS1
    rw [hp.1] at h
    exact h
  | some .int, hr, kk | some .byte, hr, kk | some .char, hr, kk | some .short, hr, kk | some .float, hr, kk | some .double, hr, kk | some (.object _), hr, kk | some (.array _), hr, kk =>
    refine va_calli (a := a) hr hS (fun q _ h => hsub q h) hsub (fun r u t H1 locs1 ht hvm hp hB hz hk hS1 => ?_)
    have h := kk H1 locs1 (fun h => by cases h) (by rw [hp.1]; have hB : va_P _ _ _ t.heap := hB; rw [ht] at hB; exact hB) hS1
    rw [hp.1] at h
    exact h
end ZCALL
theorem zEnt.blind {G : ZG} {u : ZSt} {sz : Nat} {as : List Value} : FrameBlind (va_Pc as (zEnt G u sz)) := by
  intro a U g mk h
  obtain ⟨h0, h1, h2, h3, h4, h5, h6⟩ := h
  exact ⟨h0, h1, h2, va_K.moved (u := U) (U := U.calling g mk a) (Vm.Alike.refl U.vm) h3, h4, zAW.same (u := U) (U := U.calling g mk a) rfl h5, zSt.go (A := zA G sz) (s := U) (U := U.calling g mk a) (locs := []) h6 (Vm.Alike.refl U.vm) va_S.rf (fun _ h => h)⟩
def zCW (M : ZM) (n : Nat) : Prop := Cond.code (zy M) (zcc M) (znL M) (zrt M) ∈ lw_tbl ∧ Cond.initialized (zy M).cls ∈ lw_tbl ∧ ((zy M).cls ≠ "java/lang/invoke/MethodHandle" ∧ (zy M).cls ≠ "java/lang/invoke/VarHandle") ∧ (parseMethodDescriptor (zy M).desc).map (fun d => d.parameters.length) = some n ∧ znL M ≤ 45
def zCV (M : ZM) (n : Nat) : Prop := zCW M n ∧ Cond.instanceMethod (zy M) ∈ lw_tbl ∧ Cond.selects (zy M).cls (zy M) (zy M) ∈ lw_tbl
def zCS (M : ZM) (n : Nat) : Prop := zCW M n ∧ Cond.static (zy M) ∈ lw_tbl
section ZCALL2
variable {p : Program} {e : Env} {R : Room} {s : State} {m : MethodId} {args : Array Value} {below : List Frame} {meth : Method} {c : Code} {H : Heap} {locs : List Loc} {cells slots : Nat} {Qf : State → Prop} {A : Nat → Prop} {G : ZG} {M M' : ZM} {d d' n idx : Nat} {tgt : Value × ZSt} {u : ZSt}
theorem z_callB (cx : zCx G M d tgt p e R s m args below meth c A cells slots Qf) (hw : zCW M' n) (hl : Cond.methodLink (zy M).cls idx (zy M') ∈ lw_tbl) (hd : d' + 1 ≤ d) : CallB R s args (zy M).cls idx (zy M') (zcc M') (znL M') (zrt M') [Cond.code (zy M') (zcc M') (znL M') (zrt M')] (zroom d') 0 0 n := by
  obtain ⟨c1, c2, c3, c4, c5, c6, c7, c8, ⟨r1, r2, r3, r4⟩, c10⟩ := cx
  obtain ⟨w1, w2, w3, w4, w5⟩ := hw
  refine ⟨rfl, rfl, ?_, ?_, ?_, List.mem_cons_self, c5.at w1 rfl, c5.at w2 rfl, w3, ?_, c5.at hl rfl⟩
  · show d' + 1 ≤ R.frames
    omega
  · show 8 + (znL M' + 11) + 64 * d' ≤ R.locals
    omega
  · intro w hw a' U hW
    have hw' : w = Cond.code (zy M') (zcc M') (znL M') (zrt M') := by simpa using hw
    subst hw'
    exact word_at hW (Or.inl rfl) (c5.at w1 rfl (A := #[]))
  · intro sig h
    rw [h] at w4
    exact (Option.some.inj w4).symm
theorem zEnt.at (cx : zCx G M d tgt p e R s m args below meth c A cells slots Qf) (hP : va_P (zgD G) zcl (zwg G u) H) (hD : va_D A (zwg G u)) (hS : va_S A s.heap H locs) {U : State} (hU : U.heap = H) (hW : s.WarmedH U.vm) : zEnt G u H.size U := by
  obtain ⟨c1, c2, c3, c4, c5, c6, c7, c8, c9, c10⟩ := cx
  subst hU
  exact ⟨rfl, hP, va_K.moved hW.alike c6, hD.weaken (fun _ _ _ _ => trivial), c5.warm hW, c7.go hW.alike hS (zA_in hD hS c8)⟩
end ZCALL2
section ZCALL3
variable {G : ZG} {M M' : ZM} {d d' i pc n a idx o ci : Nat} {lv : List (Nat × Value)} {as rest st : List Value} {u : ZSt} {β γ : Type} {tc : Option γ} {f : γ → Option β} {K : β → Option (Value × ZSt)}
theorem zst_split (G : ZG) (as rest : List Value) (v : Value) : zst G (as.reverse ++ v :: rest) = (zst G as).reverse ++ zcv (zga G) v :: zst G rest := by simp [zst]
theorem zst_splitS (G : ZG) (as rest : List Value) : zst G (as.reverse ++ rest) = (zst G as).reverse ++ zst G rest := by simp [zst]
theorem zcat_eq (G : ZG) (l : List Value) : ((zst G l).map fun v => v.category).sum = (l.map fun v => v.category).sum := by
  simp only [zst, List.map_map]
  congr 2
  funext v
  exact zcv_cat _ v
theorem zst_app (G : ZG) {v : Value} (h : ∀ x, v ≠ .ref x) (rest : List Value) : zst G (zrst v ++ rest) = zrst v ++ zst G rest := by
  cases v <;> simp [zst, zrst, zcv]
  exact absurd rfl (h _)
theorem g_callV (em : γ → Value × ZSt) (hem : ∀ x y, (em x).1 ≠ .ref y) (ht : (ztb M)[i]? = some (pc, .invokevirtual idx, 3, a)) (hl : Cond.methodLink (zy M).cls idx (zy M') ∈ lw_tbl) (hw : zCV M' n) (hd : d' + 1 ≤ d) {fs : List (Option Nat)} (ho : zsch[o]? = some (.inl (ci, fs))) (hci : ci < 12) (hC : (zcls ci).1 = (zy M').cls) (hst : st = as.reverse ++ .ref o :: rest) (hn : as.length = n) (hcat : (rest.map fun v => v.category).sum ≤ 8)
    (hs : ∀ x, tc = some x → ZSpec G M' d' (.ref o :: as) u (em x)) (hk : ∀ x, tc = some x → zbo (zrt M') (em x).1 → ZGo G M d (f x) K (i + 1) lv (zrst (em x).1 ++ rest) (em x).2) : ZGo G M d (tc.bind f) K i lv st u := by
  intro tgt htg hc p e R s m args below meth c A cells slots Qf cx H locs ls hP hD hS hlv
  cases htc : tc with
  | none => rw [htc] at htg; cases htg
  | some x =>
    rw [htc, Option.bind_some] at htg
    obtain ⟨g1, g2, g3, g4⟩ := zchk_at hc ht
    obtain ⟨c1, c2, c3, c4, c5, c6, c7, c8, c9, c10⟩ := id cx
    rw [g2]
    have hrun := va_runV (e := e) (R := R) (below := below) (meth := meth) (Ts := []) (As := zst G as) (rest := zst G rest) (g := F0 m pc ls (zst G st)) (b := zga G o) (C := (zy M').cls) (cells := cells) (slots := slots) (n := n) (nL := znL M) (locs := locs) ⟨c1, c2, c3, c4, fun w h => by cases h⟩ (hs x htc H.size) ⟨z_callB cx hw.1 hl hd, c5.at hw.2.1 rfl, c5.at hw.2.2 rfl⟩ ⟨zEnt.blind, by
        have := va_recv c6 hP (zcl_at ci hci) (zw_obj (ad := zga G) (ca := zgc G) (u := u) ho)
        rw [hC] at this
        exact this, fun U hU hW => ⟨rfl, zEnt.at cx hP hD hS hU hW⟩⟩ rfl (by rw [← hn]; simp [zst]) hlv.1 (by rw [hst]; exact zst_split G as rest (.ref o)) (lv_room (by rw [zcat_eq]; exact hcat)) g1 ⟨c9.2.2.1, c9.2.2.2⟩
    refine z_ret (zrt M') hrun hS (zA_in hD hS c8) (fun H1 locs1 hbo hP1 hS1 => ?_)
    have key := hk x htc hbo tgt htg hc p e R s m args below meth c A cells slots Qf cx H1 locs1 ls hP1 (zw_D hD) hS1 hlv
    rw [g3 rfl, zst_app G (hem x)] at key
    exact key
theorem g_callS (em : γ → Value × ZSt) (hem : ∀ x y, (em x).1 ≠ .ref y) (ht : (ztb M)[i]? = some (pc, .invokestatic idx, 3, a)) (hl : Cond.methodLink (zy M).cls idx (zy M') ∈ lw_tbl) (hw : zCS M' n) (hd : d' + 1 ≤ d) (hst : st = as.reverse ++ rest) (hn : as.length = n) (hcat : (rest.map fun v => v.category).sum ≤ 8)
    (hs : ∀ x, tc = some x → ZSpec G M' d' as u (em x)) (hk : ∀ x, tc = some x → zbo (zrt M') (em x).1 → ZGo G M d (f x) K (i + 1) lv (zrst (em x).1 ++ rest) (em x).2) : ZGo G M d (tc.bind f) K i lv st u := by
  intro tgt htg hc p e R s m args below meth c A cells slots Qf cx H locs ls hP hD hS hlv
  cases htc : tc with
  | none => rw [htc] at htg; cases htg
  | some x =>
    rw [htc, Option.bind_some] at htg
    obtain ⟨g1, g2, g3, g4⟩ := zchk_at hc ht
    obtain ⟨c1, c2, c3, c4, c5, c6, c7, c8, c9, c10⟩ := id cx
    rw [g2]
    have hrun := va_runS (e := e) (R := R) (below := below) (meth := meth) (Ts := []) (As := zst G as) (rest := zst G rest) (g := F0 m pc ls (zst G st)) (cells := cells) (slots := slots) (n := n) (nL := znL M) (locs := locs) ⟨c1, c2, c3, c4, fun w h => by cases h⟩ (hs x htc H.size) ⟨z_callB cx hw.1 hl hd, c5.at hw.2 rfl⟩ ⟨zEnt.blind, fun U hU hW => ⟨rfl, zEnt.at cx hP hD hS hU hW⟩⟩ rfl (by rw [← hn]; simp [zst]) hlv.1 (by rw [hst]; exact zst_splitS G as rest) (lv_room (by rw [zcat_eq]; exact hcat)) g1 ⟨c9.2.2.1, c9.2.2.2⟩
    refine z_ret (zrt M') hrun hS (zA_in hD hS c8) (fun H1 locs1 hbo hP1 hS1 => ?_)
    have key := hk x htc hbo tgt htg hc p e R s m args below meth c A cells slots Qf cx H1 locs1 ls hP1 (zw_D hD) hS1 hlv
    rw [g3 rfl, zst_app G (hem x)] at key
    exact key
end ZCALL3
/-! what a call's answer is, by kinds: numbers with the state, numbers alone, the state alone -/
abbrev zemI : Int32 × ZSt → Value × ZSt := fun x => (.int x.1, x.2)
abbrev zemP (u : ZSt) : Int32 → Value × ZSt := fun x => (.int x, u)
abbrev zemV : ZSt → Value × ZSt := fun x => (.null, x)
abbrev zemL (u : ZSt) : Int64 → Value × ZSt := fun x => (.long x, u)
theorem zemI_r : ∀ x y, (zemI x).1 ≠ .ref y := fun _ _ h => by cases h
theorem zemP_r (u : ZSt) : ∀ x y, (zemP u x).1 ≠ .ref y := fun _ _ h => by cases h
theorem zemV_r : ∀ x y, (zemV x).1 ≠ .ref y := fun _ _ h => by cases h
theorem zemL_r (u : ZSt) : ∀ x y, (zemL u x).1 ≠ .ref y := fun _ _ h => by cases h
theorem zbo_i {r : Int32} (h : zbo (some .boolean) (.int r)) : r = 0 ∨ r = 1 := by
  rcases h rfl with h | h <;> cases h <;> simp
abbrev zkI : Int32 × ZSt → Option (Value × ZSt) := fun x => some (zemI x)
abbrev zkP (u : ZSt) : Int32 → Option (Value × ZSt) := fun x => some (zemP u x)
abbrev zkV : ZSt → Option (Value × ZSt) := fun x => some (zemV x)
abbrev zkL (u : ZSt) : Int64 → Option (Value × ZSt) := fun x => some (zemL u x)
/-! loops: a body answers .inl (round again), .inr (.inl (out)), .inr (.inr (the method's end)) -/
def ziter {σ ρ : Type} (B : σ → Option (σ ⊕ ρ)) : Nat → σ → Option ρ
  | 0, _ => none
  | n + 1, s => (B s).bind fun x => match x with
    | .inl s' => ziter B n s'
    | .inr r => some r
def zik {σ ρ α : Type} (B : σ → Option (σ ⊕ ρ)) (n : Nat) (rest : ρ → Option α) : σ ⊕ ρ → Option α
  | .inl s' => (ziter B n s').bind rest
  | .inr r => rest r
theorem ziter_bind {σ ρ α : Type} (B : σ → Option (σ ⊕ ρ)) (n : Nat) (s : σ) (rest : ρ → Option α) : (ziter B (n + 1) s).bind rest = (B s).bind (zik B n rest) := by
  show ((B s).bind _).bind rest = _
  cases B s with
  | none => rfl
  | some x => cases x <;> rfl
/-- a loop at its head: the body's own walk, for whatever its leaves are made into -/
theorem zgo_loop {G : ZG} {M : ZM} {d i : Nat} {σ ρ β : Type} {B : σ → Option (σ ⊕ ρ)} {lvf : σ → List (Nat × Value)} {uf : σ → ZSt} {rest : ρ → Option β} {K : β → Option (Value × ZSt)}
    (hbody : ∀ (s : σ) (K' : σ ⊕ ρ → Option (Value × ZSt)), (∀ s', ZGo G M d (K' (.inl s')) some i (lvf s') [] (uf s')) → (∀ r, K' (.inr r) = (rest r).bind K) → ZGo G M d (B s) K' i (lvf s) [] (uf s)) :
    ∀ (n : Nat) (s : σ), ZGo G M d ((ziter B n s).bind rest) K i (lvf s) [] (uf s)
  | 0, s => zgo_none
  | n + 1, s => by
    have h := hbody s (fun x => (zik B n rest x).bind K) (fun s' => by
      have ih := zgo_loop hbody n s'
      exact zgo_unleaf ih) (fun r => rfl)
    intro tgt htg
    rw [ziter_bind] at htg
    refine h tgt ?_
    rw [← htg]
    cases B s with
    | none => rfl
    | some x => rfl
/-- Integer.bitCount, System.arraycopy -/
def zfuel : Nat := 1048576
end
section
/-! more rows over numbers: copies, switches, calls by kinds, subsets of locals -/
theorem zsubk {lv lv' : List (Nat × Value)} (ks : List Nat) (h : ks.filterMap (fun k => lv[k]?) = lv') : ∀ q ∈ lv', q ∈ lv := by
  intro q hq
  rw [← h] at hq
  obtain ⟨k, -, hk⟩ := List.mem_filterMap.mp hq
  exact List.mem_of_getElem? hk
abbrev zcpok (sp dp n : Int32) (n0 n1 : Nat) : Prop := ¬ sp < 0 ∧ ¬ dp < 0 ∧ ¬ n < 0 ∧ sp.toNatClampNeg + n.toNatClampNeg ≤ n0 ∧ dp.toNatClampNeg + n.toNatClampNeg ≤ n1
theorem z_ne {x v : Int32} (h : ¬ x = v) {k : Int} (hk : v.toInt = k) : x.toInt ≠ k := by
  subst hk
  intro h2
  exact h (Int32.toInt_inj.mp h2)
theorem z_off {ps : List (Int × Int)} {d y : Int} (h : ∀ v ∈ ps.map (fun q => q.1), y ≠ v) : Op.lookupswitch.offset ps d y = d := by
  induction ps with
  | nil => rfl
  | cons q r ih =>
    obtain ⟨a, o⟩ := q
    have h1 : y ≠ a := h a (by simp)
    have h2 := ih (fun v hv => h v (by simp only [List.map_cons]; exact List.mem_cons_of_mem _ hv))
    rw [Op.lookupswitch.offset_cons, if_neg (fun q => h1 q.symm)]
    exact h2
section ZMORE
variable {G : ZG} {M M' : ZM} {d d' i pc len n a idx o ci : Nat} {lv lv' : List (Nat × Value)} {as rest st : List Value} {u : ZSt} {β γ : Type} {t tA tB : Option β} {K : β → Option (Value × ZSt)}
theorem zgo_ite {c : Prop} [Decidable c] (hT : c → ZGo G M d tA K i lv st u) (hF : ¬ c → ZGo G M d tB K i lv st u) : ZGo G M d (if c then tA else tB) K i lv st u := by
  by_cases hc : c
  · rw [if_pos hc]; exact hT hc
  · rw [if_neg hc]; exact hF hc
theorem zgo_ck {c : Prop} [Decidable c] (hT : c → ZGo G M d t K i lv st u) : ZGo G M d (if c then t else none) K i lv st u := zgo_ite hT (fun _ => zgo_none)
theorem zgo_nck {c : Prop} [Decidable c] (hT : ¬ c → ZGo G M d t K i lv st u) : ZGo G M d (if c then none else t) K i lv st u := zgo_ite (fun _ => zgo_none) hT
theorem g_idivo {x y : Int32} (ht : (ztb M)[i]? = some (pc, .idiv, 1, a)) (h : ¬ y = 0 → ZGo G M d t K (i + 1) lv (.int (x / y) :: st) u) : ZGo G M d (if y = 0 then none else t) K i lv (.int y :: .int x :: st) u := zgo_nck (fun hy => g_idiv ht hy (h hy))
theorem g_iremo {x y : Int32} (ht : (ztb M)[i]? = some (pc, .irem, 1, a)) (h : ¬ y = 0 → ZGo G M d t K (i + 1) lv (.int (zrem x y) :: st) u) : ZGo G M d (if y = 0 then none else t) K i lv (.int y :: .int x :: st) u := zgo_nck (fun hy => g_irem ht hy (h hy))
theorem g_tswD {dflt lo hi : Int} {offs : Array Int} {x : Int32} (ht : (ztb M)[i]? = some (pc, .tableswitch dflt lo hi offs, len, a)) (keys : List Int) (n : Nat) (hn : hi - lo < n) (hk : ∀ k, k < n → (lo + (k : Int)) ∈ keys ∨ offs[k]? = some dflt) (hne : ∀ v ∈ keys, x.toInt ≠ v) (b : Nat) (hb : (pc : Int) + dflt = (zpc M b : Int)) (h : ZGo G M d t K b lv st u) : ZGo G M d t K i lv (.int x :: st) u := by
  by_cases h1 : x.toInt < lo
  · exact g_tswOut ht (Or.inl h1) b hb h
  · by_cases h2 : hi < x.toInt
    · exact g_tswOut ht (Or.inr h2) b hb h
    · have e : lo + ((x.toInt - lo).toNat : Int) = x.toInt := by omega
      have h3 := hk (x.toInt - lo).toNat (by omega)
      rw [e] at h3
      rcases h3 with h3 | h3
      · exact absurd rfl (hne _ h3)
      · exact g_tswIn ht rfl h1 h2 h3 b hb h
theorem g_lswD {dflt : Int} {ps : Array (Int × Int)} {x : Int32} (ht : (ztb M)[i]? = some (pc, .lookupswitch dflt ps, len, a)) (hp : (ps.toList.zip (ps.toList.drop 1)).all (fun (a, next) => a.1 < next.1) = true) (hne : ∀ v ∈ ps.toList.map (fun q => q.1), x.toInt ≠ v) (b : Nat) (hb : (pc : Int) + dflt = (zpc M b : Int)) (h : ZGo G M d t K b lv st u) : ZGo G M d t K i lv (.int x :: st) u :=
  g_lsw ht hp (z_off hne) b hb h
theorem g_lswI {dflt off : Int} {ps : Array (Int × Int)} {x v : Int32} (ht : (ztb M)[i]? = some (pc, .lookupswitch dflt ps, len, a)) (hp : (ps.toList.zip (ps.toList.drop 1)).all (fun (a, next) => a.1 < next.1) = true) (hv : x = v) (ho : Op.lookupswitch.offset ps.toList dflt v.toInt = off) (b : Nat) (hb : (pc : Int) + off = (zpc M b : Int)) (h : ZGo G M d t K b lv st u) : ZGo G M d t K i lv (.int x :: st) u := by
  subst hv
  exact g_lsw ht hp ho b hb h
theorem g_callVI {tc : Option (Int32 × ZSt)} {f : Int32 × ZSt → Option β} (ht : (ztb M)[i]? = some (pc, .invokevirtual idx, 3, a)) (hl : Cond.methodLink (zy M).cls idx (zy M') ∈ lw_tbl) (hw : zCV M' n) (hd : d' + 1 ≤ d) {fs : List (Option Nat)} (ho : zsch[o]? = some (.inl (ci, fs))) (hci : ci < 12) (hC : (zcls ci).1 = (zy M').cls) (hst : st = as.reverse ++ .ref o :: rest) (hn : as.length = n) (hcat : (rest.map fun v => v.category).sum ≤ 8)
    (hs : ∀ x, tc = some x → ZSpec G M' d' (.ref o :: as) u (zemI x)) (hk : ∀ r u1, tc = some (r, u1) → zbo (zrt M') (.int r) → ZGo G M d (f (r, u1)) K (i + 1) lv (.int r :: rest) u1) : ZGo G M d (tc.bind f) K i lv st u :=
  g_callV zemI zemI_r ht hl hw hd ho hci hC hst hn hcat hs (fun x e b => hk x.1 x.2 e b)
theorem g_callVP {tc : Option Int32} {f : Int32 → Option β} (ht : (ztb M)[i]? = some (pc, .invokevirtual idx, 3, a)) (hl : Cond.methodLink (zy M).cls idx (zy M') ∈ lw_tbl) (hw : zCV M' n) (hd : d' + 1 ≤ d) {fs : List (Option Nat)} (ho : zsch[o]? = some (.inl (ci, fs))) (hci : ci < 12) (hC : (zcls ci).1 = (zy M').cls) (hst : st = as.reverse ++ .ref o :: rest) (hn : as.length = n) (hcat : (rest.map fun v => v.category).sum ≤ 8)
    (hs : ∀ x, tc = some x → ZSpec G M' d' (.ref o :: as) u (zemP u x)) (hk : ∀ r, tc = some r → zbo (zrt M') (.int r) → ZGo G M d (f r) K (i + 1) lv (.int r :: rest) u) : ZGo G M d (tc.bind f) K i lv st u :=
  g_callV (zemP u) (zemP_r u) ht hl hw hd ho hci hC hst hn hcat hs hk
theorem g_callVV {tc : Option ZSt} {f : ZSt → Option β} (ht : (ztb M)[i]? = some (pc, .invokevirtual idx, 3, a)) (hl : Cond.methodLink (zy M).cls idx (zy M') ∈ lw_tbl) (hw : zCV M' n) (hd : d' + 1 ≤ d) {fs : List (Option Nat)} (ho : zsch[o]? = some (.inl (ci, fs))) (hci : ci < 12) (hC : (zcls ci).1 = (zy M').cls) (hst : st = as.reverse ++ .ref o :: rest) (hn : as.length = n) (hcat : (rest.map fun v => v.category).sum ≤ 8)
    (hs : ∀ x, tc = some x → ZSpec G M' d' (.ref o :: as) u (zemV x)) (hk : ∀ u1, tc = some u1 → zbo (zrt M') .null → ZGo G M d (f u1) K (i + 1) lv rest u1) : ZGo G M d (tc.bind f) K i lv st u :=
  g_callV zemV zemV_r ht hl hw hd ho hci hC hst hn hcat hs hk
theorem g_callVL {tc : Option Int64} {f : Int64 → Option β} (ht : (ztb M)[i]? = some (pc, .invokevirtual idx, 3, a)) (hl : Cond.methodLink (zy M).cls idx (zy M') ∈ lw_tbl) (hw : zCV M' n) (hd : d' + 1 ≤ d) {fs : List (Option Nat)} (ho : zsch[o]? = some (.inl (ci, fs))) (hci : ci < 12) (hC : (zcls ci).1 = (zy M').cls) (hst : st = as.reverse ++ .ref o :: rest) (hn : as.length = n) (hcat : (rest.map fun v => v.category).sum ≤ 8)
    (hs : ∀ x, tc = some x → ZSpec G M' d' (.ref o :: as) u (zemL u x)) (hk : ∀ r, tc = some r → zbo (zrt M') (.long r) → ZGo G M d (f r) K (i + 1) lv (.long r :: rest) u) : ZGo G M d (tc.bind f) K i lv st u :=
  g_callV (zemL u) (zemL_r u) ht hl hw hd ho hci hC hst hn hcat hs hk
theorem g_callSI {tc : Option (Int32 × ZSt)} {f : Int32 × ZSt → Option β} (ht : (ztb M)[i]? = some (pc, .invokestatic idx, 3, a)) (hl : Cond.methodLink (zy M).cls idx (zy M') ∈ lw_tbl) (hw : zCS M' n) (hd : d' + 1 ≤ d) (hst : st = as.reverse ++ rest) (hn : as.length = n) (hcat : (rest.map fun v => v.category).sum ≤ 8)
    (hs : ∀ x, tc = some x → ZSpec G M' d' as u (zemI x)) (hk : ∀ r u1, tc = some (r, u1) → zbo (zrt M') (.int r) → ZGo G M d (f (r, u1)) K (i + 1) lv (.int r :: rest) u1) : ZGo G M d (tc.bind f) K i lv st u :=
  g_callS zemI zemI_r ht hl hw hd hst hn hcat hs (fun x e b => hk x.1 x.2 e b)
theorem g_callSP {tc : Option Int32} {f : Int32 → Option β} (ht : (ztb M)[i]? = some (pc, .invokestatic idx, 3, a)) (hl : Cond.methodLink (zy M).cls idx (zy M') ∈ lw_tbl) (hw : zCS M' n) (hd : d' + 1 ≤ d) (hst : st = as.reverse ++ rest) (hn : as.length = n) (hcat : (rest.map fun v => v.category).sum ≤ 8)
    (hs : ∀ x, tc = some x → ZSpec G M' d' as u (zemP u x)) (hk : ∀ r, tc = some r → zbo (zrt M') (.int r) → ZGo G M d (f r) K (i + 1) lv (.int r :: rest) u) : ZGo G M d (tc.bind f) K i lv st u :=
  g_callS (zemP u) (zemP_r u) ht hl hw hd hst hn hcat hs hk
theorem g_callSL {tc : Option Int64} {f : Int64 → Option β} (ht : (ztb M)[i]? = some (pc, .invokestatic idx, 3, a)) (hl : Cond.methodLink (zy M).cls idx (zy M') ∈ lw_tbl) (hw : zCS M' n) (hd : d' + 1 ≤ d) (hst : st = as.reverse ++ rest) (hn : as.length = n) (hcat : (rest.map fun v => v.category).sum ≤ 8)
    (hs : ∀ x, tc = some x → ZSpec G M' d' as u (zemL u x)) (hk : ∀ r, tc = some r → zbo (zrt M') (.long r) → ZGo G M d (f r) K (i + 1) lv (.long r :: rest) u) : ZGo G M d (tc.bind f) K i lv st u :=
  g_callS (zemL u) (zemL_r u) ht hl hw hd hst hn hcat hs hk
theorem zcopyw : Cond.native arraycopyName ∈ lw_tbl ∧ Cond.static arraycopyName ∈ lw_tbl ∧ Cond.initialized "java/lang/System" ∈ lw_tbl := by decide +kernel
theorem znfw : nativeFrameWords "java/lang/System" "arraycopy" 5 + 11 ≤ 60 := by decide +kernel
theorem g_copyI {k k' n0 n1 : Nat} {sp dp m : Int32} (ht : (ztb M)[i]? = some (pc, .invokestatic idx, 3, a)) (hl : Cond.methodLink (zy M).cls idx arraycopyName ∈ lw_tbl) (h0 : zsch[k]? = some (.inr (0, n0))) (h1 : zsch[k']? = some (.inr (0, n1))) (hd : 1 ≤ d) (h : zcpok sp dp m n0 n1 → ZGo G M d t K (i + 1) lv [] (zcp u k k' sp.toNatClampNeg dp.toNatClampNeg m.toNatClampNeg)) : ZGo G M d (if zcpok sp dp m n0 n1 then t else none) K i lv [.int m, .int dp, .ref k', .int sp, .ref k] u := by
  refine zgo_ck (fun hq => ?_)
  intro tgt htg hc p e0 R s m' args below meth c A cells slots Qf cx H locs ls hP hD hS hlv
  obtain ⟨g1, g2, g3, g4⟩ := zchk_at hc ht
  rw [g2]
  obtain ⟨c1, c2, c3, c4, c5, c6, c7, c8, ⟨r1, r2, r3, r4⟩, c10⟩ := id cx
  obtain ⟨w1, w2, w3⟩ := zcopyw
  have hz := znfw
  refine va_copyi (rest := []) c1 c2 (c3.trans hlv.1.symm) c4 (c5.at hl rfl) (c5.at w1 rfl) (c5.at w2 rfl) (c5.at w3 rfl) c6 hP hD hS k k' 0 0 (zw_int h0) (zw_int h1) rfl rfl rfl hq.1 hq.2.1 hq.2.2.1 hq.2.2.2.1 hq.2.2.2.2 (fun _ _ => rfl) (by omega) (by simp only [List.map_nil, List.sum_nil]; omega) g1 (fun H1 locs1 hP1 hD1 hS1 => ?_)
  have e : (zwg G u).set k' (zga G k', .inl (zgc G 0, n1, .inl (va_cpy (u.2.1 k) (u.2.1 k') sp.toNatClampNeg dp.toNatClampNeg m.toNatClampNeg))) = zwg G (zcp u k k' sp.toNatClampNeg dp.toNatClampNeg m.toNatClampNeg) := by
    refine zw_putA h1 ?_ rfl ?_
    · simp [zE, zcp]
    · intro j hj
      simp [zcp, hj]
  rw [e] at hP1 hD1
  have kk := h hq tgt htg hc p e0 R s m' args below meth c A cells slots Qf cx H1 locs1 ls hP1 hD1 hS1 hlv
  rw [g3 rfl] at kk
  exact kk
theorem g_copyL {k k' n0 n1 : Nat} {sp dp m : Int32} (ht : (ztb M)[i]? = some (pc, .invokestatic idx, 3, a)) (hl : Cond.methodLink (zy M).cls idx arraycopyName ∈ lw_tbl) (h0 : zsch[k]? = some (.inr (1, n0))) (h1 : zsch[k']? = some (.inr (1, n1))) (hd : 1 ≤ d) (h : zcpok sp dp m n0 n1 → ZGo G M d t K (i + 1) lv [] (zcpl u k k' sp.toNatClampNeg dp.toNatClampNeg m.toNatClampNeg)) : ZGo G M d (if zcpok sp dp m n0 n1 then t else none) K i lv [.int m, .int dp, .ref k', .int sp, .ref k] u := by
  refine zgo_ck (fun hq => ?_)
  intro tgt htg hc p e0 R s m' args below meth c A cells slots Qf cx H locs ls hP hD hS hlv
  obtain ⟨g1, g2, g3, g4⟩ := zchk_at hc ht
  rw [g2]
  obtain ⟨c1, c2, c3, c4, c5, c6, c7, c8, ⟨r1, r2, r3, r4⟩, c10⟩ := id cx
  obtain ⟨w1, w2, w3⟩ := zcopyw
  have hz := znfw
  refine va_copyl (rest := []) c1 c2 (c3.trans hlv.1.symm) c4 (c5.at hl rfl) (c5.at w1 rfl) (c5.at w2 rfl) (c5.at w3 rfl) c6 hP hD hS k k' 1 1 (zw_long h0) (zw_long h1) rfl rfl rfl hq.1 hq.2.1 hq.2.2.1 hq.2.2.2.1 hq.2.2.2.2 (fun _ _ => rfl) (by omega) (by simp only [List.map_nil, List.sum_nil]; omega) g1 (fun H1 locs1 hP1 hD1 hS1 => ?_)
  have e : (zwg G u).set k' (zga G k', .inl (zgc G 1, n1, .inr (.inl (va_cpy (u.2.2 k) (u.2.2 k') sp.toNatClampNeg dp.toNatClampNeg m.toNatClampNeg)))) = zwg G (zcpl u k k' sp.toNatClampNeg dp.toNatClampNeg m.toNatClampNeg) := by
    refine zw_putA h1 ?_ rfl ?_
    · simp [zE, zcpl]
    · intro j hj
      simp [zcpl, hj]
  rw [e] at hP1 hD1
  have kk := h hq tgt htg hc p e0 R s m' args below meth c A cells slots Qf cx H1 locs1 ls hP1 hD1 hS1 hlv
  rw [g3 rfl] at kk
  exact kk
theorem g_getIx {k idx j : Nat} {fs : List (Option Nat)} {x : Int32} (ht : (ztb M)[i]? = some (pc, .getfield idx, 3, a)) (hw : zFL (zy M).cls idx ci k) (ho : zsch[o]? = some (.inl (ci, fs))) (hf : fs[k]? = some none) (hj : 100 * o + k = j) (hx : u.1 j = x) (h : ZGo G M d t K (i + 1) lv (.int x :: st) u) : ZGo G M d t K i lv (.ref o :: st) u := by
  subst hx
  exact g_getI ht hw ho hf hj h
theorem zgo_iald {k n : Nat} {x y : Int32} (ht : (ztb M)[i]? = some (pc, .iaload, 1, a)) (hk : zsch[k]? = some (.inr (0, n))) (hy : u.2.1 k x.toNatClampNeg = y) (h : zin x n → ZGo G M d t K (i + 1) lv (.int y :: st) u) : ZGo G M d (if zin x n then t else none) K i lv (.int x :: .ref k :: st) u := by
  subst hy
  exact g_iald ht hk h
theorem zgo_lald {k n : Nat} {x : Int32} {y : Int64} (ht : (ztb M)[i]? = some (pc, .laload, 1, a)) (hk : zsch[k]? = some (.inr (1, n))) (hy : u.2.2 k x.toNatClampNeg = y) (h : zin x n → ZGo G M d t K (i + 1) lv (.long y :: st) u) : ZGo G M d (if zin x n then t else none) K i lv (.int x :: .ref k :: st) u := by
  subst hy
  exact g_lald ht hk h
theorem zgo_bald {k n : Nat} {x y : Int32} (ht : (ztb M)[i]? = some (pc, .baload, 1, a)) (hk : zsch[k]? = some (.inr (2, n))) (hy : u.2.1 k x.toNatClampNeg = y) (h : zin x n → ZGo G M d t K (i + 1) lv (.int y :: st) u) : ZGo G M d (if zin x n then t else none) K i lv (.int x :: .ref k :: st) u := by
  subst hy
  exact g_bald ht hk h
end ZMORE
end
