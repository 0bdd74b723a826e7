-- ===== PART A: goes FIRST, ahead of the names: the tables' words, and 'selects' of the private methods out of them =====
/-- a private method of a class that the tables say can be made, by its rows of tables_1 -/
def lw_okq (q : MethodName × Nat) : Prop := (q.1.cls ≠ "java/lang/invoke/MethodHandle" ∧ q.1.cls ≠ "java/lang/invoke/VarHandle") ∧ Cond.instantiable q.1.cls q.2 ∈ tables_1 ∧ Cond.privateMethod q.1 ∈ tables_1 ∧ Cond.instanceMethod q.1 ∈ tables_1
theorem lw_p0 : lw_okq (⟨"VotesUntouched", "comesFrom", "(II)Z"⟩, 10) := ⟨⟨by decide +kernel, by decide +kernel⟩, List.mem_of_getElem? (i := 17) (by decide +kernel), List.mem_of_getElem? (i := 307) (by decide +kernel), List.mem_of_getElem? (i := 308) (by decide +kernel)⟩
theorem lw_p1 : lw_okq (⟨"VotesUntouched$Changes", "forgetOldest", "()V"⟩, 6) := ⟨⟨by decide +kernel, by decide +kernel⟩, List.mem_of_getElem? (i := 67) (by decide +kernel), List.mem_of_getElem? (i := 383) (by decide +kernel), List.mem_of_getElem? (i := 384) (by decide +kernel)⟩
theorem lw_p2 : lw_okq (⟨"VotesUntouched", "toldOrVoid", "(I)I"⟩, 10) := ⟨⟨by decide +kernel, by decide +kernel⟩, List.mem_of_getElem? (i := 17) (by decide +kernel), List.mem_of_getElem? (i := 398) (by decide +kernel), List.mem_of_getElem? (i := 399) (by decide +kernel)⟩
theorem lw_p3 : lw_okq (⟨"VotesUntouched$Reader", "readLine", "()Z"⟩, 4) := ⟨⟨by decide +kernel, by decide +kernel⟩, List.mem_of_getElem? (i := 92) (by decide +kernel), List.mem_of_getElem? (i := 429) (by decide +kernel), List.mem_of_getElem? (i := 430) (by decide +kernel)⟩
theorem lw_p4 : lw_okq (⟨"VotesUntouched$Reader", "readChain", "(II)Z"⟩, 4) := ⟨⟨by decide +kernel, by decide +kernel⟩, List.mem_of_getElem? (i := 92) (by decide +kernel), List.mem_of_getElem? (i := 433) (by decide +kernel), List.mem_of_getElem? (i := 434) (by decide +kernel)⟩
theorem lw_p5 : lw_okq (⟨"VotesUntouched$Reader", "readOperand", "(I)Z"⟩, 4) := ⟨⟨by decide +kernel, by decide +kernel⟩, List.mem_of_getElem? (i := 92) (by decide +kernel), List.mem_of_getElem? (i := 437) (by decide +kernel), List.mem_of_getElem? (i := 438) (by decide +kernel)⟩
theorem lw_p6 : lw_okq (⟨"VotesUntouched$Reader", "next", "()I"⟩, 4) := ⟨⟨by decide +kernel, by decide +kernel⟩, List.mem_of_getElem? (i := 92) (by decide +kernel), List.mem_of_getElem? (i := 441) (by decide +kernel), List.mem_of_getElem? (i := 442) (by decide +kernel)⟩
theorem lw_p7 : lw_okq (⟨"VotesUntouched$Reader", "readOpened", "(II)Z"⟩, 4) := ⟨⟨by decide +kernel, by decide +kernel⟩, List.mem_of_getElem? (i := 92) (by decide +kernel), List.mem_of_getElem? (i := 445) (by decide +kernel), List.mem_of_getElem? (i := 446) (by decide +kernel)⟩
theorem lw_p8 : lw_okq (⟨"VotesUntouched$Reader", "readNumber", "()V"⟩, 4) := ⟨⟨by decide +kernel, by decide +kernel⟩, List.mem_of_getElem? (i := 92) (by decide +kernel), List.mem_of_getElem? (i := 456) (by decide +kernel), List.mem_of_getElem? (i := 457) (by decide +kernel)⟩
theorem lw_p9 : lw_okq (⟨"VotesUntouched", "isPut", "(II)Z"⟩, 10) := ⟨⟨by decide +kernel, by decide +kernel⟩, List.mem_of_getElem? (i := 17) (by decide +kernel), List.mem_of_getElem? (i := 475) (by decide +kernel), List.mem_of_getElem? (i := 476) (by decide +kernel)⟩
theorem lw_p10 : lw_okq (⟨"VotesUntouched$Ballot", "weigh", "(II)V"⟩, 5) := ⟨⟨by decide +kernel, by decide +kernel⟩, List.mem_of_getElem? (i := 134) (by decide +kernel), List.mem_of_getElem? (i := 499) (by decide +kernel), List.mem_of_getElem? (i := 500) (by decide +kernel)⟩
theorem lw_p11 : lw_okq (⟨"VotesUntouched$Ballot", "isFree", "(II)Z"⟩, 5) := ⟨⟨by decide +kernel, by decide +kernel⟩, List.mem_of_getElem? (i := 134) (by decide +kernel), List.mem_of_getElem? (i := 512) (by decide +kernel), List.mem_of_getElem? (i := 513) (by decide +kernel)⟩
theorem lw_p12 : lw_okq (⟨"VotesUntouched$Ballot", "nearOf", "(I)I"⟩, 5) := ⟨⟨by decide +kernel, by decide +kernel⟩, List.mem_of_getElem? (i := 134) (by decide +kernel), List.mem_of_getElem? (i := 516) (by decide +kernel), List.mem_of_getElem? (i := 517) (by decide +kernel)⟩
theorem lw_p13 : lw_okq (⟨"VotesUntouched$Ballot", "isAllowed", "(III)Z"⟩, 5) := ⟨⟨by decide +kernel, by decide +kernel⟩, List.mem_of_getElem? (i := 134) (by decide +kernel), List.mem_of_getElem? (i := 522) (by decide +kernel), List.mem_of_getElem? (i := 523) (by decide +kernel)⟩
theorem lw_p14 : lw_okq (⟨"VotesUntouched$Ballot", "whoLeans", "(II)I"⟩, 5) := ⟨⟨by decide +kernel, by decide +kernel⟩, List.mem_of_getElem? (i := 134) (by decide +kernel), List.mem_of_getElem? (i := 553) (by decide +kernel), List.mem_of_getElem? (i := 554) (by decide +kernel)⟩
theorem lw_p15 : lw_okq (⟨"VotesUntouched$Finder", "isCheaper", "(II)Z"⟩, 6) := ⟨⟨by decide +kernel, by decide +kernel⟩, List.mem_of_getElem? (i := 156) (by decide +kernel), List.mem_of_getElem? (i := 599) (by decide +kernel), List.mem_of_getElem? (i := 600) (by decide +kernel)⟩
def lw_privs_1 : List (MethodName × Nat) := [(⟨"VotesUntouched", "comesFrom", "(II)Z"⟩, 10), (⟨"VotesUntouched$Changes", "forgetOldest", "()V"⟩, 6), (⟨"VotesUntouched", "toldOrVoid", "(I)I"⟩, 10), (⟨"VotesUntouched$Reader", "readLine", "()Z"⟩, 4), (⟨"VotesUntouched$Reader", "readChain", "(II)Z"⟩, 4), (⟨"VotesUntouched$Reader", "readOperand", "(I)Z"⟩, 4), (⟨"VotesUntouched$Reader", "next", "()I"⟩, 4), (⟨"VotesUntouched$Reader", "readOpened", "(II)Z"⟩, 4), (⟨"VotesUntouched$Reader", "readNumber", "()V"⟩, 4), (⟨"VotesUntouched", "isPut", "(II)Z"⟩, 10), (⟨"VotesUntouched$Ballot", "weigh", "(II)V"⟩, 5), (⟨"VotesUntouched$Ballot", "isFree", "(II)Z"⟩, 5), (⟨"VotesUntouched$Ballot", "nearOf", "(I)I"⟩, 5), (⟨"VotesUntouched$Ballot", "isAllowed", "(III)Z"⟩, 5), (⟨"VotesUntouched$Ballot", "whoLeans", "(II)I"⟩, 5), (⟨"VotesUntouched$Finder", "isCheaper", "(II)Z"⟩, 6)]
theorem lw_r1 : ∀ q ∈ lw_privs_1, lw_okq q := List.forall_mem_cons.mpr ⟨lw_p0, List.forall_mem_cons.mpr ⟨lw_p1, List.forall_mem_cons.mpr ⟨lw_p2, List.forall_mem_cons.mpr ⟨lw_p3, List.forall_mem_cons.mpr ⟨lw_p4, List.forall_mem_cons.mpr ⟨lw_p5, List.forall_mem_cons.mpr ⟨lw_p6, List.forall_mem_cons.mpr ⟨lw_p7, List.forall_mem_cons.mpr ⟨lw_p8, List.forall_mem_cons.mpr ⟨lw_p9, List.forall_mem_cons.mpr ⟨lw_p10, List.forall_mem_cons.mpr ⟨lw_p11, List.forall_mem_cons.mpr ⟨lw_p12, List.forall_mem_cons.mpr ⟨lw_p13, List.forall_mem_cons.mpr ⟨lw_p14, List.forall_mem_cons.mpr ⟨lw_p15, fun _ h => absurd h List.not_mem_nil⟩⟩⟩⟩⟩⟩⟩⟩⟩⟩⟩⟩⟩⟩⟩⟩
theorem lw_p16 : lw_okq (⟨"VotesUntouched$Finder", "countSays", "()V"⟩, 6) := ⟨⟨by decide +kernel, by decide +kernel⟩, List.mem_of_getElem? (i := 156) (by decide +kernel), List.mem_of_getElem? (i := 649) (by decide +kernel), List.mem_of_getElem? (i := 650) (by decide +kernel)⟩
theorem lw_p17 : lw_okq (⟨"VotesUntouched$Finder", "weightOf", "(II)I"⟩, 6) := ⟨⟨by decide +kernel, by decide +kernel⟩, List.mem_of_getElem? (i := 156) (by decide +kernel), List.mem_of_getElem? (i := 676) (by decide +kernel), List.mem_of_getElem? (i := 677) (by decide +kernel)⟩
theorem lw_p18 : lw_okq (⟨"VotesUntouched$Years", "isWhole", "(II)Z"⟩, 3) := ⟨⟨by decide +kernel, by decide +kernel⟩, List.mem_of_getElem? (i := 201) (by decide +kernel), List.mem_of_getElem? (i := 739) (by decide +kernel), List.mem_of_getElem? (i := 740) (by decide +kernel)⟩
theorem lw_p19 : lw_okq (⟨"VotesUntouched$Years", "bundleAt", "(II)I"⟩, 3) := ⟨⟨by decide +kernel, by decide +kernel⟩, List.mem_of_getElem? (i := 201) (by decide +kernel), List.mem_of_getElem? (i := 744) (by decide +kernel), List.mem_of_getElem? (i := 745) (by decide +kernel)⟩
theorem lw_p20 : lw_okq (⟨"VotesUntouched$Years", "silentAt", "(II)I"⟩, 3) := ⟨⟨by decide +kernel, by decide +kernel⟩, List.mem_of_getElem? (i := 201) (by decide +kernel), List.mem_of_getElem? (i := 750) (by decide +kernel), List.mem_of_getElem? (i := 751) (by decide +kernel)⟩
theorem lw_p21 : lw_okq (⟨"VotesUntouched$Years", "mustBeSilent", "(I)I"⟩, 3) := ⟨⟨by decide +kernel, by decide +kernel⟩, List.mem_of_getElem? (i := 201) (by decide +kernel), List.mem_of_getElem? (i := 754) (by decide +kernel), List.mem_of_getElem? (i := 755) (by decide +kernel)⟩
theorem lw_p22 : lw_okq (⟨"VotesUntouched$Years", "isSilentFor", "(IIII)Z"⟩, 3) := ⟨⟨by decide +kernel, by decide +kernel⟩, List.mem_of_getElem? (i := 201) (by decide +kernel), List.mem_of_getElem? (i := 768) (by decide +kernel), List.mem_of_getElem? (i := 769) (by decide +kernel)⟩
theorem lw_p23 : lw_okq (⟨"VotesUntouched$Years", "hasVotedOn", "(IIII)Z"⟩, 3) := ⟨⟨by decide +kernel, by decide +kernel⟩, List.mem_of_getElem? (i := 201) (by decide +kernel), List.mem_of_getElem? (i := 772) (by decide +kernel), List.mem_of_getElem? (i := 773) (by decide +kernel)⟩
theorem lw_p24 : lw_okq (⟨"VotesUntouched$Voters", "own", "(IIII)I"⟩, 4) := ⟨⟨by decide +kernel, by decide +kernel⟩, List.mem_of_getElem? (i := 233) (by decide +kernel), List.mem_of_getElem? (i := 864) (by decide +kernel), List.mem_of_getElem? (i := 865) (by decide +kernel)⟩
theorem lw_p25 : lw_okq (⟨"VotesUntouched$Voters", "runFrom", "(IIIII)I"⟩, 4) := ⟨⟨by decide +kernel, by decide +kernel⟩, List.mem_of_getElem? (i := 233) (by decide +kernel), List.mem_of_getElem? (i := 872) (by decide +kernel), List.mem_of_getElem? (i := 873) (by decide +kernel)⟩
theorem lw_p26 : lw_okq (⟨"VotesUntouched$Voters", "begin", "(I)V"⟩, 4) := ⟨⟨by decide +kernel, by decide +kernel⟩, List.mem_of_getElem? (i := 233) (by decide +kernel), List.mem_of_getElem? (i := 887) (by decide +kernel), List.mem_of_getElem? (i := 888) (by decide +kernel)⟩
theorem lw_p27 : lw_okq (⟨"VotesUntouched$Voters", "run", "(IIIII)I"⟩, 4) := ⟨⟨by decide +kernel, by decide +kernel⟩, List.mem_of_getElem? (i := 233) (by decide +kernel), List.mem_of_getElem? (i := 891) (by decide +kernel), List.mem_of_getElem? (i := 892) (by decide +kernel)⟩
theorem lw_p28 : lw_okq (⟨"VotesUntouchedModel", "isPerson", "(I)Z"⟩, 42) := ⟨⟨by decide +kernel, by decide +kernel⟩, List.mem_of_getElem? (i := 983) (by decide +kernel), List.mem_of_getElem? (i := 1146) (by decide +kernel), List.mem_of_getElem? (i := 1147) (by decide +kernel)⟩
theorem lw_p29 : lw_okq (⟨"VotesUntouchedModel", "isPm", "(I)Z"⟩, 42) := ⟨⟨by decide +kernel, by decide +kernel⟩, List.mem_of_getElem? (i := 983) (by decide +kernel), List.mem_of_getElem? (i := 1161) (by decide +kernel), List.mem_of_getElem? (i := 1162) (by decide +kernel)⟩
theorem lw_p30 : lw_okq (⟨"VotesUntouchedModel", "isMatter", "(I)Z"⟩, 42) := ⟨⟨by decide +kernel, by decide +kernel⟩, List.mem_of_getElem? (i := 983) (by decide +kernel), List.mem_of_getElem? (i := 1165) (by decide +kernel), List.mem_of_getElem? (i := 1166) (by decide +kernel)⟩
theorem lw_p31 : lw_okq (⟨"VotesUntouchedModel", "becomes", "(II)I"⟩, 42) := ⟨⟨by decide +kernel, by decide +kernel⟩, List.mem_of_getElem? (i := 983) (by decide +kernel), List.mem_of_getElem? (i := 1172) (by decide +kernel), List.mem_of_getElem? (i := 1173) (by decide +kernel)⟩
def lw_privs_2 : List (MethodName × Nat) := [(⟨"VotesUntouched$Finder", "countSays", "()V"⟩, 6), (⟨"VotesUntouched$Finder", "weightOf", "(II)I"⟩, 6), (⟨"VotesUntouched$Years", "isWhole", "(II)Z"⟩, 3), (⟨"VotesUntouched$Years", "bundleAt", "(II)I"⟩, 3), (⟨"VotesUntouched$Years", "silentAt", "(II)I"⟩, 3), (⟨"VotesUntouched$Years", "mustBeSilent", "(I)I"⟩, 3), (⟨"VotesUntouched$Years", "isSilentFor", "(IIII)Z"⟩, 3), (⟨"VotesUntouched$Years", "hasVotedOn", "(IIII)Z"⟩, 3), (⟨"VotesUntouched$Voters", "own", "(IIII)I"⟩, 4), (⟨"VotesUntouched$Voters", "runFrom", "(IIIII)I"⟩, 4), (⟨"VotesUntouched$Voters", "begin", "(I)V"⟩, 4), (⟨"VotesUntouched$Voters", "run", "(IIIII)I"⟩, 4), (⟨"VotesUntouchedModel", "isPerson", "(I)Z"⟩, 42), (⟨"VotesUntouchedModel", "isPm", "(I)Z"⟩, 42), (⟨"VotesUntouchedModel", "isMatter", "(I)Z"⟩, 42), (⟨"VotesUntouchedModel", "becomes", "(II)I"⟩, 42)]
theorem lw_r2 : ∀ q ∈ lw_privs_2, lw_okq q := List.forall_mem_cons.mpr ⟨lw_p16, List.forall_mem_cons.mpr ⟨lw_p17, List.forall_mem_cons.mpr ⟨lw_p18, List.forall_mem_cons.mpr ⟨lw_p19, List.forall_mem_cons.mpr ⟨lw_p20, List.forall_mem_cons.mpr ⟨lw_p21, List.forall_mem_cons.mpr ⟨lw_p22, List.forall_mem_cons.mpr ⟨lw_p23, List.forall_mem_cons.mpr ⟨lw_p24, List.forall_mem_cons.mpr ⟨lw_p25, List.forall_mem_cons.mpr ⟨lw_p26, List.forall_mem_cons.mpr ⟨lw_p27, List.forall_mem_cons.mpr ⟨lw_p28, List.forall_mem_cons.mpr ⟨lw_p29, List.forall_mem_cons.mpr ⟨lw_p30, List.forall_mem_cons.mpr ⟨lw_p31, fun _ h => absurd h List.not_mem_nil⟩⟩⟩⟩⟩⟩⟩⟩⟩⟩⟩⟩⟩⟩⟩⟩
theorem lw_p32 : lw_okq (⟨"VotesUntouchedModel", "stepsTo", "(II)I"⟩, 42) := ⟨⟨by decide +kernel, by decide +kernel⟩, List.mem_of_getElem? (i := 983) (by decide +kernel), List.mem_of_getElem? (i := 1189) (by decide +kernel), List.mem_of_getElem? (i := 1190) (by decide +kernel)⟩
theorem lw_p33 : lw_okq (⟨"VotesUntouchedModel", "workOut", "(II)I"⟩, 42) := ⟨⟨by decide +kernel, by decide +kernel⟩, List.mem_of_getElem? (i := 983) (by decide +kernel), List.mem_of_getElem? (i := 1202) (by decide +kernel), List.mem_of_getElem? (i := 1203) (by decide +kernel)⟩
theorem lw_p34 : lw_okq (⟨"VotesUntouchedModel", "either", "()I"⟩, 42) := ⟨⟨by decide +kernel, by decide +kernel⟩, List.mem_of_getElem? (i := 983) (by decide +kernel), List.mem_of_getElem? (i := 1206) (by decide +kernel), List.mem_of_getElem? (i := 1207) (by decide +kernel)⟩
theorem lw_p35 : lw_okq (⟨"VotesUntouchedModel", "both", "()I"⟩, 42) := ⟨⟨by decide +kernel, by decide +kernel⟩, List.mem_of_getElem? (i := 983) (by decide +kernel), List.mem_of_getElem? (i := 1210) (by decide +kernel), List.mem_of_getElem? (i := 1211) (by decide +kernel)⟩
theorem lw_p36 : lw_okq (⟨"VotesUntouchedModel", "compared", "()I"⟩, 42) := ⟨⟨by decide +kernel, by decide +kernel⟩, List.mem_of_getElem? (i := 983) (by decide +kernel), List.mem_of_getElem? (i := 1214) (by decide +kernel), List.mem_of_getElem? (i := 1215) (by decide +kernel)⟩
theorem lw_p37 : lw_okq (⟨"VotesUntouchedModel", "sums", "()I"⟩, 42) := ⟨⟨by decide +kernel, by decide +kernel⟩, List.mem_of_getElem? (i := 983) (by decide +kernel), List.mem_of_getElem? (i := 1218) (by decide +kernel), List.mem_of_getElem? (i := 1219) (by decide +kernel)⟩
theorem lw_p38 : lw_okq (⟨"VotesUntouchedModel", "product", "()I"⟩, 42) := ⟨⟨by decide +kernel, by decide +kernel⟩, List.mem_of_getElem? (i := 983) (by decide +kernel), List.mem_of_getElem? (i := 1222) (by decide +kernel), List.mem_of_getElem? (i := 1223) (by decide +kernel)⟩
theorem lw_p39 : lw_okq (⟨"VotesUntouchedModel", "one", "()I"⟩, 42) := ⟨⟨by decide +kernel, by decide +kernel⟩, List.mem_of_getElem? (i := 983) (by decide +kernel), List.mem_of_getElem? (i := 1226) (by decide +kernel), List.mem_of_getElem? (i := 1227) (by decide +kernel)⟩
theorem lw_p40 : lw_okq (⟨"VotesUntouchedModel", "byteAt", "()I"⟩, 42) := ⟨⟨by decide +kernel, by decide +kernel⟩, List.mem_of_getElem? (i := 983) (by decide +kernel), List.mem_of_getElem? (i := 1230) (by decide +kernel), List.mem_of_getElem? (i := 1231) (by decide +kernel)⟩
theorem lw_p41 : lw_okq (⟨"VotesUntouchedModel", "wrong", "()I"⟩, 42) := ⟨⟨by decide +kernel, by decide +kernel⟩, List.mem_of_getElem? (i := 983) (by decide +kernel), List.mem_of_getElem? (i := 1234) (by decide +kernel), List.mem_of_getElem? (i := 1235) (by decide +kernel)⟩
theorem lw_p42 : lw_okq (⟨"VotesUntouchedModel", "takes", "(I)Z"⟩, 42) := ⟨⟨by decide +kernel, by decide +kernel⟩, List.mem_of_getElem? (i := 983) (by decide +kernel), List.mem_of_getElem? (i := 1238) (by decide +kernel), List.mem_of_getElem? (i := 1239) (by decide +kernel)⟩
theorem lw_p43 : lw_okq (⟨"VotesUntouchedModel", "isBundle", "(I)Z"⟩, 42) := ⟨⟨by decide +kernel, by decide +kernel⟩, List.mem_of_getElem? (i := 983) (by decide +kernel), List.mem_of_getElem? (i := 1249) (by decide +kernel), List.mem_of_getElem? (i := 1250) (by decide +kernel)⟩
theorem lw_p44 : lw_okq (⟨"VotesUntouchedModel", "areGifts", "(I)Z"⟩, 42) := ⟨⟨by decide +kernel, by decide +kernel⟩, List.mem_of_getElem? (i := 983) (by decide +kernel), List.mem_of_getElem? (i := 1253) (by decide +kernel), List.mem_of_getElem? (i := 1254) (by decide +kernel)⟩
theorem lw_p45 : lw_okq (⟨"VotesUntouchedModel", "asks", "(III)V"⟩, 42) := ⟨⟨by decide +kernel, by decide +kernel⟩, List.mem_of_getElem? (i := 983) (by decide +kernel), List.mem_of_getElem? (i := 1257) (by decide +kernel), List.mem_of_getElem? (i := 1258) (by decide +kernel)⟩
theorem lw_p46 : lw_okq (⟨"VotesUntouchedModel", "touches", "(III)V"⟩, 42) := ⟨⟨by decide +kernel, by decide +kernel⟩, List.mem_of_getElem? (i := 983) (by decide +kernel), List.mem_of_getElem? (i := 1261) (by decide +kernel), List.mem_of_getElem? (i := 1262) (by decide +kernel)⟩
theorem lw_p47 : lw_okq (⟨"VotesUntouchedModel", "mayVote", "(III)Z"⟩, 42) := ⟨⟨by decide +kernel, by decide +kernel⟩, List.mem_of_getElem? (i := 983) (by decide +kernel), List.mem_of_getElem? (i := 1265) (by decide +kernel), List.mem_of_getElem? (i := 1266) (by decide +kernel)⟩
def lw_privs_3 : List (MethodName × Nat) := [(⟨"VotesUntouchedModel", "stepsTo", "(II)I"⟩, 42), (⟨"VotesUntouchedModel", "workOut", "(II)I"⟩, 42), (⟨"VotesUntouchedModel", "either", "()I"⟩, 42), (⟨"VotesUntouchedModel", "both", "()I"⟩, 42), (⟨"VotesUntouchedModel", "compared", "()I"⟩, 42), (⟨"VotesUntouchedModel", "sums", "()I"⟩, 42), (⟨"VotesUntouchedModel", "product", "()I"⟩, 42), (⟨"VotesUntouchedModel", "one", "()I"⟩, 42), (⟨"VotesUntouchedModel", "byteAt", "()I"⟩, 42), (⟨"VotesUntouchedModel", "wrong", "()I"⟩, 42), (⟨"VotesUntouchedModel", "takes", "(I)Z"⟩, 42), (⟨"VotesUntouchedModel", "isBundle", "(I)Z"⟩, 42), (⟨"VotesUntouchedModel", "areGifts", "(I)Z"⟩, 42), (⟨"VotesUntouchedModel", "asks", "(III)V"⟩, 42), (⟨"VotesUntouchedModel", "touches", "(III)V"⟩, 42), (⟨"VotesUntouchedModel", "mayVote", "(III)Z"⟩, 42)]
theorem lw_r3 : ∀ q ∈ lw_privs_3, lw_okq q := List.forall_mem_cons.mpr ⟨lw_p32, List.forall_mem_cons.mpr ⟨lw_p33, List.forall_mem_cons.mpr ⟨lw_p34, List.forall_mem_cons.mpr ⟨lw_p35, List.forall_mem_cons.mpr ⟨lw_p36, List.forall_mem_cons.mpr ⟨lw_p37, List.forall_mem_cons.mpr ⟨lw_p38, List.forall_mem_cons.mpr ⟨lw_p39, List.forall_mem_cons.mpr ⟨lw_p40, List.forall_mem_cons.mpr ⟨lw_p41, List.forall_mem_cons.mpr ⟨lw_p42, List.forall_mem_cons.mpr ⟨lw_p43, List.forall_mem_cons.mpr ⟨lw_p44, List.forall_mem_cons.mpr ⟨lw_p45, List.forall_mem_cons.mpr ⟨lw_p46, List.forall_mem_cons.mpr ⟨lw_p47, fun _ h => absurd h List.not_mem_nil⟩⟩⟩⟩⟩⟩⟩⟩⟩⟩⟩⟩⟩⟩⟩⟩
theorem lw_p48 : lw_okq (⟨"VotesUntouchedModel", "nearOf", "(I)I"⟩, 42) := ⟨⟨by decide +kernel, by decide +kernel⟩, List.mem_of_getElem? (i := 983) (by decide +kernel), List.mem_of_getElem? (i := 1269) (by decide +kernel), List.mem_of_getElem? (i := 1270) (by decide +kernel)⟩
theorem lw_p49 : lw_okq (⟨"VotesUntouchedModel", "isCarried", "(II)Z"⟩, 42) := ⟨⟨by decide +kernel, by decide +kernel⟩, List.mem_of_getElem? (i := 983) (by decide +kernel), List.mem_of_getElem? (i := 1281) (by decide +kernel), List.mem_of_getElem? (i := 1282) (by decide +kernel)⟩
theorem lw_p50 : lw_okq (⟨"VotesUntouchedModel", "isCarriedBy", "(I)Z"⟩, 42) := ⟨⟨by decide +kernel, by decide +kernel⟩, List.mem_of_getElem? (i := 983) (by decide +kernel), List.mem_of_getElem? (i := 1285) (by decide +kernel), List.mem_of_getElem? (i := 1286) (by decide +kernel)⟩
theorem lw_p51 : lw_okq (⟨"VotesUntouchedModel", "isMore", "(I)Z"⟩, 42) := ⟨⟨by decide +kernel, by decide +kernel⟩, List.mem_of_getElem? (i := 983) (by decide +kernel), List.mem_of_getElem? (i := 1289) (by decide +kernel), List.mem_of_getElem? (i := 1290) (by decide +kernel)⟩
theorem lw_p52 : lw_okq (⟨"VotesUntouchedModel", "sideOf", "(IZ)I"⟩, 42) := ⟨⟨by decide +kernel, by decide +kernel⟩, List.mem_of_getElem? (i := 983) (by decide +kernel), List.mem_of_getElem? (i := 1293) (by decide +kernel), List.mem_of_getElem? (i := 1294) (by decide +kernel)⟩
theorem lw_p53 : lw_okq (⟨"VotesUntouchedModel", "feesOf", "(I)I"⟩, 42) := ⟨⟨by decide +kernel, by decide +kernel⟩, List.mem_of_getElem? (i := 983) (by decide +kernel), List.mem_of_getElem? (i := 1305) (by decide +kernel), List.mem_of_getElem? (i := 1306) (by decide +kernel)⟩
theorem lw_p54 : lw_okq (⟨"VotesUntouchedModel", "parts", "()V"⟩, 42) := ⟨⟨by decide +kernel, by decide +kernel⟩, List.mem_of_getElem? (i := 983) (by decide +kernel), List.mem_of_getElem? (i := 1321) (by decide +kernel), List.mem_of_getElem? (i := 1322) (by decide +kernel)⟩
theorem lw_p55 : lw_okq (⟨"VotesUntouchedModel", "sayOf", "(II)I"⟩, 42) := ⟨⟨by decide +kernel, by decide +kernel⟩, List.mem_of_getElem? (i := 983) (by decide +kernel), List.mem_of_getElem? (i := 1329) (by decide +kernel), List.mem_of_getElem? (i := 1330) (by decide +kernel)⟩
theorem lw_p56 : lw_okq (⟨"VotesUntouchedModel", "drawnOf", "(II)I"⟩, 42) := ⟨⟨by decide +kernel, by decide +kernel⟩, List.mem_of_getElem? (i := 983) (by decide +kernel), List.mem_of_getElem? (i := 1358) (by decide +kernel), List.mem_of_getElem? (i := 1359) (by decide +kernel)⟩
theorem lw_p57 : lw_okq (⟨"VotesUntouchedModel", "yearIs", "(I)I"⟩, 42) := ⟨⟨by decide +kernel, by decide +kernel⟩, List.mem_of_getElem? (i := 983) (by decide +kernel), List.mem_of_getElem? (i := 1366) (by decide +kernel), List.mem_of_getElem? (i := 1367) (by decide +kernel)⟩
theorem lw_p58 : lw_okq (⟨"VotesUntouchedModel", "bundleAt", "(II)I"⟩, 42) := ⟨⟨by decide +kernel, by decide +kernel⟩, List.mem_of_getElem? (i := 983) (by decide +kernel), List.mem_of_getElem? (i := 1370) (by decide +kernel), List.mem_of_getElem? (i := 1371) (by decide +kernel)⟩
theorem lw_p59 : lw_okq (⟨"VotesUntouchedModel", "silentAt", "(II)I"⟩, 42) := ⟨⟨by decide +kernel, by decide +kernel⟩, List.mem_of_getElem? (i := 983) (by decide +kernel), List.mem_of_getElem? (i := 1374) (by decide +kernel), List.mem_of_getElem? (i := 1375) (by decide +kernel)⟩
theorem lw_p60 : lw_okq (⟨"VotesUntouchedModel", "isVotedBeside", "(IIII)Z"⟩, 42) := ⟨⟨by decide +kernel, by decide +kernel⟩, List.mem_of_getElem? (i := 983) (by decide +kernel), List.mem_of_getElem? (i := 1382) (by decide +kernel), List.mem_of_getElem? (i := 1383) (by decide +kernel)⟩
theorem lw_p61 : lw_okq (⟨"VotesUntouchedModel", "isBody", "(I)Z"⟩, 42) := ⟨⟨by decide +kernel, by decide +kernel⟩, List.mem_of_getElem? (i := 983) (by decide +kernel), List.mem_of_getElem? (i := 1411) (by decide +kernel), List.mem_of_getElem? (i := 1412) (by decide +kernel)⟩
theorem lw_p62 : lw_okq (⟨"VotesUntouchedModel", "votesAs", "(II)I"⟩, 42) := ⟨⟨by decide +kernel, by decide +kernel⟩, List.mem_of_getElem? (i := 983) (by decide +kernel), List.mem_of_getElem? (i := 1415) (by decide +kernel), List.mem_of_getElem? (i := 1416) (by decide +kernel)⟩
theorem lw_p63 : lw_okq (⟨"VotesUntouchedModel", "begins", "(I)V"⟩, 42) := ⟨⟨by decide +kernel, by decide +kernel⟩, List.mem_of_getElem? (i := 983) (by decide +kernel), List.mem_of_getElem? (i := 1419) (by decide +kernel), List.mem_of_getElem? (i := 1420) (by decide +kernel)⟩
def lw_privs_4 : List (MethodName × Nat) := [(⟨"VotesUntouchedModel", "nearOf", "(I)I"⟩, 42), (⟨"VotesUntouchedModel", "isCarried", "(II)Z"⟩, 42), (⟨"VotesUntouchedModel", "isCarriedBy", "(I)Z"⟩, 42), (⟨"VotesUntouchedModel", "isMore", "(I)Z"⟩, 42), (⟨"VotesUntouchedModel", "sideOf", "(IZ)I"⟩, 42), (⟨"VotesUntouchedModel", "feesOf", "(I)I"⟩, 42), (⟨"VotesUntouchedModel", "parts", "()V"⟩, 42), (⟨"VotesUntouchedModel", "sayOf", "(II)I"⟩, 42), (⟨"VotesUntouchedModel", "drawnOf", "(II)I"⟩, 42), (⟨"VotesUntouchedModel", "yearIs", "(I)I"⟩, 42), (⟨"VotesUntouchedModel", "bundleAt", "(II)I"⟩, 42), (⟨"VotesUntouchedModel", "silentAt", "(II)I"⟩, 42), (⟨"VotesUntouchedModel", "isVotedBeside", "(IIII)Z"⟩, 42), (⟨"VotesUntouchedModel", "isBody", "(I)Z"⟩, 42), (⟨"VotesUntouchedModel", "votesAs", "(II)I"⟩, 42), (⟨"VotesUntouchedModel", "begins", "(I)V"⟩, 42)]
theorem lw_r4 : ∀ q ∈ lw_privs_4, lw_okq q := List.forall_mem_cons.mpr ⟨lw_p48, List.forall_mem_cons.mpr ⟨lw_p49, List.forall_mem_cons.mpr ⟨lw_p50, List.forall_mem_cons.mpr ⟨lw_p51, List.forall_mem_cons.mpr ⟨lw_p52, List.forall_mem_cons.mpr ⟨lw_p53, List.forall_mem_cons.mpr ⟨lw_p54, List.forall_mem_cons.mpr ⟨lw_p55, List.forall_mem_cons.mpr ⟨lw_p56, List.forall_mem_cons.mpr ⟨lw_p57, List.forall_mem_cons.mpr ⟨lw_p58, List.forall_mem_cons.mpr ⟨lw_p59, List.forall_mem_cons.mpr ⟨lw_p60, List.forall_mem_cons.mpr ⟨lw_p61, List.forall_mem_cons.mpr ⟨lw_p62, List.forall_mem_cons.mpr ⟨lw_p63, fun _ h => absurd h List.not_mem_nil⟩⟩⟩⟩⟩⟩⟩⟩⟩⟩⟩⟩⟩⟩⟩⟩
theorem lw_p64 : lw_okq (⟨"VotesUntouchedModel", "ownsAs", "(II)I"⟩, 42) := ⟨⟨by decide +kernel, by decide +kernel⟩, List.mem_of_getElem? (i := 983) (by decide +kernel), List.mem_of_getElem? (i := 1423) (by decide +kernel), List.mem_of_getElem? (i := 1424) (by decide +kernel)⟩
theorem lw_p65 : lw_okq (⟨"VotesUntouchedModel", "givesAs", "(II)I"⟩, 42) := ⟨⟨by decide +kernel, by decide +kernel⟩, List.mem_of_getElem? (i := 983) (by decide +kernel), List.mem_of_getElem? (i := 1427) (by decide +kernel), List.mem_of_getElem? (i := 1428) (by decide +kernel)⟩
theorem lw_p66 : lw_okq (⟨"VotesUntouchedModel", "tellsAs", "(II)I"⟩, 42) := ⟨⟨by decide +kernel, by decide +kernel⟩, List.mem_of_getElem? (i := 983) (by decide +kernel), List.mem_of_getElem? (i := 1431) (by decide +kernel), List.mem_of_getElem? (i := 1432) (by decide +kernel)⟩
theorem lw_p67 : lw_okq (⟨"VotesUntouchedModel", "refusal", "(II)I"⟩, 42) := ⟨⟨by decide +kernel, by decide +kernel⟩, List.mem_of_getElem? (i := 983) (by decide +kernel), List.mem_of_getElem? (i := 1451) (by decide +kernel), List.mem_of_getElem? (i := 1452) (by decide +kernel)⟩
theorem lw_p68 : lw_okq (⟨"VotesUntouchedModel", "kindOf", "(I)I"⟩, 42) := ⟨⟨by decide +kernel, by decide +kernel⟩, List.mem_of_getElem? (i := 983) (by decide +kernel), List.mem_of_getElem? (i := 1471) (by decide +kernel), List.mem_of_getElem? (i := 1472) (by decide +kernel)⟩
def lw_privs_5 : List (MethodName × Nat) := [(⟨"VotesUntouchedModel", "ownsAs", "(II)I"⟩, 42), (⟨"VotesUntouchedModel", "givesAs", "(II)I"⟩, 42), (⟨"VotesUntouchedModel", "tellsAs", "(II)I"⟩, 42), (⟨"VotesUntouchedModel", "refusal", "(II)I"⟩, 42), (⟨"VotesUntouchedModel", "kindOf", "(I)I"⟩, 42)]
theorem lw_r5 : ∀ q ∈ lw_privs_5, lw_okq q := List.forall_mem_cons.mpr ⟨lw_p64, List.forall_mem_cons.mpr ⟨lw_p65, List.forall_mem_cons.mpr ⟨lw_p66, List.forall_mem_cons.mpr ⟨lw_p67, List.forall_mem_cons.mpr ⟨lw_p68, fun _ h => absurd h List.not_mem_nil⟩⟩⟩⟩⟩
def lw_privs : List (MethodName × Nat) := lw_privs_1 ++ (lw_privs_2 ++ (lw_privs_3 ++ (lw_privs_4 ++ (lw_privs_5))))
def lw_tbl : List Cond := k2_sels lw_privs ++ tables_1
theorem lw_privs_ok : ∀ q ∈ lw_privs, lw_okq q := by
  show ∀ q ∈ lw_privs_1 ++ (lw_privs_2 ++ (lw_privs_3 ++ (lw_privs_4 ++ (lw_privs_5)))), lw_okq q
  exact List.forall_mem_append.mpr ⟨lw_r1, List.forall_mem_append.mpr ⟨lw_r2, List.forall_mem_append.mpr ⟨lw_r3, List.forall_mem_append.mpr ⟨lw_r4, lw_r5⟩⟩⟩⟩
-- ===== end of PART A; then your names; then what follows =====
/-! ===== BEGIN words of one list among another's, by their places ===== -/
theorem goodIn_r {big : List Cond} (ws : List Cond) (ps : List Nat) (hp : ws = ps.filterMap (fun i => big[i]?)) (h : ws.all goodWord = true) : GoodIn big ws := by
  intro w hw
  have h1 := List.all_eq_true.mp h w hw
  rw [hp] at hw
  obtain ⟨i, -, hi⟩ := List.mem_filterMap.mp hw
  have hm : w ∈ big := by first | exact List.mem_of_getElem? hi | exact List.getElem?_mem hi
  exact ⟨hm, good_of_word h1⟩
theorem goodIn_app {big a b : List Cond} (ha : GoodIn big a) (hb : GoodIn big b) : GoodIn big (a ++ b) := fun w h => (List.mem_append.mp h).elim (ha w) (hb w)
theorem goodIn_ca {big a b : List Cond} {c : Cond} (ha : GoodIn big (c :: a)) (hb : GoodIn big b) : GoodIn big (c :: (a ++ b)) := fun w h => (List.mem_cons.mp h).elim (fun e => ha w (List.mem_cons.mpr (Or.inl e))) (fun h => (List.mem_append.mp h).elim (fun h => ha w (List.mem_cons.mpr (Or.inr h))) (hb w))
theorem goodIn_sub {big ws : List Cond} (hm : ∀ w ∈ ws, w ∈ big) (h : ws.all goodWord = true) : GoodIn big ws := fun w hw => ⟨hm w hw, good_of_word (List.all_eq_true.mp h w hw)⟩
/-! ===== END ===== -/

/-! ===== BEGIN printed: names, fields, word lists, decode rows ===== -/
def RX0 : String := "VotesUntouched$Ballot"
def TX0 : u_T := fun k => match k with
  | 0 => ("VotesUntouched$Ballot", "council", "LVotesUntouched$Council;", true)
  | 1 => ("VotesUntouched$Ballot", "text", "LVotesUntouched$Code;", true)
  | 2 => ("VotesUntouched$Ballot", "touches", "[I", true)
  | 3 => ("VotesUntouched$Ballot", "names", "[I", true)
  | _ => ("VotesUntouched$Ballot", "touched", "I", false)
def tyX0 : Nat → FieldType := fun k => match k with
  | 0 => .object "VotesUntouched$Council"
  | 1 => .object "VotesUntouched$Code"
  | 2 => .array .int
  | 3 => .array .int
  | _ => .int
abbrev wsX00 : List Cond := u_ws RX0 TX0 5
theorem nmX0 : ∀ a, a < 5 → ∀ b, b < 5 → a ≠ b → (TX0 a).2.1 ≠ (TX0 b).2.1 := by decide +kernel
theorem tyX0_ok : ∀ k, k < 5 → parseFieldDescriptor (TX0 k).2.2.1 = some (tyX0 k) := by decide +kernel
abbrev cX0_init : ByteArray := prog_2_method_1_code
def yX0_init : MethodName := ⟨RX0, "<init>", "(LVotesUntouched$Council;LVotesUntouched$Code;)V"⟩
abbrev cX0_whoMay : ByteArray := prog_2_method_2_code
def yX0_whoMay : MethodName := ⟨RX0, "whoMay", "(III)I"⟩
abbrev cX0_whoIsFree : ByteArray := prog_2_method_3_code
def yX0_whoIsFree : MethodName := ⟨RX0, "whoIsFree", "(II)I"⟩
abbrev cX0_weigh : ByteArray := prog_2_method_4_code
def yX0_weigh : MethodName := ⟨RX0, "weigh", "(II)V"⟩
abbrev cX0_isFree : ByteArray := prog_2_method_5_code
def yX0_isFree : MethodName := ⟨RX0, "isFree", "(II)Z"⟩
abbrev cX0_isAllowed : ByteArray := prog_2_method_6_code
def yX0_isAllowed : MethodName := ⟨RX0, "isAllowed", "(III)Z"⟩
abbrev cX0_nearOf : ByteArray := prog_2_method_7_code
def yX0_nearOf : MethodName := ⟨RX0, "nearOf", "(I)I"⟩
abbrev cX0_fans : ByteArray := prog_2_method_8_code
def yX0_fans : MethodName := ⟨RX0, "fans", "(I)I"⟩
abbrev cX0_foes : ByteArray := prog_2_method_9_code
def yX0_foes : MethodName := ⟨RX0, "foes", "(I)I"⟩
abbrev cX0_whoLeans : ByteArray := prog_2_method_10_code
def yX0_whoLeans : MethodName := ⟨RX0, "whoLeans", "(II)I"⟩
abbrev cX0_isCarried : ByteArray := prog_2_method_11_code
def yX0_isCarried : MethodName := ⟨RX0, "isCarried", "(II)Z"⟩
abbrev cX0_isCarriedBy : ByteArray := prog_2_method_12_code
def yX0_isCarriedBy : MethodName := ⟨RX0, "isCarriedBy", "(III)Z"⟩
abbrev cX0_isMore : ByteArray := prog_2_method_13_code
def yX0_isMore : MethodName := ⟨RX0, "isMore", "(II)Z"⟩
def RX1 : String := "VotesUntouched$Changes"
def TX1 : u_T := fun k => match k with
  | 0 => ("VotesUntouched$Changes", "council", "LVotesUntouched$Council;", true)
  | 1 => ("VotesUntouched$Changes", "slots", "[I", true)
  | 2 => ("VotesUntouched$Changes", "before", "[I", true)
  | 3 => ("VotesUntouched$Changes", "after", "[I", true)
  | 4 => ("VotesUntouched$Changes", "done", "I", false)
  | _ => ("VotesUntouched$Changes", "kept", "I", false)
def tyX1 : Nat → FieldType := fun k => match k with
  | 0 => .object "VotesUntouched$Council"
  | 1 => .array .int
  | 2 => .array .int
  | 3 => .array .int
  | 4 => .int
  | _ => .int
abbrev wsX10 : List Cond := u_ws RX1 TX1 6
theorem nmX1 : ∀ a, a < 6 → ∀ b, b < 6 → a ≠ b → (TX1 a).2.1 ≠ (TX1 b).2.1 := by decide +kernel
theorem tyX1_ok : ∀ k, k < 6 → parseFieldDescriptor (TX1 k).2.2.1 = some (tyX1 k) := by decide +kernel
abbrev cX1_init : ByteArray := prog_3_method_1_code
def yX1_init : MethodName := ⟨RX1, "<init>", "(LVotesUntouched$Council;)V"⟩
abbrev cX1_make : ByteArray := prog_3_method_2_code
def yX1_make : MethodName := ⟨RX1, "make", "(II)I"⟩
abbrev cX1_forgetOldest : ByteArray := prog_3_method_3_code
def yX1_forgetOldest : MethodName := ⟨RX1, "forgetOldest", "()V"⟩
abbrev cX1_takeBack : ByteArray := prog_3_method_4_code
def yX1_takeBack : MethodName := ⟨RX1, "takeBack", "()Z"⟩
abbrev cX1_makeAgain : ByteArray := prog_3_method_5_code
def yX1_makeAgain : MethodName := ⟨RX1, "makeAgain", "()Z"⟩
abbrev cX1_undoable : ByteArray := prog_3_method_6_code
def yX1_undoable : MethodName := ⟨RX1, "undoable", "()I"⟩
abbrev cX1_redoable : ByteArray := prog_3_method_7_code
def yX1_redoable : MethodName := ⟨RX1, "redoable", "()I"⟩
def RX2 : String := "VotesUntouched$Code"
def TX2 : u_T := fun k => match k with
  | 0 => ("VotesUntouched$Code", "steps", "[I", true)
  | 1 => ("VotesUntouched$Code", "values", "[I", true)
  | 2 => ("VotesUntouched$Code", "stack", "[I", true)
  | _ => ("VotesUntouched$Code", "length", "I", false)
def tyX2 : Nat → FieldType := fun k => match k with
  | 0 => .array .int
  | 1 => .array .int
  | 2 => .array .int
  | _ => .int
abbrev wsX20 : List Cond := u_ws RX2 TX2 4
theorem nmX2 : ∀ a, a < 4 → ∀ b, b < 4 → a ≠ b → (TX2 a).2.1 ≠ (TX2 b).2.1 := by decide +kernel
theorem tyX2_ok : ∀ k, k < 4 → parseFieldDescriptor (TX2 k).2.2.1 = some (tyX2 k) := by decide +kernel
abbrev cX2_init : ByteArray := prog_4_method_1_code
def yX2_init : MethodName := ⟨RX2, "<init>", "()V"⟩
abbrev cX2_isEmpty : ByteArray := prog_4_method_2_code
def yX2_isEmpty : MethodName := ⟨RX2, "isEmpty", "()Z"⟩
abbrev cX2_empty : ByteArray := prog_4_method_3_code
def yX2_empty : MethodName := ⟨RX2, "empty", "()V"⟩
abbrev cX2_add : ByteArray := prog_4_method_4_code
def yX2_add : MethodName := ⟨RX2, "add", "(II)V"⟩
abbrev cX2_becomes : ByteArray := prog_4_method_5_code
def yX2_becomes : MethodName := ⟨RX2, "becomes", "(LVotesUntouched$Code;)V"⟩
abbrev cX2_worth : ByteArray := prog_4_method_6_code
def yX2_worth : MethodName := ⟨RX2, "worth", "([I)I"⟩
abbrev cX2_named : ByteArray := prog_4_method_7_code
def yX2_named : MethodName := ⟨RX2, "named", "([II)I"⟩
abbrev cX2_needOf : ByteArray := prog_4_method_8_code
def yX2_needOf : MethodName := ⟨RX2, "needOf", "(I)I"⟩
abbrev cX2_joined : ByteArray := prog_4_method_9_code
def yX2_joined : MethodName := ⟨RX2, "joined", "(III)I"⟩
def RX3 : String := "VotesUntouched$Council"
def TX3 : u_T := fun k => match k with
  | 0 => ("VotesUntouched$Council", "fees", "[I", true)
  | 1 => ("VotesUntouched$Council", "steps", "[I", true)
  | 2 => ("VotesUntouched$Council", "told", "[I", true)
  | 3 => ("VotesUntouched$Council", "people", "I", false)
  | 4 => ("VotesUntouched$Council", "pairs", "I", false)
  | 5 => ("VotesUntouched$Council", "matters", "I", false)
  | 6 => ("VotesUntouched$Council", "reach", "I", false)
  | _ => ("VotesUntouched$Council", "quorum", "I", false)
def tyX3 : Nat → FieldType := fun k => match k with
  | 0 => .array .int
  | 1 => .array .int
  | 2 => .array .int
  | 3 => .int
  | 4 => .int
  | 5 => .int
  | 6 => .int
  | _ => .int
abbrev wsX30 : List Cond := u_ws RX3 TX3 8
theorem nmX3 : ∀ a, a < 8 → ∀ b, b < 8 → a ≠ b → (TX3 a).2.1 ≠ (TX3 b).2.1 := by decide +kernel
theorem tyX3_ok : ∀ k, k < 8 → parseFieldDescriptor (TX3 k).2.2.1 = some (tyX3 k) := by decide +kernel
abbrev cX3_init : ByteArray := prog_5_method_1_code
def yX3_init : MethodName := ⟨RX3, "<init>", "()V"⟩
abbrev cX3_isPerson : ByteArray := prog_5_method_2_code
def yX3_isPerson : MethodName := ⟨RX3, "isPerson", "(I)Z"⟩
abbrev cX3_isMatter : ByteArray := prog_5_method_3_code
def yX3_isMatter : MethodName := ⟨RX3, "isMatter", "(I)Z"⟩
abbrev cX3_isTwo : ByteArray := prog_5_method_4_code
def yX3_isTwo : MethodName := ⟨RX3, "isTwo", "(I)Z"⟩
abbrev cX3_isBundle : ByteArray := prog_5_method_5_code
def yX3_isBundle : MethodName := ⟨RX3, "isBundle", "(I)Z"⟩
abbrev cX3_isGifts : ByteArray := prog_5_method_6_code
def yX3_isGifts : MethodName := ⟨RX3, "isGifts", "(I)Z"⟩
abbrev cX3_everybody : ByteArray := prog_5_method_7_code
def yX3_everybody : MethodName := ⟨RX3, "everybody", "()I"⟩
abbrev cX3_everything : ByteArray := prog_5_method_8_code
def yX3_everything : MethodName := ⟨RX3, "everything", "()I"⟩
abbrev cX3_addPerson : ByteArray := prog_5_method_9_code
def yX3_addPerson : MethodName := ⟨RX3, "addPerson", "(I)I"⟩
abbrev cX3_addPair : ByteArray := prog_5_method_10_code
def yX3_addPair : MethodName := ⟨RX3, "addPair", "(II)I"⟩
abbrev cX3_addMatter : ByteArray := prog_5_method_11_code
def yX3_addMatter : MethodName := ⟨RX3, "addMatter", "()I"⟩
abbrev cX3_feeOf : ByteArray := prog_5_method_12_code
def yX3_feeOf : MethodName := ⟨RX3, "feeOf", "(I)I"⟩
abbrev cX3_feesOf : ByteArray := prog_5_method_13_code
def yX3_feesOf : MethodName := ⟨RX3, "feesOf", "(I)I"⟩
abbrev cX3_stepsOf : ByteArray := prog_5_method_14_code
def yX3_stepsOf : MethodName := ⟨RX3, "stepsOf", "(II)I"⟩
abbrev cX3_slotOf : ByteArray := prog_5_method_15_code
def yX3_slotOf : MethodName := ⟨RX3, "slotOf", "(II)I"⟩
abbrev cX3_leastOf : ByteArray := prog_5_method_16_code
def yX3_leastOf : MethodName := ⟨RX3, "leastOf", "(I)I"⟩
abbrev cX3_mostOf : ByteArray := prog_5_method_17_code
def yX3_mostOf : MethodName := ⟨RX3, "mostOf", "(I)I"⟩
abbrev cX3_toldAt : ByteArray := prog_5_method_18_code
def yX3_toldAt : MethodName := ⟨RX3, "toldAt", "(I)I"⟩
abbrev cX3_tell : ByteArray := prog_5_method_19_code
def yX3_tell : MethodName := ⟨RX3, "tell", "(II)V"⟩
abbrev cX3_sumOf : ByteArray := prog_5_method_20_code
def yX3_sumOf : MethodName := ⟨RX3, "sumOf", "(III)I"⟩
abbrev cX3_rumourOf : ByteArray := prog_5_method_21_code
def yX3_rumourOf : MethodName := ⟨RX3, "rumourOf", "(I)I"⟩
def RX4 : String := "VotesUntouched$Deeds"
def TX4 : u_T := fun k => match k with
  | 0 => ("VotesUntouched$Deeds", "now", "[I", true)
  | 1 => ("VotesUntouched$Deeds", "kept", "[I", true)
  | _ => ("VotesUntouched$Deeds", "hasImage", "Z", false)
def tyX4 : Nat → FieldType := fun k => match k with
  | 0 => .array .int
  | 1 => .array .int
  | _ => .boolean
abbrev wsX40 : List Cond := u_ws RX4 TX4 3
theorem nmX4 : ∀ a, a < 3 → ∀ b, b < 3 → a ≠ b → (TX4 a).2.1 ≠ (TX4 b).2.1 := by decide +kernel
theorem tyX4_ok : ∀ k, k < 3 → parseFieldDescriptor (TX4 k).2.2.1 = some (tyX4 k) := by decide +kernel
abbrev cX4_init : ByteArray := prog_6_method_1_code
def yX4_init : MethodName := ⟨RX4, "<init>", "()V"⟩
abbrev cX4_decided : ByteArray := prog_6_method_2_code
def yX4_decided : MethodName := ⟨RX4, "decided", "()I"⟩
abbrev cX4_isAny : ByteArray := prog_6_method_3_code
def yX4_isAny : MethodName := ⟨RX4, "isAny", "()Z"⟩
abbrev cX4_told : ByteArray := prog_6_method_4_code
def yX4_told : MethodName := ⟨RX4, "told", "(I)I"⟩
abbrev cX4_enter : ByteArray := prog_6_method_5_code
def yX4_enter : MethodName := ⟨RX4, "enter", "(IIII)V"⟩
abbrev cX4_keepImage : ByteArray := prog_6_method_6_code
def yX4_keepImage : MethodName := ⟨RX4, "keepImage", "()V"⟩
abbrev cX4_goBack : ByteArray := prog_6_method_7_code
def yX4_goBack : MethodName := ⟨RX4, "goBack", "()Z"⟩
def RX5 : String := "VotesUntouched$Finder"
def TX5 : u_T := fun k => match k with
  | 0 => ("VotesUntouched$Finder", "council", "LVotesUntouched$Council;", true)
  | 1 => ("VotesUntouched$Finder", "ballot", "LVotesUntouched$Ballot;", true)
  | 2 => ("VotesUntouched$Finder", "says", "[I", true)
  | 3 => ("VotesUntouched$Finder", "most", "[I", true)
  | 4 => ("VotesUntouched$Finder", "first", "[I", true)
  | _ => ("VotesUntouched$Finder", "gains", "[I", true)
def tyX5 : Nat → FieldType := fun k => match k with
  | 0 => .object "VotesUntouched$Council"
  | 1 => .object "VotesUntouched$Ballot"
  | 2 => .array .int
  | 3 => .array .int
  | 4 => .array .int
  | _ => .array .int
abbrev wsX50 : List Cond := u_ws RX5 TX5 6
theorem nmX5 : ∀ a, a < 6 → ∀ b, b < 6 → a ≠ b → (TX5 a).2.1 ≠ (TX5 b).2.1 := by decide +kernel
theorem tyX5_ok : ∀ k, k < 6 → parseFieldDescriptor (TX5 k).2.2.1 = some (tyX5 k) := by decide +kernel
abbrev cX5_init : ByteArray := prog_7_method_1_code
def yX5_init : MethodName := ⟨RX5, "<init>", "(LVotesUntouched$Council;LVotesUntouched$Ballot;)V"⟩
abbrev cX5_smallestCarriedWith : ByteArray := prog_7_method_2_code
def yX5_smallestCarriedWith : MethodName := ⟨RX5, "smallestCarriedWith", "(I)I"⟩
abbrev cX5_isFewer : ByteArray := prog_7_method_3_code
def yX5_isFewer : MethodName := ⟨RX5, "isFewer", "(II)Z"⟩
abbrev cX5_cheapestGifts : ByteArray := prog_7_method_4_code
def yX5_cheapestGifts : MethodName := ⟨RX5, "cheapestGifts", "(I)I"⟩
abbrev cX5_isCheaper : ByteArray := prog_7_method_5_code
def yX5_isCheaper : MethodName := ⟨RX5, "isCheaper", "(II)Z"⟩
abbrev cX5_fewestLeftOut : ByteArray := prog_7_method_6_code
def yX5_fewestLeftOut : MethodName := ⟨RX5, "fewestLeftOut", "(II)I"⟩
abbrev cX5_carriedAlone : ByteArray := prog_7_method_7_code
def yX5_carriedAlone : MethodName := ⟨RX5, "carriedAlone", "()I"⟩
abbrev cX5_part : ByteArray := prog_7_method_8_code
def yX5_part : MethodName := ⟨RX5, "part", "()V"⟩
abbrev cX5_mostCarried : ByteArray := prog_7_method_9_code
def yX5_mostCarried : MethodName := ⟨RX5, "mostCarried", "()I"⟩
abbrev cX5_partOf : ByteArray := prog_7_method_10_code
def yX5_partOf : MethodName := ⟨RX5, "partOf", "(I)I"⟩
abbrev cX5_sayOf : ByteArray := prog_7_method_11_code
def yX5_sayOf : MethodName := ⟨RX5, "sayOf", "(I)I"⟩
abbrev cX5_countSays : ByteArray := prog_7_method_12_code
def yX5_countSays : MethodName := ⟨RX5, "countSays", "()V"⟩
abbrev cX5_powerOf : ByteArray := prog_7_method_13_code
def yX5_powerOf : MethodName := ⟨RX5, "powerOf", "(I)I"⟩
abbrev cX5_mostSaying : ByteArray := prog_7_method_14_code
def yX5_mostSaying : MethodName := ⟨RX5, "mostSaying", "()I"⟩
abbrev cX5_twelfthsCarried : ByteArray := prog_7_method_15_code
def yX5_twelfthsCarried : MethodName := ⟨RX5, "twelfthsCarried", "(I)I"⟩
abbrev cX5_weightOf : ByteArray := prog_7_method_16_code
def yX5_weightOf : MethodName := ⟨RX5, "weightOf", "(II)I"⟩
abbrev cX5_twelfths : ByteArray := prog_7_method_17_code
def yX5_twelfths : MethodName := ⟨RX5, "twelfths", "(I)I"⟩
abbrev cX5_commonDivisor : ByteArray := prog_7_method_18_code
def yX5_commonDivisor : MethodName := ⟨RX5, "commonDivisor", "(II)I"⟩
abbrev cX5_fewestLies : ByteArray := prog_7_method_19_code
def yX5_fewestLies : MethodName := ⟨RX5, "fewestLies", "(I)I"⟩
abbrev cX5_stepWithFewer : ByteArray := prog_7_method_20_code
def yX5_stepWithFewer : MethodName := ⟨RX5, "stepWithFewer", "(II)I"⟩
abbrev cX5_oftenCarriedByLot : ByteArray := prog_7_method_21_code
def yX5_oftenCarriedByLot : MethodName := ⟨RX5, "oftenCarriedByLot", "(IIII)I"⟩
abbrev cX5_bitAt : ByteArray := prog_7_method_22_code
def yX5_bitAt : MethodName := ⟨RX5, "bitAt", "(II)I"⟩
def RX6 : String := "VotesUntouched$Reader"
def TX6 : u_T := fun k => match k with
  | 0 => ("VotesUntouched$Reader", "tape", "[I", true)
  | 1 => ("VotesUntouched$Reader", "draft", "LVotesUntouched$Code;", true)
  | 2 => ("VotesUntouched$Reader", "length", "I", false)
  | _ => ("VotesUntouched$Reader", "place", "I", false)
def tyX6 : Nat → FieldType := fun k => match k with
  | 0 => .array .int
  | 1 => .object "VotesUntouched$Code"
  | 2 => .int
  | _ => .int
abbrev wsX60 : List Cond := u_ws RX6 TX6 4
theorem nmX6 : ∀ a, a < 4 → ∀ b, b < 4 → a ≠ b → (TX6 a).2.1 ≠ (TX6 b).2.1 := by decide +kernel
theorem tyX6_ok : ∀ k, k < 4 → parseFieldDescriptor (TX6 k).2.2.1 = some (tyX6 k) := by decide +kernel
abbrev cX6_init : ByteArray := prog_8_method_1_code
def yX6_init : MethodName := ⟨RX6, "<init>", "()V"⟩
abbrev cX6_take : ByteArray := prog_8_method_2_code
def yX6_take : MethodName := ⟨RX6, "take", "(I)I"⟩
abbrev cX6_read : ByteArray := prog_8_method_3_code
def yX6_read : MethodName := ⟨RX6, "read", "()I"⟩
abbrev cX6_readLine : ByteArray := prog_8_method_4_code
def yX6_readLine : MethodName := ⟨RX6, "readLine", "()Z"⟩
abbrev cX6_next : ByteArray := prog_8_method_5_code
def yX6_next : MethodName := ⟨RX6, "next", "()I"⟩
abbrev cX6_readChain : ByteArray := prog_8_method_6_code
def yX6_readChain : MethodName := ⟨RX6, "readChain", "(II)Z"⟩
abbrev cX6_levelOf : ByteArray := prog_8_method_7_code
def yX6_levelOf : MethodName := ⟨RX6, "levelOf", "(I)I"⟩
abbrev cX6_readOperand : ByteArray := prog_8_method_8_code
def yX6_readOperand : MethodName := ⟨RX6, "readOperand", "(I)Z"⟩
abbrev cX6_readOpened : ByteArray := prog_8_method_9_code
def yX6_readOpened : MethodName := ⟨RX6, "readOpened", "(II)Z"⟩
abbrev cX6_readNumber : ByteArray := prog_8_method_10_code
def yX6_readNumber : MethodName := ⟨RX6, "readNumber", "()V"⟩
abbrev cX6_isDigit : ByteArray := prog_8_method_11_code
def yX6_isDigit : MethodName := ⟨RX6, "isDigit", "(I)Z"⟩
abbrev cX6_nameOf : ByteArray := prog_8_method_12_code
def yX6_nameOf : MethodName := ⟨RX6, "nameOf", "(I)I"⟩
def RX7 : String := "VotesUntouched$Shelves"
def TX7 : u_T := fun k => match k with
  | 0 => ("VotesUntouched$Shelves", "holds", "[I", true)
  | 1 => ("VotesUntouched$Shelves", "sizes", "[I", true)
  | 2 => ("VotesUntouched$Shelves", "voters", "[I", true)
  | _ => ("VotesUntouched$Shelves", "elements", "[J", true)
def tyX7 : Nat → FieldType := fun k => match k with
  | 0 => .array .int
  | 1 => .array .int
  | 2 => .array .int
  | _ => .array .long
abbrev wsX70 : List Cond := u_ws RX7 TX7 4
theorem nmX7 : ∀ a, a < 4 → ∀ b, b < 4 → a ≠ b → (TX7 a).2.1 ≠ (TX7 b).2.1 := by decide +kernel
theorem tyX7_ok : ∀ k, k < 4 → parseFieldDescriptor (TX7 k).2.2.1 = some (tyX7 k) := by decide +kernel
abbrev cX7_init : ByteArray := prog_9_method_1_code
def yX7_init : MethodName := ⟨RX7, "<init>", "()V"⟩
abbrev cX7_isShelf : ByteArray := prog_9_method_2_code
def yX7_isShelf : MethodName := ⟨RX7, "isShelf", "(I)Z"⟩
abbrev cX7_isSort : ByteArray := prog_9_method_3_code
def yX7_isSort : MethodName := ⟨RX7, "isSort", "(I)Z"⟩
abbrev cX7_held : ByteArray := prog_9_method_4_code
def yX7_held : MethodName := ⟨RX7, "held", "(I)I"⟩
abbrev cX7_sizeOf : ByteArray := prog_9_method_5_code
def yX7_sizeOf : MethodName := ⟨RX7, "sizeOf", "(I)I"⟩
abbrev cX7_voterOn : ByteArray := prog_9_method_6_code
def yX7_voterOn : MethodName := ⟨RX7, "voterOn", "(I)I"⟩
abbrev cX7_holdVoter : ByteArray := prog_9_method_7_code
def yX7_holdVoter : MethodName := ⟨RX7, "holdVoter", "(II)V"⟩
abbrev cX7_holdRow : ByteArray := prog_9_method_8_code
def yX7_holdRow : MethodName := ⟨RX7, "holdRow", "(III)V"⟩
abbrev cX7_refusedAsRow : ByteArray := prog_9_method_9_code
def yX7_refusedAsRow : MethodName := ⟨RX7, "refusedAsRow", "(II)I"⟩
abbrev cX7_refusedAt : ByteArray := prog_9_method_10_code
def yX7_refusedAt : MethodName := ⟨RX7, "refusedAt", "(II)I"⟩
abbrev cX7_hasPlace : ByteArray := prog_9_method_11_code
def yX7_hasPlace : MethodName := ⟨RX7, "hasPlace", "(II)Z"⟩
abbrev cX7_hasPlaces : ByteArray := prog_9_method_12_code
def yX7_hasPlaces : MethodName := ⟨RX7, "hasPlaces", "(III)Z"⟩
abbrev cX7_valueAt : ByteArray := prog_9_method_13_code
def yX7_valueAt : MethodName := ⟨RX7, "valueAt", "(II)J"⟩
abbrev cX7_set : ByteArray := prog_9_method_14_code
def yX7_set : MethodName := ⟨RX7, "set", "(IIJ)V"⟩
abbrev cX7_lowestBits : ByteArray := prog_9_method_15_code
def yX7_lowestBits : MethodName := ⟨RX7, "lowestBits", "(IJ)J"⟩
abbrev cX7_copy : ByteArray := prog_9_method_16_code
def yX7_copy : MethodName := ⟨RX7, "copy", "(IIIII)V"⟩
def RX8 : String := "VotesUntouched$Voters"
def TX8 : u_T := fun k => match k with
  | 0 => ("VotesUntouched$Voters", "kinds", "[I", true)
  | 1 => ("VotesUntouched$Voters", "traced", "[I", true)
  | 2 => ("VotesUntouched$Voters", "size", "I", false)
  | _ => ("VotesUntouched$Voters", "ran", "I", false)
def tyX8 : Nat → FieldType := fun k => match k with
  | 0 => .array .int
  | 1 => .array .int
  | 2 => .int
  | _ => .int
abbrev wsX80 : List Cond := u_ws RX8 TX8 4
theorem nmX8 : ∀ a, a < 4 → ∀ b, b < 4 → a ≠ b → (TX8 a).2.1 ≠ (TX8 b).2.1 := by decide +kernel
theorem tyX8_ok : ∀ k, k < 4 → parseFieldDescriptor (TX8 k).2.2.1 = some (tyX8 k) := by decide +kernel
abbrev cX8_init : ByteArray := prog_10_method_1_code
def yX8_init : MethodName := ⟨RX8, "<init>", "()V"⟩
abbrev cX8_isKind : ByteArray := prog_10_method_2_code
def yX8_isKind : MethodName := ⟨RX8, "isKind", "(I)Z"⟩
abbrev cX8_isUnder : ByteArray := prog_10_method_3_code
def yX8_isUnder : MethodName := ⟨RX8, "isUnder", "(II)Z"⟩
abbrev cX8_add : ByteArray := prog_10_method_4_code
def yX8_add : MethodName := ⟨RX8, "add", "(I)I"⟩
abbrev cX8_isVoter : ByteArray := prog_10_method_5_code
def yX8_isVoter : MethodName := ⟨RX8, "isVoter", "(I)Z"⟩
abbrev cX8_size : ByteArray := prog_10_method_6_code
def yX8_size : MethodName := ⟨RX8, "size", "()I"⟩
abbrev cX8_kindOf : ByteArray := prog_10_method_7_code
def yX8_kindOf : MethodName := ⟨RX8, "kindOf", "(I)I"⟩
abbrev cX8_ranInAll : ByteArray := prog_10_method_8_code
def yX8_ranInAll : MethodName := ⟨RX8, "ranInAll", "()I"⟩
abbrev cX8_ranAt : ByteArray := prog_10_method_9_code
def yX8_ranAt : MethodName := ⟨RX8, "ranAt", "(I)I"⟩
abbrev cX8_perform : ByteArray := prog_10_method_10_code
def yX8_perform : MethodName := ⟨RX8, "perform", "(III)I"⟩
abbrev cX8_own : ByteArray := prog_10_method_11_code
def yX8_own : MethodName := ⟨RX8, "own", "(IIII)I"⟩
abbrev cX8_runFrom : ByteArray := prog_10_method_12_code
def yX8_runFrom : MethodName := ⟨RX8, "runFrom", "(IIIII)I"⟩
abbrev cX8_bodyAt : ByteArray := prog_10_method_13_code
def yX8_bodyAt : MethodName := ⟨RX8, "bodyAt", "(II)I"⟩
abbrev cX8_aboveOf : ByteArray := prog_10_method_14_code
def yX8_aboveOf : MethodName := ⟨RX8, "aboveOf", "(I)I"⟩
abbrev cX8_begin : ByteArray := prog_10_method_15_code
def yX8_begin : MethodName := ⟨RX8, "begin", "(I)V"⟩
abbrev cX8_run : ByteArray := prog_10_method_16_code
def yX8_run : MethodName := ⟨RX8, "run", "(IIIII)I"⟩
def RX9 : String := "VotesUntouched$Years"
def TX9 : u_T := fun k => match k with
  | 0 => ("VotesUntouched$Years", "council", "LVotesUntouched$Council;", true)
  | 1 => ("VotesUntouched$Years", "ballot", "LVotesUntouched$Ballot;", true)
  | _ => ("VotesUntouched$Years", "shelves", "LVotesUntouched$Shelves;", true)
def tyX9 : Nat → FieldType := fun k => match k with
  | 0 => .object "VotesUntouched$Council"
  | 1 => .object "VotesUntouched$Ballot"
  | _ => .object "VotesUntouched$Shelves"
abbrev wsX90 : List Cond := u_ws RX9 TX9 3
theorem nmX9 : ∀ a, a < 3 → ∀ b, b < 3 → a ≠ b → (TX9 a).2.1 ≠ (TX9 b).2.1 := by decide +kernel
theorem tyX9_ok : ∀ k, k < 3 → parseFieldDescriptor (TX9 k).2.2.1 = some (tyX9 k) := by decide +kernel
abbrev cX9_init : ByteArray := prog_11_method_1_code
def yX9_init : MethodName := ⟨RX9, "<init>", "(LVotesUntouched$Council;LVotesUntouched$Ballot;LVotesUntouched$Shelves;)V"⟩
abbrev cX9_firstWrong : ByteArray := prog_11_method_2_code
def yX9_firstWrong : MethodName := ⟨RX9, "firstWrong", "(I)I"⟩
abbrev cX9_mustBeSilent : ByteArray := prog_11_method_3_code
def yX9_mustBeSilent : MethodName := ⟨RX9, "mustBeSilent", "(I)I"⟩
abbrev cX9_isWhole : ByteArray := prog_11_method_4_code
def yX9_isWhole : MethodName := ⟨RX9, "isWhole", "(II)Z"⟩
abbrev cX9_bundleAt : ByteArray := prog_11_method_5_code
def yX9_bundleAt : MethodName := ⟨RX9, "bundleAt", "(II)I"⟩
abbrev cX9_silentAt : ByteArray := prog_11_method_6_code
def yX9_silentAt : MethodName := ⟨RX9, "silentAt", "(II)I"⟩
abbrev cX9_isShown : ByteArray := prog_11_method_7_code
def yX9_isShown : MethodName := ⟨RX9, "isShown", "(III)Z"⟩
abbrev cX9_isSilentFor : ByteArray := prog_11_method_8_code
def yX9_isSilentFor : MethodName := ⟨RX9, "isSilentFor", "(IIII)Z"⟩
abbrev cX9_hasVotedOn : ByteArray := prog_11_method_9_code
def yX9_hasVotedOn : MethodName := ⟨RX9, "hasVotedOn", "(IIII)Z"⟩
def RX10 : String := "VotesUntouched"
def TX10 : u_T := fun k => match k with
  | 0 => ("VotesUntouched", "council", "LVotesUntouched$Council;", true)
  | 1 => ("VotesUntouched", "changes", "LVotesUntouched$Changes;", true)
  | 2 => ("VotesUntouched", "reader", "LVotesUntouched$Reader;", true)
  | 3 => ("VotesUntouched", "text", "LVotesUntouched$Code;", true)
  | 4 => ("VotesUntouched", "ballot", "LVotesUntouched$Ballot;", true)
  | 5 => ("VotesUntouched", "finder", "LVotesUntouched$Finder;", true)
  | 6 => ("VotesUntouched", "shelves", "LVotesUntouched$Shelves;", true)
  | 7 => ("VotesUntouched", "years", "LVotesUntouched$Years;", true)
  | 8 => ("VotesUntouched", "deeds", "LVotesUntouched$Deeds;", true)
  | _ => ("VotesUntouched", "voters", "LVotesUntouched$Voters;", true)
def tyX10 : Nat → FieldType := fun k => match k with
  | 0 => .object "VotesUntouched$Council"
  | 1 => .object "VotesUntouched$Changes"
  | 2 => .object "VotesUntouched$Reader"
  | 3 => .object "VotesUntouched$Code"
  | 4 => .object "VotesUntouched$Ballot"
  | 5 => .object "VotesUntouched$Finder"
  | 6 => .object "VotesUntouched$Shelves"
  | 7 => .object "VotesUntouched$Years"
  | 8 => .object "VotesUntouched$Deeds"
  | _ => .object "VotesUntouched$Voters"
abbrev wsX100 : List Cond := u_ws RX10 TX10 10
theorem nmX10 : ∀ a, a < 10 → ∀ b, b < 10 → a ≠ b → (TX10 a).2.1 ≠ (TX10 b).2.1 := by decide +kernel
theorem tyX10_ok : ∀ k, k < 10 → parseFieldDescriptor (TX10 k).2.2.1 = some (tyX10 k) := by decide +kernel
abbrev cX10_init : ByteArray := prog_1_method_1_code
def yX10_init : MethodName := ⟨RX10, "<init>", "()V"⟩
abbrev cX10_person : ByteArray := prog_1_method_2_code
def yX10_person : MethodName := ⟨RX10, "person", "(I)I"⟩
abbrev cX10_people : ByteArray := prog_1_method_3_code
def yX10_people : MethodName := ⟨RX10, "people", "(III)I"⟩
abbrev cX10_comesFrom : ByteArray := prog_1_method_4_code
def yX10_comesFrom : MethodName := ⟨RX10, "comesFrom", "(II)Z"⟩
abbrev cX10_isFee : ByteArray := prog_1_method_5_code
def yX10_isFee : MethodName := ⟨RX10, "isFee", "(I)Z"⟩
abbrev cX10_cousins : ByteArray := prog_1_method_6_code
def yX10_cousins : MethodName := ⟨RX10, "cousins", "(I)I"⟩
abbrev cX10_matter : ByteArray := prog_1_method_7_code
def yX10_matter : MethodName := ⟨RX10, "matter", "()I"⟩
abbrev cX10_mend : ByteArray := prog_1_method_8_code
def yX10_mend : MethodName := ⟨RX10, "mend", "(III)I"⟩
abbrev cX10_rule : ByteArray := prog_1_method_9_code
def yX10_rule : MethodName := ⟨RX10, "rule", "(II)I"⟩
abbrev cX10_of : ByteArray := prog_1_method_10_code
def yX10_of : MethodName := ⟨RX10, "of", "(II)I"⟩
abbrev cX10_toldOrVoid : ByteArray := prog_1_method_11_code
def yX10_toldOrVoid : MethodName := ⟨RX10, "toldOrVoid", "(I)I"⟩
abbrev cX10_feed : ByteArray := prog_1_method_12_code
def yX10_feed : MethodName := ⟨RX10, "feed", "(I)I"⟩
abbrev cX10_law : ByteArray := prog_1_method_13_code
def yX10_law : MethodName := ⟨RX10, "law", "()I"⟩
abbrev cX10_may : ByteArray := prog_1_method_14_code
def yX10_may : MethodName := ⟨RX10, "may", "(III)I"⟩
abbrev cX10_vote : ByteArray := prog_1_method_15_code
def yX10_vote : MethodName := ⟨RX10, "vote", "(III)I"⟩
abbrev cX10_isPut : ByteArray := prog_1_method_16_code
def yX10_isPut : MethodName := ⟨RX10, "isPut", "(II)Z"⟩
abbrev cX10_together : ByteArray := prog_1_method_17_code
def yX10_together : MethodName := ⟨RX10, "together", "(I)I"⟩
abbrev cX10_silenced : ByteArray := prog_1_method_18_code
def yX10_silenced : MethodName := ⟨RX10, "silenced", "(II)I"⟩
abbrev cX10_leaveOut : ByteArray := prog_1_method_19_code
def yX10_leaveOut : MethodName := ⟨RX10, "leaveOut", "(II)I"⟩
abbrev cX10_alone : ByteArray := prog_1_method_20_code
def yX10_alone : MethodName := ⟨RX10, "alone", "()I"⟩
abbrev cX10_parted : ByteArray := prog_1_method_21_code
def yX10_parted : MethodName := ⟨RX10, "parted", "(I)I"⟩
abbrev cX10_say : ByteArray := prog_1_method_22_code
def yX10_say : MethodName := ⟨RX10, "say", "(II)I"⟩
abbrev cX10_hermit : ByteArray := prog_1_method_23_code
def yX10_hermit : MethodName := ⟨RX10, "hermit", "()I"⟩
abbrev cX10_chance : ByteArray := prog_1_method_24_code
def yX10_chance : MethodName := ⟨RX10, "chance", "(II)I"⟩
abbrev cX10_lies : ByteArray := prog_1_method_25_code
def yX10_lies : MethodName := ⟨RX10, "lies", "(I)I"⟩
abbrev cX10_step : ByteArray := prog_1_method_26_code
def yX10_step : MethodName := ⟨RX10, "step", "(II)I"⟩
abbrev cX10_lots : ByteArray := prog_1_method_27_code
def yX10_lots : MethodName := ⟨RX10, "lots", "(III)I"⟩
abbrev cX10_judge : ByteArray := prog_1_method_28_code
def yX10_judge : MethodName := ⟨RX10, "judge", "(I)I"⟩
abbrev cX10_must : ByteArray := prog_1_method_29_code
def yX10_must : MethodName := ⟨RX10, "must", "(II)I"⟩
abbrev cX10_decide : ByteArray := prog_1_method_30_code
def yX10_decide : MethodName := ⟨RX10, "decide", "(II)I"⟩
abbrev cX10_led : ByteArray := prog_1_method_31_code
def yX10_led : MethodName := ⟨RX10, "led", "(I)I"⟩
abbrev cX10_image : ByteArray := prog_1_method_32_code
def yX10_image : MethodName := ⟨RX10, "image", "()I"⟩
abbrev cX10_back : ByteArray := prog_1_method_33_code
def yX10_back : MethodName := ⟨RX10, "back", "()I"⟩
abbrev cX10_undo : ByteArray := prog_1_method_34_code
def yX10_undo : MethodName := ⟨RX10, "undo", "()I"⟩
abbrev cX10_redo : ByteArray := prog_1_method_35_code
def yX10_redo : MethodName := ⟨RX10, "redo", "()I"⟩
abbrev cX10_body : ByteArray := prog_1_method_36_code
def yX10_body : MethodName := ⟨RX10, "body", "(I)I"⟩
abbrev cX10_act : ByteArray := prog_1_method_37_code
def yX10_act : MethodName := ⟨RX10, "act", "(III)I"⟩
abbrev cX10_trace : ByteArray := prog_1_method_38_code
def yX10_trace : MethodName := ⟨RX10, "trace", "(I)I"⟩
abbrev cX10_keep : ByteArray := prog_1_method_39_code
def yX10_keep : MethodName := ⟨RX10, "keep", "(II)I"⟩
abbrev cX10_row : ByteArray := prog_1_method_40_code
def yX10_row : MethodName := ⟨RX10, "row", "(III)I"⟩
abbrev cX10_put : ByteArray := prog_1_method_41_code
def yX10_put : MethodName := ⟨RX10, "put", "(IIJ)I"⟩
abbrev cX10_element : ByteArray := prog_1_method_42_code
def yX10_element : MethodName := ⟨RX10, "element", "(II)J"⟩
abbrev cX10_shift : ByteArray := prog_1_method_43_code
def yX10_shift : MethodName := ⟨RX10, "shift", "(IIIII)I"⟩
abbrev cX10_taken : ByteArray := prog_1_method_44_code
def yX10_taken : MethodName := ⟨RX10, "taken", "(II)I"⟩
abbrev cX10_count : ByteArray := prog_1_method_45_code
def yX10_count : MethodName := ⟨RX10, "count", "(I)I"⟩
def RX11 : String := "VotesUntouchedModel"
def TX11 : u_T := fun k => match k with
  | 0 => ("VotesUntouchedModel", "may", "[I", true)
  | 1 => ("VotesUntouchedModel", "changeAt", "[I", true)
  | 2 => ("VotesUntouchedModel", "changeWas", "[I", true)
  | 3 => ("VotesUntouchedModel", "changeIs", "[I", true)
  | 4 => ("VotesUntouchedModel", "keptMany", "I", false)
  | 5 => ("VotesUntouchedModel", "done", "I", false)
  | 6 => ("VotesUntouchedModel", "people", "I", false)
  | 7 => ("VotesUntouchedModel", "matters", "I", false)
  | 8 => ("VotesUntouchedModel", "fee", "[I", true)
  | 9 => ("VotesUntouchedModel", "pairs", "I", false)
  | 10 => ("VotesUntouchedModel", "cousinsOf", "[I", true)
  | 11 => ("VotesUntouchedModel", "near", "I", false)
  | 12 => ("VotesUntouchedModel", "quorum", "I", false)
  | 13 => ("VotesUntouchedModel", "tape", "[I", true)
  | 14 => ("VotesUntouchedModel", "tapeMany", "I", false)
  | 15 => ("VotesUntouchedModel", "text", "[I", true)
  | 16 => ("VotesUntouchedModel", "textMany", "I", false)
  | 17 => ("VotesUntouchedModel", "base", "I", false)
  | 18 => ("VotesUntouchedModel", "at", "I", false)
  | 19 => ("VotesUntouchedModel", "ends", "I", false)
  | 20 => ("VotesUntouchedModel", "fault", "I", false)
  | 21 => ("VotesUntouchedModel", "opened", "I", false)
  | 22 => ("VotesUntouchedModel", "names", "[I", true)
  | 23 => ("VotesUntouchedModel", "own", "[I", true)
  | 24 => ("VotesUntouchedModel", "liked", "[I", true)
  | 25 => ("VotesUntouchedModel", "mayBits", "I", false)
  | 26 => ("VotesUntouchedModel", "carries", "[Z", true)
  | 27 => ("VotesUntouchedModel", "most", "[I", true)
  | 28 => ("VotesUntouchedModel", "firstPart", "[I", true)
  | 29 => ("VotesUntouchedModel", "ledNow", "[I", true)
  | 30 => ("VotesUntouchedModel", "imageLed", "[I", true)
  | 31 => ("VotesUntouchedModel", "isKept", "Z", false)
  | 32 => ("VotesUntouchedModel", "bodies", "I", false)
  | 33 => ("VotesUntouchedModel", "bodyKind", "[I", true)
  | 34 => ("VotesUntouchedModel", "trace", "[I", true)
  | 35 => ("VotesUntouchedModel", "ran", "I", false)
  | 36 => ("VotesUntouchedModel", "ownKind", "I", false)
  | 37 => ("VotesUntouchedModel", "ownNumber", "I", false)
  | 38 => ("VotesUntouchedModel", "shelf", "[I", true)
  | 39 => ("VotesUntouchedModel", "many", "[I", true)
  | 40 => ("VotesUntouchedModel", "items", "[J", true)
  | _ => ("VotesUntouchedModel", "carried", "[J", true)
def tyX11 : Nat → FieldType := fun k => match k with
  | 0 => .array .int
  | 1 => .array .int
  | 2 => .array .int
  | 3 => .array .int
  | 4 => .int
  | 5 => .int
  | 6 => .int
  | 7 => .int
  | 8 => .array .int
  | 9 => .int
  | 10 => .array .int
  | 11 => .int
  | 12 => .int
  | 13 => .array .int
  | 14 => .int
  | 15 => .array .int
  | 16 => .int
  | 17 => .int
  | 18 => .int
  | 19 => .int
  | 20 => .int
  | 21 => .int
  | 22 => .array .int
  | 23 => .array .int
  | 24 => .array .int
  | 25 => .int
  | 26 => .array .boolean
  | 27 => .array .int
  | 28 => .array .int
  | 29 => .array .int
  | 30 => .array .int
  | 31 => .boolean
  | 32 => .int
  | 33 => .array .int
  | 34 => .array .int
  | 35 => .int
  | 36 => .int
  | 37 => .int
  | 38 => .array .int
  | 39 => .array .int
  | 40 => .array .long
  | _ => .array .long
abbrev wsX110 : List Cond := u_ws RX11 TX11 42
theorem nmX11 : ∀ a, a < 42 → ∀ b, b < 42 → a ≠ b → (TX11 a).2.1 ≠ (TX11 b).2.1 := by decide +kernel
theorem tyX11_ok : ∀ k, k < 42 → parseFieldDescriptor (TX11 k).2.2.1 = some (tyX11 k) := by decide +kernel
abbrev cX11_within : ByteArray := prog_13_method_1_code
def yX11_within : MethodName := ⟨RX11, "within", "(JJJ)Z"⟩
abbrev cX11_bitsOf : ByteArray := prog_13_method_2_code
def yX11_bitsOf : MethodName := ⟨RX11, "bitsOf", "(I)I"⟩
abbrev cX11_isIn : ByteArray := prog_13_method_3_code
def yX11_isIn : MethodName := ⟨RX11, "isIn", "(II)Z"⟩
abbrev cX11_init : ByteArray := prog_13_method_4_code
def yX11_init : MethodName := ⟨RX11, "<init>", "()V"⟩
abbrev cX11_becomes : ByteArray := prog_13_method_5_code
def yX11_becomes : MethodName := ⟨RX11, "becomes", "(II)I"⟩
abbrev cX11_undo : ByteArray := prog_13_method_6_code
def yX11_undo : MethodName := ⟨RX11, "undo", "()I"⟩
abbrev cX11_redo : ByteArray := prog_13_method_7_code
def yX11_redo : MethodName := ⟨RX11, "redo", "()I"⟩
abbrev cX11_isPerson : ByteArray := prog_13_method_8_code
def yX11_isPerson : MethodName := ⟨RX11, "isPerson", "(I)Z"⟩
abbrev cX11_isMatter : ByteArray := prog_13_method_9_code
def yX11_isMatter : MethodName := ⟨RX11, "isMatter", "(I)Z"⟩
abbrev cX11_isPm : ByteArray := prog_13_method_10_code
def yX11_isPm : MethodName := ⟨RX11, "isPm", "(I)Z"⟩
abbrev cX11_isBundle : ByteArray := prog_13_method_11_code
def yX11_isBundle : MethodName := ⟨RX11, "isBundle", "(I)Z"⟩
abbrev cX11_areGifts : ByteArray := prog_13_method_12_code
def yX11_areGifts : MethodName := ⟨RX11, "areGifts", "(I)Z"⟩
abbrev cX11_person : ByteArray := prog_13_method_13_code
def yX11_person : MethodName := ⟨RX11, "person", "(I)I"⟩
abbrev cX11_people : ByteArray := prog_13_method_14_code
def yX11_people : MethodName := ⟨RX11, "people", "(III)I"⟩
abbrev cX11_cousins : ByteArray := prog_13_method_15_code
def yX11_cousins : MethodName := ⟨RX11, "cousins", "(I)I"⟩
abbrev cX11_matter : ByteArray := prog_13_method_16_code
def yX11_matter : MethodName := ⟨RX11, "matter", "()I"⟩
abbrev cX11_placeOf : ByteArray := prog_13_method_17_code
def yX11_placeOf : MethodName := ⟨RX11, "placeOf", "(II)I"⟩
abbrev cX11_mend : ByteArray := prog_13_method_18_code
def yX11_mend : MethodName := ⟨RX11, "mend", "(III)I"⟩
abbrev cX11_rule : ByteArray := prog_13_method_19_code
def yX11_rule : MethodName := ⟨RX11, "rule", "(II)I"⟩
abbrev cX11_stepsTo : ByteArray := prog_13_method_20_code
def yX11_stepsTo : MethodName := ⟨RX11, "stepsTo", "(II)I"⟩
abbrev cX11_of : ByteArray := prog_13_method_21_code
def yX11_of : MethodName := ⟨RX11, "of", "(II)I"⟩
abbrev cX11_feed : ByteArray := prog_13_method_22_code
def yX11_feed : MethodName := ⟨RX11, "feed", "(I)I"⟩
abbrev cX11_byteAt : ByteArray := prog_13_method_23_code
def yX11_byteAt : MethodName := ⟨RX11, "byteAt", "()I"⟩
abbrev cX11_wrong : ByteArray := prog_13_method_24_code
def yX11_wrong : MethodName := ⟨RX11, "wrong", "()I"⟩
abbrev cX11_takes : ByteArray := prog_13_method_25_code
def yX11_takes : MethodName := ⟨RX11, "takes", "(I)Z"⟩
abbrev cX11_either : ByteArray := prog_13_method_26_code
def yX11_either : MethodName := ⟨RX11, "either", "()I"⟩
abbrev cX11_both : ByteArray := prog_13_method_27_code
def yX11_both : MethodName := ⟨RX11, "both", "()I"⟩
abbrev cX11_compared : ByteArray := prog_13_method_28_code
def yX11_compared : MethodName := ⟨RX11, "compared", "()I"⟩
abbrev cX11_sums : ByteArray := prog_13_method_29_code
def yX11_sums : MethodName := ⟨RX11, "sums", "()I"⟩
abbrev cX11_product : ByteArray := prog_13_method_30_code
def yX11_product : MethodName := ⟨RX11, "product", "()I"⟩
abbrev cX11_nameOf : ByteArray := prog_13_method_31_code
def yX11_nameOf : MethodName := ⟨RX11, "nameOf", "(I)I"⟩
abbrev cX11_one : ByteArray := prog_13_method_32_code
def yX11_one : MethodName := ⟨RX11, "one", "()I"⟩
abbrev cX11_workOut : ByteArray := prog_13_method_33_code
def yX11_workOut : MethodName := ⟨RX11, "workOut", "(II)I"⟩
abbrev cX11_law : ByteArray := prog_13_method_34_code
def yX11_law : MethodName := ⟨RX11, "law", "()I"⟩
abbrev cX11_touches : ByteArray := prog_13_method_35_code
def yX11_touches : MethodName := ⟨RX11, "touches", "(III)V"⟩
abbrev cX11_nearOf : ByteArray := prog_13_method_36_code
def yX11_nearOf : MethodName := ⟨RX11, "nearOf", "(I)I"⟩
abbrev cX11_mayVote : ByteArray := prog_13_method_37_code
def yX11_mayVote : MethodName := ⟨RX11, "mayVote", "(III)Z"⟩
abbrev cX11_asks : ByteArray := prog_13_method_38_code
def yX11_asks : MethodName := ⟨RX11, "asks", "(III)V"⟩
abbrev cX11_sideOf : ByteArray := prog_13_method_39_code
def yX11_sideOf : MethodName := ⟨RX11, "sideOf", "(IZ)I"⟩
abbrev cX11_isMore : ByteArray := prog_13_method_40_code
def yX11_isMore : MethodName := ⟨RX11, "isMore", "(I)Z"⟩
abbrev cX11_isCarriedBy : ByteArray := prog_13_method_41_code
def yX11_isCarriedBy : MethodName := ⟨RX11, "isCarriedBy", "(I)Z"⟩
abbrev cX11_isCarried : ByteArray := prog_13_method_42_code
def yX11_isCarried : MethodName := ⟨RX11, "isCarried", "(II)Z"⟩
abbrev cX11_may : ByteArray := prog_13_method_43_code
def yX11_may : MethodName := ⟨RX11, "may", "(III)I"⟩
abbrev cX11_vote : ByteArray := prog_13_method_44_code
def yX11_vote : MethodName := ⟨RX11, "vote", "(III)I"⟩
abbrev cX11_together : ByteArray := prog_13_method_45_code
def yX11_together : MethodName := ⟨RX11, "together", "(I)I"⟩
abbrev cX11_feesOf : ByteArray := prog_13_method_46_code
def yX11_feesOf : MethodName := ⟨RX11, "feesOf", "(I)I"⟩
abbrev cX11_silenced : ByteArray := prog_13_method_47_code
def yX11_silenced : MethodName := ⟨RX11, "silenced", "(II)I"⟩
abbrev cX11_leaveOut : ByteArray := prog_13_method_48_code
def yX11_leaveOut : MethodName := ⟨RX11, "leaveOut", "(II)I"⟩
abbrev cX11_alone : ByteArray := prog_13_method_49_code
def yX11_alone : MethodName := ⟨RX11, "alone", "()I"⟩
abbrev cX11_parts : ByteArray := prog_13_method_50_code
def yX11_parts : MethodName := ⟨RX11, "parts", "()V"⟩
abbrev cX11_parted : ByteArray := prog_13_method_51_code
def yX11_parted : MethodName := ⟨RX11, "parted", "(I)I"⟩
abbrev cX11_sayOf : ByteArray := prog_13_method_52_code
def yX11_sayOf : MethodName := ⟨RX11, "sayOf", "(II)I"⟩
abbrev cX11_say : ByteArray := prog_13_method_53_code
def yX11_say : MethodName := ⟨RX11, "say", "(II)I"⟩
abbrev cX11_hermit : ByteArray := prog_13_method_54_code
def yX11_hermit : MethodName := ⟨RX11, "hermit", "()I"⟩
abbrev cX11_common : ByteArray := prog_13_method_55_code
def yX11_common : MethodName := ⟨RX11, "common", "(II)I"⟩
abbrev cX11_chance : ByteArray := prog_13_method_56_code
def yX11_chance : MethodName := ⟨RX11, "chance", "(II)I"⟩
abbrev cX11_lies : ByteArray := prog_13_method_57_code
def yX11_lies : MethodName := ⟨RX11, "lies", "(I)I"⟩
abbrev cX11_step : ByteArray := prog_13_method_58_code
def yX11_step : MethodName := ⟨RX11, "step", "(II)I"⟩
abbrev cX11_drawnOf : ByteArray := prog_13_method_59_code
def yX11_drawnOf : MethodName := ⟨RX11, "drawnOf", "(II)I"⟩
abbrev cX11_lots : ByteArray := prog_13_method_60_code
def yX11_lots : MethodName := ⟨RX11, "lots", "(III)I"⟩
abbrev cX11_yearIs : ByteArray := prog_13_method_61_code
def yX11_yearIs : MethodName := ⟨RX11, "yearIs", "(I)I"⟩
abbrev cX11_bundleAt : ByteArray := prog_13_method_62_code
def yX11_bundleAt : MethodName := ⟨RX11, "bundleAt", "(II)I"⟩
abbrev cX11_silentAt : ByteArray := prog_13_method_63_code
def yX11_silentAt : MethodName := ⟨RX11, "silentAt", "(II)I"⟩
abbrev cX11_judge : ByteArray := prog_13_method_64_code
def yX11_judge : MethodName := ⟨RX11, "judge", "(I)I"⟩
abbrev cX11_isVotedBeside : ByteArray := prog_13_method_65_code
def yX11_isVotedBeside : MethodName := ⟨RX11, "isVotedBeside", "(IIII)Z"⟩
abbrev cX11_must : ByteArray := prog_13_method_66_code
def yX11_must : MethodName := ⟨RX11, "must", "(II)I"⟩
abbrev cX11_decide : ByteArray := prog_13_method_67_code
def yX11_decide : MethodName := ⟨RX11, "decide", "(II)I"⟩
abbrev cX11_led : ByteArray := prog_13_method_68_code
def yX11_led : MethodName := ⟨RX11, "led", "(I)I"⟩
abbrev cX11_image : ByteArray := prog_13_method_69_code
def yX11_image : MethodName := ⟨RX11, "image", "()I"⟩
abbrev cX11_back : ByteArray := prog_13_method_70_code
def yX11_back : MethodName := ⟨RX11, "back", "()I"⟩
abbrev cX11_isBody : ByteArray := prog_13_method_71_code
def yX11_isBody : MethodName := ⟨RX11, "isBody", "(I)Z"⟩
abbrev cX11_kindOf : ByteArray := prog_13_method_72_code
def yX11_kindOf : MethodName := ⟨RX11, "kindOf", "(I)I"⟩
abbrev cX11_body : ByteArray := prog_13_method_73_code
def yX11_body : MethodName := ⟨RX11, "body", "(I)I"⟩
abbrev cX11_above : ByteArray := prog_13_method_74_code
def yX11_above : MethodName := ⟨RX11, "above", "(I)I"⟩
abbrev cX11_begins : ByteArray := prog_13_method_75_code
def yX11_begins : MethodName := ⟨RX11, "begins", "(I)V"⟩
abbrev cX11_votesAs : ByteArray := prog_13_method_76_code
def yX11_votesAs : MethodName := ⟨RX11, "votesAs", "(II)I"⟩
abbrev cX11_ownsAs : ByteArray := prog_13_method_77_code
def yX11_ownsAs : MethodName := ⟨RX11, "ownsAs", "(II)I"⟩
abbrev cX11_givesAs : ByteArray := prog_13_method_78_code
def yX11_givesAs : MethodName := ⟨RX11, "givesAs", "(II)I"⟩
abbrev cX11_tellsAs : ByteArray := prog_13_method_79_code
def yX11_tellsAs : MethodName := ⟨RX11, "tellsAs", "(II)I"⟩
abbrev cX11_act : ByteArray := prog_13_method_80_code
def yX11_act : MethodName := ⟨RX11, "act", "(III)I"⟩
abbrev cX11_trace : ByteArray := prog_13_method_81_code
def yX11_trace : MethodName := ⟨RX11, "trace", "(I)I"⟩
abbrev cX11_isShelf : ByteArray := prog_13_method_82_code
def yX11_isShelf : MethodName := ⟨RX11, "isShelf", "(I)Z"⟩
abbrev cX11_keep : ByteArray := prog_13_method_83_code
def yX11_keep : MethodName := ⟨RX11, "keep", "(II)I"⟩
abbrev cX11_row : ByteArray := prog_13_method_84_code
def yX11_row : MethodName := ⟨RX11, "row", "(III)I"⟩
abbrev cX11_refusal : ByteArray := prog_13_method_85_code
def yX11_refusal : MethodName := ⟨RX11, "refusal", "(II)I"⟩
abbrev cX11_asSort : ByteArray := prog_13_method_86_code
def yX11_asSort : MethodName := ⟨RX11, "asSort", "(IJ)J"⟩
abbrev cX11_put : ByteArray := prog_13_method_87_code
def yX11_put : MethodName := ⟨RX11, "put", "(IIJ)I"⟩
abbrev cX11_element : ByteArray := prog_13_method_88_code
def yX11_element : MethodName := ⟨RX11, "element", "(II)J"⟩
abbrev cX11_shift : ByteArray := prog_13_method_89_code
def yX11_shift : MethodName := ⟨RX11, "shift", "(IIIII)I"⟩
abbrev cX11_taken : ByteArray := prog_13_method_90_code
def yX11_taken : MethodName := ⟨RX11, "taken", "(II)I"⟩
abbrev cX11_count : ByteArray := prog_13_method_91_code
def yX11_count : MethodName := ⟨RX11, "count", "(I)I"⟩
def RJ6 : String := "java/lang/Integer"
def TJ6 : u_T := fun k => match k with
  | _ => ("", "", "", false)
def tyJ6 : Nat → FieldType := fun k => match k with
  | _ => .int
abbrev wsJ60 : List Cond := u_ws RJ6 TJ6 0
theorem nmJ6 : ∀ a, a < 0 → ∀ b, b < 0 → a ≠ b → (TJ6 a).2.1 ≠ (TJ6 b).2.1 := by decide +kernel
theorem tyJ6_ok : ∀ k, k < 0 → parseFieldDescriptor (TJ6 k).2.2.1 = some (tyJ6 k) := by decide +kernel
abbrev cJ6_bitCount_0f7a4 : ByteArray := prog_14_method_49_code
def yJ6_bitCount_0f7a4 : MethodName := ⟨RJ6, "bitCount", "(I)I"⟩
def RJ9 : String := "java/lang/Math"
def TJ9 : u_T := fun k => match k with
  | _ => ("", "", "", false)
def tyJ9 : Nat → FieldType := fun k => match k with
  | _ => .int
abbrev wsJ90 : List Cond := u_ws RJ9 TJ9 0
theorem nmJ9 : ∀ a, a < 0 → ∀ b, b < 0 → a ≠ b → (TJ9 a).2.1 ≠ (TJ9 b).2.1 := by decide +kernel
theorem tyJ9_ok : ∀ k, k < 0 → parseFieldDescriptor (TJ9 k).2.2.1 = some (tyJ9 k) := by decide +kernel
abbrev cJ9_min_7cf53 : ByteArray := prog_15_method_69_code
def yJ9_min_7cf53 : MethodName := ⟨RJ9, "min", "(II)I"⟩
def RJ10 : String := "java/lang/System"
def TJ10 : u_T := fun k => match k with
  | _ => ("", "", "", false)
def tyJ10 : Nat → FieldType := fun k => match k with
  | _ => .int
abbrev wsJ100 : List Cond := u_ws RJ10 TJ10 0
theorem nmJ10 : ∀ a, a < 0 → ∀ b, b < 0 → a ≠ b → (TJ10 a).2.1 ≠ (TJ10 b).2.1 := by decide +kernel
theorem tyJ10_ok : ∀ k, k < 0 → parseFieldDescriptor (TJ10 k).2.2.1 = some (tyJ10 k) := by decide +kernel
def RL : String := "VotesUntouchedLaw"
abbrev cL_law : ByteArray := code
def yL_law : MethodName := ⟨RL, "law", "([I)Z"⟩
