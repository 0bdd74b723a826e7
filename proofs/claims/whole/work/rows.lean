section
-- ===== PART A: goes FIRST, ahead of the names: the tables' words, and 'selects' of the private methods out of them =====
/-- a private method of a class that the tables say can be made, by its rows of tables_1 -/
def lw_okq (q : MethodName × Nat) : Prop := (q.1.cls ≠ "java/lang/invoke/MethodHandle" ∧ q.1.cls ≠ "java/lang/invoke/VarHandle") ∧ Cond.instantiable q.1.cls q.2 ∈ tables_1 ∧ Cond.privateMethod q.1 ∈ tables_1 ∧ Cond.instanceMethod q.1 ∈ tables_1
theorem lw_p0 : lw_okq (⟨"VotesUntouched", "comesFrom", "(II)Z"⟩, 10) := ⟨⟨by decide +kernel, by decide +kernel⟩, List.mem_of_getElem? (i := 17) (by decide +kernel), List.mem_of_getElem? (i := 307) (by decide +kernel), List.mem_of_getElem? (i := 308) (by decide +kernel)⟩
theorem lw_p1 : lw_okq (⟨"VotesUntouched$Changes", "forgetOldest", "()V"⟩, 6) := ⟨⟨by decide +kernel, by decide +kernel⟩, List.mem_of_getElem? (i := 67) (by decide +kernel), List.mem_of_getElem? (i := 383) (by decide +kernel), List.mem_of_getElem? (i := 384) (by decide +kernel)⟩
theorem lw_p2 : lw_okq (⟨"VotesUntouched", "toldOrVoid", "(I)I"⟩, 10) := ⟨⟨by decide +kernel, by decide +kernel⟩, List.mem_of_getElem? (i := 17) (by decide +kernel), List.mem_of_getElem? (i := 398) (by decide +kernel), List.mem_of_getElem? (i := 399) (by decide +kernel)⟩
theorem lw_p3 : lw_okq (⟨"VotesUntouched$Reader", "readLine", "()Z"⟩, 4) := ⟨⟨by decide +kernel, by decide +kernel⟩, List.mem_of_getElem? (i := 92) (by decide +kernel), List.mem_of_getElem? (i := 429) (by decide +kernel), List.mem_of_getElem? (i := 430) (by decide +kernel)⟩
theorem lw_p4 : lw_okq (⟨"VotesUntouched$Reader", "readChain", "(II)Z"⟩, 4) := ⟨⟨by decide +kernel, by decide +kernel⟩, List.mem_of_getElem? (i := 92) (by decide +kernel), List.mem_of_getElem? (i := 433) (by decide +kernel), List.mem_of_getElem? (i := 434) (by decide +kernel)⟩
theorem lw_p5 : lw_okq (⟨"VotesUntouched$Reader", "readOperand", "(I)Z"⟩, 4) := ⟨⟨by decide +kernel, by decide +kernel⟩, List.mem_of_getElem? (i := 92) (by decide +kernel), List.mem_of_getElem? (i := 437) (by decide +kernel), List.mem_of_getElem? (i := 438) (by decide +kernel)⟩
theorem lw_p6 : lw_okq (⟨"VotesUntouched$Reader", "next", "()I"⟩, 4) := ⟨⟨by decide +kernel, by decide +kernel⟩, List.mem_of_getElem? (i := 92) (by decide +kernel), List.mem_of_getElem? (i := 441) (by decide +kernel), List.mem_of_getElem? (i := 442) (by decide +kernel)⟩
theorem lw_p7 : lw_okq (⟨"VotesUntouched$Reader", "readOpened", "(II)Z"⟩, 4) := ⟨⟨by decide +kernel, by decide +kernel⟩, List.mem_of_getElem? (i := 92) (by decide +kernel), List.mem_of_getElem? (i := 445) (by decide +kernel), List.mem_of_getElem? (i := 446) (by decide +kernel)⟩
theorem lw_p8 : lw_okq (⟨"VotesUntouched$Reader", "readNumber", "()V"⟩, 4) := ⟨⟨by decide +kernel, by decide +kernel⟩, List.mem_of_getElem? (i := 92) (by decide +kernel), List.mem_of_getElem? (i := 456) (by decide +kernel), List.mem_of_getElem? (i := 457) (by decide +kernel)⟩
theorem lw_p9 : lw_okq (⟨"VotesUntouched", "isPut", "(II)Z"⟩, 10) := ⟨⟨by decide +kernel, by decide +kernel⟩, List.mem_of_getElem? (i := 17) (by decide +kernel), List.mem_of_getElem? (i := 475) (by decide +kernel), List.mem_of_getElem? (i := 476) (by decide +kernel)⟩
theorem lw_p10 : lw_okq (⟨"VotesUntouched$Ballot", "weigh", "(II)V"⟩, 5) := ⟨⟨by decide +kernel, by decide +kernel⟩, List.mem_of_getElem? (i := 134) (by decide +kernel), List.mem_of_getElem? (i := 499) (by decide +kernel), List.mem_of_getElem? (i := 500) (by decide +kernel)⟩
theorem lw_p11 : lw_okq (⟨"VotesUntouched$Ballot", "isFree", "(II)Z"⟩, 5) := ⟨⟨by decide +kernel, by decide +kernel⟩, List.mem_of_getElem? (i := 134) (by decide +kernel), List.mem_of_getElem? (i := 512) (by decide +kernel), List.mem_of_getElem? (i := 513) (by decide +kernel)⟩
theorem lw_p12 : lw_okq (⟨"VotesUntouched$Ballot", "nearOf", "(I)I"⟩, 5) := ⟨⟨by decide +kernel, by decide +kernel⟩, List.mem_of_getElem? (i := 134) (by decide +kernel), List.mem_of_getElem? (i := 516) (by decide +kernel), List.mem_of_getElem? (i := 517) (by decide +kernel)⟩
theorem lw_p13 : lw_okq (⟨"VotesUntouched$Ballot", "isAllowed", "(III)Z"⟩, 5) := ⟨⟨by decide +kernel, by decide +kernel⟩, List.mem_of_getElem? (i := 134) (by decide +kernel), List.mem_of_getElem? (i := 522) (by decide +kernel), List.mem_of_getElem? (i := 523) (by decide +kernel)⟩
theorem lw_p14 : lw_okq (⟨"VotesUntouched$Ballot", "whoLeans", "(II)I"⟩, 5) := ⟨⟨by decide +kernel, by decide +kernel⟩, List.mem_of_getElem? (i := 134) (by decide +kernel), List.mem_of_getElem? (i := 553) (by decide +kernel), List.mem_of_getElem? (i := 554) (by decide +kernel)⟩
theorem lw_p15 : lw_okq (⟨"VotesUntouched$Finder", "isCheaper", "(II)Z"⟩, 6) := ⟨⟨by decide +kernel, by decide +kernel⟩, List.mem_of_getElem? (i := 156) (by decide +kernel), List.mem_of_getElem? (i := 599) (by decide +kernel), List.mem_of_getElem? (i := 600) (by decide +kernel)⟩
def lw_privs_1 : List (MethodName × Nat) := [(⟨"VotesUntouched", "comesFrom", "(II)Z"⟩, 10), (⟨"VotesUntouched$Changes", "forgetOldest", "()V"⟩, 6), (⟨"VotesUntouched", "toldOrVoid", "(I)I"⟩, 10), (⟨"VotesUntouched$Reader", "readLine", "()Z"⟩, 4), (⟨"VotesUntouched$Reader", "readChain", "(II)Z"⟩, 4), (⟨"VotesUntouched$Reader", "readOperand", "(I)Z"⟩, 4), (⟨"VotesUntouched$Reader", "next", "()I"⟩, 4), (⟨"VotesUntouched$Reader", "readOpened", "(II)Z"⟩, 4), (⟨"VotesUntouched$Reader", "readNumber", "()V"⟩, 4), (⟨"VotesUntouched", "isPut", "(II)Z"⟩, 10), (⟨"VotesUntouched$Ballot", "weigh", "(II)V"⟩, 5), (⟨"VotesUntouched$Ballot", "isFree", "(II)Z"⟩, 5), (⟨"VotesUntouched$Ballot", "nearOf", "(I)I"⟩, 5), (⟨"VotesUntouched$Ballot", "isAllowed", "(III)Z"⟩, 5), (⟨"VotesUntouched$Ballot", "whoLeans", "(II)I"⟩, 5), (⟨"VotesUntouched$Finder", "isCheaper", "(II)Z"⟩, 6)]
theorem lw_r1 : ∀ q ∈ lw_privs_1, lw_okq q := List.forall_mem_cons.mpr ⟨lw_p0, List.forall_mem_cons.mpr ⟨lw_p1, List.forall_mem_cons.mpr ⟨lw_p2, List.forall_mem_cons.mpr ⟨lw_p3, List.forall_mem_cons.mpr ⟨lw_p4, List.forall_mem_cons.mpr ⟨lw_p5, List.forall_mem_cons.mpr ⟨lw_p6, List.forall_mem_cons.mpr ⟨lw_p7, List.forall_mem_cons.mpr ⟨lw_p8, List.forall_mem_cons.mpr ⟨lw_p9, List.forall_mem_cons.mpr ⟨lw_p10, List.forall_mem_cons.mpr ⟨lw_p11, List.forall_mem_cons.mpr ⟨lw_p12, List.forall_mem_cons.mpr ⟨lw_p13, List.forall_mem_cons.mpr ⟨lw_p14, List.forall_mem_cons.mpr ⟨lw_p15, fun _ h => absurd h List.not_mem_nil⟩⟩⟩⟩⟩⟩⟩⟩⟩⟩⟩⟩⟩⟩⟩⟩
theorem lw_p16 : lw_okq (⟨"VotesUntouched$Finder", "countSays", "()V"⟩, 6) := ⟨⟨by decide +kernel, by decide +kernel⟩, List.mem_of_getElem? (i := 156) (by decide +kernel), List.mem_of_getElem? (i := 649) (by decide +kernel), List.mem_of_getElem? (i := 650) (by decide +kernel)⟩
theorem lw_p17 : lw_okq (⟨"VotesUntouched$Finder", "weightOf", "(II)I"⟩, 6) := ⟨⟨by decide +kernel, by decide +kernel⟩, List.mem_of_getElem? (i := 156) (by decide +kernel), List.mem_of_getElem? (i := 676) (by decide +kernel), List.mem_of_getElem? (i := 677) (by decide +kernel)⟩
theorem lw_p18 : lw_okq (⟨"VotesUntouched$Years", "isWhole", "(II)Z"⟩, 3) := ⟨⟨by decide +kernel, by decide +kernel⟩, List.mem_of_getElem? (i := 201) (by decide +kernel), List.mem_of_getElem? (i := 739) (by decide +kernel), List.mem_of_getElem? (i := 740) (by decide +kernel)⟩
theorem lw_p19 : lw_okq (⟨"VotesUntouched$Years", "bundleAt", "(II)I"⟩, 3) := ⟨⟨by decide +kernel, by decide +kernel⟩, List.mem_of_getElem? (i := 201) (by decide +kernel), List.mem_of_getElem? (i := 744) (by decide +kernel), List.mem_of_getElem? (i := 745) (by decide +kernel)⟩
theorem lw_p20 : lw_okq (⟨"VotesUntouched$Years", "silentAt", "(II)I"⟩, 3) := ⟨⟨by decide +kernel, by decide +kernel⟩, List.mem_of_getElem? (i := 201) (by decide +kernel), List.mem_of_getElem? (i := 750) (by decide +kernel), List.mem_of_getElem? (i := 751) (by decide +kernel)⟩
theorem lw_p21 : lw_okq (⟨"VotesUntouched$Years", "mustBeSilent", "(I)I"⟩, 3) := ⟨⟨by decide +kernel, by decide +kernel⟩, List.mem_of_getElem? (i := 201) (by decide +kernel), List.mem_of_getElem? (i := 754) (by decide +kernel), List.mem_of_getElem? (i := 755) (by decide +kernel)⟩
theorem lw_p22 : lw_okq (⟨"VotesUntouched$Years", "isSilentFor", "(IIII)Z"⟩, 3) := ⟨⟨by decide +kernel, by decide +kernel⟩, List.mem_of_getElem? (i := 201) (by decide +kernel), List.mem_of_getElem? (i := 768) (by decide +kernel), List.mem_of_getElem? (i := 769) (by decide +kernel)⟩
theorem lw_p23 : lw_okq (⟨"VotesUntouched$Years", "hasVotedOn", "(IIII)Z"⟩, 3) := ⟨⟨by decide +kernel, by decide +kernel⟩, List.mem_of_getElem? (i := 201) (by decide +kernel), List.mem_of_getElem? (i := 772) (by decide +kernel), List.mem_of_getElem? (i := 773) (by decide +kernel)⟩
theorem lw_p24 : lw_okq (⟨"VotesUntouched$Voters", "own", "(IIII)I"⟩, 4) := ⟨⟨by decide +kernel, by decide +kernel⟩, List.mem_of_getElem? (i := 233) (by decide +kernel), List.mem_of_getElem? (i := 864) (by decide +kernel), List.mem_of_getElem? (i := 865) (by decide +kernel)⟩
theorem lw_p25 : lw_okq (⟨"VotesUntouched$Voters", "runFrom", "(IIIII)I"⟩, 4) := ⟨⟨by decide +kernel, by decide +kernel⟩, List.mem_of_getElem? (i := 233) (by decide +kernel), List.mem_of_getElem? (i := 872) (by decide +kernel), List.mem_of_getElem? (i := 873) (by decide +kernel)⟩
theorem lw_p26 : lw_okq (⟨"VotesUntouched$Voters", "begin", "(I)V"⟩, 4) := ⟨⟨by decide +kernel, by decide +kernel⟩, List.mem_of_getElem? (i := 233) (by decide +kernel), List.mem_of_getElem? (i := 887) (by decide +kernel), List.mem_of_getElem? (i := 888) (by decide +kernel)⟩
theorem lw_p27 : lw_okq (⟨"VotesUntouched$Voters", "run", "(IIIII)I"⟩, 4) := ⟨⟨by decide +kernel, by decide +kernel⟩, List.mem_of_getElem? (i := 233) (by decide +kernel), List.mem_of_getElem? (i := 891) (by decide +kernel), List.mem_of_getElem? (i := 892) (by decide +kernel)⟩
theorem lw_p28 : lw_okq (⟨"VotesUntouchedModel", "isPerson", "(I)Z"⟩, 42) := ⟨⟨by decide +kernel, by decide +kernel⟩, List.mem_of_getElem? (i := 983) (by decide +kernel), List.mem_of_getElem? (i := 1146) (by decide +kernel), List.mem_of_getElem? (i := 1147) (by decide +kernel)⟩
theorem lw_p29 : lw_okq (⟨"VotesUntouchedModel", "isPm", "(I)Z"⟩, 42) := ⟨⟨by decide +kernel, by decide +kernel⟩, List.mem_of_getElem? (i := 983) (by decide +kernel), List.mem_of_getElem? (i := 1161) (by decide +kernel), List.mem_of_getElem? (i := 1162) (by decide +kernel)⟩
theorem lw_p30 : lw_okq (⟨"VotesUntouchedModel", "isMatter", "(I)Z"⟩, 42) := ⟨⟨by decide +kernel, by decide +kernel⟩, List.mem_of_getElem? (i := 983) (by decide +kernel), List.mem_of_getElem? (i := 1165) (by decide +kernel), List.mem_of_getElem? (i := 1166) (by decide +kernel)⟩
theorem lw_p31 : lw_okq (⟨"VotesUntouchedModel", "becomes", "(II)I"⟩, 42) := ⟨⟨by decide +kernel, by decide +kernel⟩, List.mem_of_getElem? (i := 983) (by decide +kernel), List.mem_of_getElem? (i := 1172) (by decide +kernel), List.mem_of_getElem? (i := 1173) (by decide +kernel)⟩
def lw_privs_2 : List (MethodName × Nat) := [(⟨"VotesUntouched$Finder", "countSays", "()V"⟩, 6), (⟨"VotesUntouched$Finder", "weightOf", "(II)I"⟩, 6), (⟨"VotesUntouched$Years", "isWhole", "(II)Z"⟩, 3), (⟨"VotesUntouched$Years", "bundleAt", "(II)I"⟩, 3), (⟨"VotesUntouched$Years", "silentAt", "(II)I"⟩, 3), (⟨"VotesUntouched$Years", "mustBeSilent", "(I)I"⟩, 3), (⟨"VotesUntouched$Years", "isSilentFor", "(IIII)Z"⟩, 3), (⟨"VotesUntouched$Years", "hasVotedOn", "(IIII)Z"⟩, 3), (⟨"VotesUntouched$Voters", "own", "(IIII)I"⟩, 4), (⟨"VotesUntouched$Voters", "runFrom", "(IIIII)I"⟩, 4), (⟨"VotesUntouched$Voters", "begin", "(I)V"⟩, 4), (⟨"VotesUntouched$Voters", "run", "(IIIII)I"⟩, 4), (⟨"VotesUntouchedModel", "isPerson", "(I)Z"⟩, 42), (⟨"VotesUntouchedModel", "isPm", "(I)Z"⟩, 42), (⟨"VotesUntouchedModel", "isMatter", "(I)Z"⟩, 42), (⟨"VotesUntouchedModel", "becomes", "(II)I"⟩, 42)]
theorem lw_r2 : ∀ q ∈ lw_privs_2, lw_okq q := List.forall_mem_cons.mpr ⟨lw_p16, List.forall_mem_cons.mpr ⟨lw_p17, List.forall_mem_cons.mpr ⟨lw_p18, List.forall_mem_cons.mpr ⟨lw_p19, List.forall_mem_cons.mpr ⟨lw_p20, List.forall_mem_cons.mpr ⟨lw_p21, List.forall_mem_cons.mpr ⟨lw_p22, List.forall_mem_cons.mpr ⟨lw_p23, List.forall_mem_cons.mpr ⟨lw_p24, List.forall_mem_cons.mpr ⟨lw_p25, List.forall_mem_cons.mpr ⟨lw_p26, List.forall_mem_cons.mpr ⟨lw_p27, List.forall_mem_cons.mpr ⟨lw_p28, List.forall_mem_cons.mpr ⟨lw_p29, List.forall_mem_cons.mpr ⟨lw_p30, List.forall_mem_cons.mpr ⟨lw_p31, fun _ h => absurd h List.not_mem_nil⟩⟩⟩⟩⟩⟩⟩⟩⟩⟩⟩⟩⟩⟩⟩⟩
theorem lw_p32 : lw_okq (⟨"VotesUntouchedModel", "stepsTo", "(II)I"⟩, 42) := ⟨⟨by decide +kernel, by decide +kernel⟩, List.mem_of_getElem? (i := 983) (by decide +kernel), List.mem_of_getElem? (i := 1189) (by decide +kernel), List.mem_of_getElem? (i := 1190) (by decide +kernel)⟩
theorem lw_p33 : lw_okq (⟨"VotesUntouchedModel", "workOut", "(II)I"⟩, 42) := ⟨⟨by decide +kernel, by decide +kernel⟩, List.mem_of_getElem? (i := 983) (by decide +kernel), List.mem_of_getElem? (i := 1202) (by decide +kernel), List.mem_of_getElem? (i := 1203) (by decide +kernel)⟩
theorem lw_p34 : lw_okq (⟨"VotesUntouchedModel", "either", "()I"⟩, 42) := ⟨⟨by decide +kernel, by decide +kernel⟩, List.mem_of_getElem? (i := 983) (by decide +kernel), List.mem_of_getElem? (i := 1206) (by decide +kernel), List.mem_of_getElem? (i := 1207) (by decide +kernel)⟩
theorem lw_p35 : lw_okq (⟨"VotesUntouchedModel", "both", "()I"⟩, 42) := ⟨⟨by decide +kernel, by decide +kernel⟩, List.mem_of_getElem? (i := 983) (by decide +kernel), List.mem_of_getElem? (i := 1210) (by decide +kernel), List.mem_of_getElem? (i := 1211) (by decide +kernel)⟩
theorem lw_p36 : lw_okq (⟨"VotesUntouchedModel", "compared", "()I"⟩, 42) := ⟨⟨by decide +kernel, by decide +kernel⟩, List.mem_of_getElem? (i := 983) (by decide +kernel), List.mem_of_getElem? (i := 1214) (by decide +kernel), List.mem_of_getElem? (i := 1215) (by decide +kernel)⟩
theorem lw_p37 : lw_okq (⟨"VotesUntouchedModel", "sums", "()I"⟩, 42) := ⟨⟨by decide +kernel, by decide +kernel⟩, List.mem_of_getElem? (i := 983) (by decide +kernel), List.mem_of_getElem? (i := 1218) (by decide +kernel), List.mem_of_getElem? (i := 1219) (by decide +kernel)⟩
theorem lw_p38 : lw_okq (⟨"VotesUntouchedModel", "product", "()I"⟩, 42) := ⟨⟨by decide +kernel, by decide +kernel⟩, List.mem_of_getElem? (i := 983) (by decide +kernel), List.mem_of_getElem? (i := 1222) (by decide +kernel), List.mem_of_getElem? (i := 1223) (by decide +kernel)⟩
theorem lw_p39 : lw_okq (⟨"VotesUntouchedModel", "one", "()I"⟩, 42) := ⟨⟨by decide +kernel, by decide +kernel⟩, List.mem_of_getElem? (i := 983) (by decide +kernel), List.mem_of_getElem? (i := 1226) (by decide +kernel), List.mem_of_getElem? (i := 1227) (by decide +kernel)⟩
theorem lw_p40 : lw_okq (⟨"VotesUntouchedModel", "byteAt", "()I"⟩, 42) := ⟨⟨by decide +kernel, by decide +kernel⟩, List.mem_of_getElem? (i := 983) (by decide +kernel), List.mem_of_getElem? (i := 1230) (by decide +kernel), List.mem_of_getElem? (i := 1231) (by decide +kernel)⟩
theorem lw_p41 : lw_okq (⟨"VotesUntouchedModel", "wrong", "()I"⟩, 42) := ⟨⟨by decide +kernel, by decide +kernel⟩, List.mem_of_getElem? (i := 983) (by decide +kernel), List.mem_of_getElem? (i := 1234) (by decide +kernel), List.mem_of_getElem? (i := 1235) (by decide +kernel)⟩
theorem lw_p42 : lw_okq (⟨"VotesUntouchedModel", "takes", "(I)Z"⟩, 42) := ⟨⟨by decide +kernel, by decide +kernel⟩, List.mem_of_getElem? (i := 983) (by decide +kernel), List.mem_of_getElem? (i := 1238) (by decide +kernel), List.mem_of_getElem? (i := 1239) (by decide +kernel)⟩
theorem lw_p43 : lw_okq (⟨"VotesUntouchedModel", "isBundle", "(I)Z"⟩, 42) := ⟨⟨by decide +kernel, by decide +kernel⟩, List.mem_of_getElem? (i := 983) (by decide +kernel), List.mem_of_getElem? (i := 1249) (by decide +kernel), List.mem_of_getElem? (i := 1250) (by decide +kernel)⟩
theorem lw_p44 : lw_okq (⟨"VotesUntouchedModel", "areGifts", "(I)Z"⟩, 42) := ⟨⟨by decide +kernel, by decide +kernel⟩, List.mem_of_getElem? (i := 983) (by decide +kernel), List.mem_of_getElem? (i := 1253) (by decide +kernel), List.mem_of_getElem? (i := 1254) (by decide +kernel)⟩
theorem lw_p45 : lw_okq (⟨"VotesUntouchedModel", "asks", "(III)V"⟩, 42) := ⟨⟨by decide +kernel, by decide +kernel⟩, List.mem_of_getElem? (i := 983) (by decide +kernel), List.mem_of_getElem? (i := 1257) (by decide +kernel), List.mem_of_getElem? (i := 1258) (by decide +kernel)⟩
theorem lw_p46 : lw_okq (⟨"VotesUntouchedModel", "touches", "(III)V"⟩, 42) := ⟨⟨by decide +kernel, by decide +kernel⟩, List.mem_of_getElem? (i := 983) (by decide +kernel), List.mem_of_getElem? (i := 1261) (by decide +kernel), List.mem_of_getElem? (i := 1262) (by decide +kernel)⟩
theorem lw_p47 : lw_okq (⟨"VotesUntouchedModel", "mayVote", "(III)Z"⟩, 42) := ⟨⟨by decide +kernel, by decide +kernel⟩, List.mem_of_getElem? (i := 983) (by decide +kernel), List.mem_of_getElem? (i := 1265) (by decide +kernel), List.mem_of_getElem? (i := 1266) (by decide +kernel)⟩
def lw_privs_3 : List (MethodName × Nat) := [(⟨"VotesUntouchedModel", "stepsTo", "(II)I"⟩, 42), (⟨"VotesUntouchedModel", "workOut", "(II)I"⟩, 42), (⟨"VotesUntouchedModel", "either", "()I"⟩, 42), (⟨"VotesUntouchedModel", "both", "()I"⟩, 42), (⟨"VotesUntouchedModel", "compared", "()I"⟩, 42), (⟨"VotesUntouchedModel", "sums", "()I"⟩, 42), (⟨"VotesUntouchedModel", "product", "()I"⟩, 42), (⟨"VotesUntouchedModel", "one", "()I"⟩, 42), (⟨"VotesUntouchedModel", "byteAt", "()I"⟩, 42), (⟨"VotesUntouchedModel", "wrong", "()I"⟩, 42), (⟨"VotesUntouchedModel", "takes", "(I)Z"⟩, 42), (⟨"VotesUntouchedModel", "isBundle", "(I)Z"⟩, 42), (⟨"VotesUntouchedModel", "areGifts", "(I)Z"⟩, 42), (⟨"VotesUntouchedModel", "asks", "(III)V"⟩, 42), (⟨"VotesUntouchedModel", "touches", "(III)V"⟩, 42), (⟨"VotesUntouchedModel", "mayVote", "(III)Z"⟩, 42)]
theorem lw_r3 : ∀ q ∈ lw_privs_3, lw_okq q := List.forall_mem_cons.mpr ⟨lw_p32, List.forall_mem_cons.mpr ⟨lw_p33, List.forall_mem_cons.mpr ⟨lw_p34, List.forall_mem_cons.mpr ⟨lw_p35, List.forall_mem_cons.mpr ⟨lw_p36, List.forall_mem_cons.mpr ⟨lw_p37, List.forall_mem_cons.mpr ⟨lw_p38, List.forall_mem_cons.mpr ⟨lw_p39, List.forall_mem_cons.mpr ⟨lw_p40, List.forall_mem_cons.mpr ⟨lw_p41, List.forall_mem_cons.mpr ⟨lw_p42, List.forall_mem_cons.mpr ⟨lw_p43, List.forall_mem_cons.mpr ⟨lw_p44, List.forall_mem_cons.mpr ⟨lw_p45, List.forall_mem_cons.mpr ⟨lw_p46, List.forall_mem_cons.mpr ⟨lw_p47, fun _ h => absurd h List.not_mem_nil⟩⟩⟩⟩⟩⟩⟩⟩⟩⟩⟩⟩⟩⟩⟩⟩
theorem lw_p48 : lw_okq (⟨"VotesUntouchedModel", "nearOf", "(I)I"⟩, 42) := ⟨⟨by decide +kernel, by decide +kernel⟩, List.mem_of_getElem? (i := 983) (by decide +kernel), List.mem_of_getElem? (i := 1269) (by decide +kernel), List.mem_of_getElem? (i := 1270) (by decide +kernel)⟩
theorem lw_p49 : lw_okq (⟨"VotesUntouchedModel", "isCarried", "(II)Z"⟩, 42) := ⟨⟨by decide +kernel, by decide +kernel⟩, List.mem_of_getElem? (i := 983) (by decide +kernel), List.mem_of_getElem? (i := 1281) (by decide +kernel), List.mem_of_getElem? (i := 1282) (by decide +kernel)⟩
theorem lw_p50 : lw_okq (⟨"VotesUntouchedModel", "isCarriedBy", "(I)Z"⟩, 42) := ⟨⟨by decide +kernel, by decide +kernel⟩, List.mem_of_getElem? (i := 983) (by decide +kernel), List.mem_of_getElem? (i := 1285) (by decide +kernel), List.mem_of_getElem? (i := 1286) (by decide +kernel)⟩
theorem lw_p51 : lw_okq (⟨"VotesUntouchedModel", "isMore", "(I)Z"⟩, 42) := ⟨⟨by decide +kernel, by decide +kernel⟩, List.mem_of_getElem? (i := 983) (by decide +kernel), List.mem_of_getElem? (i := 1289) (by decide +kernel), List.mem_of_getElem? (i := 1290) (by decide +kernel)⟩
theorem lw_p52 : lw_okq (⟨"VotesUntouchedModel", "sideOf", "(IZ)I"⟩, 42) := ⟨⟨by decide +kernel, by decide +kernel⟩, List.mem_of_getElem? (i := 983) (by decide +kernel), List.mem_of_getElem? (i := 1293) (by decide +kernel), List.mem_of_getElem? (i := 1294) (by decide +kernel)⟩
theorem lw_p53 : lw_okq (⟨"VotesUntouchedModel", "feesOf", "(I)I"⟩, 42) := ⟨⟨by decide +kernel, by decide +kernel⟩, List.mem_of_getElem? (i := 983) (by decide +kernel), List.mem_of_getElem? (i := 1305) (by decide +kernel), List.mem_of_getElem? (i := 1306) (by decide +kernel)⟩
theorem lw_p54 : lw_okq (⟨"VotesUntouchedModel", "parts", "()V"⟩, 42) := ⟨⟨by decide +kernel, by decide +kernel⟩, List.mem_of_getElem? (i := 983) (by decide +kernel), List.mem_of_getElem? (i := 1321) (by decide +kernel), List.mem_of_getElem? (i := 1322) (by decide +kernel)⟩
theorem lw_p55 : lw_okq (⟨"VotesUntouchedModel", "sayOf", "(II)I"⟩, 42) := ⟨⟨by decide +kernel, by decide +kernel⟩, List.mem_of_getElem? (i := 983) (by decide +kernel), List.mem_of_getElem? (i := 1329) (by decide +kernel), List.mem_of_getElem? (i := 1330) (by decide +kernel)⟩
theorem lw_p56 : lw_okq (⟨"VotesUntouchedModel", "drawnOf", "(II)I"⟩, 42) := ⟨⟨by decide +kernel, by decide +kernel⟩, List.mem_of_getElem? (i := 983) (by decide +kernel), List.mem_of_getElem? (i := 1358) (by decide +kernel), List.mem_of_getElem? (i := 1359) (by decide +kernel)⟩
theorem lw_p57 : lw_okq (⟨"VotesUntouchedModel", "yearIs", "(I)I"⟩, 42) := ⟨⟨by decide +kernel, by decide +kernel⟩, List.mem_of_getElem? (i := 983) (by decide +kernel), List.mem_of_getElem? (i := 1366) (by decide +kernel), List.mem_of_getElem? (i := 1367) (by decide +kernel)⟩
theorem lw_p58 : lw_okq (⟨"VotesUntouchedModel", "bundleAt", "(II)I"⟩, 42) := ⟨⟨by decide +kernel, by decide +kernel⟩, List.mem_of_getElem? (i := 983) (by decide +kernel), List.mem_of_getElem? (i := 1370) (by decide +kernel), List.mem_of_getElem? (i := 1371) (by decide +kernel)⟩
theorem lw_p59 : lw_okq (⟨"VotesUntouchedModel", "silentAt", "(II)I"⟩, 42) := ⟨⟨by decide +kernel, by decide +kernel⟩, List.mem_of_getElem? (i := 983) (by decide +kernel), List.mem_of_getElem? (i := 1374) (by decide +kernel), List.mem_of_getElem? (i := 1375) (by decide +kernel)⟩
theorem lw_p60 : lw_okq (⟨"VotesUntouchedModel", "isVotedBeside", "(IIII)Z"⟩, 42) := ⟨⟨by decide +kernel, by decide +kernel⟩, List.mem_of_getElem? (i := 983) (by decide +kernel), List.mem_of_getElem? (i := 1382) (by decide +kernel), List.mem_of_getElem? (i := 1383) (by decide +kernel)⟩
theorem lw_p61 : lw_okq (⟨"VotesUntouchedModel", "isBody", "(I)Z"⟩, 42) := ⟨⟨by decide +kernel, by decide +kernel⟩, List.mem_of_getElem? (i := 983) (by decide +kernel), List.mem_of_getElem? (i := 1411) (by decide +kernel), List.mem_of_getElem? (i := 1412) (by decide +kernel)⟩
theorem lw_p62 : lw_okq (⟨"VotesUntouchedModel", "votesAs", "(II)I"⟩, 42) := ⟨⟨by decide +kernel, by decide +kernel⟩, List.mem_of_getElem? (i := 983) (by decide +kernel), List.mem_of_getElem? (i := 1415) (by decide +kernel), List.mem_of_getElem? (i := 1416) (by decide +kernel)⟩
theorem lw_p63 : lw_okq (⟨"VotesUntouchedModel", "begins", "(I)V"⟩, 42) := ⟨⟨by decide +kernel, by decide +kernel⟩, List.mem_of_getElem? (i := 983) (by decide +kernel), List.mem_of_getElem? (i := 1419) (by decide +kernel), List.mem_of_getElem? (i := 1420) (by decide +kernel)⟩
def lw_privs_4 : List (MethodName × Nat) := [(⟨"VotesUntouchedModel", "nearOf", "(I)I"⟩, 42), (⟨"VotesUntouchedModel", "isCarried", "(II)Z"⟩, 42), (⟨"VotesUntouchedModel", "isCarriedBy", "(I)Z"⟩, 42), (⟨"VotesUntouchedModel", "isMore", "(I)Z"⟩, 42), (⟨"VotesUntouchedModel", "sideOf", "(IZ)I"⟩, 42), (⟨"VotesUntouchedModel", "feesOf", "(I)I"⟩, 42), (⟨"VotesUntouchedModel", "parts", "()V"⟩, 42), (⟨"VotesUntouchedModel", "sayOf", "(II)I"⟩, 42), (⟨"VotesUntouchedModel", "drawnOf", "(II)I"⟩, 42), (⟨"VotesUntouchedModel", "yearIs", "(I)I"⟩, 42), (⟨"VotesUntouchedModel", "bundleAt", "(II)I"⟩, 42), (⟨"VotesUntouchedModel", "silentAt", "(II)I"⟩, 42), (⟨"VotesUntouchedModel", "isVotedBeside", "(IIII)Z"⟩, 42), (⟨"VotesUntouchedModel", "isBody", "(I)Z"⟩, 42), (⟨"VotesUntouchedModel", "votesAs", "(II)I"⟩, 42), (⟨"VotesUntouchedModel", "begins", "(I)V"⟩, 42)]
theorem lw_r4 : ∀ q ∈ lw_privs_4, lw_okq q := List.forall_mem_cons.mpr ⟨lw_p48, List.forall_mem_cons.mpr ⟨lw_p49, List.forall_mem_cons.mpr ⟨lw_p50, List.forall_mem_cons.mpr ⟨lw_p51, List.forall_mem_cons.mpr ⟨lw_p52, List.forall_mem_cons.mpr ⟨lw_p53, List.forall_mem_cons.mpr ⟨lw_p54, List.forall_mem_cons.mpr ⟨lw_p55, List.forall_mem_cons.mpr ⟨lw_p56, List.forall_mem_cons.mpr ⟨lw_p57, List.forall_mem_cons.mpr ⟨lw_p58, List.forall_mem_cons.mpr ⟨lw_p59, List.forall_mem_cons.mpr ⟨lw_p60, List.forall_mem_cons.mpr ⟨lw_p61, List.forall_mem_cons.mpr ⟨lw_p62, List.forall_mem_cons.mpr ⟨lw_p63, fun _ h => absurd h List.not_mem_nil⟩⟩⟩⟩⟩⟩⟩⟩⟩⟩⟩⟩⟩⟩⟩⟩
theorem lw_p64 : lw_okq (⟨"VotesUntouchedModel", "ownsAs", "(II)I"⟩, 42) := ⟨⟨by decide +kernel, by decide +kernel⟩, List.mem_of_getElem? (i := 983) (by decide +kernel), List.mem_of_getElem? (i := 1423) (by decide +kernel), List.mem_of_getElem? (i := 1424) (by decide +kernel)⟩
theorem lw_p65 : lw_okq (⟨"VotesUntouchedModel", "givesAs", "(II)I"⟩, 42) := ⟨⟨by decide +kernel, by decide +kernel⟩, List.mem_of_getElem? (i := 983) (by decide +kernel), List.mem_of_getElem? (i := 1427) (by decide +kernel), List.mem_of_getElem? (i := 1428) (by decide +kernel)⟩
theorem lw_p66 : lw_okq (⟨"VotesUntouchedModel", "tellsAs", "(II)I"⟩, 42) := ⟨⟨by decide +kernel, by decide +kernel⟩, List.mem_of_getElem? (i := 983) (by decide +kernel), List.mem_of_getElem? (i := 1431) (by decide +kernel), List.mem_of_getElem? (i := 1432) (by decide +kernel)⟩
theorem lw_p67 : lw_okq (⟨"VotesUntouchedModel", "refusal", "(II)I"⟩, 42) := ⟨⟨by decide +kernel, by decide +kernel⟩, List.mem_of_getElem? (i := 983) (by decide +kernel), List.mem_of_getElem? (i := 1451) (by decide +kernel), List.mem_of_getElem? (i := 1452) (by decide +kernel)⟩
theorem lw_p68 : lw_okq (⟨"VotesUntouchedModel", "kindOf", "(I)I"⟩, 42) := ⟨⟨by decide +kernel, by decide +kernel⟩, List.mem_of_getElem? (i := 983) (by decide +kernel), List.mem_of_getElem? (i := 1471) (by decide +kernel), List.mem_of_getElem? (i := 1472) (by decide +kernel)⟩
def lw_privs_5 : List (MethodName × Nat) := [(⟨"VotesUntouchedModel", "ownsAs", "(II)I"⟩, 42), (⟨"VotesUntouchedModel", "givesAs", "(II)I"⟩, 42), (⟨"VotesUntouchedModel", "tellsAs", "(II)I"⟩, 42), (⟨"VotesUntouchedModel", "refusal", "(II)I"⟩, 42), (⟨"VotesUntouchedModel", "kindOf", "(I)I"⟩, 42)]
theorem lw_r5 : ∀ q ∈ lw_privs_5, lw_okq q := List.forall_mem_cons.mpr ⟨lw_p64, List.forall_mem_cons.mpr ⟨lw_p65, List.forall_mem_cons.mpr ⟨lw_p66, List.forall_mem_cons.mpr ⟨lw_p67, List.forall_mem_cons.mpr ⟨lw_p68, fun _ h => absurd h List.not_mem_nil⟩⟩⟩⟩⟩
def lw_privs : List (MethodName × Nat) := lw_privs_1 ++ (lw_privs_2 ++ (lw_privs_3 ++ (lw_privs_4 ++ (lw_privs_5))))
def lw_tbl : List Cond := k2_sels lw_privs ++ tables_1
theorem lw_privs_ok : ∀ q ∈ lw_privs, lw_okq q := by
  show ∀ q ∈ lw_privs_1 ++ (lw_privs_2 ++ (lw_privs_3 ++ (lw_privs_4 ++ (lw_privs_5)))), lw_okq q
  exact List.forall_mem_append.mpr ⟨lw_r1, List.forall_mem_append.mpr ⟨lw_r2, List.forall_mem_append.mpr ⟨lw_r3, List.forall_mem_append.mpr ⟨lw_r4, lw_r5⟩⟩⟩⟩
-- ===== end of PART A; then your names; then what follows =====
/-! ===== BEGIN words of one list among another's, by their places ===== -/
theorem goodIn_r {big : List Cond} (ws : List Cond) (ps : List Nat) (hp : ws = ps.filterMap (fun i => big[i]?)) (h : ws.all goodWord = true) : GoodIn big ws := by
  intro w hw
  have h1 := List.all_eq_true.mp h w hw
  rw [hp] at hw
  obtain ⟨i, -, hi⟩ := List.mem_filterMap.mp hw
  have hm : w ∈ big := by first | exact List.mem_of_getElem? hi | exact List.getElem?_mem hi
  exact ⟨hm, good_of_word h1⟩
theorem goodIn_app {big a b : List Cond} (ha : GoodIn big a) (hb : GoodIn big b) : GoodIn big (a ++ b) := fun w h => (List.mem_append.mp h).elim (ha w) (hb w)
theorem goodIn_ca {big a b : List Cond} {c : Cond} (ha : GoodIn big (c :: a)) (hb : GoodIn big b) : GoodIn big (c :: (a ++ b)) := fun w h => (List.mem_cons.mp h).elim (fun e => ha w (List.mem_cons.mpr (Or.inl e))) (fun h => (List.mem_append.mp h).elim (fun h => ha w (List.mem_cons.mpr (Or.inr h))) (hb w))
theorem goodIn_sub {big ws : List Cond} (hm : ∀ w ∈ ws, w ∈ big) (h : ws.all goodWord = true) : GoodIn big ws := fun w hw => ⟨hm w hw, good_of_word (List.all_eq_true.mp h w hw)⟩
/-! ===== END ===== -/

/-! ===== BEGIN printed: names, fields, word lists, decode rows ===== -/
def RX0 : String := "VotesUntouched$Ballot"
def TX0 : u_T := fun k => match k with
  | 0 => ("VotesUntouched$Ballot", "council", "LVotesUntouched$Council;", true)
  | 1 => ("VotesUntouched$Ballot", "text", "LVotesUntouched$Code;", true)
  | 2 => ("VotesUntouched$Ballot", "touches", "[I", true)
  | 3 => ("VotesUntouched$Ballot", "names", "[I", true)
  | _ => ("VotesUntouched$Ballot", "touched", "I", false)
def tyX0 : Nat → FieldType := fun k => match k with
  | 0 => .object "VotesUntouched$Council"
  | 1 => .object "VotesUntouched$Code"
  | 2 => .array .int
  | 3 => .array .int
  | _ => .int
abbrev wsX00 : List Cond := u_ws RX0 TX0 5
theorem nmX0 : ∀ a, a < 5 → ∀ b, b < 5 → a ≠ b → (TX0 a).2.1 ≠ (TX0 b).2.1 := by decide +kernel
theorem tyX0_ok : ∀ k, k < 5 → parseFieldDescriptor (TX0 k).2.2.1 = some (tyX0 k) := by decide +kernel
abbrev cX0_init : ByteArray := prog_2_method_1_code
def yX0_init : MethodName := ⟨RX0, "<init>", "(LVotesUntouched$Council;LVotesUntouched$Code;)V"⟩
abbrev cX0_whoMay : ByteArray := prog_2_method_2_code
def yX0_whoMay : MethodName := ⟨RX0, "whoMay", "(III)I"⟩
abbrev cX0_whoIsFree : ByteArray := prog_2_method_3_code
def yX0_whoIsFree : MethodName := ⟨RX0, "whoIsFree", "(II)I"⟩
abbrev cX0_weigh : ByteArray := prog_2_method_4_code
def yX0_weigh : MethodName := ⟨RX0, "weigh", "(II)V"⟩
abbrev cX0_isFree : ByteArray := prog_2_method_5_code
def yX0_isFree : MethodName := ⟨RX0, "isFree", "(II)Z"⟩
abbrev cX0_isAllowed : ByteArray := prog_2_method_6_code
def yX0_isAllowed : MethodName := ⟨RX0, "isAllowed", "(III)Z"⟩
abbrev cX0_nearOf : ByteArray := prog_2_method_7_code
def yX0_nearOf : MethodName := ⟨RX0, "nearOf", "(I)I"⟩
abbrev cX0_fans : ByteArray := prog_2_method_8_code
def yX0_fans : MethodName := ⟨RX0, "fans", "(I)I"⟩
abbrev cX0_foes : ByteArray := prog_2_method_9_code
def yX0_foes : MethodName := ⟨RX0, "foes", "(I)I"⟩
abbrev cX0_whoLeans : ByteArray := prog_2_method_10_code
def yX0_whoLeans : MethodName := ⟨RX0, "whoLeans", "(II)I"⟩
abbrev cX0_isCarried : ByteArray := prog_2_method_11_code
def yX0_isCarried : MethodName := ⟨RX0, "isCarried", "(II)Z"⟩
abbrev cX0_isCarriedBy : ByteArray := prog_2_method_12_code
def yX0_isCarriedBy : MethodName := ⟨RX0, "isCarriedBy", "(III)Z"⟩
abbrev cX0_isMore : ByteArray := prog_2_method_13_code
def yX0_isMore : MethodName := ⟨RX0, "isMore", "(II)Z"⟩
def RX1 : String := "VotesUntouched$Changes"
def TX1 : u_T := fun k => match k with
  | 0 => ("VotesUntouched$Changes", "council", "LVotesUntouched$Council;", true)
  | 1 => ("VotesUntouched$Changes", "slots", "[I", true)
  | 2 => ("VotesUntouched$Changes", "before", "[I", true)
  | 3 => ("VotesUntouched$Changes", "after", "[I", true)
  | 4 => ("VotesUntouched$Changes", "done", "I", false)
  | _ => ("VotesUntouched$Changes", "kept", "I", false)
def tyX1 : Nat → FieldType := fun k => match k with
  | 0 => .object "VotesUntouched$Council"
  | 1 => .array .int
  | 2 => .array .int
  | 3 => .array .int
  | 4 => .int
  | _ => .int
abbrev wsX10 : List Cond := u_ws RX1 TX1 6
theorem nmX1 : ∀ a, a < 6 → ∀ b, b < 6 → a ≠ b → (TX1 a).2.1 ≠ (TX1 b).2.1 := by decide +kernel
theorem tyX1_ok : ∀ k, k < 6 → parseFieldDescriptor (TX1 k).2.2.1 = some (tyX1 k) := by decide +kernel
abbrev cX1_init : ByteArray := prog_3_method_1_code
def yX1_init : MethodName := ⟨RX1, "<init>", "(LVotesUntouched$Council;)V"⟩
abbrev cX1_make : ByteArray := prog_3_method_2_code
def yX1_make : MethodName := ⟨RX1, "make", "(II)I"⟩
abbrev cX1_forgetOldest : ByteArray := prog_3_method_3_code
def yX1_forgetOldest : MethodName := ⟨RX1, "forgetOldest", "()V"⟩
abbrev cX1_takeBack : ByteArray := prog_3_method_4_code
def yX1_takeBack : MethodName := ⟨RX1, "takeBack", "()Z"⟩
abbrev cX1_makeAgain : ByteArray := prog_3_method_5_code
def yX1_makeAgain : MethodName := ⟨RX1, "makeAgain", "()Z"⟩
abbrev cX1_undoable : ByteArray := prog_3_method_6_code
def yX1_undoable : MethodName := ⟨RX1, "undoable", "()I"⟩
abbrev cX1_redoable : ByteArray := prog_3_method_7_code
def yX1_redoable : MethodName := ⟨RX1, "redoable", "()I"⟩
def RX2 : String := "VotesUntouched$Code"
def TX2 : u_T := fun k => match k with
  | 0 => ("VotesUntouched$Code", "steps", "[I", true)
  | 1 => ("VotesUntouched$Code", "values", "[I", true)
  | 2 => ("VotesUntouched$Code", "stack", "[I", true)
  | _ => ("VotesUntouched$Code", "length", "I", false)
def tyX2 : Nat → FieldType := fun k => match k with
  | 0 => .array .int
  | 1 => .array .int
  | 2 => .array .int
  | _ => .int
abbrev wsX20 : List Cond := u_ws RX2 TX2 4
theorem nmX2 : ∀ a, a < 4 → ∀ b, b < 4 → a ≠ b → (TX2 a).2.1 ≠ (TX2 b).2.1 := by decide +kernel
theorem tyX2_ok : ∀ k, k < 4 → parseFieldDescriptor (TX2 k).2.2.1 = some (tyX2 k) := by decide +kernel
abbrev cX2_init : ByteArray := prog_4_method_1_code
def yX2_init : MethodName := ⟨RX2, "<init>", "()V"⟩
abbrev cX2_isEmpty : ByteArray := prog_4_method_2_code
def yX2_isEmpty : MethodName := ⟨RX2, "isEmpty", "()Z"⟩
abbrev cX2_empty : ByteArray := prog_4_method_3_code
def yX2_empty : MethodName := ⟨RX2, "empty", "()V"⟩
abbrev cX2_add : ByteArray := prog_4_method_4_code
def yX2_add : MethodName := ⟨RX2, "add", "(II)V"⟩
abbrev cX2_becomes : ByteArray := prog_4_method_5_code
def yX2_becomes : MethodName := ⟨RX2, "becomes", "(LVotesUntouched$Code;)V"⟩
abbrev cX2_worth : ByteArray := prog_4_method_6_code
def yX2_worth : MethodName := ⟨RX2, "worth", "([I)I"⟩
abbrev cX2_named : ByteArray := prog_4_method_7_code
def yX2_named : MethodName := ⟨RX2, "named", "([II)I"⟩
abbrev cX2_needOf : ByteArray := prog_4_method_8_code
def yX2_needOf : MethodName := ⟨RX2, "needOf", "(I)I"⟩
abbrev cX2_joined : ByteArray := prog_4_method_9_code
def yX2_joined : MethodName := ⟨RX2, "joined", "(III)I"⟩
def RX3 : String := "VotesUntouched$Council"
def TX3 : u_T := fun k => match k with
  | 0 => ("VotesUntouched$Council", "fees", "[I", true)
  | 1 => ("VotesUntouched$Council", "steps", "[I", true)
  | 2 => ("VotesUntouched$Council", "told", "[I", true)
  | 3 => ("VotesUntouched$Council", "people", "I", false)
  | 4 => ("VotesUntouched$Council", "pairs", "I", false)
  | 5 => ("VotesUntouched$Council", "matters", "I", false)
  | 6 => ("VotesUntouched$Council", "reach", "I", false)
  | _ => ("VotesUntouched$Council", "quorum", "I", false)
def tyX3 : Nat → FieldType := fun k => match k with
  | 0 => .array .int
  | 1 => .array .int
  | 2 => .array .int
  | 3 => .int
  | 4 => .int
  | 5 => .int
  | 6 => .int
  | _ => .int
abbrev wsX30 : List Cond := u_ws RX3 TX3 8
theorem nmX3 : ∀ a, a < 8 → ∀ b, b < 8 → a ≠ b → (TX3 a).2.1 ≠ (TX3 b).2.1 := by decide +kernel
theorem tyX3_ok : ∀ k, k < 8 → parseFieldDescriptor (TX3 k).2.2.1 = some (tyX3 k) := by decide +kernel
abbrev cX3_init : ByteArray := prog_5_method_1_code
def yX3_init : MethodName := ⟨RX3, "<init>", "()V"⟩
abbrev cX3_isPerson : ByteArray := prog_5_method_2_code
def yX3_isPerson : MethodName := ⟨RX3, "isPerson", "(I)Z"⟩
abbrev cX3_isMatter : ByteArray := prog_5_method_3_code
def yX3_isMatter : MethodName := ⟨RX3, "isMatter", "(I)Z"⟩
abbrev cX3_isTwo : ByteArray := prog_5_method_4_code
def yX3_isTwo : MethodName := ⟨RX3, "isTwo", "(I)Z"⟩
abbrev cX3_isBundle : ByteArray := prog_5_method_5_code
def yX3_isBundle : MethodName := ⟨RX3, "isBundle", "(I)Z"⟩
abbrev cX3_isGifts : ByteArray := prog_5_method_6_code
def yX3_isGifts : MethodName := ⟨RX3, "isGifts", "(I)Z"⟩
abbrev cX3_everybody : ByteArray := prog_5_method_7_code
def yX3_everybody : MethodName := ⟨RX3, "everybody", "()I"⟩
abbrev cX3_everything : ByteArray := prog_5_method_8_code
def yX3_everything : MethodName := ⟨RX3, "everything", "()I"⟩
abbrev cX3_addPerson : ByteArray := prog_5_method_9_code
def yX3_addPerson : MethodName := ⟨RX3, "addPerson", "(I)I"⟩
abbrev cX3_addPair : ByteArray := prog_5_method_10_code
def yX3_addPair : MethodName := ⟨RX3, "addPair", "(II)I"⟩
abbrev cX3_addMatter : ByteArray := prog_5_method_11_code
def yX3_addMatter : MethodName := ⟨RX3, "addMatter", "()I"⟩
abbrev cX3_feeOf : ByteArray := prog_5_method_12_code
def yX3_feeOf : MethodName := ⟨RX3, "feeOf", "(I)I"⟩
abbrev cX3_feesOf : ByteArray := prog_5_method_13_code
def yX3_feesOf : MethodName := ⟨RX3, "feesOf", "(I)I"⟩
abbrev cX3_stepsOf : ByteArray := prog_5_method_14_code
def yX3_stepsOf : MethodName := ⟨RX3, "stepsOf", "(II)I"⟩
abbrev cX3_slotOf : ByteArray := prog_5_method_15_code
def yX3_slotOf : MethodName := ⟨RX3, "slotOf", "(II)I"⟩
abbrev cX3_leastOf : ByteArray := prog_5_method_16_code
def yX3_leastOf : MethodName := ⟨RX3, "leastOf", "(I)I"⟩
abbrev cX3_mostOf : ByteArray := prog_5_method_17_code
def yX3_mostOf : MethodName := ⟨RX3, "mostOf", "(I)I"⟩
abbrev cX3_toldAt : ByteArray := prog_5_method_18_code
def yX3_toldAt : MethodName := ⟨RX3, "toldAt", "(I)I"⟩
abbrev cX3_tell : ByteArray := prog_5_method_19_code
def yX3_tell : MethodName := ⟨RX3, "tell", "(II)V"⟩
abbrev cX3_sumOf : ByteArray := prog_5_method_20_code
def yX3_sumOf : MethodName := ⟨RX3, "sumOf", "(III)I"⟩
abbrev cX3_rumourOf : ByteArray := prog_5_method_21_code
def yX3_rumourOf : MethodName := ⟨RX3, "rumourOf", "(I)I"⟩
def RX4 : String := "VotesUntouched$Deeds"
def TX4 : u_T := fun k => match k with
  | 0 => ("VotesUntouched$Deeds", "now", "[I", true)
  | 1 => ("VotesUntouched$Deeds", "kept", "[I", true)
  | _ => ("VotesUntouched$Deeds", "hasImage", "Z", false)
def tyX4 : Nat → FieldType := fun k => match k with
  | 0 => .array .int
  | 1 => .array .int
  | _ => .boolean
abbrev wsX40 : List Cond := u_ws RX4 TX4 3
theorem nmX4 : ∀ a, a < 3 → ∀ b, b < 3 → a ≠ b → (TX4 a).2.1 ≠ (TX4 b).2.1 := by decide +kernel
theorem tyX4_ok : ∀ k, k < 3 → parseFieldDescriptor (TX4 k).2.2.1 = some (tyX4 k) := by decide +kernel
abbrev cX4_init : ByteArray := prog_6_method_1_code
def yX4_init : MethodName := ⟨RX4, "<init>", "()V"⟩
abbrev cX4_decided : ByteArray := prog_6_method_2_code
def yX4_decided : MethodName := ⟨RX4, "decided", "()I"⟩
abbrev cX4_isAny : ByteArray := prog_6_method_3_code
def yX4_isAny : MethodName := ⟨RX4, "isAny", "()Z"⟩
abbrev cX4_told : ByteArray := prog_6_method_4_code
def yX4_told : MethodName := ⟨RX4, "told", "(I)I"⟩
abbrev cX4_enter : ByteArray := prog_6_method_5_code
def yX4_enter : MethodName := ⟨RX4, "enter", "(IIII)V"⟩
abbrev cX4_keepImage : ByteArray := prog_6_method_6_code
def yX4_keepImage : MethodName := ⟨RX4, "keepImage", "()V"⟩
abbrev cX4_goBack : ByteArray := prog_6_method_7_code
def yX4_goBack : MethodName := ⟨RX4, "goBack", "()Z"⟩
def RX5 : String := "VotesUntouched$Finder"
def TX5 : u_T := fun k => match k with
  | 0 => ("VotesUntouched$Finder", "council", "LVotesUntouched$Council;", true)
  | 1 => ("VotesUntouched$Finder", "ballot", "LVotesUntouched$Ballot;", true)
  | 2 => ("VotesUntouched$Finder", "says", "[I", true)
  | 3 => ("VotesUntouched$Finder", "most", "[I", true)
  | 4 => ("VotesUntouched$Finder", "first", "[I", true)
  | _ => ("VotesUntouched$Finder", "gains", "[I", true)
def tyX5 : Nat → FieldType := fun k => match k with
  | 0 => .object "VotesUntouched$Council"
  | 1 => .object "VotesUntouched$Ballot"
  | 2 => .array .int
  | 3 => .array .int
  | 4 => .array .int
  | _ => .array .int
abbrev wsX50 : List Cond := u_ws RX5 TX5 6
theorem nmX5 : ∀ a, a < 6 → ∀ b, b < 6 → a ≠ b → (TX5 a).2.1 ≠ (TX5 b).2.1 := by decide +kernel
theorem tyX5_ok : ∀ k, k < 6 → parseFieldDescriptor (TX5 k).2.2.1 = some (tyX5 k) := by decide +kernel
abbrev cX5_init : ByteArray := prog_7_method_1_code
def yX5_init : MethodName := ⟨RX5, "<init>", "(LVotesUntouched$Council;LVotesUntouched$Ballot;)V"⟩
abbrev cX5_smallestCarriedWith : ByteArray := prog_7_method_2_code
def yX5_smallestCarriedWith : MethodName := ⟨RX5, "smallestCarriedWith", "(I)I"⟩
abbrev cX5_isFewer : ByteArray := prog_7_method_3_code
def yX5_isFewer : MethodName := ⟨RX5, "isFewer", "(II)Z"⟩
abbrev cX5_cheapestGifts : ByteArray := prog_7_method_4_code
def yX5_cheapestGifts : MethodName := ⟨RX5, "cheapestGifts", "(I)I"⟩
abbrev cX5_isCheaper : ByteArray := prog_7_method_5_code
def yX5_isCheaper : MethodName := ⟨RX5, "isCheaper", "(II)Z"⟩
abbrev cX5_fewestLeftOut : ByteArray := prog_7_method_6_code
def yX5_fewestLeftOut : MethodName := ⟨RX5, "fewestLeftOut", "(II)I"⟩
abbrev cX5_carriedAlone : ByteArray := prog_7_method_7_code
def yX5_carriedAlone : MethodName := ⟨RX5, "carriedAlone", "()I"⟩
abbrev cX5_part : ByteArray := prog_7_method_8_code
def yX5_part : MethodName := ⟨RX5, "part", "()V"⟩
abbrev cX5_mostCarried : ByteArray := prog_7_method_9_code
def yX5_mostCarried : MethodName := ⟨RX5, "mostCarried", "()I"⟩
abbrev cX5_partOf : ByteArray := prog_7_method_10_code
def yX5_partOf : MethodName := ⟨RX5, "partOf", "(I)I"⟩
abbrev cX5_sayOf : ByteArray := prog_7_method_11_code
def yX5_sayOf : MethodName := ⟨RX5, "sayOf", "(I)I"⟩
abbrev cX5_countSays : ByteArray := prog_7_method_12_code
def yX5_countSays : MethodName := ⟨RX5, "countSays", "()V"⟩
abbrev cX5_powerOf : ByteArray := prog_7_method_13_code
def yX5_powerOf : MethodName := ⟨RX5, "powerOf", "(I)I"⟩
abbrev cX5_mostSaying : ByteArray := prog_7_method_14_code
def yX5_mostSaying : MethodName := ⟨RX5, "mostSaying", "()I"⟩
abbrev cX5_twelfthsCarried : ByteArray := prog_7_method_15_code
def yX5_twelfthsCarried : MethodName := ⟨RX5, "twelfthsCarried", "(I)I"⟩
abbrev cX5_weightOf : ByteArray := prog_7_method_16_code
def yX5_weightOf : MethodName := ⟨RX5, "weightOf", "(II)I"⟩
abbrev cX5_twelfths : ByteArray := prog_7_method_17_code
def yX5_twelfths : MethodName := ⟨RX5, "twelfths", "(I)I"⟩
abbrev cX5_commonDivisor : ByteArray := prog_7_method_18_code
def yX5_commonDivisor : MethodName := ⟨RX5, "commonDivisor", "(II)I"⟩
abbrev cX5_fewestLies : ByteArray := prog_7_method_19_code
def yX5_fewestLies : MethodName := ⟨RX5, "fewestLies", "(I)I"⟩
abbrev cX5_stepWithFewer : ByteArray := prog_7_method_20_code
def yX5_stepWithFewer : MethodName := ⟨RX5, "stepWithFewer", "(II)I"⟩
abbrev cX5_oftenCarriedByLot : ByteArray := prog_7_method_21_code
def yX5_oftenCarriedByLot : MethodName := ⟨RX5, "oftenCarriedByLot", "(IIII)I"⟩
abbrev cX5_bitAt : ByteArray := prog_7_method_22_code
def yX5_bitAt : MethodName := ⟨RX5, "bitAt", "(II)I"⟩
def RX6 : String := "VotesUntouched$Reader"
def TX6 : u_T := fun k => match k with
  | 0 => ("VotesUntouched$Reader", "tape", "[I", true)
  | 1 => ("VotesUntouched$Reader", "draft", "LVotesUntouched$Code;", true)
  | 2 => ("VotesUntouched$Reader", "length", "I", false)
  | _ => ("VotesUntouched$Reader", "place", "I", false)
def tyX6 : Nat → FieldType := fun k => match k with
  | 0 => .array .int
  | 1 => .object "VotesUntouched$Code"
  | 2 => .int
  | _ => .int
abbrev wsX60 : List Cond := u_ws RX6 TX6 4
theorem nmX6 : ∀ a, a < 4 → ∀ b, b < 4 → a ≠ b → (TX6 a).2.1 ≠ (TX6 b).2.1 := by decide +kernel
theorem tyX6_ok : ∀ k, k < 4 → parseFieldDescriptor (TX6 k).2.2.1 = some (tyX6 k) := by decide +kernel
abbrev cX6_init : ByteArray := prog_8_method_1_code
def yX6_init : MethodName := ⟨RX6, "<init>", "()V"⟩
abbrev cX6_take : ByteArray := prog_8_method_2_code
def yX6_take : MethodName := ⟨RX6, "take", "(I)I"⟩
abbrev cX6_read : ByteArray := prog_8_method_3_code
def yX6_read : MethodName := ⟨RX6, "read", "()I"⟩
abbrev cX6_readLine : ByteArray := prog_8_method_4_code
def yX6_readLine : MethodName := ⟨RX6, "readLine", "()Z"⟩
abbrev cX6_next : ByteArray := prog_8_method_5_code
def yX6_next : MethodName := ⟨RX6, "next", "()I"⟩
abbrev cX6_readChain : ByteArray := prog_8_method_6_code
def yX6_readChain : MethodName := ⟨RX6, "readChain", "(II)Z"⟩
abbrev cX6_levelOf : ByteArray := prog_8_method_7_code
def yX6_levelOf : MethodName := ⟨RX6, "levelOf", "(I)I"⟩
abbrev cX6_readOperand : ByteArray := prog_8_method_8_code
def yX6_readOperand : MethodName := ⟨RX6, "readOperand", "(I)Z"⟩
abbrev cX6_readOpened : ByteArray := prog_8_method_9_code
def yX6_readOpened : MethodName := ⟨RX6, "readOpened", "(II)Z"⟩
abbrev cX6_readNumber : ByteArray := prog_8_method_10_code
def yX6_readNumber : MethodName := ⟨RX6, "readNumber", "()V"⟩
abbrev cX6_isDigit : ByteArray := prog_8_method_11_code
def yX6_isDigit : MethodName := ⟨RX6, "isDigit", "(I)Z"⟩
abbrev cX6_nameOf : ByteArray := prog_8_method_12_code
def yX6_nameOf : MethodName := ⟨RX6, "nameOf", "(I)I"⟩
def RX7 : String := "VotesUntouched$Shelves"
def TX7 : u_T := fun k => match k with
  | 0 => ("VotesUntouched$Shelves", "holds", "[I", true)
  | 1 => ("VotesUntouched$Shelves", "sizes", "[I", true)
  | 2 => ("VotesUntouched$Shelves", "voters", "[I", true)
  | _ => ("VotesUntouched$Shelves", "elements", "[J", true)
def tyX7 : Nat → FieldType := fun k => match k with
  | 0 => .array .int
  | 1 => .array .int
  | 2 => .array .int
  | _ => .array .long
abbrev wsX70 : List Cond := u_ws RX7 TX7 4
theorem nmX7 : ∀ a, a < 4 → ∀ b, b < 4 → a ≠ b → (TX7 a).2.1 ≠ (TX7 b).2.1 := by decide +kernel
theorem tyX7_ok : ∀ k, k < 4 → parseFieldDescriptor (TX7 k).2.2.1 = some (tyX7 k) := by decide +kernel
abbrev cX7_init : ByteArray := prog_9_method_1_code
def yX7_init : MethodName := ⟨RX7, "<init>", "()V"⟩
abbrev cX7_isShelf : ByteArray := prog_9_method_2_code
def yX7_isShelf : MethodName := ⟨RX7, "isShelf", "(I)Z"⟩
abbrev cX7_isSort : ByteArray := prog_9_method_3_code
def yX7_isSort : MethodName := ⟨RX7, "isSort", "(I)Z"⟩
abbrev cX7_held : ByteArray := prog_9_method_4_code
def yX7_held : MethodName := ⟨RX7, "held", "(I)I"⟩
abbrev cX7_sizeOf : ByteArray := prog_9_method_5_code
def yX7_sizeOf : MethodName := ⟨RX7, "sizeOf", "(I)I"⟩
abbrev cX7_voterOn : ByteArray := prog_9_method_6_code
def yX7_voterOn : MethodName := ⟨RX7, "voterOn", "(I)I"⟩
abbrev cX7_holdVoter : ByteArray := prog_9_method_7_code
def yX7_holdVoter : MethodName := ⟨RX7, "holdVoter", "(II)V"⟩
abbrev cX7_holdRow : ByteArray := prog_9_method_8_code
def yX7_holdRow : MethodName := ⟨RX7, "holdRow", "(III)V"⟩
abbrev cX7_refusedAsRow : ByteArray := prog_9_method_9_code
def yX7_refusedAsRow : MethodName := ⟨RX7, "refusedAsRow", "(II)I"⟩
abbrev cX7_refusedAt : ByteArray := prog_9_method_10_code
def yX7_refusedAt : MethodName := ⟨RX7, "refusedAt", "(II)I"⟩
abbrev cX7_hasPlace : ByteArray := prog_9_method_11_code
def yX7_hasPlace : MethodName := ⟨RX7, "hasPlace", "(II)Z"⟩
abbrev cX7_hasPlaces : ByteArray := prog_9_method_12_code
def yX7_hasPlaces : MethodName := ⟨RX7, "hasPlaces", "(III)Z"⟩
abbrev cX7_valueAt : ByteArray := prog_9_method_13_code
def yX7_valueAt : MethodName := ⟨RX7, "valueAt", "(II)J"⟩
abbrev cX7_set : ByteArray := prog_9_method_14_code
def yX7_set : MethodName := ⟨RX7, "set", "(IIJ)V"⟩
abbrev cX7_lowestBits : ByteArray := prog_9_method_15_code
def yX7_lowestBits : MethodName := ⟨RX7, "lowestBits", "(IJ)J"⟩
abbrev cX7_copy : ByteArray := prog_9_method_16_code
def yX7_copy : MethodName := ⟨RX7, "copy", "(IIIII)V"⟩
def RX8 : String := "VotesUntouched$Voters"
def TX8 : u_T := fun k => match k with
  | 0 => ("VotesUntouched$Voters", "kinds", "[I", true)
  | 1 => ("VotesUntouched$Voters", "traced", "[I", true)
  | 2 => ("VotesUntouched$Voters", "size", "I", false)
  | _ => ("VotesUntouched$Voters", "ran", "I", false)
def tyX8 : Nat → FieldType := fun k => match k with
  | 0 => .array .int
  | 1 => .array .int
  | 2 => .int
  | _ => .int
abbrev wsX80 : List Cond := u_ws RX8 TX8 4
theorem nmX8 : ∀ a, a < 4 → ∀ b, b < 4 → a ≠ b → (TX8 a).2.1 ≠ (TX8 b).2.1 := by decide +kernel
theorem tyX8_ok : ∀ k, k < 4 → parseFieldDescriptor (TX8 k).2.2.1 = some (tyX8 k) := by decide +kernel
abbrev cX8_init : ByteArray := prog_10_method_1_code
def yX8_init : MethodName := ⟨RX8, "<init>", "()V"⟩
abbrev cX8_isKind : ByteArray := prog_10_method_2_code
def yX8_isKind : MethodName := ⟨RX8, "isKind", "(I)Z"⟩
abbrev cX8_isUnder : ByteArray := prog_10_method_3_code
def yX8_isUnder : MethodName := ⟨RX8, "isUnder", "(II)Z"⟩
abbrev cX8_add : ByteArray := prog_10_method_4_code
def yX8_add : MethodName := ⟨RX8, "add", "(I)I"⟩
abbrev cX8_isVoter : ByteArray := prog_10_method_5_code
def yX8_isVoter : MethodName := ⟨RX8, "isVoter", "(I)Z"⟩
abbrev cX8_size : ByteArray := prog_10_method_6_code
def yX8_size : MethodName := ⟨RX8, "size", "()I"⟩
abbrev cX8_kindOf : ByteArray := prog_10_method_7_code
def yX8_kindOf : MethodName := ⟨RX8, "kindOf", "(I)I"⟩
abbrev cX8_ranInAll : ByteArray := prog_10_method_8_code
def yX8_ranInAll : MethodName := ⟨RX8, "ranInAll", "()I"⟩
abbrev cX8_ranAt : ByteArray := prog_10_method_9_code
def yX8_ranAt : MethodName := ⟨RX8, "ranAt", "(I)I"⟩
abbrev cX8_perform : ByteArray := prog_10_method_10_code
def yX8_perform : MethodName := ⟨RX8, "perform", "(III)I"⟩
abbrev cX8_own : ByteArray := prog_10_method_11_code
def yX8_own : MethodName := ⟨RX8, "own", "(IIII)I"⟩
abbrev cX8_runFrom : ByteArray := prog_10_method_12_code
def yX8_runFrom : MethodName := ⟨RX8, "runFrom", "(IIIII)I"⟩
abbrev cX8_bodyAt : ByteArray := prog_10_method_13_code
def yX8_bodyAt : MethodName := ⟨RX8, "bodyAt", "(II)I"⟩
abbrev cX8_aboveOf : ByteArray := prog_10_method_14_code
def yX8_aboveOf : MethodName := ⟨RX8, "aboveOf", "(I)I"⟩
abbrev cX8_begin : ByteArray := prog_10_method_15_code
def yX8_begin : MethodName := ⟨RX8, "begin", "(I)V"⟩
abbrev cX8_run : ByteArray := prog_10_method_16_code
def yX8_run : MethodName := ⟨RX8, "run", "(IIIII)I"⟩
def RX9 : String := "VotesUntouched$Years"
def TX9 : u_T := fun k => match k with
  | 0 => ("VotesUntouched$Years", "council", "LVotesUntouched$Council;", true)
  | 1 => ("VotesUntouched$Years", "ballot", "LVotesUntouched$Ballot;", true)
  | _ => ("VotesUntouched$Years", "shelves", "LVotesUntouched$Shelves;", true)
def tyX9 : Nat → FieldType := fun k => match k with
  | 0 => .object "VotesUntouched$Council"
  | 1 => .object "VotesUntouched$Ballot"
  | _ => .object "VotesUntouched$Shelves"
abbrev wsX90 : List Cond := u_ws RX9 TX9 3
theorem nmX9 : ∀ a, a < 3 → ∀ b, b < 3 → a ≠ b → (TX9 a).2.1 ≠ (TX9 b).2.1 := by decide +kernel
theorem tyX9_ok : ∀ k, k < 3 → parseFieldDescriptor (TX9 k).2.2.1 = some (tyX9 k) := by decide +kernel
abbrev cX9_init : ByteArray := prog_11_method_1_code
def yX9_init : MethodName := ⟨RX9, "<init>", "(LVotesUntouched$Council;LVotesUntouched$Ballot;LVotesUntouched$Shelves;)V"⟩
abbrev cX9_firstWrong : ByteArray := prog_11_method_2_code
def yX9_firstWrong : MethodName := ⟨RX9, "firstWrong", "(I)I"⟩
abbrev cX9_mustBeSilent : ByteArray := prog_11_method_3_code
def yX9_mustBeSilent : MethodName := ⟨RX9, "mustBeSilent", "(I)I"⟩
abbrev cX9_isWhole : ByteArray := prog_11_method_4_code
def yX9_isWhole : MethodName := ⟨RX9, "isWhole", "(II)Z"⟩
abbrev cX9_bundleAt : ByteArray := prog_11_method_5_code
def yX9_bundleAt : MethodName := ⟨RX9, "bundleAt", "(II)I"⟩
abbrev cX9_silentAt : ByteArray := prog_11_method_6_code
def yX9_silentAt : MethodName := ⟨RX9, "silentAt", "(II)I"⟩
abbrev cX9_isShown : ByteArray := prog_11_method_7_code
def yX9_isShown : MethodName := ⟨RX9, "isShown", "(III)Z"⟩
abbrev cX9_isSilentFor : ByteArray := prog_11_method_8_code
def yX9_isSilentFor : MethodName := ⟨RX9, "isSilentFor", "(IIII)Z"⟩
abbrev cX9_hasVotedOn : ByteArray := prog_11_method_9_code
def yX9_hasVotedOn : MethodName := ⟨RX9, "hasVotedOn", "(IIII)Z"⟩
def RX10 : String := "VotesUntouched"
def TX10 : u_T := fun k => match k with
  | 0 => ("VotesUntouched", "council", "LVotesUntouched$Council;", true)
  | 1 => ("VotesUntouched", "changes", "LVotesUntouched$Changes;", true)
  | 2 => ("VotesUntouched", "reader", "LVotesUntouched$Reader;", true)
  | 3 => ("VotesUntouched", "text", "LVotesUntouched$Code;", true)
  | 4 => ("VotesUntouched", "ballot", "LVotesUntouched$Ballot;", true)
  | 5 => ("VotesUntouched", "finder", "LVotesUntouched$Finder;", true)
  | 6 => ("VotesUntouched", "shelves", "LVotesUntouched$Shelves;", true)
  | 7 => ("VotesUntouched", "years", "LVotesUntouched$Years;", true)
  | 8 => ("VotesUntouched", "deeds", "LVotesUntouched$Deeds;", true)
  | _ => ("VotesUntouched", "voters", "LVotesUntouched$Voters;", true)
def tyX10 : Nat → FieldType := fun k => match k with
  | 0 => .object "VotesUntouched$Council"
  | 1 => .object "VotesUntouched$Changes"
  | 2 => .object "VotesUntouched$Reader"
  | 3 => .object "VotesUntouched$Code"
  | 4 => .object "VotesUntouched$Ballot"
  | 5 => .object "VotesUntouched$Finder"
  | 6 => .object "VotesUntouched$Shelves"
  | 7 => .object "VotesUntouched$Years"
  | 8 => .object "VotesUntouched$Deeds"
  | _ => .object "VotesUntouched$Voters"
abbrev wsX100 : List Cond := u_ws RX10 TX10 10
theorem nmX10 : ∀ a, a < 10 → ∀ b, b < 10 → a ≠ b → (TX10 a).2.1 ≠ (TX10 b).2.1 := by decide +kernel
theorem tyX10_ok : ∀ k, k < 10 → parseFieldDescriptor (TX10 k).2.2.1 = some (tyX10 k) := by decide +kernel
abbrev cX10_init : ByteArray := prog_1_method_1_code
def yX10_init : MethodName := ⟨RX10, "<init>", "()V"⟩
abbrev cX10_person : ByteArray := prog_1_method_2_code
def yX10_person : MethodName := ⟨RX10, "person", "(I)I"⟩
abbrev cX10_people : ByteArray := prog_1_method_3_code
def yX10_people : MethodName := ⟨RX10, "people", "(III)I"⟩
abbrev cX10_comesFrom : ByteArray := prog_1_method_4_code
def yX10_comesFrom : MethodName := ⟨RX10, "comesFrom", "(II)Z"⟩
abbrev cX10_isFee : ByteArray := prog_1_method_5_code
def yX10_isFee : MethodName := ⟨RX10, "isFee", "(I)Z"⟩
abbrev cX10_cousins : ByteArray := prog_1_method_6_code
def yX10_cousins : MethodName := ⟨RX10, "cousins", "(I)I"⟩
abbrev cX10_matter : ByteArray := prog_1_method_7_code
def yX10_matter : MethodName := ⟨RX10, "matter", "()I"⟩
abbrev cX10_mend : ByteArray := prog_1_method_8_code
def yX10_mend : MethodName := ⟨RX10, "mend", "(III)I"⟩
abbrev cX10_rule : ByteArray := prog_1_method_9_code
def yX10_rule : MethodName := ⟨RX10, "rule", "(II)I"⟩
abbrev cX10_of : ByteArray := prog_1_method_10_code
def yX10_of : MethodName := ⟨RX10, "of", "(II)I"⟩
abbrev cX10_toldOrVoid : ByteArray := prog_1_method_11_code
def yX10_toldOrVoid : MethodName := ⟨RX10, "toldOrVoid", "(I)I"⟩
abbrev cX10_feed : ByteArray := prog_1_method_12_code
def yX10_feed : MethodName := ⟨RX10, "feed", "(I)I"⟩
abbrev cX10_law : ByteArray := prog_1_method_13_code
def yX10_law : MethodName := ⟨RX10, "law", "()I"⟩
abbrev cX10_may : ByteArray := prog_1_method_14_code
def yX10_may : MethodName := ⟨RX10, "may", "(III)I"⟩
abbrev cX10_vote : ByteArray := prog_1_method_15_code
def yX10_vote : MethodName := ⟨RX10, "vote", "(III)I"⟩
abbrev cX10_isPut : ByteArray := prog_1_method_16_code
def yX10_isPut : MethodName := ⟨RX10, "isPut", "(II)Z"⟩
abbrev cX10_together : ByteArray := prog_1_method_17_code
def yX10_together : MethodName := ⟨RX10, "together", "(I)I"⟩
abbrev cX10_silenced : ByteArray := prog_1_method_18_code
def yX10_silenced : MethodName := ⟨RX10, "silenced", "(II)I"⟩
abbrev cX10_leaveOut : ByteArray := prog_1_method_19_code
def yX10_leaveOut : MethodName := ⟨RX10, "leaveOut", "(II)I"⟩
abbrev cX10_alone : ByteArray := prog_1_method_20_code
def yX10_alone : MethodName := ⟨RX10, "alone", "()I"⟩
abbrev cX10_parted : ByteArray := prog_1_method_21_code
def yX10_parted : MethodName := ⟨RX10, "parted", "(I)I"⟩
abbrev cX10_say : ByteArray := prog_1_method_22_code
def yX10_say : MethodName := ⟨RX10, "say", "(II)I"⟩
abbrev cX10_hermit : ByteArray := prog_1_method_23_code
def yX10_hermit : MethodName := ⟨RX10, "hermit", "()I"⟩
abbrev cX10_chance : ByteArray := prog_1_method_24_code
def yX10_chance : MethodName := ⟨RX10, "chance", "(II)I"⟩
abbrev cX10_lies : ByteArray := prog_1_method_25_code
def yX10_lies : MethodName := ⟨RX10, "lies", "(I)I"⟩
abbrev cX10_step : ByteArray := prog_1_method_26_code
def yX10_step : MethodName := ⟨RX10, "step", "(II)I"⟩
abbrev cX10_lots : ByteArray := prog_1_method_27_code
def yX10_lots : MethodName := ⟨RX10, "lots", "(III)I"⟩
abbrev cX10_judge : ByteArray := prog_1_method_28_code
def yX10_judge : MethodName := ⟨RX10, "judge", "(I)I"⟩
abbrev cX10_must : ByteArray := prog_1_method_29_code
def yX10_must : MethodName := ⟨RX10, "must", "(II)I"⟩
abbrev cX10_decide : ByteArray := prog_1_method_30_code
def yX10_decide : MethodName := ⟨RX10, "decide", "(II)I"⟩
abbrev cX10_led : ByteArray := prog_1_method_31_code
def yX10_led : MethodName := ⟨RX10, "led", "(I)I"⟩
abbrev cX10_image : ByteArray := prog_1_method_32_code
def yX10_image : MethodName := ⟨RX10, "image", "()I"⟩
abbrev cX10_back : ByteArray := prog_1_method_33_code
def yX10_back : MethodName := ⟨RX10, "back", "()I"⟩
abbrev cX10_undo : ByteArray := prog_1_method_34_code
def yX10_undo : MethodName := ⟨RX10, "undo", "()I"⟩
abbrev cX10_redo : ByteArray := prog_1_method_35_code
def yX10_redo : MethodName := ⟨RX10, "redo", "()I"⟩
abbrev cX10_body : ByteArray := prog_1_method_36_code
def yX10_body : MethodName := ⟨RX10, "body", "(I)I"⟩
abbrev cX10_act : ByteArray := prog_1_method_37_code
def yX10_act : MethodName := ⟨RX10, "act", "(III)I"⟩
abbrev cX10_trace : ByteArray := prog_1_method_38_code
def yX10_trace : MethodName := ⟨RX10, "trace", "(I)I"⟩
abbrev cX10_keep : ByteArray := prog_1_method_39_code
def yX10_keep : MethodName := ⟨RX10, "keep", "(II)I"⟩
abbrev cX10_row : ByteArray := prog_1_method_40_code
def yX10_row : MethodName := ⟨RX10, "row", "(III)I"⟩
abbrev cX10_put : ByteArray := prog_1_method_41_code
def yX10_put : MethodName := ⟨RX10, "put", "(IIJ)I"⟩
abbrev cX10_element : ByteArray := prog_1_method_42_code
def yX10_element : MethodName := ⟨RX10, "element", "(II)J"⟩
abbrev cX10_shift : ByteArray := prog_1_method_43_code
def yX10_shift : MethodName := ⟨RX10, "shift", "(IIIII)I"⟩
abbrev cX10_taken : ByteArray := prog_1_method_44_code
def yX10_taken : MethodName := ⟨RX10, "taken", "(II)I"⟩
abbrev cX10_count : ByteArray := prog_1_method_45_code
def yX10_count : MethodName := ⟨RX10, "count", "(I)I"⟩
def RX11 : String := "VotesUntouchedModel"
def TX11 : u_T := fun k => match k with
  | 0 => ("VotesUntouchedModel", "may", "[I", true)
  | 1 => ("VotesUntouchedModel", "changeAt", "[I", true)
  | 2 => ("VotesUntouchedModel", "changeWas", "[I", true)
  | 3 => ("VotesUntouchedModel", "changeIs", "[I", true)
  | 4 => ("VotesUntouchedModel", "keptMany", "I", false)
  | 5 => ("VotesUntouchedModel", "done", "I", false)
  | 6 => ("VotesUntouchedModel", "people", "I", false)
  | 7 => ("VotesUntouchedModel", "matters", "I", false)
  | 8 => ("VotesUntouchedModel", "fee", "[I", true)
  | 9 => ("VotesUntouchedModel", "pairs", "I", false)
  | 10 => ("VotesUntouchedModel", "cousinsOf", "[I", true)
  | 11 => ("VotesUntouchedModel", "near", "I", false)
  | 12 => ("VotesUntouchedModel", "quorum", "I", false)
  | 13 => ("VotesUntouchedModel", "tape", "[I", true)
  | 14 => ("VotesUntouchedModel", "tapeMany", "I", false)
  | 15 => ("VotesUntouchedModel", "text", "[I", true)
  | 16 => ("VotesUntouchedModel", "textMany", "I", false)
  | 17 => ("VotesUntouchedModel", "base", "I", false)
  | 18 => ("VotesUntouchedModel", "at", "I", false)
  | 19 => ("VotesUntouchedModel", "ends", "I", false)
  | 20 => ("VotesUntouchedModel", "fault", "I", false)
  | 21 => ("VotesUntouchedModel", "opened", "I", false)
  | 22 => ("VotesUntouchedModel", "names", "[I", true)
  | 23 => ("VotesUntouchedModel", "own", "[I", true)
  | 24 => ("VotesUntouchedModel", "liked", "[I", true)
  | 25 => ("VotesUntouchedModel", "mayBits", "I", false)
  | 26 => ("VotesUntouchedModel", "carries", "[Z", true)
  | 27 => ("VotesUntouchedModel", "most", "[I", true)
  | 28 => ("VotesUntouchedModel", "firstPart", "[I", true)
  | 29 => ("VotesUntouchedModel", "ledNow", "[I", true)
  | 30 => ("VotesUntouchedModel", "imageLed", "[I", true)
  | 31 => ("VotesUntouchedModel", "isKept", "Z", false)
  | 32 => ("VotesUntouchedModel", "bodies", "I", false)
  | 33 => ("VotesUntouchedModel", "bodyKind", "[I", true)
  | 34 => ("VotesUntouchedModel", "trace", "[I", true)
  | 35 => ("VotesUntouchedModel", "ran", "I", false)
  | 36 => ("VotesUntouchedModel", "ownKind", "I", false)
  | 37 => ("VotesUntouchedModel", "ownNumber", "I", false)
  | 38 => ("VotesUntouchedModel", "shelf", "[I", true)
  | 39 => ("VotesUntouchedModel", "many", "[I", true)
  | 40 => ("VotesUntouchedModel", "items", "[J", true)
  | _ => ("VotesUntouchedModel", "carried", "[J", true)
def tyX11 : Nat → FieldType := fun k => match k with
  | 0 => .array .int
  | 1 => .array .int
  | 2 => .array .int
  | 3 => .array .int
  | 4 => .int
  | 5 => .int
  | 6 => .int
  | 7 => .int
  | 8 => .array .int
  | 9 => .int
  | 10 => .array .int
  | 11 => .int
  | 12 => .int
  | 13 => .array .int
  | 14 => .int
  | 15 => .array .int
  | 16 => .int
  | 17 => .int
  | 18 => .int
  | 19 => .int
  | 20 => .int
  | 21 => .int
  | 22 => .array .int
  | 23 => .array .int
  | 24 => .array .int
  | 25 => .int
  | 26 => .array .boolean
  | 27 => .array .int
  | 28 => .array .int
  | 29 => .array .int
  | 30 => .array .int
  | 31 => .boolean
  | 32 => .int
  | 33 => .array .int
  | 34 => .array .int
  | 35 => .int
  | 36 => .int
  | 37 => .int
  | 38 => .array .int
  | 39 => .array .int
  | 40 => .array .long
  | _ => .array .long
abbrev wsX110 : List Cond := u_ws RX11 TX11 42
theorem nmX11 : ∀ a, a < 42 → ∀ b, b < 42 → a ≠ b → (TX11 a).2.1 ≠ (TX11 b).2.1 := by decide +kernel
theorem tyX11_ok : ∀ k, k < 42 → parseFieldDescriptor (TX11 k).2.2.1 = some (tyX11 k) := by decide +kernel
abbrev cX11_within : ByteArray := prog_13_method_1_code
def yX11_within : MethodName := ⟨RX11, "within", "(JJJ)Z"⟩
abbrev cX11_bitsOf : ByteArray := prog_13_method_2_code
def yX11_bitsOf : MethodName := ⟨RX11, "bitsOf", "(I)I"⟩
abbrev cX11_isIn : ByteArray := prog_13_method_3_code
def yX11_isIn : MethodName := ⟨RX11, "isIn", "(II)Z"⟩
abbrev cX11_init : ByteArray := prog_13_method_4_code
def yX11_init : MethodName := ⟨RX11, "<init>", "()V"⟩
abbrev cX11_becomes : ByteArray := prog_13_method_5_code
def yX11_becomes : MethodName := ⟨RX11, "becomes", "(II)I"⟩
abbrev cX11_undo : ByteArray := prog_13_method_6_code
def yX11_undo : MethodName := ⟨RX11, "undo", "()I"⟩
abbrev cX11_redo : ByteArray := prog_13_method_7_code
def yX11_redo : MethodName := ⟨RX11, "redo", "()I"⟩
abbrev cX11_isPerson : ByteArray := prog_13_method_8_code
def yX11_isPerson : MethodName := ⟨RX11, "isPerson", "(I)Z"⟩
abbrev cX11_isMatter : ByteArray := prog_13_method_9_code
def yX11_isMatter : MethodName := ⟨RX11, "isMatter", "(I)Z"⟩
abbrev cX11_isPm : ByteArray := prog_13_method_10_code
def yX11_isPm : MethodName := ⟨RX11, "isPm", "(I)Z"⟩
abbrev cX11_isBundle : ByteArray := prog_13_method_11_code
def yX11_isBundle : MethodName := ⟨RX11, "isBundle", "(I)Z"⟩
abbrev cX11_areGifts : ByteArray := prog_13_method_12_code
def yX11_areGifts : MethodName := ⟨RX11, "areGifts", "(I)Z"⟩
abbrev cX11_person : ByteArray := prog_13_method_13_code
def yX11_person : MethodName := ⟨RX11, "person", "(I)I"⟩
abbrev cX11_people : ByteArray := prog_13_method_14_code
def yX11_people : MethodName := ⟨RX11, "people", "(III)I"⟩
abbrev cX11_cousins : ByteArray := prog_13_method_15_code
def yX11_cousins : MethodName := ⟨RX11, "cousins", "(I)I"⟩
abbrev cX11_matter : ByteArray := prog_13_method_16_code
def yX11_matter : MethodName := ⟨RX11, "matter", "()I"⟩
abbrev cX11_placeOf : ByteArray := prog_13_method_17_code
def yX11_placeOf : MethodName := ⟨RX11, "placeOf", "(II)I"⟩
abbrev cX11_mend : ByteArray := prog_13_method_18_code
def yX11_mend : MethodName := ⟨RX11, "mend", "(III)I"⟩
abbrev cX11_rule : ByteArray := prog_13_method_19_code
def yX11_rule : MethodName := ⟨RX11, "rule", "(II)I"⟩
abbrev cX11_stepsTo : ByteArray := prog_13_method_20_code
def yX11_stepsTo : MethodName := ⟨RX11, "stepsTo", "(II)I"⟩
abbrev cX11_of : ByteArray := prog_13_method_21_code
def yX11_of : MethodName := ⟨RX11, "of", "(II)I"⟩
abbrev cX11_feed : ByteArray := prog_13_method_22_code
def yX11_feed : MethodName := ⟨RX11, "feed", "(I)I"⟩
abbrev cX11_byteAt : ByteArray := prog_13_method_23_code
def yX11_byteAt : MethodName := ⟨RX11, "byteAt", "()I"⟩
abbrev cX11_wrong : ByteArray := prog_13_method_24_code
def yX11_wrong : MethodName := ⟨RX11, "wrong", "()I"⟩
abbrev cX11_takes : ByteArray := prog_13_method_25_code
def yX11_takes : MethodName := ⟨RX11, "takes", "(I)Z"⟩
abbrev cX11_either : ByteArray := prog_13_method_26_code
def yX11_either : MethodName := ⟨RX11, "either", "()I"⟩
abbrev cX11_both : ByteArray := prog_13_method_27_code
def yX11_both : MethodName := ⟨RX11, "both", "()I"⟩
abbrev cX11_compared : ByteArray := prog_13_method_28_code
def yX11_compared : MethodName := ⟨RX11, "compared", "()I"⟩
abbrev cX11_sums : ByteArray := prog_13_method_29_code
def yX11_sums : MethodName := ⟨RX11, "sums", "()I"⟩
abbrev cX11_product : ByteArray := prog_13_method_30_code
def yX11_product : MethodName := ⟨RX11, "product", "()I"⟩
abbrev cX11_nameOf : ByteArray := prog_13_method_31_code
def yX11_nameOf : MethodName := ⟨RX11, "nameOf", "(I)I"⟩
abbrev cX11_one : ByteArray := prog_13_method_32_code
def yX11_one : MethodName := ⟨RX11, "one", "()I"⟩
abbrev cX11_workOut : ByteArray := prog_13_method_33_code
def yX11_workOut : MethodName := ⟨RX11, "workOut", "(II)I"⟩
abbrev cX11_law : ByteArray := prog_13_method_34_code
def yX11_law : MethodName := ⟨RX11, "law", "()I"⟩
abbrev cX11_touches : ByteArray := prog_13_method_35_code
def yX11_touches : MethodName := ⟨RX11, "touches", "(III)V"⟩
abbrev cX11_nearOf : ByteArray := prog_13_method_36_code
def yX11_nearOf : MethodName := ⟨RX11, "nearOf", "(I)I"⟩
abbrev cX11_mayVote : ByteArray := prog_13_method_37_code
def yX11_mayVote : MethodName := ⟨RX11, "mayVote", "(III)Z"⟩
abbrev cX11_asks : ByteArray := prog_13_method_38_code
def yX11_asks : MethodName := ⟨RX11, "asks", "(III)V"⟩
abbrev cX11_sideOf : ByteArray := prog_13_method_39_code
def yX11_sideOf : MethodName := ⟨RX11, "sideOf", "(IZ)I"⟩
abbrev cX11_isMore : ByteArray := prog_13_method_40_code
def yX11_isMore : MethodName := ⟨RX11, "isMore", "(I)Z"⟩
abbrev cX11_isCarriedBy : ByteArray := prog_13_method_41_code
def yX11_isCarriedBy : MethodName := ⟨RX11, "isCarriedBy", "(I)Z"⟩
abbrev cX11_isCarried : ByteArray := prog_13_method_42_code
def yX11_isCarried : MethodName := ⟨RX11, "isCarried", "(II)Z"⟩
abbrev cX11_may : ByteArray := prog_13_method_43_code
def yX11_may : MethodName := ⟨RX11, "may", "(III)I"⟩
abbrev cX11_vote : ByteArray := prog_13_method_44_code
def yX11_vote : MethodName := ⟨RX11, "vote", "(III)I"⟩
abbrev cX11_together : ByteArray := prog_13_method_45_code
def yX11_together : MethodName := ⟨RX11, "together", "(I)I"⟩
abbrev cX11_feesOf : ByteArray := prog_13_method_46_code
def yX11_feesOf : MethodName := ⟨RX11, "feesOf", "(I)I"⟩
abbrev cX11_silenced : ByteArray := prog_13_method_47_code
def yX11_silenced : MethodName := ⟨RX11, "silenced", "(II)I"⟩
abbrev cX11_leaveOut : ByteArray := prog_13_method_48_code
def yX11_leaveOut : MethodName := ⟨RX11, "leaveOut", "(II)I"⟩
abbrev cX11_alone : ByteArray := prog_13_method_49_code
def yX11_alone : MethodName := ⟨RX11, "alone", "()I"⟩
abbrev cX11_parts : ByteArray := prog_13_method_50_code
def yX11_parts : MethodName := ⟨RX11, "parts", "()V"⟩
abbrev cX11_parted : ByteArray := prog_13_method_51_code
def yX11_parted : MethodName := ⟨RX11, "parted", "(I)I"⟩
abbrev cX11_sayOf : ByteArray := prog_13_method_52_code
def yX11_sayOf : MethodName := ⟨RX11, "sayOf", "(II)I"⟩
abbrev cX11_say : ByteArray := prog_13_method_53_code
def yX11_say : MethodName := ⟨RX11, "say", "(II)I"⟩
abbrev cX11_hermit : ByteArray := prog_13_method_54_code
def yX11_hermit : MethodName := ⟨RX11, "hermit", "()I"⟩
abbrev cX11_common : ByteArray := prog_13_method_55_code
def yX11_common : MethodName := ⟨RX11, "common", "(II)I"⟩
abbrev cX11_chance : ByteArray := prog_13_method_56_code
def yX11_chance : MethodName := ⟨RX11, "chance", "(II)I"⟩
abbrev cX11_lies : ByteArray := prog_13_method_57_code
def yX11_lies : MethodName := ⟨RX11, "lies", "(I)I"⟩
abbrev cX11_step : ByteArray := prog_13_method_58_code
def yX11_step : MethodName := ⟨RX11, "step", "(II)I"⟩
abbrev cX11_drawnOf : ByteArray := prog_13_method_59_code
def yX11_drawnOf : MethodName := ⟨RX11, "drawnOf", "(II)I"⟩
abbrev cX11_lots : ByteArray := prog_13_method_60_code
def yX11_lots : MethodName := ⟨RX11, "lots", "(III)I"⟩
abbrev cX11_yearIs : ByteArray := prog_13_method_61_code
def yX11_yearIs : MethodName := ⟨RX11, "yearIs", "(I)I"⟩
abbrev cX11_bundleAt : ByteArray := prog_13_method_62_code
def yX11_bundleAt : MethodName := ⟨RX11, "bundleAt", "(II)I"⟩
abbrev cX11_silentAt : ByteArray := prog_13_method_63_code
def yX11_silentAt : MethodName := ⟨RX11, "silentAt", "(II)I"⟩
abbrev cX11_judge : ByteArray := prog_13_method_64_code
def yX11_judge : MethodName := ⟨RX11, "judge", "(I)I"⟩
abbrev cX11_isVotedBeside : ByteArray := prog_13_method_65_code
def yX11_isVotedBeside : MethodName := ⟨RX11, "isVotedBeside", "(IIII)Z"⟩
abbrev cX11_must : ByteArray := prog_13_method_66_code
def yX11_must : MethodName := ⟨RX11, "must", "(II)I"⟩
abbrev cX11_decide : ByteArray := prog_13_method_67_code
def yX11_decide : MethodName := ⟨RX11, "decide", "(II)I"⟩
abbrev cX11_led : ByteArray := prog_13_method_68_code
def yX11_led : MethodName := ⟨RX11, "led", "(I)I"⟩
abbrev cX11_image : ByteArray := prog_13_method_69_code
def yX11_image : MethodName := ⟨RX11, "image", "()I"⟩
abbrev cX11_back : ByteArray := prog_13_method_70_code
def yX11_back : MethodName := ⟨RX11, "back", "()I"⟩
abbrev cX11_isBody : ByteArray := prog_13_method_71_code
def yX11_isBody : MethodName := ⟨RX11, "isBody", "(I)Z"⟩
abbrev cX11_kindOf : ByteArray := prog_13_method_72_code
def yX11_kindOf : MethodName := ⟨RX11, "kindOf", "(I)I"⟩
abbrev cX11_body : ByteArray := prog_13_method_73_code
def yX11_body : MethodName := ⟨RX11, "body", "(I)I"⟩
abbrev cX11_above : ByteArray := prog_13_method_74_code
def yX11_above : MethodName := ⟨RX11, "above", "(I)I"⟩
abbrev cX11_begins : ByteArray := prog_13_method_75_code
def yX11_begins : MethodName := ⟨RX11, "begins", "(I)V"⟩
abbrev cX11_votesAs : ByteArray := prog_13_method_76_code
def yX11_votesAs : MethodName := ⟨RX11, "votesAs", "(II)I"⟩
abbrev cX11_ownsAs : ByteArray := prog_13_method_77_code
def yX11_ownsAs : MethodName := ⟨RX11, "ownsAs", "(II)I"⟩
abbrev cX11_givesAs : ByteArray := prog_13_method_78_code
def yX11_givesAs : MethodName := ⟨RX11, "givesAs", "(II)I"⟩
abbrev cX11_tellsAs : ByteArray := prog_13_method_79_code
def yX11_tellsAs : MethodName := ⟨RX11, "tellsAs", "(II)I"⟩
abbrev cX11_act : ByteArray := prog_13_method_80_code
def yX11_act : MethodName := ⟨RX11, "act", "(III)I"⟩
abbrev cX11_trace : ByteArray := prog_13_method_81_code
def yX11_trace : MethodName := ⟨RX11, "trace", "(I)I"⟩
abbrev cX11_isShelf : ByteArray := prog_13_method_82_code
def yX11_isShelf : MethodName := ⟨RX11, "isShelf", "(I)Z"⟩
abbrev cX11_keep : ByteArray := prog_13_method_83_code
def yX11_keep : MethodName := ⟨RX11, "keep", "(II)I"⟩
abbrev cX11_row : ByteArray := prog_13_method_84_code
def yX11_row : MethodName := ⟨RX11, "row", "(III)I"⟩
abbrev cX11_refusal : ByteArray := prog_13_method_85_code
def yX11_refusal : MethodName := ⟨RX11, "refusal", "(II)I"⟩
abbrev cX11_asSort : ByteArray := prog_13_method_86_code
def yX11_asSort : MethodName := ⟨RX11, "asSort", "(IJ)J"⟩
abbrev cX11_put : ByteArray := prog_13_method_87_code
def yX11_put : MethodName := ⟨RX11, "put", "(IIJ)I"⟩
abbrev cX11_element : ByteArray := prog_13_method_88_code
def yX11_element : MethodName := ⟨RX11, "element", "(II)J"⟩
abbrev cX11_shift : ByteArray := prog_13_method_89_code
def yX11_shift : MethodName := ⟨RX11, "shift", "(IIIII)I"⟩
abbrev cX11_taken : ByteArray := prog_13_method_90_code
def yX11_taken : MethodName := ⟨RX11, "taken", "(II)I"⟩
abbrev cX11_count : ByteArray := prog_13_method_91_code
def yX11_count : MethodName := ⟨RX11, "count", "(I)I"⟩
def RJ6 : String := "java/lang/Integer"
def TJ6 : u_T := fun k => match k with
  | _ => ("", "", "", false)
def tyJ6 : Nat → FieldType := fun k => match k with
  | _ => .int
abbrev wsJ60 : List Cond := u_ws RJ6 TJ6 0
theorem nmJ6 : ∀ a, a < 0 → ∀ b, b < 0 → a ≠ b → (TJ6 a).2.1 ≠ (TJ6 b).2.1 := by decide +kernel
theorem tyJ6_ok : ∀ k, k < 0 → parseFieldDescriptor (TJ6 k).2.2.1 = some (tyJ6 k) := by decide +kernel
abbrev cJ6_bitCount_0f7a4 : ByteArray := prog_14_method_49_code
def yJ6_bitCount_0f7a4 : MethodName := ⟨RJ6, "bitCount", "(I)I"⟩
def RJ9 : String := "java/lang/Math"
def TJ9 : u_T := fun k => match k with
  | _ => ("", "", "", false)
def tyJ9 : Nat → FieldType := fun k => match k with
  | _ => .int
abbrev wsJ90 : List Cond := u_ws RJ9 TJ9 0
theorem nmJ9 : ∀ a, a < 0 → ∀ b, b < 0 → a ≠ b → (TJ9 a).2.1 ≠ (TJ9 b).2.1 := by decide +kernel
theorem tyJ9_ok : ∀ k, k < 0 → parseFieldDescriptor (TJ9 k).2.2.1 = some (tyJ9 k) := by decide +kernel
abbrev cJ9_min_7cf53 : ByteArray := prog_15_method_69_code
def yJ9_min_7cf53 : MethodName := ⟨RJ9, "min", "(II)I"⟩
def RJ10 : String := "java/lang/System"
def TJ10 : u_T := fun k => match k with
  | _ => ("", "", "", false)
def tyJ10 : Nat → FieldType := fun k => match k with
  | _ => .int
abbrev wsJ100 : List Cond := u_ws RJ10 TJ10 0
theorem nmJ10 : ∀ a, a < 0 → ∀ b, b < 0 → a ≠ b → (TJ10 a).2.1 ≠ (TJ10 b).2.1 := by decide +kernel
theorem tyJ10_ok : ∀ k, k < 0 → parseFieldDescriptor (TJ10 k).2.2.1 = some (tyJ10 k) := by decide +kernel
def RL : String := "VotesUntouchedLaw"
abbrev cL_law : ByteArray := code
def yL_law : MethodName := ⟨RL, "law", "([I)Z"⟩
end
section
/-! THE STATE OF BOTH SIDES IN NUMBERS: scalars by 100 * place + slot, int rows by place, long rows by place. -/
abbrev ZSt : Type := (Nat → Int32) × (Nat → Nat → Int32) × (Nat → Nat → Int64)
def zs (u : ZSt) (i : Nat) (v : Int32) : ZSt := (fun j => if j = i then v else u.1 j, u.2.1, u.2.2)
def za (u : ZSt) (k i : Nat) (v : Int32) : ZSt := (u.1, fun j => if j = k then upd (u.2.1 k) i v else u.2.1 j, u.2.2)
def zl (u : ZSt) (k i : Nat) (v : Int64) : ZSt := (u.1, u.2.1, fun j => if j = k then vp_updL (u.2.2 k) i v else u.2.2 j)
def zcp (u : ZSt) (k k' sp dp n : Nat) : ZSt := (u.1, fun j => if j = k' then va_cpy (u.2.1 k) (u.2.1 k') sp dp n else u.2.1 j, u.2.2)
def zcpl (u : ZSt) (k k' sp dp n : Nat) : ZSt := (u.1, u.2.1, fun j => if j = k' then va_cpy (u.2.2 k) (u.2.2 k') sp dp n else u.2.2 j)
/-- a place: an object (its class, its fields: a place, or a number), or a row (0 ints, 1 longs, 2 booleans; its length) -/
abbrev ZSE : Type := (Nat × List (Option Nat)) ⊕ (Nat × Nat)
def zsch : List ZSE := [
  .inl (10, [some 1, some 5, some 9, some 15, some 19, some 22, some 27, some 32, some 33, some 36]),
  .inl (3, [some 2, some 3, some 4, none, none, none, none, none]), .inr (0, 10), .inr (0, 100), .inr (0, 206),
  .inl (1, [some 1, some 6, some 7, some 8, none, none]), .inr (0, 40), .inr (0, 40), .inr (0, 40),
  .inl (6, [some 10, some 11, none, none]), .inr (0, 120),
  .inl (2, [some 12, some 13, some 14, none]), .inr (0, 128), .inr (0, 128), .inr (0, 128),
  .inl (2, [some 16, some 17, some 18, none]), .inr (0, 128), .inr (0, 128), .inr (0, 128),
  .inl (0, [some 1, some 15, some 20, some 21, none]), .inr (0, 10), .inr (0, 6),
  .inl (5, [some 1, some 19, some 23, some 24, some 25, some 26]), .inr (0, 10), .inr (0, 64), .inr (0, 64), .inr (0, 64),
  .inl (7, [some 28, some 29, some 30, some 31]), .inr (0, 6), .inr (0, 6), .inr (0, 6), .inr (1, 360),
  .inl (9, [some 1, some 19, some 27]),
  .inl (4, [some 34, some 35, none]), .inr (0, 6), .inr (0, 6),
  .inl (8, [some 37, some 38, none, none]), .inr (0, 50), .inr (0, 24),
  .inl (11, [some 40, some 41, some 42, some 43, none, none, none, none, some 44, none, some 45, none, none, some 46, none, some 47, none, none, none, none, none, none, some 48, some 49, some 50, none, some 51, some 52, some 53, some 54, some 55, none, none, some 56, some 57, none, none, none, some 58, some 59, some 60, some 61]),
  .inr (0, 126), .inr (0, 40), .inr (0, 40), .inr (0, 40), .inr (0, 10), .inr (0, 10), .inr (0, 120), .inr (0, 120), .inr (0, 6), .inr (0, 10), .inr (0, 10), .inr (2, 64), .inr (0, 64), .inr (0, 64), .inr (0, 5), .inr (0, 5), .inr (0, 50), .inr (0, 24), .inr (0, 6), .inr (0, 6), .inr (1, 360), .inr (1, 60)]
abbrev zcl : List vw_C := [(RX0, TX0, 5), (RX1, TX1, 6), (RX2, TX2, 4), (RX3, TX3, 8), (RX4, TX4, 3), (RX5, TX5, 6), (RX6, TX6, 4), (RX7, TX7, 4), (RX8, TX8, 4), (RX9, TX9, 3), (RX10, TX10, 10), (RX11, TX11, 42)]
def zcv (ad : Nat → Nat) : Value → Value
  | .ref k => .ref (ad k)
  | v => v
theorem zcv_cat (ad : Nat → Nat) (v : Value) : (zcv ad v).category = v.category := by cases v <;> rfl
def zfv (ad : Nat → Nat) (u : ZSt) (k j : Nat) : Option Nat → Value
  | some q => .ref (ad q)
  | none => .int (u.1 (100 * k + j))
def zE (ad : Nat → Nat) (ca : Nat → ClassId) (u : ZSt) (k : Nat) : ZSE → va_E
  | .inl o => .inr (o.1, o.2.mapIdx (fun j f => zfv ad u k j f))
  | .inr a => match a.1 with
    | 0 => .inl (ca 0, (a.2, .inl (u.2.1 k)))
    | 1 => .inl (ca 1, (a.2, .inr (.inl (u.2.2 k))))
    | _ => .inl (ca 2, (a.2, .inl (u.2.1 k)))
def zw (ad : Nat → Nat) (ca : Nat → ClassId) (u : ZSt) : va_W := zsch.mapIdx (fun k e => (ad k, zE ad ca u k e))
def ztys (ca : Nat → ClassId) : List (ClassId × FieldType) := [(ca 0, .int), (ca 1, .long), (ca 2, .boolean)]
theorem zw_at (ad : Nat → Nat) (ca : Nat → ClassId) (u : ZSt) (k : Nat) : (zw ad ca u)[k]? = (zsch[k]?).map (fun e => (ad k, zE ad ca u k e)) := by
  simp [zw, List.getElem?_mapIdx]
theorem zw_set {ad : Nat → Nat} {ca : Nat → ClassId} {u u' : ZSt} {k : Nat} {e : ZSE} {x : va_E} (hk : zsch[k]? = some e) (hx : zE ad ca u' k e = x) (ho : ∀ j e', j ≠ k → zsch[j]? = some e' → zE ad ca u' j e' = zE ad ca u j e') : (zw ad ca u).set k (ad k, x) = zw ad ca u' := by
  apply List.ext_getElem?
  intro j
  rw [zw_at]
  by_cases hj : k = j
  · subst hj
    have hl : k < (zw ad ca u).length := by
      have := (List.getElem?_eq_some_iff.mp hk).1
      simpa [zw] using this
    rw [List.getElem?_set_self hl, hk, ← hx]
    rfl
  · rw [List.getElem?_set_ne hj, zw_at]
    cases h : zsch[j]? with
    | none => rfl
    | some e' => simp only [Option.map_some]; rw [ho j e' (Ne.symm hj) h]
theorem zw_mapIdx_set {ad : Nat → Nat} {u : ZSt} {k j : Nat} {v : Int32} {fs : List (Option Nat)} (hj : fs[j]? = some none) : fs.mapIdx (fun i f => zfv ad (zs u (100 * k + j) v) k i f) = (fs.mapIdx (fun i f => zfv ad u k i f)).set j (.int v) := by
  apply List.ext_getElem?
  intro i
  rw [List.getElem?_mapIdx]
  by_cases h : j = i
  · subst h
    have hl : j < (fs.mapIdx (fun i f => zfv ad u k i f)).length := by
      have := (List.getElem?_eq_some_iff.mp hj).1
      simpa using this
    rw [List.getElem?_set_self hl, hj]
    simp [zfv, zs]
  · rw [List.getElem?_set_ne h, List.getElem?_mapIdx]
    cases fs[i]? with
    | none => rfl
    | some f =>
      cases f with
      | some q => rfl
      | none =>
        simp only [Option.map_some, zfv, zs]
        rw [if_neg (by omega)]
theorem zw_put {ad : Nat → Nat} {ca : Nat → ClassId} {u : ZSt} {k j ci : Nat} {v : Int32} {fs : List (Option Nat)} (hlen : ∀ (k' : Nat) (o : Nat × List (Option Nat)), zsch[k']? = some (.inl o) → o.2.length ≤ 100) (hk : zsch[k]? = some (.inl (ci, fs))) (hj : fs[j]? = some none) :
    (zw ad ca u).set k (ad k, .inr (ci, (fs.mapIdx (fun i f => zfv ad u k i f)).set j (.int v))) = zw ad ca (zs u (100 * k + j) v) := by
  refine zw_set hk ?_ ?_
  · show (Sum.inr (ci, fs.mapIdx _) : va_E) = _
    rw [zw_mapIdx_set hj]
  · intro k' e' hne he
    cases e' with
    | inr a => rfl
    | inl o =>
      show (Sum.inr (o.1, o.2.mapIdx _) : va_E) = Sum.inr (o.1, o.2.mapIdx _)
      congr 2
      apply List.ext_getElem?
      intro i
      rw [List.getElem?_mapIdx, List.getElem?_mapIdx]
      cases hf : o.2[i]? with
      | none => rfl
      | some f =>
        cases f with
        | some q => rfl
        | none =>
          have h1 := (List.getElem?_eq_some_iff.mp hf).1
          have h2 := hlen k' o he
          have h3 := (List.getElem?_eq_some_iff.mp hj).1
          have h4 := hlen k (ci, fs) hk
          simp only [Option.map_some, zfv, zs]
          rw [if_neg (by simp only at h4; omega)]
theorem zw_putA {ad : Nat → Nat} {ca : Nat → ClassId} {u u' : ZSt} {k : Nat} {a : Nat × Nat} {x : va_E} (hk : zsch[k]? = some (.inr a)) (hx : zE ad ca u' k (.inr a) = x) (h1 : u'.1 = u.1) (h2 : ∀ j, j ≠ k → u'.2.1 j = u.2.1 j ∧ u'.2.2 j = u.2.2 j) : (zw ad ca u).set k (ad k, x) = zw ad ca u' := by
  refine zw_set hk hx ?_
  intro j e' hne he
  cases e' with
  | inl o =>
    show (Sum.inr (o.1, o.2.mapIdx _) : va_E) = Sum.inr (o.1, o.2.mapIdx _)
    have e : (fun (i : Nat) (f : Option Nat) => zfv ad u' j i f) = (fun i f => zfv ad u j i f) := by
      funext i f
      cases f with
      | some q => rfl
      | none => simp only [zfv, h1]
    rw [e]
  | inr b =>
    obtain ⟨e1, e2⟩ := h2 j hne
    obtain ⟨t, n⟩ := b
    match t with
    | 0 => simp only [zE, e1]
    | 1 => simp only [zE, e2]
    | t + 2 => simp only [zE, e1]
theorem zsch_len : ∀ (k : Nat) (o : Nat × List (Option Nat)), zsch[k]? = some (.inl o) → o.2.length ≤ 100 := by
  have h : zsch.all (fun e => match e with | .inl o => decide (o.2.length ≤ 100) | .inr _ => true) = true := by decide +kernel
  intro k o hk
  have h1 := List.all_eq_true.mp h _ (List.mem_of_getElem? hk)
  simpa using h1
/-! the fixed things of a run: launch, class ids, addresses, array classes, the script -/
abbrev ZG : Type := Launch × va_G × (Nat → Nat) × (Nat → ClassId) × Nat × (Nat → Int32)
abbrev zgl (G : ZG) : Launch := G.1
abbrev zgD (G : ZG) : va_G := G.2.1
abbrev zga (G : ZG) : Nat → Nat := G.2.2.1
abbrev zgc (G : ZG) : Nat → ClassId := G.2.2.2.1
abbrev zgL (G : ZG) : Nat := G.2.2.2.2.1
abbrev zgx (G : ZG) : Nat → Int32 := G.2.2.2.2.2
def zBOD (i : Nat) : Int32 := ([1, 10, 11, 2, 20, 0, 0, 0, 0, 30, 0, 0, 0, 41, 40, 0, 0, 0, 50, 0, 0, 0, 0, 60, 70, 0, 0, 0, 0, 80, 0, 81] : List Int32).getD i 0
def zABV (i : Nat) : Int32 := ([-1, 0, 0, 2, 1, 3, 0, 4] : List Int32).getD i 0
def zok (w : Cond) : Bool := w.onTables && (w.keeps || match w with | .fieldLinkNest .. => true | .methodLinkNest .. => true | _ => false)
def zAW (U : State) : Prop := ∀ w ∈ lw_tbl, zok w = true → w.before #[] U = true
theorem zok_on {w : Cond} (h : zok w = true) : w.onTables = true := by
  simp only [zok, Bool.and_eq_true] at h
  exact h.1
theorem zAW.at {U : State} (h : zAW U) {w : Cond} (hw : w ∈ lw_tbl) (hk : zok w = true) {A : Array Value} : w.before A U = true := va_Nw.use (zok_on hk) (h w hw hk)
theorem zAW.warm {s U : State} (hW : s.WarmedH U.vm) (h : zAW s) : zAW U := by
  intro w hw hk
  have h1 := h w hw hk
  have h2 := zok_on hk
  by_cases h3 : w.keeps = true
  · exact word_at hW (Or.inl (by rw [h2, h3]; rfl)) h1
  · have h3 : w.keeps = false := by simpa using h3
    simp only [zok, h2, h3, Bool.true_and, Bool.false_or] at hk
    cases w <;> first | exact va_Nw.warmF hW h1 | exact va_Nw.warmM hW h1 | (exact absurd hk (by simp))
theorem zAW.same {u U : State} (hu : u.vm = U.vm) (h : zAW u) : zAW U := fun w hw hk => va_Nw.same (zok_on hk) hu (h w hw hk)
def zA (G : ZG) (sz : Nat) : Nat → Prop := fun q => (∃ k, k < zsch.length ∧ q = zga G k) ∨ sz ≤ q
def zSt (G : ZG) (A : Nat → Prop) (U : State) (H : Heap) : Prop :=
  (va_X (zga G 100) 32 zBOD U H ∧ zga G 100 < H.size ∧ ¬ A (zga G 100)) ∧ (va_X (zga G 101) 8 zABV U H ∧ zga G 101 < H.size ∧ ¬ A (zga G 101)) ∧ (va_X (zga G 102) (zgL G) (zgx G) U H ∧ zga G 102 < H.size ∧ ¬ A (zga G 102)) ∧
  va_Z RX8 "BODIES" "[I" (.ref (zga G 100)) A U H ∧ va_Z RX8 "ABOVE" "[I" (.ref (zga G 101)) A U H
theorem zSt.go {G : ZG} {A B : Nat → Prop} {s U : State} {H : Heap} {locs : List Loc} (h : zSt G A s s.heap) (hvm : s.vm.Alike U.vm) (hS : va_S A s.heap H locs) (hB : ∀ q, B q → A q) : zSt G B U H := by
  obtain ⟨⟨a1, a2, a3⟩, ⟨b1, b2, b3⟩, ⟨c1, c2, c3⟩, d1, d2⟩ := h
  have kp : ∀ q, q < s.heap.size → ¬ A q → H[q]? = s.heap[q]? := hS.2.1
  refine ⟨⟨(a1.kept (kp _ a2 a3)).moved hvm, Nat.lt_of_lt_of_le a2 hS.1, fun h => a3 (hB _ h)⟩, ⟨(b1.kept (kp _ b2 b3)).moved hvm, Nat.lt_of_lt_of_le b2 hS.1, fun h => b3 (hB _ h)⟩, ⟨(c1.kept (kp _ c2 c3)).moved hvm, Nat.lt_of_lt_of_le c2 hS.1, fun h => c3 (hB _ h)⟩, ?_, ?_⟩
  · exact ((d1.kept kp).narrow hB).moved hvm
  · exact ((d2.kept kp).narrow hB).moved hvm
theorem zw_len (ad : Nat → Nat) (ca : Nat → ClassId) (u : ZSt) : (zw ad ca u).length = zsch.length := by simp [zw]
theorem zw_addr {ad : Nat → Nat} {ca : Nat → ClassId} {u : ZSt} {k : Nat} {q : Nat × va_E} (h : (zw ad ca u)[k]? = some q) : k < zsch.length ∧ q.1 = ad k := by
  rw [zw_at] at h
  cases he : zsch[k]? with
  | none => rw [he] at h; cases h
  | some e =>
    rw [he] at h
    cases h
    exact ⟨(List.getElem?_eq_some_iff.mp he).1, rfl⟩
theorem zw_D {A : Nat → Prop} {ad : Nat → Nat} {ca : Nat → ClassId} {u u' : ZSt} (h : va_D A (zw ad ca u)) : va_D A (zw ad ca u') := by
  have key : ∀ (k : Nat) (q : Nat × va_E), (zw ad ca u')[k]? = some q → ∃ q0, (zw ad ca u)[k]? = some q0 ∧ q0.1 = q.1 := by
    intro k q hk
    obtain ⟨h1, h2⟩ := zw_addr hk
    refine ⟨(ad k, zE ad ca u k zsch[k]), ?_, h2.symm⟩
    rw [zw_at, List.getElem?_eq_getElem h1]
    rfl
  refine ⟨fun i j p q hi hj hpq => ?_, fun k q hk => ?_⟩
  · obtain ⟨p0, a1, a2⟩ := key i p hi
    obtain ⟨q0, b1, b2⟩ := key j q hj
    exact h.1 i j p0 q0 a1 b1 (a2.trans (hpq.trans b2.symm))
  · obtain ⟨q0, a1, a2⟩ := key k q hk
    rw [← a2]
    exact h.2 k q0 a1
theorem zA_in {G : ZG} {A : Nat → Prop} {u : ZSt} {H0 H : Heap} {locs : List Loc} (hD : va_D A (zw (zga G) (zgc G) u)) (hS : va_S A H0 H locs) (hA : ∀ q, H0.size ≤ q → A q) : ∀ q, zA G H.size q → A q := by
  intro q h
  rcases h with ⟨k, hk, rfl⟩ | h
  · have := hD.2 k (zga G k, zE (zga G) (zgc G) u k zsch[k]) (by rw [zw_at, List.getElem?_eq_getElem hk]; rfl)
    exact this
  · exact hA q (Nat.le_trans hS.1 h)
theorem zA_D {G : ZG} {B : Nat → Prop} {u : ZSt} {sz : Nat} (hD : va_D B (zw (zga G) (zgc G) u)) : va_D (zA G sz) (zw (zga G) (zgc G) u) := hD.weaken fun k q hk _ => by
  obtain ⟨h1, h2⟩ := zw_addr hk
  exact Or.inl ⟨k, h1, h2⟩
/-! a method: its name, code, locals, answer, its instructions (pc, instruction, length, the place of a branch's target) -/
abbrev ZI : Type := Nat × Instr × Nat × Nat
abbrev ZM : Type := MethodName × ByteArray × Nat × Option FieldType × List ZI
abbrev zy (M : ZM) : MethodName := M.1
abbrev zcc (M : ZM) : ByteArray := M.2.1
abbrev znL (M : ZM) : Nat := M.2.2.1
abbrev zrt (M : ZM) : Option FieldType := M.2.2.2.1
abbrev ztb (M : ZM) : List ZI := M.2.2.2.2
def zpc (M : ZM) (i : Nat) : Nat := (((ztb M)[i]?).map (fun e => e.1)).getD 0
def zjump : Instr → Option Int
  | .goto off => some off
  | .ifCond _ off => some off
  | .if_icmp _ off => some off
  | _ => none
def zends : Instr → Bool
  | .goto _ | .ireturn | .lreturn | .return_ | .tableswitch .. | .lookupswitch .. => true
  | _ => false
def zchk1 (M : ZM) : List ZI → Bool
  | [] => true
  | e :: r => decide (decode (zcc M) e.1 = .ok (e.2.1, e.2.2.1)) && (zends e.2.1 || (match r with | e2 :: _ => e2.1 == e.1 + e.2.2.1 | [] => false)) && (match zjump e.2.1 with | some off => decide ((e.1 : Int) + off = (zpc M e.2.2.2 : Int)) | none => true) && zchk1 M r
def zchk (M : ZM) : Bool := zchk1 M (ztb M) && (zpc M 0 == 0) && plainName (zy M).cls && (match zrt M with | none => true | some .int => true | some .boolean => true | some .long => true | _ => false)
theorem zchk1_at {M : ZM} : ∀ (l : List ZI), zchk1 M l = true → ∀ (i : Nat) (e : ZI), l[i]? = some e → decode (zcc M) e.1 = .ok (e.2.1, e.2.2.1) ∧ (zends e.2.1 = false → ∃ e2, l[i + 1]? = some e2 ∧ e2.1 = e.1 + e.2.2.1) ∧ (∀ off, zjump e.2.1 = some off → (e.1 : Int) + off = (zpc M e.2.2.2 : Int))
  | [], _, i, e, h => by simp at h
  | e0 :: r, hc, i, e, h => by
    simp only [zchk1, Bool.and_eq_true, decide_eq_true_eq, Bool.or_eq_true] at hc
    obtain ⟨⟨⟨c1, c2⟩, c3⟩, c4⟩ := hc
    cases i with
    | zero =>
      simp only [List.getElem?_cons_zero, Option.some.injEq] at h
      subst h
      refine ⟨c1, fun hz => ?_, fun off ho => ?_⟩
      · rcases c2 with c2 | c2
        · rw [hz] at c2; cases c2
        · cases r with
          | nil => cases c2
          | cons e2 r => exact ⟨e2, by simp, by simpa using c2⟩
      · rw [ho] at c3
        simpa using c3
    | succ i =>
      rw [List.getElem?_cons_succ] at h
      obtain ⟨h1, h2, h3⟩ := zchk1_at r c4 i e h
      exact ⟨h1, fun hz => by obtain ⟨e2, q1, q2⟩ := h2 hz; exact ⟨e2, by rw [List.getElem?_cons_succ]; exact q1, q2⟩, h3⟩
theorem zchk_at {M : ZM} (hc : zchk M = true) {i pc len a : Nat} {ins : Instr} (h : (ztb M)[i]? = some (pc, ins, len, a)) : decode (zcc M) pc = .ok (ins, len) ∧ zpc M i = pc ∧ (zends ins = false → zpc M (i + 1) = pc + len) ∧ (∀ off, zjump ins = some off → (pc : Int) + off = (zpc M a : Int)) := by
  simp only [zchk, Bool.and_eq_true] at hc
  obtain ⟨h1, h2, h3⟩ := zchk1_at (ztb M) hc.1.1.1 i _ h
  refine ⟨h1, by simp [zpc, h], fun hz => ?_, h3⟩
  obtain ⟨e2, q1, q2⟩ := h2 hz
  simp [zpc, q1, q2]
end
section
/-! THE JUDGEMENT: from instruction i, with the locals lv, the stack st and the numbers u (references are places), the method ends with tgt: its answer, the numbers then. -/
def zretAt (M : ZM) (pc : Nat) : Value → Prop
  | .int r => decode (zcc M) pc = .ok (.ireturn, 1) ∧ (zrt M = some .int ∨ (zrt M = some .boolean ∧ (r = 0 ∨ r = 1)))
  | .long _ => decode (zcc M) pc = .ok (.lreturn, 1) ∧ zrt M = some .long
  | .null => decode (zcc M) pc = .ok (.return_, 1) ∧ zrt M = none
  | _ => False
def zrst : Value → List Value
  | .null => []
  | v => [v]
abbrev zwg (G : ZG) (u : ZSt) : va_W := zw (zga G) (zgc G) u
def zCx (G : ZG) (M : ZM) (d : Nat) (tgt : Value × ZSt) (p : Program) (e : Env) (R : Room) (s : State) (m : MethodId) (args : Array Value) (below : List Frame) (meth : Method) (c : Code) (A : Nat → Prop) (cells slots : Nat) (Qf : State → Prop) : Prop :=
  p.tables.exec = Jvm.exec ∧ c.code = zcc M ∧ c.maxLocals = znL M ∧ s.vm.findClass (zy M).cls = some m.cls ∧ zAW s ∧ va_K (zgD G) zcl (ztys (zgc G)) s ∧ zSt G A s s.heap ∧ (∀ q, s.heap.size ≤ q → A q) ∧ (d ≤ R.frames ∧ 64 * d ≤ R.locals ∧ cells ≤ R.cells ∧ slots ≤ R.slots) ∧
  ∀ (pc : Nat) (H : Heap) (locs : List Loc) (ls : Array Slot), zretAt M pc tgt.1 → va_P (zgD G) zcl (zwg G tgt.2) H → va_D A (zwg G tgt.2) → va_S A s.heap H locs → W p (zgl G) e R s m args below meth c H locs cells slots Qf (F0 m pc ls (zrst tgt.1))
def zlv (G : ZG) (lv : List (Nat × Value)) : List (Nat × Value) := lv.map (fun q => (q.1, zcv (zga G) q.2))
abbrev zst (G : ZG) (st : List Value) : List Value := st.map (zcv (zga G))
def ZW (G : ZG) (M : ZM) (d : Nat) (tgt : Value × ZSt) (i : Nat) (lv : List (Nat × Value)) (st : List Value) (u : ZSt) : Prop :=
  zchk M = true → ∀ (p : Program) (e : Env) (R : Room) (s : State) (m : MethodId) (args : Array Value) (below : List Frame) (meth : Method) (c : Code) (A : Nat → Prop) (cells slots : Nat) (Qf : State → Prop), zCx G M d tgt p e R s m args below meth c A cells slots Qf →
    ∀ (H : Heap) (locs : List Loc) (ls : Array Slot), va_P (zgD G) zcl (zwg G u) H → va_D A (zwg G u) → va_S A s.heap H locs → lv_has ls (znL M) (zlv G lv) → W p (zgl G) e R s m args below meth c H locs cells slots Qf (F0 m (zpc M i) ls (zst G st))
/-- the same, where the end is told by a tree: t, and what is made of its leaves -/
def ZGo (G : ZG) (M : ZM) (d : Nat) {β : Type} (t : Option β) (K : β → Option (Value × ZSt)) (i : Nat) (lv : List (Nat × Value)) (st : List Value) (u : ZSt) : Prop :=
  ∀ tgt, t.bind K = some tgt → ZW G M d tgt i lv st u
def zlk (lv : List (Nat × Value)) (k : Nat) : Option Value := (lv.find? (fun q => q.1 == k)).map (fun q => q.2)
def zset (lv : List (Nat × Value)) (k : Nat) (v : Value) : List (Nat × Value) := lv.map (fun q => if q.1 = k then (k, v) else q) ++ (if lv.any (fun q => q.1 == k) then [] else [(k, v)])
def zfree (lv : List (Nat × Value)) (k : Nat) : Bool := lv.all (fun q => !(q.1 + 1 == k && q.2.category == 2))
theorem zlk_mem {lv : List (Nat × Value)} {k : Nat} {v : Value} (h : zlk lv k = some v) : (k, v) ∈ lv := by
  unfold zlk at h
  cases hf : lv.find? (fun q => q.1 == k) with
  | none => rw [hf] at h; cases h
  | some q =>
    rw [hf] at h
    have h1 := List.mem_of_find?_eq_some hf
    have h2 := List.find?_some hf
    have h3 : q.1 = k := by simpa using h2
    have h4 : q.2 = v := by simpa using h
    rw [← h3, ← h4]
    exact h1
theorem zlk_has {G : ZG} {lv : List (Nat × Value)} {ls : Array Slot} {n k : Nat} {v : Value} (hl : lv_has ls n (zlv G lv)) (h : zlk lv k = some v) : ls[k]? = some (.val (zcv (zga G) v)) :=
  hl.2.2 (k, zcv (zga G) v) (List.mem_map.mpr ⟨(k, v), zlk_mem h, rfl⟩)
theorem zset_has {G : ZG} {lv lv' : List (Nat × Value)} {ls : Array Slot} {n k : Nat} {v : Value} (hs : zset lv k v = lv') (hf : zfree lv k = true)
    (hl : lv_has ls n ((k, zcv (zga G) v) :: (zlv G lv).filter (fun q => !(q.1 == k) && !(q.1 + 1 == k && q.2.category == 2)))) : lv_has ls n (zlv G lv') := by
  subst hs
  refine ⟨hl.1, hl.2.1, fun q hq => ?_⟩
  obtain ⟨q0, hq0, rfl⟩ := List.mem_map.mp hq
  refine hl.2.2 _ ?_
  unfold zset at hq0
  rcases List.mem_append.mp hq0 with h | h
  · obtain ⟨q1, h1, rfl⟩ := List.mem_map.mp h
    by_cases hk : q1.1 = k
    · rw [if_pos hk]
      exact List.mem_cons_self
    · rw [if_neg hk]
      refine List.mem_cons_of_mem _ (List.mem_filter.mpr ⟨List.mem_map.mpr ⟨q1, h1, rfl⟩, ?_⟩)
      have h2 := List.all_eq_true.mp hf q1 h1
      simp only [zcv_cat]
      rw [h2]
      simp [hk]
  · split at h
    · cases h
    · have h5 : q0 = (k, v) := by simpa using h
      subst h5
      exact List.mem_cons_self
theorem zsub_has {G : ZG} {lv lv' : List (Nat × Value)} {ls : Array Slot} {n : Nat} (hs : ∀ q ∈ lv', q ∈ lv) (hl : lv_has ls n (zlv G lv)) : lv_has ls n (zlv G lv') :=
  ⟨hl.1, hl.2.1, fun q hq => by
    obtain ⟨q0, h1, rfl⟩ := List.mem_map.mp hq
    exact hl.2.2 _ (List.mem_map.mpr ⟨q0, hs q0 h1, rfl⟩)⟩
theorem zE_int {ad : Nat → Nat} {ca : Nat → ClassId} {u : ZSt} {k n : Nat} : zE ad ca u k (.inr (0, n)) = .inl (ca 0, (n, .inl (u.2.1 k))) := rfl
theorem zw_int {ad : Nat → Nat} {ca : Nat → ClassId} {u : ZSt} {k n : Nat} (h : zsch[k]? = some (.inr (0, n))) : (zw ad ca u)[k]? = some (ad k, .inl (ca 0, (n, .inl (u.2.1 k)))) := by rw [zw_at, h]; rfl
theorem zw_long {ad : Nat → Nat} {ca : Nat → ClassId} {u : ZSt} {k n : Nat} (h : zsch[k]? = some (.inr (1, n))) : (zw ad ca u)[k]? = some (ad k, .inl (ca 1, (n, .inr (.inl (u.2.2 k))))) := by rw [zw_at, h]; rfl
theorem zw_bool {ad : Nat → Nat} {ca : Nat → ClassId} {u : ZSt} {k n : Nat} (h : zsch[k]? = some (.inr (2, n))) : (zw ad ca u)[k]? = some (ad k, .inl (ca 2, (n, .inl (u.2.1 k)))) := by rw [zw_at, h]; rfl
theorem zw_obj {ad : Nat → Nat} {ca : Nat → ClassId} {u : ZSt} {k ci : Nat} {fs : List (Option Nat)} (h : zsch[k]? = some (.inl (ci, fs))) : (zw ad ca u)[k]? = some (ad k, .inr (ci, fs.mapIdx (fun j f => zfv ad u k j f))) := by rw [zw_at, h]; rfl
abbrev zin (i : Int32) (n : Nat) : Prop := ¬ (i < 0 ∨ n ≤ i.toNatClampNeg)
abbrev zushr (x y : Int32) : Int32 := (x.toUInt32 >>> (y.toUInt32 &&& Int32.toUInt32 31)).toInt32
abbrev zrem (x y : Int32) : Int32 := x - x / y * y
/-- the words of the fields: which fields a class' links name -/
def zcls (ci : Nat) : String × u_T × Nat := (zcl[ci]?).getD ("", TX0, 0)
theorem zcl_in : ∀ ci, ci < 12 → ∀ w ∈ u_ws (zcls ci).1 (zcls ci).2.1 (zcls ci).2.2, w ∈ lw_tbl ∧ zok w = true := by
  have h : (List.range 12).all (fun ci => (u_ws (zcls ci).1 (zcls ci).2.1 (zcls ci).2.2).all (fun w => decide (w ∈ lw_tbl) && zok w)) = true := by decide +kernel
  intro ci hci w hw
  have h1 := List.all_eq_true.mp (List.all_eq_true.mp h ci (List.mem_range.mpr hci)) w hw
  simpa using h1
def zty (ci k : Nat) : FieldType := (parseFieldDescriptor ((zcls ci).2.1 k).2.2.1).getD .int
theorem zcl_ty : ∀ ci, ci < 12 → ∀ k, k < (zcls ci).2.2 → parseFieldDescriptor ((zcls ci).2.1 k).2.2.1 = some (zty ci k) := by decide +kernel
theorem zcl_nm : ∀ ci, ci < 12 → ∀ a, a < (zcls ci).2.2 → ∀ b, b < (zcls ci).2.2 → a ≠ b → ((zcls ci).2.1 a).2.1 ≠ ((zcls ci).2.1 b).2.1 := by decide +kernel
theorem zcl_at : ∀ ci, ci < 12 → zcl[ci]? = some (zcls ci) := by
  intro ci h
  have : ∃ x, zcl[ci]? = some x := ⟨zcl[ci], List.getElem?_eq_getElem h⟩
  obtain ⟨x, hx⟩ := this
  simp only [zcls, hx, Option.getD_some]
theorem zAW.cls {s : State} (h : zAW s) {ci : Nat} (hci : ci < 12) {args : Array Value} : ∀ w ∈ u_ws (zcls ci).1 (zcls ci).2.1 (zcls ci).2.2, w.before args s = true := fun w hw => h.at (zcl_in ci hci w hw).1 (zcl_in ci hci w hw).2
/-- the link at 'idx' of the class 'own' names field k of the class ci -/
def zFL (own : String) (idx ci k : Nat) : Prop := ci < 12 ∧ k < (zcls ci).2.2 ∧ ((zcls ci).2.1 k).1 = (zcls ci).1 ∧ ((Cond.fieldLink own idx (zcls ci).1 ((zcls ci).2.1 k).2.1 ((zcls ci).2.1 k).2.2.1 ∈ lw_tbl) ∨ ∃ host, Cond.fieldLinkNest own idx (zcls ci).1 ((zcls ci).2.1 k).2.1 ((zcls ci).2.1 k).2.2.1 host ∈ lw_tbl)
section ZROWS
variable {G : ZG} {M : ZM} {d i pc len a : Nat} {tgt : Value × ZSt} {lv lv' : List (Nat × Value)} {st st' rest : List Value} {u : ZSt} {ins : Instr} {β : Type} {t tA tB : Option β} {K : β → Option (Value × ZSt)}
theorem z_bs {α : Type} (x : Option α) : x.bind some = x := by cases x <;> rfl
theorem zgo_op (ht : (ztb M)[i]? = some (pc, ins, len, a)) (hz : zends ins = false)
    (hrow : ∀ (p : Program) (e : Env) (R : Room) (s : State) (m : MethodId) (args : Array Value) (below : List Frame) (meth : Method) (c : Code) (H : Heap) (locs : List Loc) (cells slots : Nat) (Qf : State → Prop) (ls : Array Slot), p.tables.exec = Jvm.exec → c.code = zcc M → s.vm.findClass (zy M).cls = some m.cls → zAW s → decode (zcc M) pc = .ok (ins, len) → lv_has ls (znL M) (zlv G lv) → W p (zgl G) e R s m args below meth c H locs cells slots Qf (F0 m (pc + len) ls (zst G st')) → W p (zgl G) e R s m args below meth c H locs cells slots Qf (F0 m pc ls (zst G st)))
    (h : ZGo G M d t K (i + 1) lv st' u) : ZGo G M d t K i lv st u := by
  intro tgt htg hc p e R s m args below meth c A cells slots Qf cx H locs ls hP hD hS hl
  obtain ⟨h1, h2, h3, h4⟩ := zchk_at hc ht
  rw [h2]
  refine hrow p e R s m args below meth c H locs cells slots Qf ls cx.1 cx.2.1 cx.2.2.2.1 cx.2.2.2.2.1 h1 hl ?_
  have := h tgt htg hc p e R s m args below meth c A cells slots Qf cx H locs ls hP hD hS hl
  rw [h3 hz] at this
  exact this
theorem zgo_sub (hs : ∀ q ∈ lv', q ∈ lv) (h : ZGo G M d t K i lv' st u) : ZGo G M d t K i lv st u := by
  intro tgt htg hc p e R s m args below meth c A cells slots Qf cx H locs ls hP hD hS hl
  exact h tgt htg hc p e R s m args below meth c A cells slots Qf cx H locs ls hP hD hS (zsub_has hs hl)
theorem zgo_leaf {x : β} (h : ZGo G M d (K x) some i lv st u) : ZGo G M d (some x) K i lv st u := by
  intro tgt htg
  exact h tgt ((z_bs (K x)).trans htg)
theorem zgo_unleaf (h : ZGo G M d t K i lv st u) : ZGo G M d (t.bind K) some i lv st u := by
  intro tgt htg
  rw [z_bs] at htg
  exact h tgt htg
theorem zgo_none : ZGo G M d (none : Option β) K i lv st u := by
  intro tgt htg
  cases htg
theorem g_aload_n {k : Fin 4} {x : Nat} (ht : (ztb M)[i]? = some (pc, .aload_n k, 1, a)) (hv : zlk lv k.val = some (.ref x)) (h : ZGo G M d t K (i + 1) lv (.ref x :: st) u) : ZGo G M d t K i lv (st) u :=
  zgo_op (st := st) (st' := .ref x :: st) ht rfl (fun p e R s m args below meth c H locs cells slots Qf ls hx hb hown hAW hd hl k => lv_aload_n hx hb hd rfl (zlk_has hl hv) k) h
theorem g_iload_n {k : Fin 4} {x : Int32} (ht : (ztb M)[i]? = some (pc, .iload_n k, 1, a)) (hv : zlk lv k.val = some (.int x)) (h : ZGo G M d t K (i + 1) lv (.int x :: st) u) : ZGo G M d t K i lv (st) u :=
  zgo_op (st := st) (st' := .int x :: st) ht rfl (fun p e R s m args below meth c H locs cells slots Qf ls hx hb hown hAW hd hl k => lv_iload_n hx hb hd rfl (zlk_has hl hv) k) h
theorem g_iload {k : Nat} {x : Int32} (ht : (ztb M)[i]? = some (pc, .iload k, 2, a)) (hv : zlk lv k = some (.int x)) (h : ZGo G M d t K (i + 1) lv (.int x :: st) u) : ZGo G M d t K i lv (st) u :=
  zgo_op (st := st) (st' := .int x :: st) ht rfl (fun p e R s m args below meth c H locs cells slots Qf ls hx hb hown hAW hd hl k => lv_iload hx hb hd (zlk_has hl hv) k) h
theorem g_lload_n {k : Fin 4} {x : Int64} (ht : (ztb M)[i]? = some (pc, .lload_n k, 1, a)) (hv : zlk lv k.val = some (.long x)) (h : ZGo G M d t K (i + 1) lv (.long x :: st) u) : ZGo G M d t K i lv (st) u :=
  zgo_op (st := st) (st' := .long x :: st) ht rfl (fun p e R s m args below meth c H locs cells slots Qf ls hx hb hown hAW hd hl k => lv_lload_n hx hb hd rfl (zlk_has hl hv) k) h
theorem g_lload {k : Nat} {x : Int64} (ht : (ztb M)[i]? = some (pc, .lload k, 2, a)) (hv : zlk lv k = some (.long x)) (h : ZGo G M d t K (i + 1) lv (.long x :: st) u) : ZGo G M d t K i lv (st) u :=
  zgo_op (st := st) (st' := .long x :: st) ht rfl (fun p e R s m args below meth c H locs cells slots Qf ls hx hb hown hAW hd hl k => lv_lload hx hb hd (zlk_has hl hv) k) h
theorem g_iconst {n : Int} {v : Int32} (ht : (ztb M)[i]? = some (pc, .iconst n, 1, a)) (hv : Int32.ofInt n = v) (h : ZGo G M d t K (i + 1) lv (.int v :: st) u) : ZGo G M d t K i lv (st) u :=
  zgo_op (st := st) (st' := .int v :: st) ht rfl (fun p e R s m args below meth c H locs cells slots Qf ls hx hb hown hAW hd hl k => lv_iconst hx hb hd hv k) h
theorem g_bipush {n : Int} {v : Int32} (ht : (ztb M)[i]? = some (pc, .bipush n, 2, a)) (hv : (Int8.ofInt n).toInt32 = v) (h : ZGo G M d t K (i + 1) lv (.int v :: st) u) : ZGo G M d t K i lv (st) u :=
  zgo_op (st := st) (st' := .int v :: st) ht rfl (fun p e R s m args below meth c H locs cells slots Qf ls hx hb hown hAW hd hl k => lv_bipush hx hb hd hv k) h
theorem g_sipush {n : Int} {v : Int32} (ht : (ztb M)[i]? = some (pc, .sipush n, 3, a)) (hv : (Int16.ofInt n).toInt32 = v) (h : ZGo G M d t K (i + 1) lv (.int v :: st) u) : ZGo G M d t K i lv (st) u :=
  zgo_op (st := st) (st' := .int v :: st) ht rfl (fun p e R s m args below meth c H locs cells slots Qf ls hx hb hown hAW hd hl k => lv_sipush hx hb hd hv k) h
theorem g_lconst {n : Fin 2} {v : Int64} (ht : (ztb M)[i]? = some (pc, .lconst n, 1, a)) (hv : Int64.ofNat (n : Nat) = v) (h : ZGo G M d t K (i + 1) lv (.long v :: st) u) : ZGo G M d t K i lv (st) u :=
  zgo_op (st := st) (st' := .long v :: st) ht rfl (fun p e R s m args below meth c H locs cells slots Qf ls hx hb hown hAW hd hl k => lv_lconst hx hb hd hv k) h
theorem g_ldc {idx : Nat} {v : Int32} (ht : (ztb M)[i]? = some (pc, .ldc idx, 2, a)) (hv : Cond.constant (zy M).cls idx v ∈ lw_tbl) (h : ZGo G M d t K (i + 1) lv (.int v :: st) u) : ZGo G M d t K i lv (st) u :=
  zgo_op (st := st) (st' := .int v :: st) ht rfl (fun p e R s m args below meth c H locs cells slots Qf ls hx hb hown hAW hd hl k => lv_ldc hx hb hown (hAW.at hv rfl) hd k) h
theorem g_ldc_w {idx : Nat} {v : Int32} (ht : (ztb M)[i]? = some (pc, .ldc_w idx, 3, a)) (hv : Cond.constant (zy M).cls idx v ∈ lw_tbl) (h : ZGo G M d t K (i + 1) lv (.int v :: st) u) : ZGo G M d t K i lv (st) u :=
  zgo_op (st := st) (st' := .int v :: st) ht rfl (fun p e R s m args below meth c H locs cells slots Qf ls hx hb hown hAW hd hl k => lv_ldcw hx hb hown (hAW.at hv rfl) hd k) h
theorem g_ldc2 {idx : Nat} {v : Int64} (ht : (ztb M)[i]? = some (pc, .ldc2_w idx, 3, a)) (hv : Cond.constantLong (zy M).cls idx v ∈ lw_tbl) (h : ZGo G M d t K (i + 1) lv (.long v :: st) u) : ZGo G M d t K i lv (st) u :=
  zgo_op (st := st) (st' := .long v :: st) ht rfl (fun p e R s m args below meth c H locs cells slots Qf ls hx hb hown hAW hd hl k => lv_ldc2 hx hb hown (hAW.at hv rfl) hd k) h
theorem g_iadd {x y : Int32} (ht : (ztb M)[i]? = some (pc, .iadd, 1, a)) (h : ZGo G M d t K (i + 1) lv (.int (x + y) :: st) u) : ZGo G M d t K i lv (.int y :: .int x :: st) u :=
  zgo_op (st := .int y :: .int x :: st) (st' := .int (x + y) :: st) ht rfl (fun p e R s m args below meth c H locs cells slots Qf ls hx hb hown hAW hd hl k => lv_iadd hx hb hd k) h
theorem g_isub {x y : Int32} (ht : (ztb M)[i]? = some (pc, .isub, 1, a)) (h : ZGo G M d t K (i + 1) lv (.int (x - y) :: st) u) : ZGo G M d t K i lv (.int y :: .int x :: st) u :=
  zgo_op (st := .int y :: .int x :: st) (st' := .int (x - y) :: st) ht rfl (fun p e R s m args below meth c H locs cells slots Qf ls hx hb hown hAW hd hl k => lv_isub hx hb hd k) h
theorem g_imul {x y : Int32} (ht : (ztb M)[i]? = some (pc, .imul, 1, a)) (h : ZGo G M d t K (i + 1) lv (.int (x * y) :: st) u) : ZGo G M d t K i lv (.int y :: .int x :: st) u :=
  zgo_op (st := .int y :: .int x :: st) (st' := .int (x * y) :: st) ht rfl (fun p e R s m args below meth c H locs cells slots Qf ls hx hb hown hAW hd hl k => lv_imul hx hb hd k) h
theorem g_iand {x y : Int32} (ht : (ztb M)[i]? = some (pc, .iand, 1, a)) (h : ZGo G M d t K (i + 1) lv (.int (x &&& y) :: st) u) : ZGo G M d t K i lv (.int y :: .int x :: st) u :=
  zgo_op (st := .int y :: .int x :: st) (st' := .int (x &&& y) :: st) ht rfl (fun p e R s m args below meth c H locs cells slots Qf ls hx hb hown hAW hd hl k => lv_iand hx hb hd k) h
theorem g_ior {x y : Int32} (ht : (ztb M)[i]? = some (pc, .ior, 1, a)) (h : ZGo G M d t K (i + 1) lv (.int (x ||| y) :: st) u) : ZGo G M d t K i lv (.int y :: .int x :: st) u :=
  zgo_op (st := .int y :: .int x :: st) (st' := .int (x ||| y) :: st) ht rfl (fun p e R s m args below meth c H locs cells slots Qf ls hx hb hown hAW hd hl k => lv_ior hx hb hd k) h
theorem g_ixor {x y : Int32} (ht : (ztb M)[i]? = some (pc, .ixor, 1, a)) (h : ZGo G M d t K (i + 1) lv (.int (x ^^^ y) :: st) u) : ZGo G M d t K i lv (.int y :: .int x :: st) u :=
  zgo_op (st := .int y :: .int x :: st) (st' := .int (x ^^^ y) :: st) ht rfl (fun p e R s m args below meth c H locs cells slots Qf ls hx hb hown hAW hd hl k => lv_ixor hx hb hd k) h
theorem g_ishl {x y : Int32} (ht : (ztb M)[i]? = some (pc, .ishl, 1, a)) (h : ZGo G M d t K (i + 1) lv (.int (x <<< (y &&& 31)) :: st) u) : ZGo G M d t K i lv (.int y :: .int x :: st) u :=
  zgo_op (st := .int y :: .int x :: st) (st' := .int (x <<< (y &&& 31)) :: st) ht rfl (fun p e R s m args below meth c H locs cells slots Qf ls hx hb hown hAW hd hl k => lv_ishl hx hb hd k) h
theorem g_ishr {x y : Int32} (ht : (ztb M)[i]? = some (pc, .ishr, 1, a)) (h : ZGo G M d t K (i + 1) lv (.int (x >>> (y &&& 31)) :: st) u) : ZGo G M d t K i lv (.int y :: .int x :: st) u :=
  zgo_op (st := .int y :: .int x :: st) (st' := .int (x >>> (y &&& 31)) :: st) ht rfl (fun p e R s m args below meth c H locs cells slots Qf ls hx hb hown hAW hd hl k => lv_ishr hx hb hd k) h
theorem g_iushr {x y : Int32} (ht : (ztb M)[i]? = some (pc, .iushr, 1, a)) (h : ZGo G M d t K (i + 1) lv (.int (zushr x y) :: st) u) : ZGo G M d t K i lv (.int y :: .int x :: st) u :=
  zgo_op (st := .int y :: .int x :: st) (st' := .int (zushr x y) :: st) ht rfl (fun p e R s m args below meth c H locs cells slots Qf ls hx hb hown hAW hd hl k => lv_iushr hx hb hd rfl k) h
theorem g_idiv {x y : Int32} (ht : (ztb M)[i]? = some (pc, .idiv, 1, a)) (hne : ¬ y = 0) (h : ZGo G M d t K (i + 1) lv (.int (x / y) :: st) u) : ZGo G M d t K i lv (.int y :: .int x :: st) u :=
  zgo_op (st := .int y :: .int x :: st) (st' := .int (x / y) :: st) ht rfl (fun p e R s m args below meth c H locs cells slots Qf ls hx hb hown hAW hd hl k => lv_idiv hx hb hd hne k) h
theorem g_irem {x y : Int32} (ht : (ztb M)[i]? = some (pc, .irem, 1, a)) (hne : ¬ y = 0) (h : ZGo G M d t K (i + 1) lv (.int (zrem x y) :: st) u) : ZGo G M d t K i lv (.int y :: .int x :: st) u :=
  zgo_op (st := .int y :: .int x :: st) (st' := .int (zrem x y) :: st) ht rfl (fun p e R s m args below meth c H locs cells slots Qf ls hx hb hown hAW hd hl k => lv_irem hx hb hd hne k) h
theorem g_ineg {x : Int32} (ht : (ztb M)[i]? = some (pc, .ineg, 1, a)) (h : ZGo G M d t K (i + 1) lv (.int (-x) :: st) u) : ZGo G M d t K i lv (.int x :: st) u :=
  zgo_op (st := .int x :: st) (st' := .int (-x) :: st) ht rfl (fun p e R s m args below meth c H locs cells slots Qf ls hx hb hown hAW hd hl k => lv_ineg hx hb hd k) h
theorem g_i2l {x : Int32} (ht : (ztb M)[i]? = some (pc, .i2l, 1, a)) (h : ZGo G M d t K (i + 1) lv (.long x.toInt64 :: st) u) : ZGo G M d t K i lv (.int x :: st) u :=
  zgo_op (st := .int x :: st) (st' := .long x.toInt64 :: st) ht rfl (fun p e R s m args below meth c H locs cells slots Qf ls hx hb hown hAW hd hl k => lv_i2l hx hb hd rfl k) h
theorem g_l2i {x : Int64} (ht : (ztb M)[i]? = some (pc, .l2i, 1, a)) (h : ZGo G M d t K (i + 1) lv (.int x.toInt32 :: st) u) : ZGo G M d t K i lv (.long x :: st) u :=
  zgo_op (st := .long x :: st) (st' := .int x.toInt32 :: st) ht rfl (fun p e R s m args below meth c H locs cells slots Qf ls hx hb hown hAW hd hl k => lv_l2i hx hb hd rfl k) h
theorem g_i2b {x : Int32} (ht : (ztb M)[i]? = some (pc, .i2b, 1, a)) (h : ZGo G M d t K (i + 1) lv (.int x.toInt8.toInt32 :: st) u) : ZGo G M d t K i lv (.int x :: st) u :=
  zgo_op (st := .int x :: st) (st' := .int x.toInt8.toInt32 :: st) ht rfl (fun p e R s m args below meth c H locs cells slots Qf ls hx hb hown hAW hd hl k => lv_i2b hx hb hd rfl k) h
theorem g_i2s {x : Int32} (ht : (ztb M)[i]? = some (pc, .i2s, 1, a)) (h : ZGo G M d t K (i + 1) lv (.int x.toInt16.toInt32 :: st) u) : ZGo G M d t K i lv (.int x :: st) u :=
  zgo_op (st := .int x :: st) (st' := .int x.toInt16.toInt32 :: st) ht rfl (fun p e R s m args below meth c H locs cells slots Qf ls hx hb hown hAW hd hl k => lv_i2s hx hb hd rfl k) h
theorem g_land {x y : Int64} (ht : (ztb M)[i]? = some (pc, .land, 1, a)) (h : ZGo G M d t K (i + 1) lv (.long (x &&& y) :: st) u) : ZGo G M d t K i lv (.long y :: .long x :: st) u :=
  zgo_op (st := .long y :: .long x :: st) (st' := .long (x &&& y) :: st) ht rfl (fun p e R s m args below meth c H locs cells slots Qf ls hx hb hown hAW hd hl k => lv_land hx hb hd k) h
theorem g_lor {x y : Int64} (ht : (ztb M)[i]? = some (pc, .lor, 1, a)) (h : ZGo G M d t K (i + 1) lv (.long (x ||| y) :: st) u) : ZGo G M d t K i lv (.long y :: .long x :: st) u :=
  zgo_op (st := .long y :: .long x :: st) (st' := .long (x ||| y) :: st) ht rfl (fun p e R s m args below meth c H locs cells slots Qf ls hx hb hown hAW hd hl k => lv_lor hx hb hd k) h
theorem g_lshl {x : Int64} {y : Int32} (ht : (ztb M)[i]? = some (pc, .lshl, 1, a)) (h : ZGo G M d t K (i + 1) lv (.long (x <<< (y.toInt64 &&& 63)) :: st) u) : ZGo G M d t K i lv (.int y :: .long x :: st) u :=
  zgo_op (st := .int y :: .long x :: st) (st' := .long (x <<< (y.toInt64 &&& 63)) :: st) ht rfl (fun p e R s m args below meth c H locs cells slots Qf ls hx hb hown hAW hd hl k => lv_lshl hx hb hd rfl k) h
theorem g_dup {v : Value} (ht : (ztb M)[i]? = some (pc, .dup, 1, a)) (hv : v.category = 1) (h : ZGo G M d t K (i + 1) lv (v :: v :: st) u) : ZGo G M d t K i lv (v :: st) u :=
  zgo_op (st := v :: st) (st' := v :: v :: st) ht rfl (fun p e R s m args below meth c H locs cells slots Qf ls hx hb hown hAW hd hl k => lv_dup hx hb hd (by rw [zcv_cat]; exact hv) k) h
theorem g_dup2 {v w : Value} (ht : (ztb M)[i]? = some (pc, .dup2, 1, a)) (hv : v.category = 1) (hw : w.category = 1) (h : ZGo G M d t K (i + 1) lv (v :: w :: v :: w :: st) u) : ZGo G M d t K i lv (v :: w :: st) u :=
  zgo_op (st := v :: w :: st) (st' := v :: w :: v :: w :: st) ht rfl (fun p e R s m args below meth c H locs cells slots Qf ls hx hb hown hAW hd hl k => lv_dup2_11 hx hb hd (by rw [zcv_cat]; exact hv) (by rw [zcv_cat]; exact hw) k) h

theorem g_istore_n {k : Fin 4} {x : Int32} (ht : (ztb M)[i]? = some (pc, .istore_n k, 1, a)) (hn : k.val < znL M) (hf : zfree lv k.val = true) (hl' : zset lv k.val (.int x) = lv') (h : ZGo G M d t K (i + 1) lv' st u) : ZGo G M d t K i lv (.int x :: st) u := by
  intro tgt htg hc p e R s m args below meth c A cells slots Qf cx H locs ls hP hD hS hl
  obtain ⟨h1, h2, h3, h4⟩ := zchk_at hc ht
  rw [h2]
  refine lv_istore_n cx.1 cx.2.1 h1 rfl hl hn rfl (fun ls' hl2 => ?_)
  have := h tgt htg hc p e R s m args below meth c A cells slots Qf cx H locs ls' hP hD hS (zset_has hl' hf hl2)
  rw [h3 rfl] at this
  exact this
theorem g_istore {k : Nat} {x : Int32} (ht : (ztb M)[i]? = some (pc, .istore k, 2, a)) (hn : k < znL M) (hf : zfree lv k = true) (hl' : zset lv k (.int x) = lv') (h : ZGo G M d t K (i + 1) lv' st u) : ZGo G M d t K i lv (.int x :: st) u := by
  intro tgt htg hc p e R s m args below meth c A cells slots Qf cx H locs ls hP hD hS hl
  obtain ⟨h1, h2, h3, h4⟩ := zchk_at hc ht
  rw [h2]
  refine lv_istore cx.1 cx.2.1 h1 hl hn rfl (fun ls' hl2 => ?_)
  have := h tgt htg hc p e R s m args below meth c A cells slots Qf cx H locs ls' hP hD hS (zset_has hl' hf hl2)
  rw [h3 rfl] at this
  exact this
theorem g_iinc {k : Nat} {n : Int} {x v : Int32} (ht : (ztb M)[i]? = some (pc, .iinc k n, 3, a)) (hk : zlk lv k = some (.int x)) (hv : Int32.ofInt n = v) (hn : k < znL M) (hf : zfree lv k = true) (hl' : zset lv k (.int (x + v)) = lv') (h : ZGo G M d t K (i + 1) lv' st u) : ZGo G M d t K i lv st u := by
  intro tgt htg hc p e R s m args below meth c A cells slots Qf cx H locs ls hP hD hS hl
  obtain ⟨h1, h2, h3, h4⟩ := zchk_at hc ht
  rw [h2]
  subst hv
  have hm : (k, Value.int x) ∈ zlv G lv := List.mem_map.mpr ⟨(k, .int x), zlk_mem hk, rfl⟩
  obtain ⟨j, hj⟩ := List.getElem?_of_mem hm
  refine lv_iinc cx.1 cx.2.1 h1 hl hj rfl hn rfl (fun ls' hl2 => ?_)
  have := h tgt htg hc p e R s m args below meth c A cells slots Qf cx H locs ls' hP hD hS (zset_has (G := G) (v := .int (x + Int32.ofInt n)) hl' hf hl2)
  rw [h3 rfl] at this
  exact this
theorem zgo_pc (htg0 : True) (h : ZGo G M d t K i lv st u) : ZGo G M d t K i lv st u := h
theorem g_goto {off : Int} (ht : (ztb M)[i]? = some (pc, .goto off, 3, a)) (h : ZGo G M d t K a lv st u) : ZGo G M d t K i lv st u := by
  intro tgt htg hc p e R s m args below meth c A cells slots Qf cx H locs ls hP hD hS hl
  obtain ⟨h1, h2, h3, h4⟩ := zchk_at hc ht
  rw [h2]
  exact lv_goto cx.1 cx.2.1 h1 (h4 off rfl) (h tgt htg hc p e R s m args below meth c A cells slots Qf cx H locs ls hP hD hS hl)
theorem g_ifeq {x : Int32} {off : Int} (ht : (ztb M)[i]? = some (pc, .ifCond .eq off, 3, a)) (hT : x = 0 → ZGo G M d tA K a lv st u) (hF : ¬ x = 0 → ZGo G M d tB K (i + 1) lv st u) : ZGo G M d (if x = 0 then tA else tB) K i lv (.int x :: st) u := by
  intro tgt htg hc p e R s m args below meth c A cells slots Qf cx H locs ls hP hD hS hl
  obtain ⟨h1, h2, h3, h4⟩ := zchk_at hc ht
  rw [h2]
  refine lv_if_eq cx.1 cx.2.1 h1 (h4 off rfl) (fun hq => ?_) (fun hq => ?_)
  · rw [if_pos hq] at htg
    exact hT hq tgt htg hc p e R s m args below meth c A cells slots Qf cx H locs ls hP hD hS hl
  · rw [if_neg hq] at htg
    have := hF hq tgt htg hc p e R s m args below meth c A cells slots Qf cx H locs ls hP hD hS hl
    rw [h3 rfl] at this
    exact this
theorem g_ifne {x : Int32} {off : Int} (ht : (ztb M)[i]? = some (pc, .ifCond .ne off, 3, a)) (hT : ¬ x = 0 → ZGo G M d tB K a lv st u) (hF : x = 0 → ZGo G M d tA K (i + 1) lv st u) : ZGo G M d (if x = 0 then tA else tB) K i lv (.int x :: st) u := by
  intro tgt htg hc p e R s m args below meth c A cells slots Qf cx H locs ls hP hD hS hl
  obtain ⟨h1, h2, h3, h4⟩ := zchk_at hc ht
  rw [h2]
  refine lv_if_ne cx.1 cx.2.1 h1 (h4 off rfl) (fun hq => ?_) (fun hq => ?_)
  · rw [if_neg hq] at htg
    exact hT hq tgt htg hc p e R s m args below meth c A cells slots Qf cx H locs ls hP hD hS hl
  · rw [if_pos hq] at htg
    have := hF hq tgt htg hc p e R s m args below meth c A cells slots Qf cx H locs ls hP hD hS hl
    rw [h3 rfl] at this
    exact this
theorem g_iflt {x : Int32} {off : Int} (ht : (ztb M)[i]? = some (pc, .ifCond .lt off, 3, a)) (hT : x < 0 → ZGo G M d tA K a lv st u) (hF : ¬ x < 0 → ZGo G M d tB K (i + 1) lv st u) : ZGo G M d (if x < 0 then tA else tB) K i lv (.int x :: st) u := by
  intro tgt htg hc p e R s m args below meth c A cells slots Qf cx H locs ls hP hD hS hl
  obtain ⟨h1, h2, h3, h4⟩ := zchk_at hc ht
  rw [h2]
  refine lv_if_lt cx.1 cx.2.1 h1 (h4 off rfl) (fun hq => ?_) (fun hq => ?_)
  · rw [if_pos hq] at htg
    exact hT hq tgt htg hc p e R s m args below meth c A cells slots Qf cx H locs ls hP hD hS hl
  · rw [if_neg hq] at htg
    have := hF hq tgt htg hc p e R s m args below meth c A cells slots Qf cx H locs ls hP hD hS hl
    rw [h3 rfl] at this
    exact this
theorem g_ifge {x : Int32} {off : Int} (ht : (ztb M)[i]? = some (pc, .ifCond .ge off, 3, a)) (hT : 0 ≤ x → ZGo G M d tA K a lv st u) (hF : ¬ 0 ≤ x → ZGo G M d tB K (i + 1) lv st u) : ZGo G M d (if 0 ≤ x then tA else tB) K i lv (.int x :: st) u := by
  intro tgt htg hc p e R s m args below meth c A cells slots Qf cx H locs ls hP hD hS hl
  obtain ⟨h1, h2, h3, h4⟩ := zchk_at hc ht
  rw [h2]
  refine lv_if_ge cx.1 cx.2.1 h1 (h4 off rfl) (fun hq => ?_) (fun hq => ?_)
  · rw [if_pos hq] at htg
    exact hT hq tgt htg hc p e R s m args below meth c A cells slots Qf cx H locs ls hP hD hS hl
  · rw [if_neg hq] at htg
    have := hF hq tgt htg hc p e R s m args below meth c A cells slots Qf cx H locs ls hP hD hS hl
    rw [h3 rfl] at this
    exact this
theorem g_ifgt {x : Int32} {off : Int} (ht : (ztb M)[i]? = some (pc, .ifCond .gt off, 3, a)) (hT : 0 < x → ZGo G M d tA K a lv st u) (hF : ¬ 0 < x → ZGo G M d tB K (i + 1) lv st u) : ZGo G M d (if 0 < x then tA else tB) K i lv (.int x :: st) u := by
  intro tgt htg hc p e R s m args below meth c A cells slots Qf cx H locs ls hP hD hS hl
  obtain ⟨h1, h2, h3, h4⟩ := zchk_at hc ht
  rw [h2]
  refine lv_if_gt cx.1 cx.2.1 h1 (h4 off rfl) (fun hq => ?_) (fun hq => ?_)
  · rw [if_pos hq] at htg
    exact hT hq tgt htg hc p e R s m args below meth c A cells slots Qf cx H locs ls hP hD hS hl
  · rw [if_neg hq] at htg
    have := hF hq tgt htg hc p e R s m args below meth c A cells slots Qf cx H locs ls hP hD hS hl
    rw [h3 rfl] at this
    exact this
theorem g_ifle {x : Int32} {off : Int} (ht : (ztb M)[i]? = some (pc, .ifCond .le off, 3, a)) (hT : x ≤ 0 → ZGo G M d tA K a lv st u) (hF : ¬ x ≤ 0 → ZGo G M d tB K (i + 1) lv st u) : ZGo G M d (if x ≤ 0 then tA else tB) K i lv (.int x :: st) u := by
  intro tgt htg hc p e R s m args below meth c A cells slots Qf cx H locs ls hP hD hS hl
  obtain ⟨h1, h2, h3, h4⟩ := zchk_at hc ht
  rw [h2]
  refine lv_if_le cx.1 cx.2.1 h1 (h4 off rfl) (fun hq => ?_) (fun hq => ?_)
  · rw [if_pos hq] at htg
    exact hT hq tgt htg hc p e R s m args below meth c A cells slots Qf cx H locs ls hP hD hS hl
  · rw [if_neg hq] at htg
    have := hF hq tgt htg hc p e R s m args below meth c A cells slots Qf cx H locs ls hP hD hS hl
    rw [h3 rfl] at this
    exact this
theorem g_icmpeq {x y : Int32} {off : Int} (ht : (ztb M)[i]? = some (pc, .if_icmp .eq off, 3, a)) (hT : x = y → ZGo G M d tA K a lv st u) (hF : ¬ x = y → ZGo G M d tB K (i + 1) lv st u) : ZGo G M d (if x = y then tA else tB) K i lv (.int y :: .int x :: st) u := by
  intro tgt htg hc p e R s m args below meth c A cells slots Qf cx H locs ls hP hD hS hl
  obtain ⟨h1, h2, h3, h4⟩ := zchk_at hc ht
  rw [h2]
  refine lv_icmp_eq cx.1 cx.2.1 h1 (h4 off rfl) (fun hq => ?_) (fun hq => ?_)
  · rw [if_pos hq] at htg
    exact hT hq tgt htg hc p e R s m args below meth c A cells slots Qf cx H locs ls hP hD hS hl
  · rw [if_neg hq] at htg
    have := hF hq tgt htg hc p e R s m args below meth c A cells slots Qf cx H locs ls hP hD hS hl
    rw [h3 rfl] at this
    exact this
theorem g_icmpne {x y : Int32} {off : Int} (ht : (ztb M)[i]? = some (pc, .if_icmp .ne off, 3, a)) (hT : ¬ x = y → ZGo G M d tB K a lv st u) (hF : x = y → ZGo G M d tA K (i + 1) lv st u) : ZGo G M d (if x = y then tA else tB) K i lv (.int y :: .int x :: st) u := by
  intro tgt htg hc p e R s m args below meth c A cells slots Qf cx H locs ls hP hD hS hl
  obtain ⟨h1, h2, h3, h4⟩ := zchk_at hc ht
  rw [h2]
  refine lv_icmp_ne cx.1 cx.2.1 h1 (h4 off rfl) (fun hq => ?_) (fun hq => ?_)
  · rw [if_neg hq] at htg
    exact hT hq tgt htg hc p e R s m args below meth c A cells slots Qf cx H locs ls hP hD hS hl
  · rw [if_pos hq] at htg
    have := hF hq tgt htg hc p e R s m args below meth c A cells slots Qf cx H locs ls hP hD hS hl
    rw [h3 rfl] at this
    exact this
theorem g_icmplt {x y : Int32} {off : Int} (ht : (ztb M)[i]? = some (pc, .if_icmp .lt off, 3, a)) (hT : x < y → ZGo G M d tA K a lv st u) (hF : ¬ x < y → ZGo G M d tB K (i + 1) lv st u) : ZGo G M d (if x < y then tA else tB) K i lv (.int y :: .int x :: st) u := by
  intro tgt htg hc p e R s m args below meth c A cells slots Qf cx H locs ls hP hD hS hl
  obtain ⟨h1, h2, h3, h4⟩ := zchk_at hc ht
  rw [h2]
  refine lv_icmp_lt cx.1 cx.2.1 h1 (h4 off rfl) (fun hq => ?_) (fun hq => ?_)
  · rw [if_pos hq] at htg
    exact hT hq tgt htg hc p e R s m args below meth c A cells slots Qf cx H locs ls hP hD hS hl
  · rw [if_neg hq] at htg
    have := hF hq tgt htg hc p e R s m args below meth c A cells slots Qf cx H locs ls hP hD hS hl
    rw [h3 rfl] at this
    exact this
theorem g_icmpge {x y : Int32} {off : Int} (ht : (ztb M)[i]? = some (pc, .if_icmp .ge off, 3, a)) (hT : y ≤ x → ZGo G M d tA K a lv st u) (hF : ¬ y ≤ x → ZGo G M d tB K (i + 1) lv st u) : ZGo G M d (if y ≤ x then tA else tB) K i lv (.int y :: .int x :: st) u := by
  intro tgt htg hc p e R s m args below meth c A cells slots Qf cx H locs ls hP hD hS hl
  obtain ⟨h1, h2, h3, h4⟩ := zchk_at hc ht
  rw [h2]
  refine lv_icmp_ge cx.1 cx.2.1 h1 (h4 off rfl) (fun hq => ?_) (fun hq => ?_)
  · rw [if_pos hq] at htg
    exact hT hq tgt htg hc p e R s m args below meth c A cells slots Qf cx H locs ls hP hD hS hl
  · rw [if_neg hq] at htg
    have := hF hq tgt htg hc p e R s m args below meth c A cells slots Qf cx H locs ls hP hD hS hl
    rw [h3 rfl] at this
    exact this
theorem g_icmpgt {x y : Int32} {off : Int} (ht : (ztb M)[i]? = some (pc, .if_icmp .gt off, 3, a)) (hT : y < x → ZGo G M d tA K a lv st u) (hF : ¬ y < x → ZGo G M d tB K (i + 1) lv st u) : ZGo G M d (if y < x then tA else tB) K i lv (.int y :: .int x :: st) u := by
  intro tgt htg hc p e R s m args below meth c A cells slots Qf cx H locs ls hP hD hS hl
  obtain ⟨h1, h2, h3, h4⟩ := zchk_at hc ht
  rw [h2]
  refine lv_icmp_gt cx.1 cx.2.1 h1 (h4 off rfl) (fun hq => ?_) (fun hq => ?_)
  · rw [if_pos hq] at htg
    exact hT hq tgt htg hc p e R s m args below meth c A cells slots Qf cx H locs ls hP hD hS hl
  · rw [if_neg hq] at htg
    have := hF hq tgt htg hc p e R s m args below meth c A cells slots Qf cx H locs ls hP hD hS hl
    rw [h3 rfl] at this
    exact this
theorem g_icmple {x y : Int32} {off : Int} (ht : (ztb M)[i]? = some (pc, .if_icmp .le off, 3, a)) (hT : x ≤ y → ZGo G M d tA K a lv st u) (hF : ¬ x ≤ y → ZGo G M d tB K (i + 1) lv st u) : ZGo G M d (if x ≤ y then tA else tB) K i lv (.int y :: .int x :: st) u := by
  intro tgt htg hc p e R s m args below meth c A cells slots Qf cx H locs ls hP hD hS hl
  obtain ⟨h1, h2, h3, h4⟩ := zchk_at hc ht
  rw [h2]
  refine lv_icmp_le cx.1 cx.2.1 h1 (h4 off rfl) (fun hq => ?_) (fun hq => ?_)
  · rw [if_pos hq] at htg
    exact hT hq tgt htg hc p e R s m args below meth c A cells slots Qf cx H locs ls hP hD hS hl
  · rw [if_neg hq] at htg
    have := hF hq tgt htg hc p e R s m args below meth c A cells slots Qf cx H locs ls hP hD hS hl
    rw [h3 rfl] at this
    exact this
theorem g_tswIn {dflt lo hi : Int} {offs : Array Int} {x v : Int32} {off : Int} (ht : (ztb M)[i]? = some (pc, .tableswitch dflt lo hi offs, len, a)) (hv : x = v) (h1 : ¬ v.toInt < lo) (h2 : ¬ hi < v.toInt) (ho : offs[(v.toInt - lo).toNat]? = some off) (b : Nat) (hb : (pc : Int) + off = (zpc M b : Int)) (h : ZGo G M d t K b lv st u) : ZGo G M d t K i lv (.int x :: st) u := by
  intro tgt htg hc p e R s m args below meth c A cells slots Qf cx H locs ls hP hD hS hl
  obtain ⟨g1, g2, g3, g4⟩ := zchk_at hc ht
  rw [g2]
  subst hv
  exact lv_tableIn cx.1 cx.2.1 g1 h1 h2 ho hb (h tgt htg hc p e R s m args below meth c A cells slots Qf cx H locs ls hP hD hS hl)
theorem g_tswOut {dflt lo hi : Int} {offs : Array Int} {x : Int32} (ht : (ztb M)[i]? = some (pc, .tableswitch dflt lo hi offs, len, a)) (hx : x.toInt < lo ∨ hi < x.toInt) (b : Nat) (hb : (pc : Int) + dflt = (zpc M b : Int)) (h : ZGo G M d t K b lv st u) : ZGo G M d t K i lv (.int x :: st) u := by
  intro tgt htg hc p e R s m args below meth c A cells slots Qf cx H locs ls hP hD hS hl
  obtain ⟨g1, g2, g3, g4⟩ := zchk_at hc ht
  rw [g2]
  exact lv_tableOut cx.1 cx.2.1 g1 hx hb (h tgt htg hc p e R s m args below meth c A cells slots Qf cx H locs ls hP hD hS hl)
theorem g_lsw {dflt : Int} {ps : Array (Int × Int)} {x : Int32} {off : Int} (ht : (ztb M)[i]? = some (pc, .lookupswitch dflt ps, len, a)) (hp : (ps.toList.zip (ps.toList.drop 1)).all (fun (a, next) => a.1 < next.1) = true) (ho : Op.lookupswitch.offset ps.toList dflt x.toInt = off) (b : Nat) (hb : (pc : Int) + off = (zpc M b : Int)) (h : ZGo G M d t K b lv st u) : ZGo G M d t K i lv (.int x :: st) u := by
  intro tgt htg hc p e R s m args below meth c A cells slots Qf cx H locs ls hP hD hS hl
  obtain ⟨g1, g2, g3, g4⟩ := zchk_at hc ht
  rw [g2]
  exact lv_lookup cx.1 cx.2.1 g1 hp ho hb (h tgt htg hc p e R s m args below meth c A cells slots Qf cx H locs ls hP hD hS hl)
theorem g_lcmp {x y : Int64} (ht : (ztb M)[i]? = some (pc, .lcmp, 1, a)) (h : ZGo G M d t K (i + 1) lv (.int (lg_cmp x y) :: st) u) : ZGo G M d t K i lv (.long y :: .long x :: st) u := by
  refine zgo_op (st := .long y :: .long x :: st) (st' := .int (lg_cmp x y) :: st) ht rfl (fun p e R s m args below meth c H locs cells slots Qf ls hx hb hown hAW hd hl k => ?_) h
  exact W.lcmp hx hb hd k
/-! fields and rows -/
def zfa (u : ZSt) (o k : Nat) : Option Nat → Value
  | some q => .ref q
  | none => .int (u.1 (100 * o + k))
theorem g_get {o ci k idx : Nat} {fs : List (Option Nat)} {f : Option Nat} (ht : (ztb M)[i]? = some (pc, .getfield idx, 3, a)) (hw : zFL (zy M).cls idx ci k) (ho : zsch[o]? = some (.inl (ci, fs))) (hf : fs[k]? = some f) (h : ZGo G M d t K (i + 1) lv (zfa u o k f :: st) u) : ZGo G M d t K i lv (.ref o :: st) u := by
  intro tgt htg hc p e R s m args below meth c A cells slots Qf cx H locs ls hP hD hS hl
  obtain ⟨g1, g2, g3, g4⟩ := zchk_at hc ht
  rw [g2]
  obtain ⟨c1, c2, c3, c4, c5, c6, c7, c8, c9, c10⟩ := id cx
  obtain ⟨w1, w2, w3, w4⟩ := hw
  have hv : (fs.mapIdx (fun j f => zfv (zga G) u o j f))[k]? = some (zcv (zga G) (zfa u o k f)) := by
    rw [List.getElem?_mapIdx, hf]
    cases f <;> rfl
  have kk := h tgt htg hc p e R s m args below meth c A cells slots Qf cx H locs ls hP hD hS hl
  rw [g3 rfl] at kk
  rcases w4 with w4 | ⟨host, w4⟩
  · exact va_get (D := zgD G) (ws := zwg G u) (ci := ci) (C := (zcls ci).1) (T := (zcls ci).2.1) (N := (zcls ci).2.2) c1 c2 (c5.cls w1) (fun _ h => h) c4 c6 hP o (zw_obj ho) (zcl_at ci w1) k w2 (c5.at w4 rfl) (fun x h => by rw [w3] at h; exact h) hv g1 kk
  · exact va_getN (D := zgD G) (ws := zwg G u) (ci := ci) (C := (zcls ci).1) (T := (zcls ci).2.1) (N := (zcls ci).2.2) c1 c2 (c5.cls w1) (fun _ h => h) c4 c6 hP o (zw_obj ho) (zcl_at ci w1) k w2 (c5.at w4 rfl) (fun x h => by rw [w3] at h; exact h) hv g1 kk
theorem g_getR {o ci k idx q : Nat} {fs : List (Option Nat)} (ht : (ztb M)[i]? = some (pc, .getfield idx, 3, a)) (hw : zFL (zy M).cls idx ci k) (ho : zsch[o]? = some (.inl (ci, fs))) (hf : fs[k]? = some (some q)) (h : ZGo G M d t K (i + 1) lv (.ref q :: st) u) : ZGo G M d t K i lv (.ref o :: st) u := g_get ht hw ho hf h
theorem g_getI {o ci k idx j : Nat} {fs : List (Option Nat)} (ht : (ztb M)[i]? = some (pc, .getfield idx, 3, a)) (hw : zFL (zy M).cls idx ci k) (ho : zsch[o]? = some (.inl (ci, fs))) (hf : fs[k]? = some none) (hj : 100 * o + k = j) (h : ZGo G M d t K (i + 1) lv (.int (u.1 j) :: st) u) : ZGo G M d t K i lv (.ref o :: st) u := by
  subst hj
  exact g_get ht hw ho hf h
theorem g_put {o ci k idx : Nat} {fs : List (Option Nat)} {x : Int32} (ht : (ztb M)[i]? = some (pc, .putfield idx, 3, a)) (hw : zFL (zy M).cls idx ci k) (ho : zsch[o]? = some (.inl (ci, fs))) (hf : fs[k]? = some none) (hfin : ((zcls ci).2.1 k).2.2.2 = false) (hty : zty ci k = .int ∨ (zty ci k = .boolean ∧ (x = 0 ∨ x = 1))) {j : Nat} (hj : 100 * o + k = j) (h : ZGo G M d t K (i + 1) lv st (zs u j x)) : ZGo G M d t K i lv (.int x :: .ref o :: st) u := by
  subst hj
  intro tgt htg hc p e R s m args below meth c A cells slots Qf cx H locs ls hP hD hS hl
  obtain ⟨g1, g2, g3, g4⟩ := zchk_at hc ht
  rw [g2]
  obtain ⟨c1, c2, c3, c4, c5, c6, c7, c8, c9, c10⟩ := id cx
  obtain ⟨w1, w2, w3, w4⟩ := hw
  have hl2 : k < (fs.mapIdx (fun j f => zfv (zga G) u o j f)).length := by
    have := (List.getElem?_eq_some_iff.mp hf).1
    simpa using this
  have hd := zcl_ty ci w1 k w2
  have hnar : narrow (zty ci k) (.int x) = .int x ∧ fits (zty ci k) (.int x) = true := by
    rcases hty with hty | ⟨hty, rfl | rfl⟩ <;> rw [hty] <;> exact ⟨rfl, rfl⟩
  have kk : ∀ (H1 : Heap) (locs1 : List Loc), va_P (zgD G) zcl ((zwg G u).set o (zga G o, .inr (ci, (fs.mapIdx (fun j f => zfv (zga G) u o j f)).set k (.int x)))) H1 → va_D A ((zwg G u).set o (zga G o, .inr (ci, (fs.mapIdx (fun j f => zfv (zga G) u o j f)).set k (.int x)))) → va_S A s.heap H1 locs1 → W p (zgl G) e R s m args below meth c H1 locs1 cells slots Qf (F0 m (pc + 3) ls (zst G st)) := by
    intro H1 locs1 hP1 hD1 hS1
    rw [zwg, zw_put zsch_len ho hf] at hP1 hD1
    have kk := h tgt htg hc p e R s m args below meth c A cells slots Qf cx H1 locs1 ls hP1 hD1 hS1 hl
    rw [g3 rfl] at kk
    exact kk
  rcases w4 with w4 | ⟨host, w4⟩
  · exact va_put (D := zgD G) (ws := zwg G u) (ci := ci) (C := (zcls ci).1) (T := (zcls ci).2.1) (N := (zcls ci).2.2) c1 c2 (c5.cls w1) (fun _ h => h) (zty ci) (zcl_ty ci w1) (zcl_nm ci w1) c4 c6 hP hD hS o (zw_obj ho) (zcl_at ci w1) k w2 (c5.at w4 rfl) (fun x h => by rw [w3] at h; exact h) hfin hd hnar.1 hnar.2 hl2 g1 kk
  · exact va_putN (D := zgD G) (ws := zwg G u) (ci := ci) (C := (zcls ci).1) (T := (zcls ci).2.1) (N := (zcls ci).2.2) c1 c2 (c5.cls w1) (fun _ h => h) (zty ci) (zcl_ty ci w1) (zcl_nm ci w1) c4 c6 hP hD hS o (zw_obj ho) (zcl_at ci w1) k w2 (c5.at w4 rfl) (fun x h => by rw [w3] at h; exact h) hfin hd hnar.1 hnar.2 hl2 g1 kk
theorem g_iald {k n : Nat} {x : Int32} (ht : (ztb M)[i]? = some (pc, .iaload, 1, a)) (hk : zsch[k]? = some (.inr (0, n))) (h : zin x n → ZGo G M d t K (i + 1) lv (.int (u.2.1 k x.toNatClampNeg) :: st) u) : ZGo G M d (if zin x n then t else none) K i lv (.int x :: .ref k :: st) u := by
  intro tgt htg hc p e R s m args below meth c A cells slots Qf cx H locs ls hP hD hS hl
  by_cases hq : zin x n
  · rw [if_pos hq] at htg
    obtain ⟨g1, g2, g3, g4⟩ := zchk_at hc ht
    rw [g2]
    obtain ⟨c1, c2, c3, c4, c5, c6, c7, c8, c9, c10⟩ := id cx
    have kk := h hq tgt htg hc p e R s m args below meth c A cells slots Qf cx H locs ls hP hD hS hl
    rw [g3 rfl] at kk
    exact va_iald c1 c2 c6 hP k 0 (zw_int hk) rfl hq g1 kk
  · rw [if_neg hq] at htg
    cases htg
theorem g_lald {k n : Nat} {x : Int32} (ht : (ztb M)[i]? = some (pc, .laload, 1, a)) (hk : zsch[k]? = some (.inr (1, n))) (h : zin x n → ZGo G M d t K (i + 1) lv (.long (u.2.2 k x.toNatClampNeg) :: st) u) : ZGo G M d (if zin x n then t else none) K i lv (.int x :: .ref k :: st) u := by
  intro tgt htg hc p e R s m args below meth c A cells slots Qf cx H locs ls hP hD hS hl
  by_cases hq : zin x n
  · rw [if_pos hq] at htg
    obtain ⟨g1, g2, g3, g4⟩ := zchk_at hc ht
    rw [g2]
    obtain ⟨c1, c2, c3, c4, c5, c6, c7, c8, c9, c10⟩ := id cx
    have kk := h hq tgt htg hc p e R s m args below meth c A cells slots Qf cx H locs ls hP hD hS hl
    rw [g3 rfl] at kk
    exact va_lald c1 c2 c6 hP k 1 (zw_long hk) rfl hq g1 kk
  · rw [if_neg hq] at htg
    cases htg
theorem g_bald {k n : Nat} {x : Int32} (ht : (ztb M)[i]? = some (pc, .baload, 1, a)) (hk : zsch[k]? = some (.inr (2, n))) (h : zin x n → ZGo G M d t K (i + 1) lv (.int (u.2.1 k x.toNatClampNeg) :: st) u) : ZGo G M d (if zin x n then t else none) K i lv (.int x :: .ref k :: st) u := by
  intro tgt htg hc p e R s m args below meth c A cells slots Qf cx H locs ls hP hD hS hl
  by_cases hq : zin x n
  · rw [if_pos hq] at htg
    obtain ⟨g1, g2, g3, g4⟩ := zchk_at hc ht
    rw [g2]
    obtain ⟨c1, c2, c3, c4, c5, c6, c7, c8, c9, c10⟩ := id cx
    have kk := h hq tgt htg hc p e R s m args below meth c A cells slots Qf cx H locs ls hP hD hS hl
    rw [g3 rfl] at kk
    exact va_zald c1 c2 c6 hP k 2 (zw_bool hk) rfl hq g1 kk
  · rw [if_neg hq] at htg
    cases htg
theorem g_iast {k n : Nat} {x : Int32} {y : Int32} (ht : (ztb M)[i]? = some (pc, .iastore, 1, a)) (hk : zsch[k]? = some (.inr (0, n))) (h : zin x n → ZGo G M d t K (i + 1) lv st (za u k x.toNatClampNeg y)) : ZGo G M d (if zin x n then t else none) K i lv (.int y :: .int x :: .ref k :: st) u := by
  intro tgt htg hc p e0 R s m args below meth c A cells slots Qf cx H locs ls hP hD hS hl
  by_cases hq : zin x n
  · rw [if_pos hq] at htg
    obtain ⟨g1, g2, g3, g4⟩ := zchk_at hc ht
    rw [g2]
    obtain ⟨c1, c2, c3, c4, c5, c6, c7, c8, c9, c10⟩ := id cx
    refine va_iast c1 c2 c6 hP hD hS k 0 (zw_int hk) rfl hq g1 (fun H1 locs1 hP1 hD1 hS1 => ?_)
    have e : (zwg G u).set k (zga G k, .inl (zgc G 0, n, .inl (upd (u.2.1 k) x.toNatClampNeg y))) = zwg G (za u k x.toNatClampNeg y) := by
      refine zw_putA hk ?_ rfl ?_
      · simp [zE, za, zl]
      · intro j hj
        simp [za, zl, hj]
    rw [e] at hP1 hD1
    have kk := h hq tgt htg hc p e0 R s m args below meth c A cells slots Qf cx H1 locs1 ls hP1 hD1 hS1 hl
    rw [g3 rfl] at kk
    exact kk
  · rw [if_neg hq] at htg
    cases htg
theorem g_last {k n : Nat} {x : Int32} {y : Int64} (ht : (ztb M)[i]? = some (pc, .lastore, 1, a)) (hk : zsch[k]? = some (.inr (1, n))) (h : zin x n → ZGo G M d t K (i + 1) lv st (zl u k x.toNatClampNeg y)) : ZGo G M d (if zin x n then t else none) K i lv (.long y :: .int x :: .ref k :: st) u := by
  intro tgt htg hc p e0 R s m args below meth c A cells slots Qf cx H locs ls hP hD hS hl
  by_cases hq : zin x n
  · rw [if_pos hq] at htg
    obtain ⟨g1, g2, g3, g4⟩ := zchk_at hc ht
    rw [g2]
    obtain ⟨c1, c2, c3, c4, c5, c6, c7, c8, c9, c10⟩ := id cx
    refine va_last c1 c2 c6 hP hD hS k 1 (zw_long hk) rfl hq g1 (fun H1 locs1 hP1 hD1 hS1 => ?_)
    have e : (zwg G u).set k (zga G k, .inl (zgc G 1, n, .inr (.inl (vp_updL (u.2.2 k) x.toNatClampNeg y)))) = zwg G (zl u k x.toNatClampNeg y) := by
      refine zw_putA hk ?_ rfl ?_
      · simp [zE, za, zl]
      · intro j hj
        simp [za, zl, hj]
    rw [e] at hP1 hD1
    have kk := h hq tgt htg hc p e0 R s m args below meth c A cells slots Qf cx H1 locs1 ls hP1 hD1 hS1 hl
    rw [g3 rfl] at kk
    exact kk
  · rw [if_neg hq] at htg
    cases htg
theorem g_bast {k n : Nat} {x : Int32} {y : Int32} (ht : (ztb M)[i]? = some (pc, .bastore, 1, a)) (hk : zsch[k]? = some (.inr (2, n))) (hy : y = 0 ∨ y = 1) (h : zin x n → ZGo G M d t K (i + 1) lv st (za u k x.toNatClampNeg y)) : ZGo G M d (if zin x n then t else none) K i lv (.int y :: .int x :: .ref k :: st) u := by
  intro tgt htg hc p e0 R s m args below meth c A cells slots Qf cx H locs ls hP hD hS hl
  by_cases hq : zin x n
  · rw [if_pos hq] at htg
    obtain ⟨g1, g2, g3, g4⟩ := zchk_at hc ht
    rw [g2]
    obtain ⟨c1, c2, c3, c4, c5, c6, c7, c8, c9, c10⟩ := id cx
    refine va_zast c1 c2 c6 hP hD hS k 2 (zw_bool hk) rfl hq g1 (fun H1 locs1 hP1 hD1 hS1 => ?_)
    rw [show vp_nar .boolean y = y by rcases hy with rfl | rfl <;> rfl] at hP1 hD1
    have e : (zwg G u).set k (zga G k, .inl (zgc G 2, n, .inl (upd (u.2.1 k) x.toNatClampNeg y))) = zwg G (za u k x.toNatClampNeg y) := by
      refine zw_putA hk ?_ rfl ?_
      · simp [zE, za, zl]
      · intro j hj
        simp [za, zl, hj]
    rw [e] at hP1 hD1
    have kk := h hq tgt htg hc p e0 R s m args below meth c A cells slots Qf cx H1 locs1 ls hP1 hD1 hS1 hl
    rw [g3 rfl] at kk
    exact kk
  · rw [if_neg hq] at htg
    cases htg
theorem g_sldB {x : Int32} (ht : (ztb M)[i]? = some (pc, .iaload, 1, a)) (h : zin x 32 → ZGo G M d t K (i + 1) lv (.int (zBOD x.toNatClampNeg) :: st) u) : ZGo G M d (if zin x 32 then t else none) K i lv (.int x :: .ref 100 :: st) u := by
  intro tgt htg hc p e R s m args below meth c A cells slots Qf cx H locs ls hP hD hS hl
  by_cases hq : zin x 32
  · rw [if_pos hq] at htg
    obtain ⟨g1, g2, g3, g4⟩ := zchk_at hc ht
    rw [g2]
    obtain ⟨c1, c2, c3, c4, c5, c6, c7, c8, c9, c10⟩ := id cx
    have kk := h hq tgt htg hc p e R s m args below meth c A cells slots Qf cx H locs ls hP hD hS hl
    rw [g3 rfl] at kk
    exact va_sld c1 c2 c7.1.1 c7.1.2.1 c7.1.2.2 hS hq g1 kk
  · rw [if_neg hq] at htg
    cases htg
theorem g_sldA {x : Int32} (ht : (ztb M)[i]? = some (pc, .iaload, 1, a)) (h : zin x 8 → ZGo G M d t K (i + 1) lv (.int (zABV x.toNatClampNeg) :: st) u) : ZGo G M d (if zin x 8 then t else none) K i lv (.int x :: .ref 101 :: st) u := by
  intro tgt htg hc p e R s m args below meth c A cells slots Qf cx H locs ls hP hD hS hl
  by_cases hq : zin x 8
  · rw [if_pos hq] at htg
    obtain ⟨g1, g2, g3, g4⟩ := zchk_at hc ht
    rw [g2]
    obtain ⟨c1, c2, c3, c4, c5, c6, c7, c8, c9, c10⟩ := id cx
    have kk := h hq tgt htg hc p e R s m args below meth c A cells slots Qf cx H locs ls hP hD hS hl
    rw [g3 rfl] at kk
    exact va_sld c1 c2 c7.2.1.1 c7.2.1.2.1 c7.2.1.2.2 hS hq g1 kk
  · rw [if_neg hq] at htg
    cases htg
theorem g_sldX {x : Int32} (ht : (ztb M)[i]? = some (pc, .iaload, 1, a)) (h : zin x (zgL G) → ZGo G M d t K (i + 1) lv (.int (zgx G x.toNatClampNeg) :: st) u) : ZGo G M d (if zin x (zgL G) then t else none) K i lv (.int x :: .ref 102 :: st) u := by
  intro tgt htg hc p e R s m args below meth c A cells slots Qf cx H locs ls hP hD hS hl
  by_cases hq : zin x (zgL G)
  · rw [if_pos hq] at htg
    obtain ⟨g1, g2, g3, g4⟩ := zchk_at hc ht
    rw [g2]
    obtain ⟨c1, c2, c3, c4, c5, c6, c7, c8, c9, c10⟩ := id cx
    have kk := h hq tgt htg hc p e R s m args below meth c A cells slots Qf cx H locs ls hP hD hS hl
    rw [g3 rfl] at kk
    exact va_sld c1 c2 c7.2.2.1.1 c7.2.2.1.2.1 c7.2.2.1.2.2 hS hq g1 kk
  · rw [if_neg hq] at htg
    cases htg
theorem g_slenX (ht : (ztb M)[i]? = some (pc, .arraylength, 1, a)) (h : ZGo G M d t K (i + 1) lv (.int (Int32.ofNat (zgL G)) :: st) u) : ZGo G M d t K i lv (.ref 102 :: st) u := by
  intro tgt htg hc p e R s m args below meth c A cells slots Qf cx H locs ls hP hD hS hl
  obtain ⟨g1, g2, g3, g4⟩ := zchk_at hc ht
  rw [g2]
  obtain ⟨c1, c2, c3, c4, c5, c6, c7, c8, c9, c10⟩ := id cx
  have kk := h tgt htg hc p e R s m args below meth c A cells slots Qf cx H locs ls hP hD hS hl
  rw [g3 rfl] at kk
  exact va_slen c1 c2 c7.2.2.1.1 c7.2.2.1.2.1 c7.2.2.1.2.2 hS g1 kk
theorem g_slenB (ht : (ztb M)[i]? = some (pc, .arraylength, 1, a)) (h : ZGo G M d t K (i + 1) lv (.int (Int32.ofNat 32) :: st) u) : ZGo G M d t K i lv (.ref 100 :: st) u := by
  intro tgt htg hc p e R s m args below meth c A cells slots Qf cx H locs ls hP hD hS hl
  obtain ⟨g1, g2, g3, g4⟩ := zchk_at hc ht
  rw [g2]
  obtain ⟨c1, c2, c3, c4, c5, c6, c7, c8, c9, c10⟩ := id cx
  have kk := h tgt htg hc p e R s m args below meth c A cells slots Qf cx H locs ls hP hD hS hl
  rw [g3 rfl] at kk
  exact va_slen c1 c2 c7.1.1 c7.1.2.1 c7.1.2.2 hS g1 kk
theorem g_slenA (ht : (ztb M)[i]? = some (pc, .arraylength, 1, a)) (h : ZGo G M d t K (i + 1) lv (.int (Int32.ofNat 8) :: st) u) : ZGo G M d t K i lv (.ref 101 :: st) u := by
  intro tgt htg hc p e R s m args below meth c A cells slots Qf cx H locs ls hP hD hS hl
  obtain ⟨g1, g2, g3, g4⟩ := zchk_at hc ht
  rw [g2]
  obtain ⟨c1, c2, c3, c4, c5, c6, c7, c8, c9, c10⟩ := id cx
  have kk := h tgt htg hc p e R s m args below meth c A cells slots Qf cx H locs ls hP hD hS hl
  rw [g3 rfl] at kk
  exact va_slen c1 c2 c7.2.1.1 c7.2.1.2.1 c7.2.1.2.2 hS g1 kk
theorem g_alen {k n : Nat} {v : Int32} (ht : (ztb M)[i]? = some (pc, .arraylength, 1, a)) (hk : zsch[k]? = some (.inr (0, n))) (hv : Int32.ofNat n = v) (h : ZGo G M d t K (i + 1) lv (.int v :: st) u) : ZGo G M d t K i lv (.ref k :: st) u := by
  intro tgt htg hc p e R s m args below meth c A cells slots Qf cx H locs ls hP hD hS hl
  obtain ⟨g1, g2, g3, g4⟩ := zchk_at hc ht
  rw [g2]
  obtain ⟨c1, c2, c3, c4, c5, c6, c7, c8, c9, c10⟩ := id cx
  have kk := h tgt htg hc p e R s m args below meth c A cells slots Qf cx H locs ls hP hD hS hl
  rw [g3 rfl] at kk
  exact va_alen c1 c2 c6 hP k 0 (zw_int hk) rfl hv g1 kk
theorem g_getsB {idx : Nat} (ht : (ztb M)[i]? = some (pc, .getstatic idx, 3, a)) (hw : Cond.fieldLink (zy M).cls idx RX8 "BODIES" "[I" ∈ lw_tbl) (h : ZGo G M d t K (i + 1) lv (.ref 100 :: st) u) : ZGo G M d t K i lv st u := by
  intro tgt htg hc p e R s m args below meth c A cells slots Qf cx H locs ls hP hD hS hl
  obtain ⟨g1, g2, g3, g4⟩ := zchk_at hc ht
  rw [g2]
  obtain ⟨c1, c2, c3, c4, c5, c6, c7, c8, c9, c10⟩ := id cx
  have kk := h tgt htg hc p e R s m args below meth c A cells slots Qf cx H locs ls hP hD hS hl
  rw [g3 rfl] at kk
  exact va_gets c1 c2 c7.2.2.2.1 hS c4 (c5.at hw rfl) (fun _ h => h) g1 kk
theorem g_getsA {idx : Nat} (ht : (ztb M)[i]? = some (pc, .getstatic idx, 3, a)) (hw : Cond.fieldLink (zy M).cls idx RX8 "ABOVE" "[I" ∈ lw_tbl) (h : ZGo G M d t K (i + 1) lv (.ref 101 :: st) u) : ZGo G M d t K i lv st u := by
  intro tgt htg hc p e R s m args below meth c A cells slots Qf cx H locs ls hP hD hS hl
  obtain ⟨g1, g2, g3, g4⟩ := zchk_at hc ht
  rw [g2]
  obtain ⟨c1, c2, c3, c4, c5, c6, c7, c8, c9, c10⟩ := id cx
  have kk := h tgt htg hc p e R s m args below meth c A cells slots Qf cx H locs ls hP hD hS hl
  rw [g3 rfl] at kk
  exact va_gets c1 c2 c7.2.2.2.2 hS c4 (c5.at hw rfl) (fun _ h => h) g1 kk
/-! ends -/
theorem g_iret {r : Int32} {x : β} (ht : (ztb M)[i]? = some (pc, .ireturn, 1, a)) (hr : zrt M = some .int ∨ (zrt M = some .boolean ∧ (r = 0 ∨ r = 1))) (hK : K x = some (.int r, u)) : ZGo G M d (some x) K i lv [.int r] u := by
  intro tgt htg hc p e R s m args below meth c A cells slots Qf cx H locs ls hP hD hS hl
  rw [Option.bind_some, hK] at htg
  cases htg
  obtain ⟨g1, g2, g3, g4⟩ := zchk_at hc ht
  rw [g2]
  exact cx.2.2.2.2.2.2.2.2.2 pc H locs ls ⟨g1, hr⟩ hP hD hS
theorem g_lret {r : Int64} {x : β} (ht : (ztb M)[i]? = some (pc, .lreturn, 1, a)) (hr : zrt M = some .long) (hK : K x = some (.long r, u)) : ZGo G M d (some x) K i lv [.long r] u := by
  intro tgt htg hc p e R s m args below meth c A cells slots Qf cx H locs ls hP hD hS hl
  rw [Option.bind_some, hK] at htg
  cases htg
  obtain ⟨g1, g2, g3, g4⟩ := zchk_at hc ht
  rw [g2]
  exact cx.2.2.2.2.2.2.2.2.2 pc H locs ls ⟨g1, hr⟩ hP hD hS
theorem g_vret {x : β} (ht : (ztb M)[i]? = some (pc, .return_, 1, a)) (hr : zrt M = none) (hK : K x = some (.null, u)) : ZGo G M d (some x) K i lv [] u := by
  intro tgt htg hc p e R s m args below meth c A cells slots Qf cx H locs ls hP hD hS hl
  rw [Option.bind_some, hK] at htg
  cases htg
  obtain ⟨g1, g2, g3, g4⟩ := zchk_at hc ht
  rw [g2]
  exact cx.2.2.2.2.2.2.2.2.2 pc H locs ls ⟨g1, hr⟩ hP hD hS
end ZROWS
end
section
/-! a method's contract over numbers, and calls -/
def zroom (d : Nat) : Room := { frames := d, cells := 0, slots := 0, locals := 64 * d }
def zEnt (G : ZG) (u : ZSt) (sz : Nat) (U : State) : Prop := U.heap.size = sz ∧ va_P (zgD G) zcl (zwg G u) U.heap ∧ va_K (zgD G) zcl (ztys (zgc G)) U ∧ va_D (fun _ => True) (zwg G u) ∧ zAW U ∧ zSt G (zA G sz) U U.heap
def zQ (G : ZG) (ret : Option FieldType) (tgt : Value × ZSt) (sz : Nat) : Array Value → State → Outcome → State → Prop := match ret with
  | none => va_Qv (fun u' : ZSt => tgt = (.null, u')) (fun u' t => va_P (zgD G) zcl (zwg G u') t.heap) (zA G sz)
  | some .long => va_Ql (fun (r : Int64) (u' : ZSt) => tgt = (.long r, u')) (fun u' t => va_P (zgD G) zcl (zwg G u') t.heap) (zA G sz)
  | some ty => va_Qi (fun (r : Int32) (u' : ZSt) => tgt = (.int r, u') ∧ (ty = .boolean → r = 0 ∨ r = 1)) (fun u' t => va_P (zgD G) zcl (zwg G u') t.heap) (zA G sz)
def ZSpec (G : ZG) (M : ZM) (d : Nat) (as : List Value) (u : ZSt) (tgt : Value × ZSt) : Prop :=
  ∀ sz : Nat, Met (zgl G) (zy M) [Cond.code (zy M) (zcc M) (znL M) (zrt M)] (zroom d) (va_Pc (zst G as) (zEnt G u sz)) (zQ G (zrt M) tgt sz) 0 0 (zA G sz)
theorem lg_sl_cv (G : ZG) (as : List Value) : (lg_sl (zst G as)).length = (lg_sl as).length := by
  induction as with
  | nil => rfl
  | cons v vs ih =>
    simp only [lg_sl, zst, List.map_cons, List.flatMap_cons, List.length_append, zcv_cat] at ih ⊢
    rw [ih]
    split <;> rfl
theorem lv_args_cv (G : ZG) : ∀ (as : List Value) (i : Nat), lv_args i (zst G as) = zlv G (lv_args i as)
  | [], _ => rfl
  | v :: vs, i => by
    simp only [zst, List.map_cons, lv_args, zcv_cat, zlv]
    rw [show List.map (zcv (zga G)) vs = zst G vs from rfl, lv_args_cv G vs]
    rfl
theorem zroom_eq (ws : List Cond) (d : Nat) : (headSpec ws (zroom d)).room = zroom d := rfl
set_option maxHeartbeats 1000000 in
theorem ZSpec.of {G : ZG} {M : ZM} {d : Nat} {as : List Value} {u : ZSt} {tgt : Value × ZSt} (hc : zchk M = true) (hn : (lg_sl as).length ≤ znL M) (h : ZW G M d tgt 0 (lv_args 0 as) [] u) : ZSpec G M d as u tgt := by
  intro sz
  have hc' := hc
  simp only [zchk, Bool.and_eq_true, beq_iff_eq] at hc'
  obtain ⟨⟨⟨-, hpc0⟩, hpl⟩, -⟩ := hc'
  refine Met.ofW (cc := zcc M) (maxL := znL M) (ret := zrt M) hpl rfl ?_
  intro p e s m args below meth c s₁ B hml hv
  obtain ⟨rfl, hsz, hP, hK, hD0, hAW, hSt⟩ := hv
  subst hsz
  have hx := B.exec
  have hb := B.bytes
  have hr := B.returns
  have hown : s.vm.findClass (zy M).cls = some m.cls := findClass_of_methodNamed B.named
  have hlocks := B.notSynchronized
  have hD : va_D (zA G s.heap.size) (zwg G u) := zA_D hD0
  have hA : ∀ q : Nat, s.heap.size ≤ q → zA G s.heap.size q := fun q h => Or.inr h
  have hS : va_S (zA G s.heap.size) s.heap s.heap [] := va_S.rf
  have hl := lv_entry (zst G as) (n := znL M) (by rw [lg_sl_cv]; exact hn)
  rw [lg_entry_eq]
  generalize (lg_sl (zst G as) ++ List.replicate (znL M - (lg_sl (zst G as)).length) Slot.unset).toArray = ls at hl ⊢
  rw [lv_args_cv] at hl
  have hex : ∀ (pc : Nat) (H : Heap) (locs : List Loc) (ls : Array Slot), zretAt M pc tgt.1 → va_P (zgD G) zcl (zwg G tgt.2) H → va_D (zA G s.heap.size) (zwg G tgt.2) → va_S (zA G s.heap.size) s.heap H locs → W p (zgl G) e (zroom d) s m (zst G as).toArray below meth c H locs 0 0 (MQ below (zQ G (zrt M) tgt s.heap.size) (zst G as).toArray s 0 0 (zA G s.heap.size)) (F0 m pc ls (zrst tgt.1)) := by
    intro pc H locs ls hra hP hD hS
    obtain ⟨v, u'⟩ := tgt
    cases v with
    | int r =>
      obtain ⟨hdg, hre⟩ := hra
      rcases hre with hre | ⟨hre, h01⟩
      · rw [hre] at hr ⊢
        exact W.iret (v := r) hx hb hr (fun t ht hW => ⟨⟨r, u', rfl, ⟨rfl, fun h => by cases h⟩, by show va_P _ _ _ t.heap; rw [ht]; exact hP⟩, hS.F ht⟩) hS.2.2 hdg
      · rw [hre] at hr ⊢
        exact W.zret (v := r) hx hb hr (by rcases h01 with rfl | rfl <;> rfl) (fun t ht hW => ⟨⟨r, u', rfl, ⟨rfl, fun _ => h01⟩, by show va_P _ _ _ t.heap; rw [ht]; exact hP⟩, hS.F ht⟩) hS.2.2 hdg
    | long r =>
      obtain ⟨hdg, hre⟩ := hra
      rw [hre] at hr ⊢
      exact W.lret (v := r) hx hb hr (fun t ht hW => ⟨⟨r, u', rfl, rfl, by show va_P _ _ _ t.heap; rw [ht]; exact hP⟩, hS.F ht⟩) hS.2.2 hdg
    | null =>
      obtain ⟨hdg, hre⟩ := hra
      rw [hre] at hr ⊢
      exact W.vret hx hb hr (fun t ht hW => ⟨⟨u', rfl, rfl, by show va_P _ _ _ t.heap; rw [ht]; exact hP⟩, hS.F ht⟩) hS.2.2 hdg
    | _ => exact absurd hra (fun h => h)
  have key := h hc p e (zroom d) s m (zst G as).toArray below meth c (zA G s.heap.size) 0 0 (MQ below (zQ G (zrt M) tgt s.heap.size) (zst G as).toArray s 0 0 (zA G s.heap.size)) ⟨hx, hb, hml, hown, hAW, hK, hSt, hA, ⟨Nat.le_refl _, Nat.le_refl _, Nat.zero_le _, Nat.zero_le _⟩, hex⟩ s.heap [] ls hP hD hS hl
  rw [hpc0] at key
  exact key
theorem ZSpec.go {G : ZG} {M : ZM} {d : Nat} {as : List Value} {u : ZSt} {β : Type} {t : Option β} {K : β → Option (Value × ZSt)} (hc : zchk M = true) (hn : (lg_sl as).length ≤ znL M) (h : ZGo G M d t K 0 (lv_args 0 as) [] u) {tgt : Value × ZSt} (ht : t.bind K = some tgt) : ZSpec G M d as u tgt := ZSpec.of hc hn (h tgt ht)
def zbo (ret : Option FieldType) (v : Value) : Prop := ret = some .boolean → v = .int 0 ∨ v = .int 1
section ZCALL
variable {p : Program} {e : Env} {R : Room} {s : State} {m : MethodId} {args : Array Value} {below : List Frame} {meth : Method} {c : Code} {H : Heap} {locs : List Loc} {cells slots : Nat} {Qf : State → Prop} {A : Nat → Prop} {G : ZG} {pc : Nat} {ls : Array Slot} {st0 rest : List Value} {a : Array Value}
theorem z_ret (ret : Option FieldType) {tgt : Value × ZSt} (hr : va_Run p (zgl G) e R s m args below meth c H locs cells slots 0 0 (F0 m pc ls st0) rest (zQ G ret tgt H.size a) (zA G H.size)) (hS : va_S A s.heap H locs) (hsub : ∀ q, zA G H.size q → A q)
    (kk : ∀ (H1 : Heap) (locs1 : List Loc), zbo ret tgt.1 → va_P (zgD G) zcl (zwg G tgt.2) H1 → va_S A s.heap H1 locs1 → W p (zgl G) e R s m args below meth c H1 locs1 cells slots Qf (F0 m (pc + 3) ls (zrst tgt.1 ++ rest))) : W p (zgl G) e R s m args below meth c H locs cells slots Qf (F0 m pc ls st0) := by
  match ret, hr, kk with
  | none, hr, kk =>
    refine va_callv (a := a) hr hS (fun q _ h => hsub q h) hsub (fun u t H1 locs1 ht hvm hp hB hz hk hS1 => ?_)
    have h := kk H1 locs1 (fun h => by cases h) (by rw [hp]; have hB : va_P _ _ _ t.heap := hB; rw [ht] at hB; exact hB) hS1
    rw [hp] at h
    exact h
  | some .long, hr, kk =>
    refine va_calll (a := a) hr hS (fun q _ h => hsub q h) hsub (fun r u t H1 locs1 ht hvm hp hB hz hk hS1 => ?_)
    have h := kk H1 locs1 (fun h => by cases h) (by rw [hp]; have hB : va_P _ _ _ t.heap := hB; rw [ht] at hB; exact hB) hS1
    rw [hp] at h
    exact h
  | some .boolean, hr, kk =>
    refine va_calli (a := a) hr hS (fun q _ h => hsub q h) hsub (fun r u t H1 locs1 ht hvm hp hB hz hk hS1 => ?_)
    have h := kk H1 locs1 (fun _ => by rw [hp.1]; rcases hp.2 rfl with h | h <;> rw [h] <;> simp) (by rw [hp.1]; have hB : va_P _ _ _ t.heap := hB; rw [ht] at hB; exact hB) hS1
    rw [hp.1] at h
    exact h
  | some .int, hr, kk | some .byte, hr, kk | some .char, hr, kk | some .short, hr, kk | some .float, hr, kk | some .double, hr, kk | some (.object _), hr, kk | some (.array _), hr, kk =>
    refine va_calli (a := a) hr hS (fun q _ h => hsub q h) hsub (fun r u t H1 locs1 ht hvm hp hB hz hk hS1 => ?_)
    have h := kk H1 locs1 (fun h => by cases h) (by rw [hp.1]; have hB : va_P _ _ _ t.heap := hB; rw [ht] at hB; exact hB) hS1
    rw [hp.1] at h
    exact h
end ZCALL
theorem zEnt.blind {G : ZG} {u : ZSt} {sz : Nat} {as : List Value} : FrameBlind (va_Pc as (zEnt G u sz)) := by
  intro a U g mk h
  obtain ⟨h0, h1, h2, h3, h4, h5, h6⟩ := h
  exact ⟨h0, h1, h2, va_K.moved (u := U) (U := U.calling g mk a) (Vm.Alike.refl U.vm) h3, h4, zAW.same (u := U) (U := U.calling g mk a) rfl h5, zSt.go (A := zA G sz) (s := U) (U := U.calling g mk a) (locs := []) h6 (Vm.Alike.refl U.vm) va_S.rf (fun _ h => h)⟩
def zCW (M : ZM) (n : Nat) : Prop := Cond.code (zy M) (zcc M) (znL M) (zrt M) ∈ lw_tbl ∧ Cond.initialized (zy M).cls ∈ lw_tbl ∧ ((zy M).cls ≠ "java/lang/invoke/MethodHandle" ∧ (zy M).cls ≠ "java/lang/invoke/VarHandle") ∧ (parseMethodDescriptor (zy M).desc).map (fun d => d.parameters.length) = some n ∧ znL M ≤ 45
def zCV (M : ZM) (n : Nat) : Prop := zCW M n ∧ Cond.instanceMethod (zy M) ∈ lw_tbl ∧ Cond.selects (zy M).cls (zy M) (zy M) ∈ lw_tbl
def zCS (M : ZM) (n : Nat) : Prop := zCW M n ∧ Cond.static (zy M) ∈ lw_tbl
section ZCALL2
variable {p : Program} {e : Env} {R : Room} {s : State} {m : MethodId} {args : Array Value} {below : List Frame} {meth : Method} {c : Code} {H : Heap} {locs : List Loc} {cells slots : Nat} {Qf : State → Prop} {A : Nat → Prop} {G : ZG} {M M' : ZM} {d d' n idx : Nat} {tgt : Value × ZSt} {u : ZSt}
theorem z_callB (cx : zCx G M d tgt p e R s m args below meth c A cells slots Qf) (hw : zCW M' n) (hl : Cond.methodLink (zy M).cls idx (zy M') ∈ lw_tbl) (hd : d' + 1 ≤ d) : CallB R s args (zy M).cls idx (zy M') (zcc M') (znL M') (zrt M') [Cond.code (zy M') (zcc M') (znL M') (zrt M')] (zroom d') 0 0 n := by
  obtain ⟨c1, c2, c3, c4, c5, c6, c7, c8, ⟨r1, r2, r3, r4⟩, c10⟩ := cx
  obtain ⟨w1, w2, w3, w4, w5⟩ := hw
  refine ⟨rfl, rfl, ?_, ?_, ?_, List.mem_cons_self, c5.at w1 rfl, c5.at w2 rfl, w3, ?_, c5.at hl rfl⟩
  · show d' + 1 ≤ R.frames
    omega
  · show 8 + (znL M' + 11) + 64 * d' ≤ R.locals
    omega
  · intro w hw a' U hW
    have hw' : w = Cond.code (zy M') (zcc M') (znL M') (zrt M') := by simpa using hw
    subst hw'
    exact word_at hW (Or.inl rfl) (c5.at w1 rfl (A := #[]))
  · intro sig h
    rw [h] at w4
    exact (Option.some.inj w4).symm
theorem zEnt.at (cx : zCx G M d tgt p e R s m args below meth c A cells slots Qf) (hP : va_P (zgD G) zcl (zwg G u) H) (hD : va_D A (zwg G u)) (hS : va_S A s.heap H locs) {U : State} (hU : U.heap = H) (hW : s.WarmedH U.vm) : zEnt G u H.size U := by
  obtain ⟨c1, c2, c3, c4, c5, c6, c7, c8, c9, c10⟩ := cx
  subst hU
  exact ⟨rfl, hP, va_K.moved hW.alike c6, hD.weaken (fun _ _ _ _ => trivial), c5.warm hW, c7.go hW.alike hS (zA_in hD hS c8)⟩
end ZCALL2
section ZCALL3
variable {G : ZG} {M M' : ZM} {d d' i pc n a idx o ci : Nat} {lv : List (Nat × Value)} {as rest st : List Value} {u : ZSt} {β γ : Type} {tc : Option γ} {f : γ → Option β} {K : β → Option (Value × ZSt)}
theorem zst_split (G : ZG) (as rest : List Value) (v : Value) : zst G (as.reverse ++ v :: rest) = (zst G as).reverse ++ zcv (zga G) v :: zst G rest := by simp [zst]
theorem zst_splitS (G : ZG) (as rest : List Value) : zst G (as.reverse ++ rest) = (zst G as).reverse ++ zst G rest := by simp [zst]
theorem zcat_eq (G : ZG) (l : List Value) : ((zst G l).map fun v => v.category).sum = (l.map fun v => v.category).sum := by
  simp only [zst, List.map_map]
  congr 2
  funext v
  exact zcv_cat _ v
theorem zst_app (G : ZG) {v : Value} (h : ∀ x, v ≠ .ref x) (rest : List Value) : zst G (zrst v ++ rest) = zrst v ++ zst G rest := by
  cases v <;> simp [zst, zrst, zcv]
  exact absurd rfl (h _)
theorem g_callV (em : γ → Value × ZSt) (hem : ∀ x y, (em x).1 ≠ .ref y) (ht : (ztb M)[i]? = some (pc, .invokevirtual idx, 3, a)) (hl : Cond.methodLink (zy M).cls idx (zy M') ∈ lw_tbl) (hw : zCV M' n) (hd : d' + 1 ≤ d) {fs : List (Option Nat)} (ho : zsch[o]? = some (.inl (ci, fs))) (hci : ci < 12) (hC : (zcls ci).1 = (zy M').cls) (hst : st = as.reverse ++ .ref o :: rest) (hn : as.length = n) (hcat : (rest.map fun v => v.category).sum ≤ 8)
    (hs : ∀ x, tc = some x → ZSpec G M' d' (.ref o :: as) u (em x)) (hk : ∀ x, tc = some x → zbo (zrt M') (em x).1 → ZGo G M d (f x) K (i + 1) lv (zrst (em x).1 ++ rest) (em x).2) : ZGo G M d (tc.bind f) K i lv st u := by
  intro tgt htg hc p e R s m args below meth c A cells slots Qf cx H locs ls hP hD hS hlv
  cases htc : tc with
  | none => rw [htc] at htg; cases htg
  | some x =>
    rw [htc, Option.bind_some] at htg
    obtain ⟨g1, g2, g3, g4⟩ := zchk_at hc ht
    obtain ⟨c1, c2, c3, c4, c5, c6, c7, c8, c9, c10⟩ := id cx
    rw [g2]
    have hrun := va_runV (e := e) (R := R) (below := below) (meth := meth) (Ts := []) (As := zst G as) (rest := zst G rest) (g := F0 m pc ls (zst G st)) (b := zga G o) (C := (zy M').cls) (cells := cells) (slots := slots) (n := n) (nL := znL M) (locs := locs) ⟨c1, c2, c3, c4, fun w h => by cases h⟩ (hs x htc H.size) ⟨z_callB cx hw.1 hl hd, c5.at hw.2.1 rfl, c5.at hw.2.2 rfl⟩ ⟨zEnt.blind, by
        have := va_recv c6 hP (zcl_at ci hci) (zw_obj (ad := zga G) (ca := zgc G) (u := u) ho)
        rw [hC] at this
        exact this, fun U hU hW => ⟨rfl, zEnt.at cx hP hD hS hU hW⟩⟩ rfl (by rw [← hn]; simp [zst]) hlv.1 (by rw [hst]; exact zst_split G as rest (.ref o)) (lv_room (by rw [zcat_eq]; exact hcat)) g1 ⟨c9.2.2.1, c9.2.2.2⟩
    refine z_ret (zrt M') hrun hS (zA_in hD hS c8) (fun H1 locs1 hbo hP1 hS1 => ?_)
    have key := hk x htc hbo tgt htg hc p e R s m args below meth c A cells slots Qf cx H1 locs1 ls hP1 (zw_D hD) hS1 hlv
    rw [g3 rfl, zst_app G (hem x)] at key
    exact key
theorem g_callS (em : γ → Value × ZSt) (hem : ∀ x y, (em x).1 ≠ .ref y) (ht : (ztb M)[i]? = some (pc, .invokestatic idx, 3, a)) (hl : Cond.methodLink (zy M).cls idx (zy M') ∈ lw_tbl) (hw : zCS M' n) (hd : d' + 1 ≤ d) (hst : st = as.reverse ++ rest) (hn : as.length = n) (hcat : (rest.map fun v => v.category).sum ≤ 8)
    (hs : ∀ x, tc = some x → ZSpec G M' d' as u (em x)) (hk : ∀ x, tc = some x → zbo (zrt M') (em x).1 → ZGo G M d (f x) K (i + 1) lv (zrst (em x).1 ++ rest) (em x).2) : ZGo G M d (tc.bind f) K i lv st u := by
  intro tgt htg hc p e R s m args below meth c A cells slots Qf cx H locs ls hP hD hS hlv
  cases htc : tc with
  | none => rw [htc] at htg; cases htg
  | some x =>
    rw [htc, Option.bind_some] at htg
    obtain ⟨g1, g2, g3, g4⟩ := zchk_at hc ht
    obtain ⟨c1, c2, c3, c4, c5, c6, c7, c8, c9, c10⟩ := id cx
    rw [g2]
    have hrun := va_runS (e := e) (R := R) (below := below) (meth := meth) (Ts := []) (As := zst G as) (rest := zst G rest) (g := F0 m pc ls (zst G st)) (cells := cells) (slots := slots) (n := n) (nL := znL M) (locs := locs) ⟨c1, c2, c3, c4, fun w h => by cases h⟩ (hs x htc H.size) ⟨z_callB cx hw.1 hl hd, c5.at hw.2 rfl⟩ ⟨zEnt.blind, fun U hU hW => ⟨rfl, zEnt.at cx hP hD hS hU hW⟩⟩ rfl (by rw [← hn]; simp [zst]) hlv.1 (by rw [hst]; exact zst_splitS G as rest) (lv_room (by rw [zcat_eq]; exact hcat)) g1 ⟨c9.2.2.1, c9.2.2.2⟩
    refine z_ret (zrt M') hrun hS (zA_in hD hS c8) (fun H1 locs1 hbo hP1 hS1 => ?_)
    have key := hk x htc hbo tgt htg hc p e R s m args below meth c A cells slots Qf cx H1 locs1 ls hP1 (zw_D hD) hS1 hlv
    rw [g3 rfl, zst_app G (hem x)] at key
    exact key
end ZCALL3
/-! what a call's answer is, by kinds: numbers with the state, numbers alone, the state alone -/
abbrev zemI : Int32 × ZSt → Value × ZSt := fun x => (.int x.1, x.2)
abbrev zemP (u : ZSt) : Int32 → Value × ZSt := fun x => (.int x, u)
abbrev zemV : ZSt → Value × ZSt := fun x => (.null, x)
abbrev zemL (u : ZSt) : Int64 → Value × ZSt := fun x => (.long x, u)
theorem zemI_r : ∀ x y, (zemI x).1 ≠ .ref y := fun _ _ h => by cases h
theorem zemP_r (u : ZSt) : ∀ x y, (zemP u x).1 ≠ .ref y := fun _ _ h => by cases h
theorem zemV_r : ∀ x y, (zemV x).1 ≠ .ref y := fun _ _ h => by cases h
theorem zemL_r (u : ZSt) : ∀ x y, (zemL u x).1 ≠ .ref y := fun _ _ h => by cases h
theorem zbo_i {r : Int32} (h : zbo (some .boolean) (.int r)) : r = 0 ∨ r = 1 := by
  rcases h rfl with h | h <;> cases h <;> simp
abbrev zkI : Int32 × ZSt → Option (Value × ZSt) := fun x => some (zemI x)
abbrev zkP (u : ZSt) : Int32 → Option (Value × ZSt) := fun x => some (zemP u x)
abbrev zkV : ZSt → Option (Value × ZSt) := fun x => some (zemV x)
abbrev zkL (u : ZSt) : Int64 → Option (Value × ZSt) := fun x => some (zemL u x)
/-! loops: a body answers .inl (round again), .inr (.inl (out)), .inr (.inr (the method's end)) -/
def ziter {σ ρ : Type} (B : σ → Option (σ ⊕ ρ)) : Nat → σ → Option ρ
  | 0, _ => none
  | n + 1, s => (B s).bind fun x => match x with
    | .inl s' => ziter B n s'
    | .inr r => some r
def zik {σ ρ α : Type} (B : σ → Option (σ ⊕ ρ)) (n : Nat) (rest : ρ → Option α) : σ ⊕ ρ → Option α
  | .inl s' => (ziter B n s').bind rest
  | .inr r => rest r
theorem ziter_bind {σ ρ α : Type} (B : σ → Option (σ ⊕ ρ)) (n : Nat) (s : σ) (rest : ρ → Option α) : (ziter B (n + 1) s).bind rest = (B s).bind (zik B n rest) := by
  show ((B s).bind _).bind rest = _
  cases B s with
  | none => rfl
  | some x => cases x <;> rfl
/-- a loop at its head: the body's own walk, for whatever its leaves are made into -/
theorem zgo_loop {G : ZG} {M : ZM} {d i : Nat} {σ ρ β : Type} {B : σ → Option (σ ⊕ ρ)} {lvf : σ → List (Nat × Value)} {uf : σ → ZSt} {rest : ρ → Option β} {K : β → Option (Value × ZSt)}
    (hbody : ∀ (s : σ) (K' : σ ⊕ ρ → Option (Value × ZSt)), (∀ s', ZGo G M d (K' (.inl s')) some i (lvf s') [] (uf s')) → (∀ r, K' (.inr r) = (rest r).bind K) → ZGo G M d (B s) K' i (lvf s) [] (uf s)) :
    ∀ (n : Nat) (s : σ), ZGo G M d ((ziter B n s).bind rest) K i (lvf s) [] (uf s)
  | 0, s => zgo_none
  | n + 1, s => by
    have h := hbody s (fun x => (zik B n rest x).bind K) (fun s' => by
      have ih := zgo_loop hbody n s'
      exact zgo_unleaf ih) (fun r => rfl)
    intro tgt htg
    rw [ziter_bind] at htg
    refine h tgt ?_
    rw [← htg]
    cases B s with
    | none => rfl
    | some x => rfl
/-- Integer.bitCount, System.arraycopy -/
def zfuel : Nat := 1048576
end
section
/-! more rows over numbers: copies, switches, calls by kinds, subsets of locals -/
theorem zsubk {lv lv' : List (Nat × Value)} (ks : List Nat) (h : ks.filterMap (fun k => lv[k]?) = lv') : ∀ q ∈ lv', q ∈ lv := by
  intro q hq
  rw [← h] at hq
  obtain ⟨k, -, hk⟩ := List.mem_filterMap.mp hq
  exact List.mem_of_getElem? hk
abbrev zcpok (sp dp n : Int32) (n0 n1 : Nat) : Prop := ¬ sp < 0 ∧ ¬ dp < 0 ∧ ¬ n < 0 ∧ sp.toNatClampNeg + n.toNatClampNeg ≤ n0 ∧ dp.toNatClampNeg + n.toNatClampNeg ≤ n1
theorem z_ne {x v : Int32} (h : ¬ x = v) {k : Int} (hk : v.toInt = k) : x.toInt ≠ k := by
  subst hk
  intro h2
  exact h (Int32.toInt_inj.mp h2)
theorem z_off {ps : List (Int × Int)} {d y : Int} (h : ∀ v ∈ ps.map (fun q => q.1), y ≠ v) : Op.lookupswitch.offset ps d y = d := by
  induction ps with
  | nil => rfl
  | cons q r ih =>
    obtain ⟨a, o⟩ := q
    have h1 : y ≠ a := h a (by simp)
    have h2 := ih (fun v hv => h v (by simp only [List.map_cons]; exact List.mem_cons_of_mem _ hv))
    rw [Op.lookupswitch.offset_cons, if_neg (fun q => h1 q.symm)]
    exact h2
section ZMORE
variable {G : ZG} {M M' : ZM} {d d' i pc len n a idx o ci : Nat} {lv lv' : List (Nat × Value)} {as rest st : List Value} {u : ZSt} {β γ : Type} {t tA tB : Option β} {K : β → Option (Value × ZSt)}
theorem zgo_ite {c : Prop} [Decidable c] (hT : c → ZGo G M d tA K i lv st u) (hF : ¬ c → ZGo G M d tB K i lv st u) : ZGo G M d (if c then tA else tB) K i lv st u := by
  by_cases hc : c
  · rw [if_pos hc]; exact hT hc
  · rw [if_neg hc]; exact hF hc
theorem zgo_of_ck {c : Prop} [Decidable c] (hc : c) (h : ZGo G M d (if c then t else none) K i lv st u) : ZGo G M d t K i lv st u := by
  rw [if_pos hc] at h
  exact h
theorem zgo_ck {c : Prop} [Decidable c] (hT : c → ZGo G M d t K i lv st u) : ZGo G M d (if c then t else none) K i lv st u := zgo_ite hT (fun _ => zgo_none)
theorem zgo_nck {c : Prop} [Decidable c] (hT : ¬ c → ZGo G M d t K i lv st u) : ZGo G M d (if c then none else t) K i lv st u := zgo_ite (fun _ => zgo_none) hT
theorem g_idivo {x y : Int32} (ht : (ztb M)[i]? = some (pc, .idiv, 1, a)) (h : ¬ y = 0 → ZGo G M d t K (i + 1) lv (.int (x / y) :: st) u) : ZGo G M d (if y = 0 then none else t) K i lv (.int y :: .int x :: st) u := zgo_nck (fun hy => g_idiv ht hy (h hy))
theorem g_iremo {x y : Int32} (ht : (ztb M)[i]? = some (pc, .irem, 1, a)) (h : ¬ y = 0 → ZGo G M d t K (i + 1) lv (.int (zrem x y) :: st) u) : ZGo G M d (if y = 0 then none else t) K i lv (.int y :: .int x :: st) u := zgo_nck (fun hy => g_irem ht hy (h hy))
theorem g_tswD {dflt lo hi : Int} {offs : Array Int} {x : Int32} (ht : (ztb M)[i]? = some (pc, .tableswitch dflt lo hi offs, len, a)) (keys : List Int) (n : Nat) (hn : hi - lo < n) (hk : ∀ k, k < n → (lo + (k : Int)) ∈ keys ∨ offs[k]? = some dflt) (hne : ∀ v ∈ keys, x.toInt ≠ v) (b : Nat) (hb : (pc : Int) + dflt = (zpc M b : Int)) (h : ZGo G M d t K b lv st u) : ZGo G M d t K i lv (.int x :: st) u := by
  by_cases h1 : x.toInt < lo
  · exact g_tswOut ht (Or.inl h1) b hb h
  · by_cases h2 : hi < x.toInt
    · exact g_tswOut ht (Or.inr h2) b hb h
    · have e : lo + ((x.toInt - lo).toNat : Int) = x.toInt := by omega
      have h3 := hk (x.toInt - lo).toNat (by omega)
      rw [e] at h3
      rcases h3 with h3 | h3
      · exact absurd rfl (hne _ h3)
      · exact g_tswIn ht rfl h1 h2 h3 b hb h
theorem g_lswD {dflt : Int} {ps : Array (Int × Int)} {x : Int32} (ht : (ztb M)[i]? = some (pc, .lookupswitch dflt ps, len, a)) (hp : (ps.toList.zip (ps.toList.drop 1)).all (fun (a, next) => a.1 < next.1) = true) (hne : ∀ v ∈ ps.toList.map (fun q => q.1), x.toInt ≠ v) (b : Nat) (hb : (pc : Int) + dflt = (zpc M b : Int)) (h : ZGo G M d t K b lv st u) : ZGo G M d t K i lv (.int x :: st) u :=
  g_lsw ht hp (z_off hne) b hb h
theorem g_lswI {dflt off : Int} {ps : Array (Int × Int)} {x v : Int32} (ht : (ztb M)[i]? = some (pc, .lookupswitch dflt ps, len, a)) (hp : (ps.toList.zip (ps.toList.drop 1)).all (fun (a, next) => a.1 < next.1) = true) (hv : x = v) (ho : Op.lookupswitch.offset ps.toList dflt v.toInt = off) (b : Nat) (hb : (pc : Int) + off = (zpc M b : Int)) (h : ZGo G M d t K b lv st u) : ZGo G M d t K i lv (.int x :: st) u := by
  subst hv
  exact g_lsw ht hp ho b hb h
theorem g_callVI {tc : Option (Int32 × ZSt)} {f : Int32 × ZSt → Option β} (ht : (ztb M)[i]? = some (pc, .invokevirtual idx, 3, a)) (hl : Cond.methodLink (zy M).cls idx (zy M') ∈ lw_tbl) (hw : zCV M' n) (hd : d' + 1 ≤ d) {fs : List (Option Nat)} (ho : zsch[o]? = some (.inl (ci, fs))) (hci : ci < 12) (hC : (zcls ci).1 = (zy M').cls) (hst : st = as.reverse ++ .ref o :: rest) (hn : as.length = n) (hcat : (rest.map fun v => v.category).sum ≤ 8)
    (hs : ∀ x, tc = some x → ZSpec G M' d' (.ref o :: as) u (zemI x)) (hk : ∀ r u1, tc = some (r, u1) → zbo (zrt M') (.int r) → ZGo G M d (f (r, u1)) K (i + 1) lv (.int r :: rest) u1) : ZGo G M d (tc.bind f) K i lv st u :=
  g_callV zemI zemI_r ht hl hw hd ho hci hC hst hn hcat hs (fun x e b => hk x.1 x.2 e b)
theorem g_callVP {tc : Option Int32} {f : Int32 → Option β} (ht : (ztb M)[i]? = some (pc, .invokevirtual idx, 3, a)) (hl : Cond.methodLink (zy M).cls idx (zy M') ∈ lw_tbl) (hw : zCV M' n) (hd : d' + 1 ≤ d) {fs : List (Option Nat)} (ho : zsch[o]? = some (.inl (ci, fs))) (hci : ci < 12) (hC : (zcls ci).1 = (zy M').cls) (hst : st = as.reverse ++ .ref o :: rest) (hn : as.length = n) (hcat : (rest.map fun v => v.category).sum ≤ 8)
    (hs : ∀ x, tc = some x → ZSpec G M' d' (.ref o :: as) u (zemP u x)) (hk : ∀ r, tc = some r → zbo (zrt M') (.int r) → ZGo G M d (f r) K (i + 1) lv (.int r :: rest) u) : ZGo G M d (tc.bind f) K i lv st u :=
  g_callV (zemP u) (zemP_r u) ht hl hw hd ho hci hC hst hn hcat hs hk
theorem g_callVV {tc : Option ZSt} {f : ZSt → Option β} (ht : (ztb M)[i]? = some (pc, .invokevirtual idx, 3, a)) (hl : Cond.methodLink (zy M).cls idx (zy M') ∈ lw_tbl) (hw : zCV M' n) (hd : d' + 1 ≤ d) {fs : List (Option Nat)} (ho : zsch[o]? = some (.inl (ci, fs))) (hci : ci < 12) (hC : (zcls ci).1 = (zy M').cls) (hst : st = as.reverse ++ .ref o :: rest) (hn : as.length = n) (hcat : (rest.map fun v => v.category).sum ≤ 8)
    (hs : ∀ x, tc = some x → ZSpec G M' d' (.ref o :: as) u (zemV x)) (hk : ∀ u1, tc = some u1 → zbo (zrt M') .null → ZGo G M d (f u1) K (i + 1) lv rest u1) : ZGo G M d (tc.bind f) K i lv st u :=
  g_callV zemV zemV_r ht hl hw hd ho hci hC hst hn hcat hs hk
theorem g_callVL {tc : Option Int64} {f : Int64 → Option β} (ht : (ztb M)[i]? = some (pc, .invokevirtual idx, 3, a)) (hl : Cond.methodLink (zy M).cls idx (zy M') ∈ lw_tbl) (hw : zCV M' n) (hd : d' + 1 ≤ d) {fs : List (Option Nat)} (ho : zsch[o]? = some (.inl (ci, fs))) (hci : ci < 12) (hC : (zcls ci).1 = (zy M').cls) (hst : st = as.reverse ++ .ref o :: rest) (hn : as.length = n) (hcat : (rest.map fun v => v.category).sum ≤ 8)
    (hs : ∀ x, tc = some x → ZSpec G M' d' (.ref o :: as) u (zemL u x)) (hk : ∀ r, tc = some r → zbo (zrt M') (.long r) → ZGo G M d (f r) K (i + 1) lv (.long r :: rest) u) : ZGo G M d (tc.bind f) K i lv st u :=
  g_callV (zemL u) (zemL_r u) ht hl hw hd ho hci hC hst hn hcat hs hk
theorem g_callSI {tc : Option (Int32 × ZSt)} {f : Int32 × ZSt → Option β} (ht : (ztb M)[i]? = some (pc, .invokestatic idx, 3, a)) (hl : Cond.methodLink (zy M).cls idx (zy M') ∈ lw_tbl) (hw : zCS M' n) (hd : d' + 1 ≤ d) (hst : st = as.reverse ++ rest) (hn : as.length = n) (hcat : (rest.map fun v => v.category).sum ≤ 8)
    (hs : ∀ x, tc = some x → ZSpec G M' d' as u (zemI x)) (hk : ∀ r u1, tc = some (r, u1) → zbo (zrt M') (.int r) → ZGo G M d (f (r, u1)) K (i + 1) lv (.int r :: rest) u1) : ZGo G M d (tc.bind f) K i lv st u :=
  g_callS zemI zemI_r ht hl hw hd hst hn hcat hs (fun x e b => hk x.1 x.2 e b)
theorem g_callSP {tc : Option Int32} {f : Int32 → Option β} (ht : (ztb M)[i]? = some (pc, .invokestatic idx, 3, a)) (hl : Cond.methodLink (zy M).cls idx (zy M') ∈ lw_tbl) (hw : zCS M' n) (hd : d' + 1 ≤ d) (hst : st = as.reverse ++ rest) (hn : as.length = n) (hcat : (rest.map fun v => v.category).sum ≤ 8)
    (hs : ∀ x, tc = some x → ZSpec G M' d' as u (zemP u x)) (hk : ∀ r, tc = some r → zbo (zrt M') (.int r) → ZGo G M d (f r) K (i + 1) lv (.int r :: rest) u) : ZGo G M d (tc.bind f) K i lv st u :=
  g_callS (zemP u) (zemP_r u) ht hl hw hd hst hn hcat hs hk
theorem g_callSL {tc : Option Int64} {f : Int64 → Option β} (ht : (ztb M)[i]? = some (pc, .invokestatic idx, 3, a)) (hl : Cond.methodLink (zy M).cls idx (zy M') ∈ lw_tbl) (hw : zCS M' n) (hd : d' + 1 ≤ d) (hst : st = as.reverse ++ rest) (hn : as.length = n) (hcat : (rest.map fun v => v.category).sum ≤ 8)
    (hs : ∀ x, tc = some x → ZSpec G M' d' as u (zemL u x)) (hk : ∀ r, tc = some r → zbo (zrt M') (.long r) → ZGo G M d (f r) K (i + 1) lv (.long r :: rest) u) : ZGo G M d (tc.bind f) K i lv st u :=
  g_callS (zemL u) (zemL_r u) ht hl hw hd hst hn hcat hs hk
theorem zcopyw : Cond.native arraycopyName ∈ lw_tbl ∧ Cond.static arraycopyName ∈ lw_tbl ∧ Cond.initialized "java/lang/System" ∈ lw_tbl := by decide +kernel
theorem znfw : nativeFrameWords "java/lang/System" "arraycopy" 5 + 11 ≤ 60 := by decide +kernel
theorem g_copyI {k k' n0 n1 : Nat} {sp dp m : Int32} (ht : (ztb M)[i]? = some (pc, .invokestatic idx, 3, a)) (hl : Cond.methodLink (zy M).cls idx arraycopyName ∈ lw_tbl) (h0 : zsch[k]? = some (.inr (0, n0))) (h1 : zsch[k']? = some (.inr (0, n1))) (hd : 1 ≤ d) (h : zcpok sp dp m n0 n1 → ZGo G M d t K (i + 1) lv [] (zcp u k k' sp.toNatClampNeg dp.toNatClampNeg m.toNatClampNeg)) : ZGo G M d (if zcpok sp dp m n0 n1 then t else none) K i lv [.int m, .int dp, .ref k', .int sp, .ref k] u := by
  refine zgo_ck (fun hq => ?_)
  intro tgt htg hc p e0 R s m' args below meth c A cells slots Qf cx H locs ls hP hD hS hlv
  obtain ⟨g1, g2, g3, g4⟩ := zchk_at hc ht
  rw [g2]
  obtain ⟨c1, c2, c3, c4, c5, c6, c7, c8, ⟨r1, r2, r3, r4⟩, c10⟩ := id cx
  obtain ⟨w1, w2, w3⟩ := zcopyw
  have hz := znfw
  refine va_copyi (rest := []) c1 c2 (c3.trans hlv.1.symm) c4 (c5.at hl rfl) (c5.at w1 rfl) (c5.at w2 rfl) (c5.at w3 rfl) c6 hP hD hS k k' 0 0 (zw_int h0) (zw_int h1) rfl rfl rfl hq.1 hq.2.1 hq.2.2.1 hq.2.2.2.1 hq.2.2.2.2 (fun _ _ => rfl) (by omega) (by simp only [List.map_nil, List.sum_nil]; omega) g1 (fun H1 locs1 hP1 hD1 hS1 => ?_)
  have e : (zwg G u).set k' (zga G k', .inl (zgc G 0, n1, .inl (va_cpy (u.2.1 k) (u.2.1 k') sp.toNatClampNeg dp.toNatClampNeg m.toNatClampNeg))) = zwg G (zcp u k k' sp.toNatClampNeg dp.toNatClampNeg m.toNatClampNeg) := by
    refine zw_putA h1 ?_ rfl ?_
    · simp [zE, zcp]
    · intro j hj
      simp [zcp, hj]
  rw [e] at hP1 hD1
  have kk := h hq tgt htg hc p e0 R s m' args below meth c A cells slots Qf cx H1 locs1 ls hP1 hD1 hS1 hlv
  rw [g3 rfl] at kk
  exact kk
theorem g_copyL {k k' n0 n1 : Nat} {sp dp m : Int32} (ht : (ztb M)[i]? = some (pc, .invokestatic idx, 3, a)) (hl : Cond.methodLink (zy M).cls idx arraycopyName ∈ lw_tbl) (h0 : zsch[k]? = some (.inr (1, n0))) (h1 : zsch[k']? = some (.inr (1, n1))) (hd : 1 ≤ d) (h : zcpok sp dp m n0 n1 → ZGo G M d t K (i + 1) lv [] (zcpl u k k' sp.toNatClampNeg dp.toNatClampNeg m.toNatClampNeg)) : ZGo G M d (if zcpok sp dp m n0 n1 then t else none) K i lv [.int m, .int dp, .ref k', .int sp, .ref k] u := by
  refine zgo_ck (fun hq => ?_)
  intro tgt htg hc p e0 R s m' args below meth c A cells slots Qf cx H locs ls hP hD hS hlv
  obtain ⟨g1, g2, g3, g4⟩ := zchk_at hc ht
  rw [g2]
  obtain ⟨c1, c2, c3, c4, c5, c6, c7, c8, ⟨r1, r2, r3, r4⟩, c10⟩ := id cx
  obtain ⟨w1, w2, w3⟩ := zcopyw
  have hz := znfw
  refine va_copyl (rest := []) c1 c2 (c3.trans hlv.1.symm) c4 (c5.at hl rfl) (c5.at w1 rfl) (c5.at w2 rfl) (c5.at w3 rfl) c6 hP hD hS k k' 1 1 (zw_long h0) (zw_long h1) rfl rfl rfl hq.1 hq.2.1 hq.2.2.1 hq.2.2.2.1 hq.2.2.2.2 (fun _ _ => rfl) (by omega) (by simp only [List.map_nil, List.sum_nil]; omega) g1 (fun H1 locs1 hP1 hD1 hS1 => ?_)
  have e : (zwg G u).set k' (zga G k', .inl (zgc G 1, n1, .inr (.inl (va_cpy (u.2.2 k) (u.2.2 k') sp.toNatClampNeg dp.toNatClampNeg m.toNatClampNeg)))) = zwg G (zcpl u k k' sp.toNatClampNeg dp.toNatClampNeg m.toNatClampNeg) := by
    refine zw_putA h1 ?_ rfl ?_
    · simp [zE, zcpl]
    · intro j hj
      simp [zcpl, hj]
  rw [e] at hP1 hD1
  have kk := h hq tgt htg hc p e0 R s m' args below meth c A cells slots Qf cx H1 locs1 ls hP1 hD1 hS1 hlv
  rw [g3 rfl] at kk
  exact kk
abbrev zmin (x y : Int32) : Int32 := if y < x then y else x
theorem zminw : Cond.static Lib.Math.min.name ∈ lw_tbl ∧ Cond.initialized "java/lang/Math" ∈ lw_tbl ∧ Cond.code Lib.Math.min.name Lib.Math.min.code 2 (some .int) ∈ lw_tbl := by decide +kernel
theorem g_mmin {x y : Int32} (ht : (ztb M)[i]? = some (pc, .invokestatic idx, 3, a)) (hl : Cond.methodLink (zy M).cls idx Lib.Math.min.name ∈ lw_tbl) (hd : 1 ≤ d) (hcat : (st.map fun v => v.category).sum ≤ 8) (h : ZGo G M d t K (i + 1) lv (.int (zmin x y) :: st) u) : ZGo G M d t K i lv (.int y :: .int x :: st) u := by
  intro tgt htg hc p e0 R s m' args below meth c A cells slots Qf cx H locs ls hP hD hS hlv
  obtain ⟨g1, g2, g3, g4⟩ := zchk_at hc ht
  rw [g2]
  obtain ⟨c1, c2, c3, c4, c5, c6, c7, c8, ⟨r1, r2, r3, r4⟩, c10⟩ := id cx
  obtain ⟨w1, w2, w3⟩ := zminw
  have kk := h tgt htg hc p e0 R s m' args below meth c A cells slots Qf cx H locs ls hP hD hS hlv
  rw [g3 rfl] at kk
  exact va_mmin (rest := zst G st) c1 c2 (c3.trans hlv.1.symm) c4 (c5.at hl rfl) (c5.at w1 rfl) (c5.at w2 rfl) (c5.at w3 rfl) (by omega) (by rw [zcat_eq]; omega) r3 r4 g1 kk
theorem g_getIx {k idx j : Nat} {fs : List (Option Nat)} {x : Int32} (ht : (ztb M)[i]? = some (pc, .getfield idx, 3, a)) (hw : zFL (zy M).cls idx ci k) (ho : zsch[o]? = some (.inl (ci, fs))) (hf : fs[k]? = some none) (hj : 100 * o + k = j) (hx : u.1 j = x) (h : ZGo G M d t K (i + 1) lv (.int x :: st) u) : ZGo G M d t K i lv (.ref o :: st) u := by
  subst hx
  exact g_getI ht hw ho hf hj h
theorem zgo_iald {k n : Nat} {x y : Int32} (ht : (ztb M)[i]? = some (pc, .iaload, 1, a)) (hk : zsch[k]? = some (.inr (0, n))) (hy : u.2.1 k x.toNatClampNeg = y) (h : zin x n → ZGo G M d t K (i + 1) lv (.int y :: st) u) : ZGo G M d (if zin x n then t else none) K i lv (.int x :: .ref k :: st) u := by
  subst hy
  exact g_iald ht hk h
theorem zgo_lald {k n : Nat} {x : Int32} {y : Int64} (ht : (ztb M)[i]? = some (pc, .laload, 1, a)) (hk : zsch[k]? = some (.inr (1, n))) (hy : u.2.2 k x.toNatClampNeg = y) (h : zin x n → ZGo G M d t K (i + 1) lv (.long y :: st) u) : ZGo G M d (if zin x n then t else none) K i lv (.int x :: .ref k :: st) u := by
  subst hy
  exact g_lald ht hk h
theorem zgo_bald {k n : Nat} {x y : Int32} (ht : (ztb M)[i]? = some (pc, .baload, 1, a)) (hk : zsch[k]? = some (.inr (2, n))) (hy : u.2.1 k x.toNatClampNeg = y) (h : zin x n → ZGo G M d t K (i + 1) lv (.int y :: st) u) : ZGo G M d (if zin x n then t else none) K i lv (.int x :: .ref k :: st) u := by
  subst hy
  exact g_bald ht hk h
end ZMORE
end
section
/-! by program (gen3.py): the methods with their instructions -/
def m_X_isFee : ZM := (yX10_isFee, cX10_isFee, 1, some .boolean, [(0, .iload_n 0, 1, 0), (1, .ifCond .lt 13, 3, 7), (4, .iload_n 0, 1, 0), (5, .bipush 99, 2, 0), (7, .if_icmp .gt 7, 3, 7), (10, .iconst 1, 1, 0), (11, .goto 4, 3, 8), (14, .iconst 0, 1, 0), (15, .ireturn, 1, 0)])
theorem k_X_isFee : zchk m_X_isFee = true := by decide +kernel
def m_Council_addPerson : ZM := (yX3_addPerson, cX3_addPerson, 2, some .int, [(0, .aload_n 0, 1, 0), (1, .getfield 28, 3, 0), (4, .bipush 10, 2, 0), (6, .if_icmp .lt 6, 3, 6), (9, .bipush (-3), 2, 0), (11, .ireturn, 1, 0), (12, .aload_n 0, 1, 0), (13, .getfield 9, 3, 0), (16, .aload_n 0, 1, 0), (17, .getfield 28, 3, 0), (20, .iload_n 1, 1, 0), (21, .iastore, 1, 0), (22, .aload_n 0, 1, 0), (23, .dup, 1, 0), (24, .getfield 28, 3, 0), (27, .iconst 1, 1, 0), (28, .iadd, 1, 0), (29, .putfield 28, 3, 0), (32, .aload_n 0, 1, 0), (33, .getfield 28, 3, 0), (36, .iconst 1, 1, 0), (37, .isub, 1, 0), (38, .ireturn, 1, 0)])
theorem k_Council_addPerson : zchk m_Council_addPerson = true := by decide +kernel
def m_X_person : ZM := (yX10_person, cX10_person, 2, some .int, [(0, .iload_n 1, 1, 0), (1, .invokestatic 87, 3, 0), (4, .ifCond .ne 5, 3, 5), (7, .iconst (-1), 1, 0), (8, .ireturn, 1, 0), (9, .aload_n 0, 1, 0), (10, .getfield 10, 3, 0), (13, .iload_n 1, 1, 0), (14, .invokevirtual 91, 3, 0), (17, .ireturn, 1, 0)])
theorem k_X_person : zchk m_X_person = true := by decide +kernel
def m_M_within : ZM := (yX11_within, cX11_within, 6, some .boolean, [(0, .lload_n 0, 1, 0), (1, .lload_n 2, 1, 0), (2, .lcmp, 1, 0), (3, .ifCond .lt 14, 3, 10), (6, .lload_n 0, 1, 0), (7, .lload 4, 2, 0), (9, .lcmp, 1, 0), (10, .ifCond .gt 7, 3, 10), (13, .iconst 1, 1, 0), (14, .goto 4, 3, 11), (17, .iconst 0, 1, 0), (18, .ireturn, 1, 0)])
theorem k_M_within : zchk m_M_within = true := by decide +kernel
def m_M_person : ZM := (yX11_person, cX11_person, 2, some .int, [(0, .iload_n 1, 1, 0), (1, .i2l, 1, 0), (2, .lconst 0, 1, 0), (3, .ldc2_w 111, 3, 0), (6, .invokestatic 97, 3, 0), (9, .ifCond .ne 5, 3, 8), (12, .iconst (-1), 1, 0), (13, .ireturn, 1, 0), (14, .aload_n 0, 1, 0), (15, .getfield 94, 3, 0), (18, .bipush 10, 2, 0), (20, .if_icmp .ne 6, 3, 14), (23, .bipush (-3), 2, 0), (25, .ireturn, 1, 0), (26, .aload_n 0, 1, 0), (27, .getfield 22, 3, 0), (30, .aload_n 0, 1, 0), (31, .getfield 94, 3, 0), (34, .iload_n 1, 1, 0), (35, .iastore, 1, 0), (36, .aload_n 0, 1, 0), (37, .dup, 1, 0), (38, .getfield 94, 3, 0), (41, .iconst 1, 1, 0), (42, .iadd, 1, 0), (43, .putfield 94, 3, 0), (46, .aload_n 0, 1, 0), (47, .getfield 94, 3, 0), (50, .iconst 1, 1, 0), (51, .isub, 1, 0), (52, .ireturn, 1, 0)])
theorem k_M_person : zchk m_M_person = true := by decide +kernel
def m_Shelves_isShelf : ZM := (yX7_isShelf, cX7_isShelf, 2, some .boolean, [(0, .iload_n 1, 1, 0), (1, .ifCond .lt 13, 3, 7), (4, .iload_n 1, 1, 0), (5, .bipush 6, 2, 0), (7, .if_icmp .ge 7, 3, 7), (10, .iconst 1, 1, 0), (11, .goto 4, 3, 8), (14, .iconst 0, 1, 0), (15, .ireturn, 1, 0)])
theorem k_Shelves_isShelf : zchk m_Shelves_isShelf = true := by decide +kernel
def m_Shelves_held : ZM := (yX7_held, cX7_held, 2, some .int, [(0, .aload_n 0, 1, 0), (1, .iload_n 1, 1, 0), (2, .invokevirtual 25, 3, 0), (5, .ifCond .eq 12, 3, 9), (8, .aload_n 0, 1, 0), (9, .getfield 11, 3, 0), (12, .iload_n 1, 1, 0), (13, .iaload, 1, 0), (14, .goto 4, 3, 10), (17, .iconst (-1), 1, 0), (18, .ireturn, 1, 0)])
theorem k_Shelves_held : zchk m_Shelves_held = true := by decide +kernel
def m_Shelves_hasPlace : ZM := (yX7_hasPlace, cX7_hasPlace, 3, some .boolean, [(0, .iload_n 1, 1, 0), (1, .ifCond .lt 27, 3, 15), (4, .iload_n 1, 1, 0), (5, .bipush 6, 2, 0), (7, .if_icmp .ge 21, 3, 15), (10, .iload_n 2, 1, 0), (11, .ifCond .lt 17, 3, 15), (14, .iload_n 2, 1, 0), (15, .aload_n 0, 1, 0), (16, .getfield 15, 3, 0), (19, .iload_n 1, 1, 0), (20, .iaload, 1, 0), (21, .if_icmp .ge 7, 3, 15), (24, .iconst 1, 1, 0), (25, .goto 4, 3, 16), (28, .iconst 0, 1, 0), (29, .ireturn, 1, 0)])
theorem k_Shelves_hasPlace : zchk m_Shelves_hasPlace = true := by decide +kernel
def m_Shelves_valueAt : ZM := (yX7_valueAt, cX7_valueAt, 3, some .long, [(0, .aload_n 0, 1, 0), (1, .iload_n 1, 1, 0), (2, .iload_n 2, 1, 0), (3, .invokevirtual 32, 3, 0), (6, .ifCond .eq 17, 3, 14), (9, .aload_n 0, 1, 0), (10, .getfield 21, 3, 0), (13, .bipush 60, 2, 0), (15, .iload_n 1, 1, 0), (16, .imul, 1, 0), (17, .iload_n 2, 1, 0), (18, .iadd, 1, 0), (19, .laload, 1, 0), (20, .goto 4, 3, 15), (23, .lconst 0, 1, 0), (24, .lreturn, 1, 0)])
theorem k_Shelves_valueAt : zchk m_Shelves_valueAt = true := by decide +kernel
def m_X_comesFrom : ZM := (yX10_comesFrom, cX10_comesFrom, 4, some .boolean, [(0, .aload_n 0, 1, 0), (1, .getfield 60, 3, 0), (4, .iload_n 1, 1, 0), (5, .iload_n 2, 1, 0), (6, .invokevirtual 105, 3, 0), (9, .ifCond .ne 5, 3, 8), (12, .iconst 0, 1, 0), (13, .ireturn, 1, 0), (14, .aload_n 0, 1, 0), (15, .getfield 60, 3, 0), (18, .iload_n 1, 1, 0), (19, .iload_n 2, 1, 0), (20, .invokevirtual 108, 3, 0), (23, .l2i, 1, 0), (24, .istore_n 3, 1, 0), (25, .iload_n 3, 1, 0), (26, .invokestatic 87, 3, 0), (29, .ifCond .eq 18, 3, 25), (32, .aload_n 0, 1, 0), (33, .getfield 10, 3, 0), (36, .iload_n 3, 1, 0), (37, .invokevirtual 91, 3, 0), (40, .ifCond .lt 7, 3, 25), (43, .iconst 1, 1, 0), (44, .goto 4, 3, 26), (47, .iconst 0, 1, 0), (48, .ireturn, 1, 0)])
theorem k_X_comesFrom : zchk m_X_comesFrom = true := by decide +kernel
def m_X_people : ZM := (yX10_people, cX10_people, 5, some .int, [(0, .aload_n 0, 1, 0), (1, .getfield 60, 3, 0), (4, .iload_n 1, 1, 0), (5, .invokevirtual 95, 3, 0), (8, .ifCond .eq 14, 3, 11), (11, .iload_n 3, 1, 0), (12, .iconst 1, 1, 0), (13, .if_icmp .lt 9, 3, 11), (16, .iload_n 3, 1, 0), (17, .bipush 10, 2, 0), (19, .if_icmp .le 5, 3, 13), (22, .iconst (-1), 1, 0), (23, .ireturn, 1, 0), (24, .aload_n 0, 1, 0), (25, .getfield 60, 3, 0), (28, .iload_n 1, 1, 0), (29, .invokevirtual 98, 3, 0), (32, .iconst (-1), 1, 0), (33, .if_icmp .ne 5, 3, 21), (36, .iconst 0, 1, 0), (37, .ireturn, 1, 0), (38, .aload_n 0, 1, 0), (39, .getfield 60, 3, 0), (42, .iload_n 1, 1, 0), (43, .invokevirtual 98, 3, 0), (46, .ifCond .eq 6, 3, 28), (49, .bipush (-12), 2, 0), (51, .ireturn, 1, 0), (52, .iconst 0, 1, 0), (53, .istore 4, 2, 0), (55, .iload 4, 2, 0), (57, .iload_n 3, 1, 0), (58, .if_icmp .ge 21, 3, 42), (61, .aload_n 0, 1, 0), (62, .iload_n 1, 1, 0), (63, .iload_n 2, 1, 0), (64, .iload 4, 2, 0), (66, .iadd, 1, 0), (67, .invokevirtual 101, 3, 0), (70, .ifCond .eq 9, 3, 42), (73, .iinc 4 1, 3, 0), (76, .goto (-21), 3, 30), (79, .iload 4, 2, 0), (81, .ireturn, 1, 0)])
theorem k_X_people : zchk m_X_people = true := by decide +kernel
def m_M_isShelf : ZM := (yX11_isShelf, cX11_isShelf, 1, some .boolean, [(0, .iload_n 0, 1, 0), (1, .i2l, 1, 0), (2, .lconst 0, 1, 0), (3, .ldc2_w 311, 3, 0), (6, .invokestatic 97, 3, 0), (9, .ireturn, 1, 0)])
theorem k_M_isShelf : zchk m_M_isShelf = true := by decide +kernel
def m_M_people : ZM := (yX11_people, cX11_people, 6, some .int, [(0, .iload_n 1, 1, 0), (1, .invokestatic 113, 3, 0), (4, .ifCond .eq 15, 3, 9), (7, .iload_n 3, 1, 0), (8, .i2l, 1, 0), (9, .lconst 1, 1, 0), (10, .ldc2_w 116, 3, 0), (13, .invokestatic 97, 3, 0), (16, .ifCond .ne 5, 3, 11), (19, .iconst (-1), 1, 0), (20, .ireturn, 1, 0), (21, .aload_n 0, 1, 0), (22, .getfield 65, 3, 0), (25, .iload_n 1, 1, 0), (26, .iaload, 1, 0), (27, .ifCond .lt 17, 3, 24), (30, .aload_n 0, 1, 0), (31, .getfield 65, 3, 0), (34, .iload_n 1, 1, 0), (35, .iaload, 1, 0), (36, .bipush 50, 2, 0), (38, .if_icmp .eq 6, 3, 24), (41, .bipush (-12), 2, 0), (43, .ireturn, 1, 0), (44, .iconst 0, 1, 0), (45, .istore 4, 2, 0), (47, .aload_n 0, 1, 0), (48, .getfield 65, 3, 0), (51, .iload_n 1, 1, 0), (52, .iaload, 1, 0), (53, .bipush 50, 2, 0), (55, .if_icmp .ne 11, 3, 36), (58, .iload_n 2, 1, 0), (59, .ifCond .lt 7, 3, 36), (62, .iconst 1, 1, 0), (63, .goto 4, 3, 37), (66, .iconst 0, 1, 0), (67, .istore 5, 2, 0), (69, .iload 5, 2, 0), (71, .ifCond .eq 121, 3, 107), (74, .iload 4, 2, 0), (76, .iload_n 3, 1, 0), (77, .if_icmp .ge 115, 3, 107), (80, .iload_n 2, 1, 0), (81, .aload_n 0, 1, 0), (82, .getfield 68, 3, 0), (85, .iload_n 1, 1, 0), (86, .iaload, 1, 0), (87, .iconst 1, 1, 0), (88, .isub, 1, 0), (89, .iload 4, 2, 0), (91, .isub, 1, 0), (92, .if_icmp .gt 16, 3, 59), (95, .aload_n 0, 1, 0), (96, .getfield 94, 3, 0), (99, .bipush 10, 2, 0), (101, .if_icmp .ge 7, 3, 59), (104, .iconst 1, 1, 0), (105, .goto 4, 3, 60), (108, .iconst 0, 1, 0), (109, .istore 5, 2, 0), (111, .iload 5, 2, 0), (113, .ifCond .eq 31, 3, 79), (116, .aload_n 0, 1, 0), (117, .getfield 71, 3, 0), (120, .bipush 60, 2, 0), (122, .iload_n 1, 1, 0), (123, .imul, 1, 0), (124, .iload_n 2, 1, 0), (125, .iadd, 1, 0), (126, .iload 4, 2, 0), (128, .iadd, 1, 0), (129, .laload, 1, 0), (130, .lconst 0, 1, 0), (131, .ldc2_w 111, 3, 0), (134, .invokestatic 97, 3, 0), (137, .ifCond .eq 7, 3, 79), (140, .iconst 1, 1, 0), (141, .goto 4, 3, 80), (144, .iconst 0, 1, 0), (145, .istore 5, 2, 0), (147, .iload 5, 2, 0), (149, .ifCond .eq (-80), 3, 38), (152, .aload_n 0, 1, 0), (153, .getfield 22, 3, 0), (156, .aload_n 0, 1, 0), (157, .getfield 94, 3, 0), (160, .aload_n 0, 1, 0), (161, .getfield 71, 3, 0), (164, .bipush 60, 2, 0), (166, .iload_n 1, 1, 0), (167, .imul, 1, 0), (168, .iload_n 2, 1, 0), (169, .iadd, 1, 0), (170, .iload 4, 2, 0), (172, .iadd, 1, 0), (173, .laload, 1, 0), (174, .l2i, 1, 0), (175, .iastore, 1, 0), (176, .aload_n 0, 1, 0), (177, .dup, 1, 0), (178, .getfield 94, 3, 0), (181, .iconst 1, 1, 0), (182, .iadd, 1, 0), (183, .putfield 94, 3, 0), (186, .iinc 4 1, 3, 0), (189, .goto (-120), 3, 38), (192, .iload 4, 2, 0), (194, .ireturn, 1, 0)])
theorem k_M_people : zchk m_M_people = true := by decide +kernel
def m_Council_isPerson : ZM := (yX3_isPerson, cX3_isPerson, 2, some .boolean, [(0, .iload_n 1, 1, 0), (1, .ifCond .lt 15, 3, 8), (4, .iload_n 1, 1, 0), (5, .aload_n 0, 1, 0), (6, .getfield 28, 3, 0), (9, .if_icmp .ge 7, 3, 8), (12, .iconst 1, 1, 0), (13, .goto 4, 3, 9), (16, .iconst 0, 1, 0), (17, .ireturn, 1, 0)])
theorem k_Council_isPerson : zchk m_Council_isPerson = true := by decide +kernel
def m_Council_isTwo : ZM := (yX3_isTwo, cX3_isTwo, 2, some .boolean, [(0, .iload_n 1, 1, 0), (1, .ifCond .lt 29, 3, 16), (4, .aload_n 0, 1, 0), (5, .iload_n 1, 1, 0), (6, .bipush 10, 2, 0), (8, .idiv, 1, 0), (9, .invokevirtual 34, 3, 0), (12, .ifCond .eq 18, 3, 16), (15, .aload_n 0, 1, 0), (16, .iload_n 1, 1, 0), (17, .bipush 10, 2, 0), (19, .irem, 1, 0), (20, .invokevirtual 34, 3, 0), (23, .ifCond .eq 7, 3, 16), (26, .iconst 1, 1, 0), (27, .goto 4, 3, 17), (30, .iconst 0, 1, 0), (31, .ireturn, 1, 0)])
theorem k_Council_isTwo : zchk m_Council_isTwo = true := by decide +kernel
def m_Council_stepsOf : ZM := (yX3_stepsOf, cX3_stepsOf, 4, some .int, [(0, .bipush 10, 2, 0), (2, .iload_n 1, 1, 0), (3, .imul, 1, 0), (4, .iload_n 2, 1, 0), (5, .iadd, 1, 0), (6, .istore_n 3, 1, 0), (7, .iload_n 3, 1, 0), (8, .ifCond .lt 18, 3, 16), (11, .iload_n 3, 1, 0), (12, .bipush 100, 2, 0), (14, .if_icmp .ge 12, 3, 16), (17, .aload_n 0, 1, 0), (18, .getfield 15, 3, 0), (21, .iload_n 3, 1, 0), (22, .iaload, 1, 0), (23, .goto 5, 3, 17), (26, .bipush 9, 2, 0), (28, .ireturn, 1, 0)])
theorem k_Council_stepsOf : zchk m_Council_stepsOf = true := by decide +kernel
def m_Council_addPair : ZM := (yX3_addPair, cX3_addPair, 8, some .int, [(0, .aload_n 0, 1, 0), (1, .iload_n 1, 1, 0), (2, .iload_n 2, 1, 0), (3, .invokevirtual 45, 3, 0), (6, .iconst 2, 1, 0), (7, .if_icmp .ge 5, 3, 8), (10, .iconst (-1), 1, 0), (11, .ireturn, 1, 0), (12, .aload_n 0, 1, 0), (13, .getfield 49, 3, 0), (16, .bipush 12, 2, 0), (18, .if_icmp .lt 6, 3, 14), (21, .bipush (-3), 2, 0), (23, .ireturn, 1, 0), (24, .aload_n 0, 1, 0), (25, .dup, 1, 0), (26, .getfield 49, 3, 0), (29, .iconst 1, 1, 0), (30, .iadd, 1, 0), (31, .putfield 49, 3, 0), (34, .iconst 0, 1, 0), (35, .istore_n 3, 1, 0), (36, .iload_n 3, 1, 0), (37, .bipush 100, 2, 0), (39, .if_icmp .ge 81, 3, 71), (42, .iload_n 3, 1, 0), (43, .bipush 10, 2, 0), (45, .idiv, 1, 0), (46, .istore 4, 2, 0), (48, .iload_n 3, 1, 0), (49, .bipush 10, 2, 0), (51, .irem, 1, 0), (52, .istore 5, 2, 0), (54, .aload_n 0, 1, 0), (55, .iload 4, 2, 0), (57, .iload_n 1, 1, 0), (58, .invokevirtual 45, 3, 0), (61, .iconst 1, 1, 0), (62, .iadd, 1, 0), (63, .aload_n 0, 1, 0), (64, .iload_n 2, 1, 0), (65, .iload 5, 2, 0), (67, .invokevirtual 45, 3, 0), (70, .iadd, 1, 0), (71, .istore 6, 2, 0), (73, .aload_n 0, 1, 0), (74, .iload 4, 2, 0), (76, .iload_n 2, 1, 0), (77, .invokevirtual 45, 3, 0), (80, .iconst 1, 1, 0), (81, .iadd, 1, 0), (82, .aload_n 0, 1, 0), (83, .iload_n 1, 1, 0), (84, .iload 5, 2, 0), (86, .invokevirtual 45, 3, 0), (89, .iadd, 1, 0), (90, .istore 7, 2, 0), (92, .aload_n 0, 1, 0), (93, .getfield 15, 3, 0), (96, .iload_n 3, 1, 0), (97, .aload_n 0, 1, 0), (98, .getfield 15, 3, 0), (101, .iload_n 3, 1, 0), (102, .iaload, 1, 0), (103, .iload 6, 2, 0), (105, .iload 7, 2, 0), (107, .invokestatic 52, 3, 0), (110, .invokestatic 52, 3, 0), (113, .iastore, 1, 0), (114, .iinc 3 1, 3, 0), (117, .goto (-81), 3, 22), (120, .aload_n 0, 1, 0), (121, .getfield 49, 3, 0), (124, .ireturn, 1, 0)])
theorem k_Council_addPair : zchk m_Council_addPair = true := by decide +kernel
def m_X_cousins : ZM := (yX10_cousins, cX10_cousins, 2, some .int, [(0, .aload_n 0, 1, 0), (1, .getfield 10, 3, 0), (4, .iload_n 1, 1, 0), (5, .invokevirtual 112, 3, 0), (8, .ifCond .ne 5, 3, 7), (11, .iconst (-1), 1, 0), (12, .ireturn, 1, 0), (13, .aload_n 0, 1, 0), (14, .getfield 10, 3, 0), (17, .iload_n 1, 1, 0), (18, .bipush 10, 2, 0), (20, .idiv, 1, 0), (21, .iload_n 1, 1, 0), (22, .bipush 10, 2, 0), (24, .irem, 1, 0), (25, .invokevirtual 115, 3, 0), (28, .ireturn, 1, 0)])
theorem k_X_cousins : zchk m_X_cousins = true := by decide +kernel
def m_M_isPerson : ZM := (yX11_isPerson, cX11_isPerson, 2, some .boolean, [(0, .iload_n 1, 1, 0), (1, .i2l, 1, 0), (2, .lconst 0, 1, 0), (3, .aload_n 0, 1, 0), (4, .getfield 94, 3, 0), (7, .iconst 1, 1, 0), (8, .isub, 1, 0), (9, .i2l, 1, 0), (10, .invokestatic 97, 3, 0), (13, .ireturn, 1, 0)])
theorem k_M_isPerson : zchk m_M_isPerson = true := by decide +kernel
def m_M_isIn : ZM := (yX11_isIn, cX11_isIn, 2, some .boolean, [(0, .iload_n 0, 1, 0), (1, .iload_n 1, 1, 0), (2, .ishr, 1, 0), (3, .iconst 1, 1, 0), (4, .iand, 1, 0), (5, .iconst 1, 1, 0), (6, .if_icmp .ne 7, 3, 9), (9, .iconst 1, 1, 0), (10, .goto 4, 3, 10), (13, .iconst 0, 1, 0), (14, .ireturn, 1, 0)])
theorem k_M_isIn : zchk m_M_isIn = true := by decide +kernel
def m_M_cousins : ZM := (yX11_cousins, cX11_cousins, 2, some .int, [(0, .iload_n 1, 1, 0), (1, .ifCond .lt 55, 3, 32), (4, .aload_n 0, 1, 0), (5, .iload_n 1, 1, 0), (6, .bipush 10, 2, 0), (8, .idiv, 1, 0), (9, .invokevirtual 104, 3, 0), (12, .ifCond .eq 44, 3, 32), (15, .aload_n 0, 1, 0), (16, .iload_n 1, 1, 0), (17, .bipush 10, 2, 0), (19, .irem, 1, 0), (20, .invokevirtual 104, 3, 0), (23, .ifCond .eq 33, 3, 32), (26, .iload_n 1, 1, 0), (27, .bipush 10, 2, 0), (29, .idiv, 1, 0), (30, .iload_n 1, 1, 0), (31, .bipush 10, 2, 0), (33, .irem, 1, 0), (34, .if_icmp .eq 22, 3, 32), (37, .aload_n 0, 1, 0), (38, .getfield 25, 3, 0), (41, .iload_n 1, 1, 0), (42, .bipush 10, 2, 0), (44, .idiv, 1, 0), (45, .iaload, 1, 0), (46, .iload_n 1, 1, 0), (47, .bipush 10, 2, 0), (49, .irem, 1, 0), (50, .invokestatic 118, 3, 0), (53, .ifCond .eq 5, 3, 34), (56, .iconst (-1), 1, 0), (57, .ireturn, 1, 0), (58, .aload_n 0, 1, 0), (59, .getfield 122, 3, 0), (62, .bipush 12, 2, 0), (64, .if_icmp .ne 6, 3, 40), (67, .bipush (-3), 2, 0), (69, .ireturn, 1, 0), (70, .aload_n 0, 1, 0), (71, .getfield 25, 3, 0), (74, .iload_n 1, 1, 0), (75, .bipush 10, 2, 0), (77, .idiv, 1, 0), (78, .dup2, 1, 0), (79, .iaload, 1, 0), (80, .iconst 1, 1, 0), (81, .iload_n 1, 1, 0), (82, .bipush 10, 2, 0), (84, .irem, 1, 0), (85, .ishl, 1, 0), (86, .ior, 1, 0), (87, .iastore, 1, 0), (88, .aload_n 0, 1, 0), (89, .getfield 25, 3, 0), (92, .iload_n 1, 1, 0), (93, .bipush 10, 2, 0), (95, .irem, 1, 0), (96, .dup2, 1, 0), (97, .iaload, 1, 0), (98, .iconst 1, 1, 0), (99, .iload_n 1, 1, 0), (100, .bipush 10, 2, 0), (102, .idiv, 1, 0), (103, .ishl, 1, 0), (104, .ior, 1, 0), (105, .iastore, 1, 0), (106, .aload_n 0, 1, 0), (107, .dup, 1, 0), (108, .getfield 122, 3, 0), (111, .iconst 1, 1, 0), (112, .iadd, 1, 0), (113, .putfield 122, 3, 0), (116, .aload_n 0, 1, 0), (117, .getfield 122, 3, 0), (120, .ireturn, 1, 0)])
theorem k_M_cousins : zchk m_M_cousins = true := by decide +kernel
def m_Council_tell : ZM := (yX3_tell, cX3_tell, 3, none, [(0, .iload_n 1, 1, 0), (1, .ifCond .lt 19, 3, 12), (4, .iload_n 1, 1, 0), (5, .aload_n 0, 1, 0), (6, .getfield 18, 3, 0), (9, .arraylength, 1, 0), (10, .if_icmp .ge 10, 3, 12), (13, .aload_n 0, 1, 0), (14, .getfield 18, 3, 0), (17, .iload_n 1, 1, 0), (18, .iload_n 2, 1, 0), (19, .iastore, 1, 0), (20, .return_, 1, 0)])
theorem k_Council_tell : zchk m_Council_tell = true := by decide +kernel
def m_Council_addMatter : ZM := (yX3_addMatter, cX3_addMatter, 1, some .int, [(0, .aload_n 0, 1, 0), (1, .getfield 31, 3, 0), (4, .bipush 6, 2, 0), (6, .if_icmp .lt 6, 3, 6), (9, .bipush (-3), 2, 0), (11, .ireturn, 1, 0), (12, .aload_n 0, 1, 0), (13, .sipush 200, 3, 0), (16, .aload_n 0, 1, 0), (17, .getfield 31, 3, 0), (20, .iadd, 1, 0), (21, .bipush 12, 2, 0), (23, .invokevirtual 57, 3, 0), (26, .aload_n 0, 1, 0), (27, .dup, 1, 0), (28, .getfield 31, 3, 0), (31, .iconst 1, 1, 0), (32, .iadd, 1, 0), (33, .putfield 31, 3, 0), (36, .aload_n 0, 1, 0), (37, .getfield 31, 3, 0), (40, .iconst 1, 1, 0), (41, .isub, 1, 0), (42, .ireturn, 1, 0)])
theorem k_Council_addMatter : zchk m_Council_addMatter = true := by decide +kernel
def m_X_matter : ZM := (yX10_matter, cX10_matter, 1, some .int, [(0, .aload_n 0, 1, 0), (1, .getfield 10, 3, 0), (4, .invokevirtual 119, 3, 0), (7, .ireturn, 1, 0)])
theorem k_X_matter : zchk m_X_matter = true := by decide +kernel
def m_M_matter : ZM := (yX11_matter, cX11_matter, 1, some .int, [(0, .aload_n 0, 1, 0), (1, .getfield 101, 3, 0), (4, .bipush 6, 2, 0), (6, .if_icmp .ne 6, 3, 6), (9, .bipush (-3), 2, 0), (11, .ireturn, 1, 0), (12, .aload_n 0, 1, 0), (13, .getfield 9, 3, 0), (16, .bipush 120, 2, 0), (18, .aload_n 0, 1, 0), (19, .getfield 101, 3, 0), (22, .iadd, 1, 0), (23, .bipush 12, 2, 0), (25, .iastore, 1, 0), (26, .aload_n 0, 1, 0), (27, .dup, 1, 0), (28, .getfield 101, 3, 0), (31, .iconst 1, 1, 0), (32, .iadd, 1, 0), (33, .putfield 101, 3, 0), (36, .aload_n 0, 1, 0), (37, .getfield 101, 3, 0), (40, .iconst 1, 1, 0), (41, .isub, 1, 0), (42, .ireturn, 1, 0)])
theorem k_M_matter : zchk m_M_matter = true := by decide +kernel
def m_Council_isMatter : ZM := (yX3_isMatter, cX3_isMatter, 2, some .boolean, [(0, .iload_n 1, 1, 0), (1, .ifCond .lt 15, 3, 8), (4, .iload_n 1, 1, 0), (5, .aload_n 0, 1, 0), (6, .getfield 31, 3, 0), (9, .if_icmp .ge 7, 3, 8), (12, .iconst 1, 1, 0), (13, .goto 4, 3, 9), (16, .iconst 0, 1, 0), (17, .ireturn, 1, 0)])
theorem k_Council_isMatter : zchk m_Council_isMatter = true := by decide +kernel
def m_Council_slotOf : ZM := (yX3_slotOf, cX3_slotOf, 4, some .int, [(0, .iload_n 2, 1, 0), (1, .iconst 2, 1, 0), (2, .if_icmp .ne 21, 3, 13), (5, .aload_n 0, 1, 0), (6, .iload_n 1, 1, 0), (7, .invokevirtual 61, 3, 0), (10, .ifCond .eq 11, 3, 11), (13, .sipush 200, 3, 0), (16, .iload_n 1, 1, 0), (17, .iadd, 1, 0), (18, .goto 4, 3, 12), (21, .iconst (-1), 1, 0), (22, .ireturn, 1, 0), (23, .iload_n 1, 1, 0), (24, .ifCond .lt 29, 3, 29), (27, .aload_n 0, 1, 0), (28, .iload_n 1, 1, 0), (29, .bipush 10, 2, 0), (31, .idiv, 1, 0), (32, .invokevirtual 34, 3, 0), (35, .ifCond .eq 18, 3, 29), (38, .aload_n 0, 1, 0), (39, .iload_n 1, 1, 0), (40, .bipush 10, 2, 0), (42, .irem, 1, 0), (43, .invokevirtual 61, 3, 0), (46, .ifCond .eq 7, 3, 29), (49, .iconst 1, 1, 0), (50, .goto 4, 3, 30), (53, .iconst 0, 1, 0), (54, .istore_n 3, 1, 0), (55, .iload_n 3, 1, 0), (56, .ifCond .eq 21, 3, 44), (59, .iload_n 2, 1, 0), (60, .ifCond .eq 8, 3, 38), (63, .iload_n 2, 1, 0), (64, .iconst 1, 1, 0), (65, .if_icmp .ne 12, 3, 44), (68, .iload_n 2, 1, 0), (69, .bipush 100, 2, 0), (71, .imul, 1, 0), (72, .iload_n 1, 1, 0), (73, .iadd, 1, 0), (74, .goto 4, 3, 45), (77, .iconst (-1), 1, 0), (78, .ireturn, 1, 0)])
theorem k_Council_slotOf : zchk m_Council_slotOf = true := by decide +kernel
def m_Council_leastOf : ZM := (yX3_leastOf, cX3_leastOf, 1, some .int, [(0, .iload_n 0, 1, 0), (1, .iconst 1, 1, 0), (2, .if_icmp .ne 8, 3, 5), (5, .bipush (-9), 2, 0), (7, .goto 4, 3, 6), (10, .iconst 0, 1, 0), (11, .ireturn, 1, 0)])
theorem k_Council_leastOf : zchk m_Council_leastOf = true := by decide +kernel
def m_Council_mostOf : ZM := (yX3_mostOf, cX3_mostOf, 1, some .int, [(0, .iload_n 0, 1, 0), (1, .lookupswitch 33 #[(0, 27), (1, 30)], 27, 0), (28, .bipush 99, 2, 0), (30, .ireturn, 1, 0), (31, .bipush 9, 2, 0), (33, .ireturn, 1, 0), (34, .bipush 12, 2, 0), (36, .ireturn, 1, 0)])
theorem k_Council_mostOf : zchk m_Council_mostOf = true := by decide +kernel
def m_Council_toldAt : ZM := (yX3_toldAt, cX3_toldAt, 2, some .int, [(0, .iload_n 1, 1, 0), (1, .ifCond .lt 21, 3, 12), (4, .iload_n 1, 1, 0), (5, .aload_n 0, 1, 0), (6, .getfield 18, 3, 0), (9, .arraylength, 1, 0), (10, .if_icmp .ge 12, 3, 12), (13, .aload_n 0, 1, 0), (14, .getfield 18, 3, 0), (17, .iload_n 1, 1, 0), (18, .iaload, 1, 0), (19, .goto 4, 3, 13), (22, .iconst 0, 1, 0), (23, .ireturn, 1, 0)])
theorem k_Council_toldAt : zchk m_Council_toldAt = true := by decide +kernel
def m_Changes_forgetOldest : ZM := (yX1_forgetOldest, cX1_forgetOldest, 1, none, [(0, .aload_n 0, 1, 0), (1, .getfield 9, 3, 0), (4, .iconst 1, 1, 0), (5, .aload_n 0, 1, 0), (6, .getfield 9, 3, 0), (9, .iconst 0, 1, 0), (10, .bipush 39, 2, 0), (12, .invokestatic 43, 3, 0), (15, .aload_n 0, 1, 0), (16, .getfield 13, 3, 0), (19, .iconst 1, 1, 0), (20, .aload_n 0, 1, 0), (21, .getfield 13, 3, 0), (24, .iconst 0, 1, 0), (25, .bipush 39, 2, 0), (27, .invokestatic 43, 3, 0), (30, .aload_n 0, 1, 0), (31, .getfield 16, 3, 0), (34, .iconst 1, 1, 0), (35, .aload_n 0, 1, 0), (36, .getfield 16, 3, 0), (39, .iconst 0, 1, 0), (40, .bipush 39, 2, 0), (42, .invokestatic 43, 3, 0), (45, .aload_n 0, 1, 0), (46, .bipush 39, 2, 0), (48, .putfield 33, 3, 0), (51, .return_, 1, 0)])
theorem k_Changes_forgetOldest : zchk m_Changes_forgetOldest = true := by decide +kernel
def m_Changes_make : ZM := (yX1_make, cX1_make, 4, some .int, [(0, .aload_n 0, 1, 0), (1, .getfield 19, 3, 0), (4, .iload_n 1, 1, 0), (5, .invokevirtual 23, 3, 0), (8, .istore_n 3, 1, 0), (9, .iload_n 3, 1, 0), (10, .iload_n 2, 1, 0), (11, .if_icmp .ne 5, 3, 10), (14, .iload_n 3, 1, 0), (15, .ireturn, 1, 0), (16, .aload_n 0, 1, 0), (17, .getfield 19, 3, 0), (20, .iload_n 1, 1, 0), (21, .iload_n 2, 1, 0), (22, .invokevirtual 29, 3, 0), (25, .aload_n 0, 1, 0), (26, .getfield 33, 3, 0), (29, .bipush 40, 2, 0), (31, .if_icmp .lt 7, 3, 21), (34, .aload_n 0, 1, 0), (35, .invokevirtual 37, 3, 0), (38, .aload_n 0, 1, 0), (39, .getfield 9, 3, 0), (42, .aload_n 0, 1, 0), (43, .getfield 33, 3, 0), (46, .iload_n 1, 1, 0), (47, .iastore, 1, 0), (48, .aload_n 0, 1, 0), (49, .getfield 13, 3, 0), (52, .aload_n 0, 1, 0), (53, .getfield 33, 3, 0), (56, .iload_n 3, 1, 0), (57, .iastore, 1, 0), (58, .aload_n 0, 1, 0), (59, .getfield 16, 3, 0), (62, .aload_n 0, 1, 0), (63, .getfield 33, 3, 0), (66, .iload_n 2, 1, 0), (67, .iastore, 1, 0), (68, .aload_n 0, 1, 0), (69, .dup, 1, 0), (70, .getfield 33, 3, 0), (73, .iconst 1, 1, 0), (74, .iadd, 1, 0), (75, .putfield 33, 3, 0), (78, .aload_n 0, 1, 0), (79, .aload_n 0, 1, 0), (80, .getfield 33, 3, 0), (83, .putfield 40, 3, 0), (86, .iload_n 3, 1, 0), (87, .ireturn, 1, 0)])
theorem k_Changes_make : zchk m_Changes_make = true := by decide +kernel
def m_X_mend : ZM := (yX10_mend, cX10_mend, 5, some .int, [(0, .aload_n 0, 1, 0), (1, .getfield 10, 3, 0), (4, .iload_n 1, 1, 0), (5, .iload_n 2, 1, 0), (6, .invokevirtual 123, 3, 0), (9, .istore 4, 2, 0), (11, .iload 4, 2, 0), (13, .ifCond .lt 19, 3, 16), (16, .iload_n 3, 1, 0), (17, .iload_n 2, 1, 0), (18, .invokestatic 126, 3, 0), (21, .if_icmp .lt 11, 3, 16), (24, .iload_n 3, 1, 0), (25, .iload_n 2, 1, 0), (26, .invokestatic 129, 3, 0), (29, .if_icmp .le 6, 3, 18), (32, .ldc 132, 2, 0), (34, .ireturn, 1, 0), (35, .aload_n 0, 1, 0), (36, .getfield 21, 3, 0), (39, .iload 4, 2, 0), (41, .iload_n 3, 1, 0), (42, .invokevirtual 133, 3, 0), (45, .ireturn, 1, 0)])
theorem k_X_mend : zchk m_X_mend = true := by decide +kernel
def m_M_isMatter : ZM := (yX11_isMatter, cX11_isMatter, 2, some .boolean, [(0, .iload_n 1, 1, 0), (1, .i2l, 1, 0), (2, .lconst 0, 1, 0), (3, .aload_n 0, 1, 0), (4, .getfield 101, 3, 0), (7, .iconst 1, 1, 0), (8, .isub, 1, 0), (9, .i2l, 1, 0), (10, .invokestatic 97, 3, 0), (13, .ireturn, 1, 0)])
theorem k_M_isMatter : zchk m_M_isMatter = true := by decide +kernel
def m_M_isPm : ZM := (yX11_isPm, cX11_isPm, 2, some .boolean, [(0, .iload_n 1, 1, 0), (1, .ifCond .lt 29, 3, 16), (4, .aload_n 0, 1, 0), (5, .iload_n 1, 1, 0), (6, .bipush 10, 2, 0), (8, .idiv, 1, 0), (9, .invokevirtual 104, 3, 0), (12, .ifCond .eq 18, 3, 16), (15, .aload_n 0, 1, 0), (16, .iload_n 1, 1, 0), (17, .bipush 10, 2, 0), (19, .irem, 1, 0), (20, .invokevirtual 108, 3, 0), (23, .ifCond .eq 7, 3, 16), (26, .iconst 1, 1, 0), (27, .goto 4, 3, 17), (30, .iconst 0, 1, 0), (31, .ireturn, 1, 0)])
theorem k_M_isPm : zchk m_M_isPm = true := by decide +kernel
def m_M_placeOf : ZM := (yX11_placeOf, cX11_placeOf, 2, some .int, [(0, .bipush 6, 2, 0), (2, .iload_n 0, 1, 0), (3, .imul, 1, 0), (4, .iload_n 1, 1, 0), (5, .iadd, 1, 0), (6, .ireturn, 1, 0)])
theorem k_M_placeOf : zchk m_M_placeOf = true := by decide +kernel
def m_M_becomes : ZM := (yX11_becomes, cX11_becomes, 5, some .int, [(0, .aload_n 0, 1, 0), (1, .getfield 9, 3, 0), (4, .iload_n 1, 1, 0), (5, .iaload, 1, 0), (6, .istore_n 3, 1, 0), (7, .iload_n 3, 1, 0), (8, .iload_n 2, 1, 0), (9, .if_icmp .ne 5, 3, 10), (12, .iload_n 3, 1, 0), (13, .ireturn, 1, 0), (14, .aload_n 0, 1, 0), (15, .getfield 88, 3, 0), (18, .bipush 40, 2, 0), (20, .if_icmp .ne 77, 3, 57), (23, .iconst 1, 1, 0), (24, .istore 4, 2, 0), (26, .iload 4, 2, 0), (28, .bipush 40, 2, 0), (30, .if_icmp .ge 57, 3, 51), (33, .aload_n 0, 1, 0), (34, .getfield 13, 3, 0), (37, .iload 4, 2, 0), (39, .iconst 1, 1, 0), (40, .isub, 1, 0), (41, .aload_n 0, 1, 0), (42, .getfield 13, 3, 0), (45, .iload 4, 2, 0), (47, .iaload, 1, 0), (48, .iastore, 1, 0), (49, .aload_n 0, 1, 0), (50, .getfield 16, 3, 0), (53, .iload 4, 2, 0), (55, .iconst 1, 1, 0), (56, .isub, 1, 0), (57, .aload_n 0, 1, 0), (58, .getfield 16, 3, 0), (61, .iload 4, 2, 0), (63, .iaload, 1, 0), (64, .iastore, 1, 0), (65, .aload_n 0, 1, 0), (66, .getfield 19, 3, 0), (69, .iload 4, 2, 0), (71, .iconst 1, 1, 0), (72, .isub, 1, 0), (73, .aload_n 0, 1, 0), (74, .getfield 19, 3, 0), (77, .iload 4, 2, 0), (79, .iaload, 1, 0), (80, .iastore, 1, 0), (81, .iinc 4 1, 3, 0), (84, .goto (-58), 3, 16), (87, .aload_n 0, 1, 0), (88, .dup, 1, 0), (89, .getfield 88, 3, 0), (92, .iconst 1, 1, 0), (93, .isub, 1, 0), (94, .putfield 88, 3, 0), (97, .aload_n 0, 1, 0), (98, .getfield 13, 3, 0), (101, .aload_n 0, 1, 0), (102, .getfield 88, 3, 0), (105, .iload_n 1, 1, 0), (106, .iastore, 1, 0), (107, .aload_n 0, 1, 0), (108, .getfield 16, 3, 0), (111, .aload_n 0, 1, 0), (112, .getfield 88, 3, 0), (115, .iload_n 3, 1, 0), (116, .iastore, 1, 0), (117, .aload_n 0, 1, 0), (118, .getfield 19, 3, 0), (121, .aload_n 0, 1, 0), (122, .getfield 88, 3, 0), (125, .iload_n 2, 1, 0), (126, .iastore, 1, 0), (127, .aload_n 0, 1, 0), (128, .dup, 1, 0), (129, .getfield 88, 3, 0), (132, .iconst 1, 1, 0), (133, .iadd, 1, 0), (134, .putfield 88, 3, 0), (137, .aload_n 0, 1, 0), (138, .aload_n 0, 1, 0), (139, .getfield 88, 3, 0), (142, .putfield 91, 3, 0), (145, .aload_n 0, 1, 0), (146, .getfield 9, 3, 0), (149, .iload_n 1, 1, 0), (150, .iload_n 2, 1, 0), (151, .iastore, 1, 0), (152, .iload_n 3, 1, 0), (153, .ireturn, 1, 0)])
theorem k_M_becomes : zchk m_M_becomes = true := by decide +kernel
def m_M_mend : ZM := (yX11_mend, cX11_mend, 4, some .int, [(0, .iload_n 2, 1, 0), (1, .tableswitch 151 0 2 #[27, 69, 116], 27, 0), (28, .aload_n 0, 1, 0), (29, .iload_n 1, 1, 0), (30, .invokevirtual 125, 3, 0), (33, .ifCond .eq 34, 3, 23), (36, .iload_n 3, 1, 0), (37, .i2l, 1, 0), (38, .lconst 0, 1, 0), (39, .ldc2_w 111, 3, 0), (42, .invokestatic 97, 3, 0), (45, .ifCond .eq 22, 3, 23), (48, .aload_n 0, 1, 0), (49, .iload_n 1, 1, 0), (50, .bipush 10, 2, 0), (52, .idiv, 1, 0), (53, .iload_n 1, 1, 0), (54, .bipush 10, 2, 0), (56, .irem, 1, 0), (57, .invokestatic 128, 3, 0), (60, .iload_n 3, 1, 0), (61, .invokevirtual 132, 3, 0), (64, .goto 5, 3, 24), (67, .ldc 135, 2, 0), (69, .ireturn, 1, 0), (70, .aload_n 0, 1, 0), (71, .iload_n 1, 1, 0), (72, .invokevirtual 125, 3, 0), (75, .ifCond .eq 39, 3, 48), (78, .iload_n 3, 1, 0), (79, .i2l, 1, 0), (80, .ldc2_w 136, 3, 0), (83, .ldc2_w 138, 3, 0), (86, .invokestatic 97, 3, 0), (89, .ifCond .eq 25, 3, 48), (92, .aload_n 0, 1, 0), (93, .bipush 60, 2, 0), (95, .iload_n 1, 1, 0), (96, .bipush 10, 2, 0), (98, .idiv, 1, 0), (99, .iload_n 1, 1, 0), (100, .bipush 10, 2, 0), (102, .irem, 1, 0), (103, .invokestatic 128, 3, 0), (106, .iadd, 1, 0), (107, .iload_n 3, 1, 0), (108, .invokevirtual 132, 3, 0), (111, .goto 5, 3, 49), (114, .ldc 135, 2, 0), (116, .ireturn, 1, 0), (117, .aload_n 0, 1, 0), (118, .iload_n 1, 1, 0), (119, .invokevirtual 108, 3, 0), (122, .ifCond .eq 27, 3, 67), (125, .iload_n 3, 1, 0), (126, .i2l, 1, 0), (127, .lconst 0, 1, 0), (128, .ldc2_w 140, 3, 0), (131, .invokestatic 97, 3, 0), (134, .ifCond .eq 15, 3, 67), (137, .aload_n 0, 1, 0), (138, .bipush 120, 2, 0), (140, .iload_n 1, 1, 0), (141, .iadd, 1, 0), (142, .iload_n 3, 1, 0), (143, .invokevirtual 132, 3, 0), (146, .goto 5, 3, 68), (149, .ldc 135, 2, 0), (151, .ireturn, 1, 0), (152, .ldc 135, 2, 0), (154, .ireturn, 1, 0)])
theorem k_M_mend : zchk m_M_mend = true := by decide +kernel
def m_X_rule : ZM := (yX10_rule, cX10_rule, 4, some .int, [(0, .iload_n 2, 1, 0), (1, .ifCond .ge 5, 3, 4), (4, .iconst (-1), 1, 0), (5, .ireturn, 1, 0), (6, .iload_n 1, 1, 0), (7, .ifCond .ne 26, 3, 19), (10, .iload_n 2, 1, 0), (11, .iconst 4, 1, 0), (12, .if_icmp .gt 21, 3, 19), (15, .aload_n 0, 1, 0), (16, .getfield 10, 3, 0), (19, .getfield 136, 3, 0), (22, .istore_n 3, 1, 0), (23, .aload_n 0, 1, 0), (24, .getfield 10, 3, 0), (27, .iload_n 2, 1, 0), (28, .putfield 136, 3, 0), (31, .iload_n 3, 1, 0), (32, .ireturn, 1, 0), (33, .iload_n 1, 1, 0), (34, .iconst 1, 1, 0), (35, .if_icmp .ne 27, 3, 35), (38, .iload_n 2, 1, 0), (39, .bipush 10, 2, 0), (41, .if_icmp .gt 21, 3, 35), (44, .aload_n 0, 1, 0), (45, .getfield 10, 3, 0), (48, .getfield 140, 3, 0), (51, .istore_n 3, 1, 0), (52, .aload_n 0, 1, 0), (53, .getfield 10, 3, 0), (56, .iload_n 2, 1, 0), (57, .putfield 140, 3, 0), (60, .iload_n 3, 1, 0), (61, .ireturn, 1, 0), (62, .iconst (-1), 1, 0), (63, .ireturn, 1, 0)])
theorem k_X_rule : zchk m_X_rule = true := by decide +kernel
def m_M_rule : ZM := (yX11_rule, cX11_rule, 4, some .int, [(0, .iload_n 1, 1, 0), (1, .i2l, 1, 0), (2, .lconst 0, 1, 0), (3, .lconst 1, 1, 0), (4, .invokestatic 97, 3, 0), (7, .ifCond .eq 25, 3, 16), (10, .iload_n 2, 1, 0), (11, .i2l, 1, 0), (12, .lconst 0, 1, 0), (13, .iload_n 1, 1, 0), (14, .ifCond .ne 9, 3, 13), (17, .ldc2_w 142, 3, 0), (20, .goto 6, 3, 14), (23, .ldc2_w 116, 3, 0), (26, .invokestatic 97, 3, 0), (29, .ifCond .ne 5, 3, 18), (32, .iconst (-1), 1, 0), (33, .ireturn, 1, 0), (34, .iload_n 1, 1, 0), (35, .ifCond .ne 10, 3, 23), (38, .aload_n 0, 1, 0), (39, .getfield 82, 3, 0), (42, .goto 7, 3, 25), (45, .aload_n 0, 1, 0), (46, .getfield 85, 3, 0), (49, .istore_n 3, 1, 0), (50, .aload_n 0, 1, 0), (51, .iload_n 1, 1, 0), (52, .ifCond .ne 7, 3, 31), (55, .iload_n 2, 1, 0), (56, .goto 7, 3, 33), (59, .aload_n 0, 1, 0), (60, .getfield 82, 3, 0), (63, .putfield 82, 3, 0), (66, .aload_n 0, 1, 0), (67, .iload_n 1, 1, 0), (68, .iconst 1, 1, 0), (69, .if_icmp .ne 7, 3, 40), (72, .iload_n 2, 1, 0), (73, .goto 7, 3, 42), (76, .aload_n 0, 1, 0), (77, .getfield 85, 3, 0), (80, .putfield 85, 3, 0), (83, .iload_n 3, 1, 0), (84, .ireturn, 1, 0)])
theorem k_M_rule : zchk m_M_rule = true := by decide +kernel
def m_X_toldOrVoid : ZM := (yX10_toldOrVoid, cX10_toldOrVoid, 2, some .int, [(0, .iload_n 1, 1, 0), (1, .ifCond .ge 8, 3, 4), (4, .ldc 132, 2, 0), (6, .goto 11, 3, 8), (9, .aload_n 0, 1, 0), (10, .getfield 10, 3, 0), (13, .iload_n 1, 1, 0), (14, .invokevirtual 155, 3, 0), (17, .ireturn, 1, 0)])
theorem k_X_toldOrVoid : zchk m_X_toldOrVoid = true := by decide +kernel
def m_Council_feeOf : ZM := (yX3_feeOf, cX3_feeOf, 2, some .int, [(0, .aload_n 0, 1, 0), (1, .iload_n 1, 1, 0), (2, .invokevirtual 34, 3, 0), (5, .ifCond .eq 12, 3, 9), (8, .aload_n 0, 1, 0), (9, .getfield 9, 3, 0), (12, .iload_n 1, 1, 0), (13, .iaload, 1, 0), (14, .goto 4, 3, 10), (17, .iconst 0, 1, 0), (18, .ireturn, 1, 0)])
theorem k_Council_feeOf : zchk m_Council_feeOf = true := by decide +kernel
def m_X_of : ZM := (yX10_of, cX10_of, 3, some .int, [(0, .iload_n 2, 1, 0), (1, .lookupswitch 136 #[(0, 51), (1, 51), (10, 65), (20, 90), (30, 104)], 51, 0), (52, .aload_n 0, 1, 0), (53, .aload_n 0, 1, 0), (54, .getfield 10, 3, 0), (57, .iload_n 1, 1, 0), (58, .iload_n 2, 1, 0), (59, .invokevirtual 123, 3, 0), (62, .invokevirtual 143, 3, 0), (65, .ireturn, 1, 0), (66, .aload_n 0, 1, 0), (67, .getfield 10, 3, 0), (70, .iload_n 1, 1, 0), (71, .invokevirtual 146, 3, 0), (74, .ifCond .eq 14, 3, 20), (77, .aload_n 0, 1, 0), (78, .getfield 10, 3, 0), (81, .iload_n 1, 1, 0), (82, .invokevirtual 149, 3, 0), (85, .goto 5, 3, 21), (88, .ldc 132, 2, 0), (90, .ireturn, 1, 0), (91, .aload_n 0, 1, 0), (92, .aload_n 0, 1, 0), (93, .getfield 10, 3, 0), (96, .iload_n 1, 1, 0), (97, .iconst 2, 1, 0), (98, .invokevirtual 123, 3, 0), (101, .invokevirtual 143, 3, 0), (104, .ireturn, 1, 0), (105, .aload_n 0, 1, 0), (106, .getfield 10, 3, 0), (109, .iload_n 1, 1, 0), (110, .invokevirtual 112, 3, 0), (113, .ifCond .eq 21, 3, 45), (116, .aload_n 0, 1, 0), (117, .getfield 10, 3, 0), (120, .iload_n 1, 1, 0), (121, .bipush 10, 2, 0), (123, .idiv, 1, 0), (124, .iload_n 1, 1, 0), (125, .bipush 10, 2, 0), (127, .irem, 1, 0), (128, .invokevirtual 152, 3, 0), (131, .goto 5, 3, 46), (134, .ldc 132, 2, 0), (136, .ireturn, 1, 0), (137, .ldc 132, 2, 0), (139, .ireturn, 1, 0)])
theorem k_X_of : zchk m_X_of = true := by decide +kernel
def m_M_stepsTo : ZM := (yX11_stepsTo, cX11_stepsTo, 7, some .int, [(0, .iconst 1, 1, 0), (1, .iload_n 1, 1, 0), (2, .ishl, 1, 0), (3, .istore_n 3, 1, 0), (4, .iconst 0, 1, 0), (5, .istore 4, 2, 0), (7, .iload 4, 2, 0), (9, .bipush 9, 2, 0), (11, .if_icmp .ge 67, 3, 42), (14, .iload_n 3, 1, 0), (15, .iload_n 2, 1, 0), (16, .iand, 1, 0), (17, .ifCond .eq 6, 3, 15), (20, .iload 4, 2, 0), (22, .ireturn, 1, 0), (23, .iload_n 3, 1, 0), (24, .istore 5, 2, 0), (26, .iconst 0, 1, 0), (27, .istore 6, 2, 0), (29, .iload 6, 2, 0), (31, .aload_n 0, 1, 0), (32, .getfield 94, 3, 0), (35, .if_icmp .ge 34, 3, 38), (38, .iload 5, 2, 0), (40, .iload_n 3, 1, 0), (41, .iload 6, 2, 0), (43, .invokestatic 118, 3, 0), (46, .ifCond .eq 13, 3, 33), (49, .aload_n 0, 1, 0), (50, .getfield 25, 3, 0), (53, .iload 6, 2, 0), (55, .iaload, 1, 0), (56, .goto 4, 3, 34), (59, .iconst 0, 1, 0), (60, .ior, 1, 0), (61, .istore 5, 2, 0), (63, .iinc 6 1, 3, 0), (66, .goto (-37), 3, 19), (69, .iload 5, 2, 0), (71, .istore_n 3, 1, 0), (72, .iinc 4 1, 3, 0), (75, .goto (-68), 3, 6), (78, .bipush 9, 2, 0), (80, .ireturn, 1, 0)])
theorem k_M_stepsTo : zchk m_M_stepsTo = true := by decide +kernel
def m_M_of : ZM := (yX11_of, cX11_of, 3, some .int, [(0, .iload_n 2, 1, 0), (1, .lookupswitch 203 #[(0, 51), (1, 81), (10, 114), (20, 134), (30, 157)], 51, 0), (52, .aload_n 0, 1, 0), (53, .iload_n 1, 1, 0), (54, .invokevirtual 125, 3, 0), (57, .ifCond .eq 22, 3, 17), (60, .aload_n 0, 1, 0), (61, .getfield 9, 3, 0), (64, .iload_n 1, 1, 0), (65, .bipush 10, 2, 0), (67, .idiv, 1, 0), (68, .iload_n 1, 1, 0), (69, .bipush 10, 2, 0), (71, .irem, 1, 0), (72, .invokestatic 128, 3, 0), (75, .iaload, 1, 0), (76, .goto 5, 3, 18), (79, .ldc 135, 2, 0), (81, .ireturn, 1, 0), (82, .aload_n 0, 1, 0), (83, .iload_n 1, 1, 0), (84, .invokevirtual 125, 3, 0), (87, .ifCond .eq 25, 3, 36), (90, .aload_n 0, 1, 0), (91, .getfield 9, 3, 0), (94, .bipush 60, 2, 0), (96, .iload_n 1, 1, 0), (97, .bipush 10, 2, 0), (99, .idiv, 1, 0), (100, .iload_n 1, 1, 0), (101, .bipush 10, 2, 0), (103, .irem, 1, 0), (104, .invokestatic 128, 3, 0), (107, .iadd, 1, 0), (108, .iaload, 1, 0), (109, .goto 5, 3, 37), (112, .ldc 135, 2, 0), (114, .ireturn, 1, 0), (115, .aload_n 0, 1, 0), (116, .iload_n 1, 1, 0), (117, .invokevirtual 104, 3, 0), (120, .ifCond .eq 12, 3, 47), (123, .aload_n 0, 1, 0), (124, .getfield 22, 3, 0), (127, .iload_n 1, 1, 0), (128, .iaload, 1, 0), (129, .goto 5, 3, 48), (132, .ldc 135, 2, 0), (134, .ireturn, 1, 0), (135, .aload_n 0, 1, 0), (136, .iload_n 1, 1, 0), (137, .invokevirtual 108, 3, 0), (140, .ifCond .eq 15, 3, 60), (143, .aload_n 0, 1, 0), (144, .getfield 9, 3, 0), (147, .bipush 120, 2, 0), (149, .iload_n 1, 1, 0), (150, .iadd, 1, 0), (151, .iaload, 1, 0), (152, .goto 5, 3, 61), (155, .ldc 135, 2, 0), (157, .ireturn, 1, 0), (158, .iload_n 1, 1, 0), (159, .ifCond .lt 42, 3, 87), (162, .aload_n 0, 1, 0), (163, .iload_n 1, 1, 0), (164, .bipush 10, 2, 0), (166, .idiv, 1, 0), (167, .invokevirtual 104, 3, 0), (170, .ifCond .eq 31, 3, 87), (173, .aload_n 0, 1, 0), (174, .iload_n 1, 1, 0), (175, .bipush 10, 2, 0), (177, .irem, 1, 0), (178, .invokevirtual 104, 3, 0), (181, .ifCond .eq 20, 3, 87), (184, .aload_n 0, 1, 0), (185, .iload_n 1, 1, 0), (186, .bipush 10, 2, 0), (188, .idiv, 1, 0), (189, .iconst 1, 1, 0), (190, .iload_n 1, 1, 0), (191, .bipush 10, 2, 0), (193, .irem, 1, 0), (194, .ishl, 1, 0), (195, .invokevirtual 144, 3, 0), (198, .goto 5, 3, 88), (201, .ldc 135, 2, 0), (203, .ireturn, 1, 0), (204, .ldc 135, 2, 0), (206, .ireturn, 1, 0)])
theorem k_M_of : zchk m_M_of = true := by decide +kernel
def m_Reader_take : ZM := (yX6_take, cX6_take, 2, some .int, [(0, .aload_n 0, 1, 0), (1, .getfield 22, 3, 0), (4, .bipush 120, 2, 0), (6, .if_icmp .lt 6, 3, 6), (9, .bipush (-3), 2, 0), (11, .ireturn, 1, 0), (12, .aload_n 0, 1, 0), (13, .getfield 11, 3, 0), (16, .aload_n 0, 1, 0), (17, .getfield 22, 3, 0), (20, .iload_n 1, 1, 0), (21, .iastore, 1, 0), (22, .aload_n 0, 1, 0), (23, .dup, 1, 0), (24, .getfield 22, 3, 0), (27, .iconst 1, 1, 0), (28, .iadd, 1, 0), (29, .putfield 22, 3, 0), (32, .aload_n 0, 1, 0), (33, .getfield 22, 3, 0), (36, .ireturn, 1, 0)])
theorem k_Reader_take : zchk m_Reader_take = true := by decide +kernel
def m_X_feed : ZM := (yX10_feed, cX10_feed, 2, some .int, [(0, .iload_n 1, 1, 0), (1, .ifCond .lt 10, 3, 5), (4, .iload_n 1, 1, 0), (5, .sipush 255, 3, 0), (8, .if_icmp .le 5, 3, 7), (11, .iconst (-1), 1, 0), (12, .ireturn, 1, 0), (13, .aload_n 0, 1, 0), (14, .getfield 28, 3, 0), (17, .iload_n 1, 1, 0), (18, .invokevirtual 158, 3, 0), (21, .ireturn, 1, 0)])
theorem k_X_feed : zchk m_X_feed = true := by decide +kernel
def m_M_feed : ZM := (yX11_feed, cX11_feed, 2, some .int, [(0, .iload_n 1, 1, 0), (1, .i2l, 1, 0), (2, .lconst 0, 1, 0), (3, .ldc2_w 147, 3, 0), (6, .invokestatic 97, 3, 0), (9, .ifCond .ne 5, 3, 8), (12, .iconst (-1), 1, 0), (13, .ireturn, 1, 0), (14, .aload_n 0, 1, 0), (15, .getfield 149, 3, 0), (18, .bipush 120, 2, 0), (20, .if_icmp .ne 6, 3, 14), (23, .bipush (-3), 2, 0), (25, .ireturn, 1, 0), (26, .aload_n 0, 1, 0), (27, .getfield 28, 3, 0), (30, .aload_n 0, 1, 0), (31, .getfield 149, 3, 0), (34, .iload_n 1, 1, 0), (35, .iastore, 1, 0), (36, .aload_n 0, 1, 0), (37, .dup, 1, 0), (38, .getfield 149, 3, 0), (41, .iconst 1, 1, 0), (42, .iadd, 1, 0), (43, .putfield 149, 3, 0), (46, .aload_n 0, 1, 0), (47, .getfield 149, 3, 0), (50, .ireturn, 1, 0)])
theorem k_M_feed : zchk m_M_feed = true := by decide +kernel
def m_Code_empty : ZM := (yX2_empty, cX2_empty, 1, none, [(0, .aload_n 0, 1, 0), (1, .iconst 0, 1, 0), (2, .putfield 19, 3, 0), (5, .return_, 1, 0)])
theorem k_Code_empty : zchk m_Code_empty = true := by decide +kernel
def m_Reader_next : ZM := (yX6_next, cX6_next, 1, some .int, [(0, .aload_n 0, 1, 0), (1, .getfield 26, 3, 0), (4, .ifCond .lt 35, 3, 18), (7, .aload_n 0, 1, 0), (8, .getfield 26, 3, 0), (11, .aload_n 0, 1, 0), (12, .getfield 22, 3, 0), (15, .if_icmp .ge 24, 3, 18), (18, .aload_n 0, 1, 0), (19, .getfield 26, 3, 0), (22, .bipush 120, 2, 0), (24, .if_icmp .ge 15, 3, 18), (27, .aload_n 0, 1, 0), (28, .getfield 11, 3, 0), (31, .aload_n 0, 1, 0), (32, .getfield 26, 3, 0), (35, .iaload, 1, 0), (36, .goto 4, 3, 19), (39, .iconst (-1), 1, 0), (40, .ireturn, 1, 0)])
theorem k_Reader_next : zchk m_Reader_next = true := by decide +kernel
def m_Code_add : ZM := (yX2_add, cX2_add, 3, none, [(0, .aload_n 0, 1, 0), (1, .getfield 19, 3, 0), (4, .sipush 128, 3, 0), (7, .if_icmp .ge 33, 3, 22), (10, .aload_n 0, 1, 0), (11, .getfield 9, 3, 0), (14, .aload_n 0, 1, 0), (15, .getfield 19, 3, 0), (18, .iload_n 1, 1, 0), (19, .iastore, 1, 0), (20, .aload_n 0, 1, 0), (21, .getfield 13, 3, 0), (24, .aload_n 0, 1, 0), (25, .getfield 19, 3, 0), (28, .iload_n 2, 1, 0), (29, .iastore, 1, 0), (30, .aload_n 0, 1, 0), (31, .dup, 1, 0), (32, .getfield 19, 3, 0), (35, .iconst 1, 1, 0), (36, .iadd, 1, 0), (37, .putfield 19, 3, 0), (40, .return_, 1, 0)])
theorem k_Code_add : zchk m_Code_add = true := by decide +kernel
def m_Reader_isDigit : ZM := (yX6_isDigit, cX6_isDigit, 1, some .boolean, [(0, .iload_n 0, 1, 0), (1, .bipush 48, 2, 0), (3, .if_icmp .lt 13, 3, 8), (6, .iload_n 0, 1, 0), (7, .bipush 57, 2, 0), (9, .if_icmp .gt 7, 3, 8), (12, .iconst 1, 1, 0), (13, .goto 4, 3, 9), (16, .iconst 0, 1, 0), (17, .ireturn, 1, 0)])
theorem k_Reader_isDigit : zchk m_Reader_isDigit = true := by decide +kernel
def m_Reader_readNumber : ZM := (yX6_readNumber, cX6_readNumber, 3, none, [(0, .iconst 0, 1, 0), (1, .istore_n 1, 1, 0), (2, .iconst 0, 1, 0), (3, .istore_n 2, 1, 0), (4, .iload_n 2, 1, 0), (5, .iconst 4, 1, 0), (6, .if_icmp .ge 42, 3, 28), (9, .aload_n 0, 1, 0), (10, .invokevirtual 36, 3, 0), (13, .invokestatic 59, 3, 0), (16, .ifCond .eq 32, 3, 28), (19, .bipush 10, 2, 0), (21, .iload_n 1, 1, 0), (22, .imul, 1, 0), (23, .aload_n 0, 1, 0), (24, .invokevirtual 36, 3, 0), (27, .iadd, 1, 0), (28, .bipush 48, 2, 0), (30, .isub, 1, 0), (31, .istore_n 1, 1, 0), (32, .aload_n 0, 1, 0), (33, .dup, 1, 0), (34, .getfield 26, 3, 0), (37, .iconst 1, 1, 0), (38, .iadd, 1, 0), (39, .putfield 26, 3, 0), (42, .iinc 2 1, 3, 0), (45, .goto (-41), 3, 4), (48, .aload_n 0, 1, 0), (49, .getfield 18, 3, 0), (52, .bipush 48, 2, 0), (54, .iload_n 1, 1, 0), (55, .invokevirtual 44, 3, 0), (58, .return_, 1, 0)])
theorem k_Reader_readNumber : zchk m_Reader_readNumber = true := by decide +kernel
def m_Reader_nameOf : ZM := (yX6_nameOf, cX6_nameOf, 1, some .int, [(0, .iload_n 0, 1, 0), (1, .tableswitch 83 103 116 #[81, 83, 83, 83, 73, 75, 83, 79, 83, 77, 83, 83, 83, 71], 71, 0), (72, .iconst 0, 1, 0), (73, .ireturn, 1, 0), (74, .iconst 1, 1, 0), (75, .ireturn, 1, 0), (76, .iconst 2, 1, 0), (77, .ireturn, 1, 0), (78, .iconst 3, 1, 0), (79, .ireturn, 1, 0), (80, .iconst 4, 1, 0), (81, .ireturn, 1, 0), (82, .iconst 5, 1, 0), (83, .ireturn, 1, 0), (84, .iconst (-1), 1, 0), (85, .ireturn, 1, 0)])
theorem k_Reader_nameOf : zchk m_Reader_nameOf = true := by decide +kernel
def m_Reader_levelOf : ZM := (yX6_levelOf, cX6_levelOf, 1, some .int, [(0, .iload_n 0, 1, 0), (1, .lookupswitch 101 #[(37, 99), (38, 93), (42, 99), (43, 97), (45, 97), (47, 99), (60, 95), (61, 95), (62, 95), (124, 91)], 91, 0), (92, .iconst 0, 1, 0), (93, .ireturn, 1, 0), (94, .iconst 1, 1, 0), (95, .ireturn, 1, 0), (96, .iconst 2, 1, 0), (97, .ireturn, 1, 0), (98, .iconst 3, 1, 0), (99, .ireturn, 1, 0), (100, .iconst 4, 1, 0), (101, .ireturn, 1, 0), (102, .iconst (-1), 1, 0), (103, .ireturn, 1, 0)])
theorem k_Reader_levelOf : zchk m_Reader_levelOf = true := by decide +kernel
def m_Reader_readChain : ZM := (yX6_readChain, cX6_readChain, 6, some .boolean, [(0, .iload_n 1, 1, 0), (1, .iconst 5, 1, 0), (2, .if_icmp .lt 9, 3, 7), (5, .aload_n 0, 1, 0), (6, .iload_n 2, 1, 0), (7, .invokevirtual 48, 3, 0), (10, .ireturn, 1, 0), (11, .aload_n 0, 1, 0), (12, .iload_n 1, 1, 0), (13, .iconst 1, 1, 0), (14, .iadd, 1, 0), (15, .iload_n 2, 1, 0), (16, .invokevirtual 40, 3, 0), (19, .ifCond .ne 5, 3, 16), (22, .iconst 0, 1, 0), (23, .ireturn, 1, 0), (24, .iload_n 1, 1, 0), (25, .iconst 2, 1, 0), (26, .if_icmp .ne 7, 3, 21), (29, .iconst 1, 1, 0), (30, .goto 5, 3, 22), (33, .bipush 120, 2, 0), (35, .istore_n 3, 1, 0), (36, .iconst 0, 1, 0), (37, .istore 4, 2, 0), (39, .iload 4, 2, 0), (41, .iload_n 3, 1, 0), (42, .if_icmp .ge 59, 3, 58), (45, .aload_n 0, 1, 0), (46, .invokevirtual 36, 3, 0), (49, .invokestatic 52, 3, 0), (52, .iload_n 1, 1, 0), (53, .if_icmp .ne 48, 3, 58), (56, .aload_n 0, 1, 0), (57, .invokevirtual 36, 3, 0), (60, .istore 5, 2, 0), (62, .aload_n 0, 1, 0), (63, .dup, 1, 0), (64, .getfield 26, 3, 0), (67, .iconst 1, 1, 0), (68, .iadd, 1, 0), (69, .putfield 26, 3, 0), (72, .aload_n 0, 1, 0), (73, .iload_n 1, 1, 0), (74, .iconst 1, 1, 0), (75, .iadd, 1, 0), (76, .iload_n 2, 1, 0), (77, .invokevirtual 40, 3, 0), (80, .ifCond .ne 5, 3, 51), (83, .iconst 0, 1, 0), (84, .ireturn, 1, 0), (85, .aload_n 0, 1, 0), (86, .getfield 18, 3, 0), (89, .iload 5, 2, 0), (91, .iconst 0, 1, 0), (92, .invokevirtual 44, 3, 0), (95, .iinc 4 1, 3, 0), (98, .goto (-59), 3, 25), (101, .iconst 1, 1, 0), (102, .ireturn, 1, 0)])
theorem k_Reader_readChain : zchk m_Reader_readChain = true := by decide +kernel
def m_Reader_readOpened : ZM := (yX6_readOpened, cX6_readOpened, 3, some .boolean, [(0, .aload_n 0, 1, 0), (1, .dup, 1, 0), (2, .getfield 26, 3, 0), (5, .iconst 1, 1, 0), (6, .iadd, 1, 0), (7, .putfield 26, 3, 0), (10, .iload_n 1, 1, 0), (11, .bipush 40, 2, 0), (13, .if_icmp .ne 35, 3, 28), (16, .aload_n 0, 1, 0), (17, .iconst 0, 1, 0), (18, .iload_n 2, 1, 0), (19, .invokevirtual 40, 3, 0), (22, .ifCond .eq 12, 3, 18), (25, .aload_n 0, 1, 0), (26, .invokevirtual 36, 3, 0), (29, .bipush 41, 2, 0), (31, .if_icmp .eq 5, 3, 20), (34, .iconst 0, 1, 0), (35, .ireturn, 1, 0), (36, .aload_n 0, 1, 0), (37, .dup, 1, 0), (38, .getfield 26, 3, 0), (41, .iconst 1, 1, 0), (42, .iadd, 1, 0), (43, .putfield 26, 3, 0), (46, .iconst 1, 1, 0), (47, .ireturn, 1, 0), (48, .aload_n 0, 1, 0), (49, .iload_n 2, 1, 0), (50, .invokevirtual 48, 3, 0), (53, .ifCond .ne 5, 3, 34), (56, .iconst 0, 1, 0), (57, .ireturn, 1, 0), (58, .aload_n 0, 1, 0), (59, .getfield 18, 3, 0), (62, .iload_n 1, 1, 0), (63, .bipush 33, 2, 0), (65, .if_icmp .ne 8, 3, 41), (68, .bipush 33, 2, 0), (70, .goto 5, 3, 42), (73, .bipush 126, 2, 0), (75, .iconst 0, 1, 0), (76, .invokevirtual 44, 3, 0), (79, .iconst 1, 1, 0), (80, .ireturn, 1, 0)])
theorem k_Reader_readOpened : zchk m_Reader_readOpened = true := by decide +kernel
def m_Reader_readOperand : ZM := (yX6_readOperand, cX6_readOperand, 4, some .boolean, [(0, .aload_n 0, 1, 0), (1, .invokevirtual 36, 3, 0), (4, .istore_n 2, 1, 0), (5, .iload_n 2, 1, 0), (6, .bipush 40, 2, 0), (8, .if_icmp .eq 15, 3, 12), (11, .iload_n 2, 1, 0), (12, .bipush 33, 2, 0), (14, .if_icmp .eq 9, 3, 12), (17, .iload_n 2, 1, 0), (18, .bipush 45, 2, 0), (20, .if_icmp .ne 26, 3, 26), (23, .iload_n 1, 1, 0), (24, .bipush 6, 2, 0), (26, .if_icmp .ge 18, 3, 24), (29, .aload_n 0, 1, 0), (30, .iload_n 2, 1, 0), (31, .iload_n 1, 1, 0), (32, .iconst 1, 1, 0), (33, .iadd, 1, 0), (34, .invokevirtual 56, 3, 0), (37, .ifCond .eq 7, 3, 24), (40, .iconst 1, 1, 0), (41, .goto 4, 3, 25), (44, .iconst 0, 1, 0), (45, .ireturn, 1, 0), (46, .iload_n 2, 1, 0), (47, .invokestatic 59, 3, 0), (50, .ifCond .eq 9, 3, 33), (53, .aload_n 0, 1, 0), (54, .invokevirtual 62, 3, 0), (57, .iconst 1, 1, 0), (58, .ireturn, 1, 0), (59, .iload_n 2, 1, 0), (60, .invokestatic 65, 3, 0), (63, .istore_n 3, 1, 0), (64, .iload_n 3, 1, 0), (65, .ifCond .ge 5, 3, 40), (68, .iconst 0, 1, 0), (69, .ireturn, 1, 0), (70, .aload_n 0, 1, 0), (71, .dup, 1, 0), (72, .getfield 26, 3, 0), (75, .iconst 1, 1, 0), (76, .iadd, 1, 0), (77, .putfield 26, 3, 0), (80, .aload_n 0, 1, 0), (81, .getfield 18, 3, 0), (84, .bipush 97, 2, 0), (86, .iload_n 3, 1, 0), (87, .invokevirtual 44, 3, 0), (90, .iconst 1, 1, 0), (91, .ireturn, 1, 0)])
theorem k_Reader_readOperand : zchk m_Reader_readOperand = true := by decide +kernel
def m_Reader_readLine : ZM := (yX6_readLine, cX6_readLine, 1, some .boolean, [(0, .aload_n 0, 1, 0), (1, .iconst 0, 1, 0), (2, .iconst 0, 1, 0), (3, .invokevirtual 40, 3, 0), (6, .ifCond .ne 5, 3, 7), (9, .iconst 0, 1, 0), (10, .ireturn, 1, 0), (11, .aload_n 0, 1, 0), (12, .invokevirtual 36, 3, 0), (15, .bipush 63, 2, 0), (17, .if_icmp .eq 15, 3, 18), (20, .aload_n 0, 1, 0), (21, .getfield 18, 3, 0), (24, .bipush 59, 2, 0), (26, .iconst 0, 1, 0), (27, .invokevirtual 44, 3, 0), (30, .iconst 1, 1, 0), (31, .ireturn, 1, 0), (32, .aload_n 0, 1, 0), (33, .dup, 1, 0), (34, .getfield 26, 3, 0), (37, .iconst 1, 1, 0), (38, .iadd, 1, 0), (39, .putfield 26, 3, 0), (42, .aload_n 0, 1, 0), (43, .iconst 0, 1, 0), (44, .iconst 0, 1, 0), (45, .invokevirtual 40, 3, 0), (48, .ifCond .ne 5, 3, 31), (51, .iconst 0, 1, 0), (52, .ireturn, 1, 0), (53, .aload_n 0, 1, 0), (54, .getfield 18, 3, 0), (57, .bipush 63, 2, 0), (59, .iconst 0, 1, 0), (60, .invokevirtual 44, 3, 0), (63, .iconst 1, 1, 0), (64, .ireturn, 1, 0)])
theorem k_Reader_readLine : zchk m_Reader_readLine = true := by decide +kernel
def m_Reader_read : ZM := (yX6_read, cX6_read, 3, some .int, [(0, .aload_n 0, 1, 0), (1, .iconst 0, 1, 0), (2, .putfield 26, 3, 0), (5, .aload_n 0, 1, 0), (6, .getfield 18, 3, 0), (9, .invokevirtual 29, 3, 0), (12, .aload_n 0, 1, 0), (13, .invokevirtual 32, 3, 0), (16, .istore_n 1, 1, 0), (17, .iconst 0, 1, 0), (18, .istore_n 2, 1, 0), (19, .iload_n 2, 1, 0), (20, .bipush 120, 2, 0), (22, .if_icmp .ge 37, 3, 31), (25, .iload_n 1, 1, 0), (26, .ifCond .eq 33, 3, 31), (29, .aload_n 0, 1, 0), (30, .invokevirtual 36, 3, 0), (33, .bipush 59, 2, 0), (35, .if_icmp .ne 24, 3, 31), (38, .aload_n 0, 1, 0), (39, .dup, 1, 0), (40, .getfield 26, 3, 0), (43, .iconst 1, 1, 0), (44, .iadd, 1, 0), (45, .putfield 26, 3, 0), (48, .aload_n 0, 1, 0), (49, .invokevirtual 32, 3, 0), (52, .istore_n 1, 1, 0), (53, .iinc 2 1, 3, 0), (56, .goto (-37), 3, 11), (59, .iload_n 1, 1, 0), (60, .ifCond .eq 15, 3, 39), (63, .aload_n 0, 1, 0), (64, .invokevirtual 36, 3, 0), (67, .iconst (-1), 1, 0), (68, .if_icmp .ne 7, 3, 39), (71, .iconst (-1), 1, 0), (72, .goto 7, 3, 41), (75, .aload_n 0, 1, 0), (76, .getfield 26, 3, 0), (79, .istore_n 2, 1, 0), (80, .aload_n 0, 1, 0), (81, .iconst 0, 1, 0), (82, .putfield 22, 3, 0), (85, .iload_n 2, 1, 0), (86, .ireturn, 1, 0)])
theorem k_Reader_read : zchk m_Reader_read = true := by decide +kernel
def m_Code_becomes : ZM := (yX2_becomes, cX2_becomes, 2, none, [(0, .aload_n 0, 1, 0), (1, .aload_n 1, 1, 0), (2, .getfield 19, 3, 0), (5, .putfield 19, 3, 0), (8, .aload_n 1, 1, 0), (9, .getfield 9, 3, 0), (12, .iconst 0, 1, 0), (13, .aload_n 0, 1, 0), (14, .getfield 9, 3, 0), (17, .iconst 0, 1, 0), (18, .sipush 128, 3, 0), (21, .invokestatic 23, 3, 0), (24, .aload_n 1, 1, 0), (25, .getfield 13, 3, 0), (28, .iconst 0, 1, 0), (29, .aload_n 0, 1, 0), (30, .getfield 13, 3, 0), (33, .iconst 0, 1, 0), (34, .sipush 128, 3, 0), (37, .invokestatic 23, 3, 0), (40, .return_, 1, 0)])
theorem k_Code_becomes : zchk m_Code_becomes = true := by decide +kernel
def m_X_law : ZM := (yX10_law, cX10_law, 2, some .int, [(0, .aload_n 0, 1, 0), (1, .getfield 28, 3, 0), (4, .invokevirtual 161, 3, 0), (7, .istore_n 1, 1, 0), (8, .iload_n 1, 1, 0), (9, .ifCond .lt 8, 3, 10), (12, .bipush (-100), 2, 0), (14, .iload_n 1, 1, 0), (15, .isub, 1, 0), (16, .ireturn, 1, 0), (17, .aload_n 0, 1, 0), (18, .getfield 35, 3, 0), (21, .aload_n 0, 1, 0), (22, .getfield 28, 3, 0), (25, .getfield 164, 3, 0), (28, .invokevirtual 167, 3, 0), (31, .iconst 1, 1, 0), (32, .ireturn, 1, 0)])
theorem k_X_law : zchk m_X_law = true := by decide +kernel
def m_M_byteAt : ZM := (yX11_byteAt, cX11_byteAt, 1, some .int, [(0, .aload_n 0, 1, 0), (1, .getfield 152, 3, 0), (4, .aload_n 0, 1, 0), (5, .getfield 155, 3, 0), (8, .if_icmp .ge 39, 3, 23), (11, .aload_n 0, 1, 0), (12, .getfield 158, 3, 0), (15, .ifCond .ge 15, 3, 14), (18, .aload_n 0, 1, 0), (19, .getfield 28, 3, 0), (22, .aload_n 0, 1, 0), (23, .getfield 152, 3, 0), (26, .iaload, 1, 0), (27, .goto 21, 3, 24), (30, .aload_n 0, 1, 0), (31, .getfield 31, 3, 0), (34, .aload_n 0, 1, 0), (35, .getfield 158, 3, 0), (38, .aload_n 0, 1, 0), (39, .getfield 152, 3, 0), (42, .iadd, 1, 0), (43, .iaload, 1, 0), (44, .goto 4, 3, 24), (47, .iconst 0, 1, 0), (48, .ireturn, 1, 0)])
theorem k_M_byteAt : zchk m_M_byteAt = true := by decide +kernel
def m_M_wrong : ZM := (yX11_wrong, cX11_wrong, 1, some .int, [(0, .aload_n 0, 1, 0), (1, .aload_n 0, 1, 0), (2, .getfield 161, 3, 0), (5, .ifCond .ge 10, 3, 7), (8, .aload_n 0, 1, 0), (9, .getfield 152, 3, 0), (12, .goto 7, 3, 9), (15, .aload_n 0, 1, 0), (16, .getfield 161, 3, 0), (19, .putfield 161, 3, 0), (22, .iconst 0, 1, 0), (23, .ireturn, 1, 0)])
theorem k_M_wrong : zchk m_M_wrong = true := by decide +kernel
def m_M_takes : ZM := (yX11_takes, cX11_takes, 2, some .boolean, [(0, .aload_n 0, 1, 0), (1, .getfield 161, 3, 0), (4, .ifCond .ge 11, 3, 7), (7, .aload_n 0, 1, 0), (8, .invokevirtual 164, 3, 0), (11, .iload_n 1, 1, 0), (12, .if_icmp .eq 5, 3, 9), (15, .iconst 0, 1, 0), (16, .ireturn, 1, 0), (17, .aload_n 0, 1, 0), (18, .dup, 1, 0), (19, .getfield 152, 3, 0), (22, .iconst 1, 1, 0), (23, .iadd, 1, 0), (24, .putfield 152, 3, 0), (27, .iconst 1, 1, 0), (28, .ireturn, 1, 0)])
theorem k_M_takes : zchk m_M_takes = true := by decide +kernel
def m_M_nameOf : ZM := (yX11_nameOf, cX11_nameOf, 1, some .int, [(0, .iload_n 0, 1, 0), (1, .tableswitch 83 103 116 #[81, 83, 83, 83, 73, 75, 83, 79, 83, 77, 83, 83, 83, 71], 71, 0), (72, .iconst 0, 1, 0), (73, .ireturn, 1, 0), (74, .iconst 1, 1, 0), (75, .ireturn, 1, 0), (76, .iconst 2, 1, 0), (77, .ireturn, 1, 0), (78, .iconst 3, 1, 0), (79, .ireturn, 1, 0), (80, .iconst 4, 1, 0), (81, .ireturn, 1, 0), (82, .iconst 5, 1, 0), (83, .ireturn, 1, 0), (84, .iconst (-1), 1, 0), (85, .ireturn, 1, 0)])
theorem k_M_nameOf : zchk m_M_nameOf = true := by decide +kernel
def m_M_both : ZM := (yX11_both, cX11_both, 3, some .int, [(0, .aload_n 0, 1, 0), (1, .invokevirtual 174, 3, 0), (4, .istore_n 1, 1, 0), (5, .aload_n 0, 1, 0), (6, .bipush 38, 2, 0), (8, .invokevirtual 171, 3, 0), (11, .ifCond .eq 25, 3, 19), (14, .aload_n 0, 1, 0), (15, .invokevirtual 174, 3, 0), (18, .istore_n 2, 1, 0), (19, .iload_n 1, 1, 0), (20, .ifCond .eq 11, 3, 16), (23, .iload_n 2, 1, 0), (24, .ifCond .eq 7, 3, 16), (27, .iconst 1, 1, 0), (28, .goto 4, 3, 17), (31, .iconst 0, 1, 0), (32, .istore_n 1, 1, 0), (33, .goto (-28), 3, 3), (36, .iload_n 1, 1, 0), (37, .ireturn, 1, 0)])
theorem k_M_both : zchk m_M_both = true := by decide +kernel
def m_M_compared : ZM := (yX11_compared, cX11_compared, 4, some .int, [(0, .aload_n 0, 1, 0), (1, .invokevirtual 177, 3, 0), (4, .istore_n 1, 1, 0), (5, .aload_n 0, 1, 0), (6, .invokevirtual 164, 3, 0), (9, .istore_n 2, 1, 0), (10, .aload_n 0, 1, 0), (11, .getfield 161, 3, 0), (14, .ifCond .ge 21, 3, 18), (17, .iload_n 2, 1, 0), (18, .bipush 60, 2, 0), (20, .if_icmp .eq 17, 3, 20), (23, .iload_n 2, 1, 0), (24, .bipush 61, 2, 0), (26, .if_icmp .eq 11, 3, 20), (29, .iload_n 2, 1, 0), (30, .bipush 62, 2, 0), (32, .if_icmp .eq 5, 3, 20), (35, .iload_n 1, 1, 0), (36, .ireturn, 1, 0), (37, .aload_n 0, 1, 0), (38, .dup, 1, 0), (39, .getfield 152, 3, 0), (42, .iconst 1, 1, 0), (43, .iadd, 1, 0), (44, .putfield 152, 3, 0), (47, .aload_n 0, 1, 0), (48, .invokevirtual 177, 3, 0), (51, .istore_n 3, 1, 0), (52, .iload_n 2, 1, 0), (53, .bipush 60, 2, 0), (55, .if_icmp .ne 11, 3, 36), (58, .iload_n 1, 1, 0), (59, .iload_n 3, 1, 0), (60, .if_icmp .ge 29, 3, 48), (63, .goto 22, 3, 46), (66, .iload_n 2, 1, 0), (67, .bipush 61, 2, 0), (69, .if_icmp .ne 11, 3, 43), (72, .iload_n 1, 1, 0), (73, .iload_n 3, 1, 0), (74, .if_icmp .ne 15, 3, 48), (77, .goto 8, 3, 46), (80, .iload_n 1, 1, 0), (81, .iload_n 3, 1, 0), (82, .if_icmp .le 7, 3, 48), (85, .iconst 1, 1, 0), (86, .goto 4, 3, 49), (89, .iconst 0, 1, 0), (90, .ireturn, 1, 0)])
theorem k_M_compared : zchk m_M_compared = true := by decide +kernel
def m_M_either : ZM := (yX11_either, cX11_either, 3, some .int, [(0, .aload_n 0, 1, 0), (1, .invokevirtual 168, 3, 0), (4, .istore_n 1, 1, 0), (5, .aload_n 0, 1, 0), (6, .bipush 124, 2, 0), (8, .invokevirtual 171, 3, 0), (11, .ifCond .eq 25, 3, 19), (14, .aload_n 0, 1, 0), (15, .invokevirtual 168, 3, 0), (18, .istore_n 2, 1, 0), (19, .iload_n 1, 1, 0), (20, .ifCond .ne 7, 3, 14), (23, .iload_n 2, 1, 0), (24, .ifCond .eq 7, 3, 16), (27, .iconst 1, 1, 0), (28, .goto 4, 3, 17), (31, .iconst 0, 1, 0), (32, .istore_n 1, 1, 0), (33, .goto (-28), 3, 3), (36, .iload_n 1, 1, 0), (37, .ireturn, 1, 0)])
theorem k_M_either : zchk m_M_either = true := by decide +kernel
def m_M_one : ZM := (yX11_one, cX11_one, 5, some .int, [(0, .aload_n 0, 1, 0), (1, .getfield 161, 3, 0), (4, .ifCond .lt 5, 3, 5), (7, .iconst 0, 1, 0), (8, .ireturn, 1, 0), (9, .aload_n 0, 1, 0), (10, .invokevirtual 164, 3, 0), (13, .istore_n 1, 1, 0), (14, .iload_n 1, 1, 0), (15, .bipush 33, 2, 0), (17, .if_icmp .eq 15, 3, 17), (20, .iload_n 1, 1, 0), (21, .bipush 45, 2, 0), (23, .if_icmp .eq 9, 3, 17), (26, .iload_n 1, 1, 0), (27, .bipush 40, 2, 0), (29, .if_icmp .ne 116, 3, 78), (32, .aload_n 0, 1, 0), (33, .getfield 186, 3, 0), (36, .bipush 6, 2, 0), (38, .if_icmp .ne 8, 3, 24), (41, .aload_n 0, 1, 0), (42, .invokevirtual 189, 3, 0), (45, .ireturn, 1, 0), (46, .aload_n 0, 1, 0), (47, .dup, 1, 0), (48, .getfield 186, 3, 0), (51, .iconst 1, 1, 0), (52, .iadd, 1, 0), (53, .putfield 186, 3, 0), (56, .aload_n 0, 1, 0), (57, .dup, 1, 0), (58, .getfield 152, 3, 0), (61, .iconst 1, 1, 0), (62, .iadd, 1, 0), (63, .putfield 152, 3, 0), (66, .iload_n 1, 1, 0), (67, .bipush 40, 2, 0), (69, .if_icmp .ne 10, 3, 42), (72, .aload_n 0, 1, 0), (73, .invokevirtual 192, 3, 0), (76, .goto 7, 3, 44), (79, .aload_n 0, 1, 0), (80, .invokevirtual 183, 3, 0), (83, .istore_n 2, 1, 0), (84, .iload_n 1, 1, 0), (85, .bipush 40, 2, 0), (87, .if_icmp .ne 17, 3, 55), (90, .aload_n 0, 1, 0), (91, .bipush 41, 2, 0), (93, .invokevirtual 171, 3, 0), (96, .ifCond .ne 8, 3, 55), (99, .aload_n 0, 1, 0), (100, .invokevirtual 189, 3, 0), (103, .ireturn, 1, 0), (104, .aload_n 0, 1, 0), (105, .dup, 1, 0), (106, .getfield 186, 3, 0), (109, .iconst 1, 1, 0), (110, .isub, 1, 0), (111, .putfield 186, 3, 0), (114, .iload_n 1, 1, 0), (115, .bipush 40, 2, 0), (117, .if_icmp .ne 7, 3, 66), (120, .iload_n 2, 1, 0), (121, .goto 23, 3, 77), (124, .iload_n 1, 1, 0), (125, .bipush 45, 2, 0), (127, .if_icmp .ne 8, 3, 72), (130, .iload_n 2, 1, 0), (131, .ineg, 1, 0), (132, .goto 12, 3, 77), (135, .iload_n 2, 1, 0), (136, .ifCond .ne 7, 3, 76), (139, .iconst 1, 1, 0), (140, .goto 4, 3, 77), (143, .iconst 0, 1, 0), (144, .ireturn, 1, 0), (145, .iload_n 1, 1, 0), (146, .invokestatic 195, 3, 0), (149, .istore_n 2, 1, 0), (150, .iload_n 2, 1, 0), (151, .ifCond .lt 20, 3, 94), (154, .aload_n 0, 1, 0), (155, .dup, 1, 0), (156, .getfield 152, 3, 0), (159, .iconst 1, 1, 0), (160, .iadd, 1, 0), (161, .putfield 152, 3, 0), (164, .aload_n 0, 1, 0), (165, .getfield 34, 3, 0), (168, .iload_n 2, 1, 0), (169, .iaload, 1, 0), (170, .ireturn, 1, 0), (171, .iconst 0, 1, 0), (172, .istore_n 3, 1, 0), (173, .iconst 0, 1, 0), (174, .istore 4, 2, 0), (176, .iload 4, 2, 0), (178, .iconst 4, 1, 0), (179, .if_icmp .ge 50, 3, 126), (182, .aload_n 0, 1, 0), (183, .invokevirtual 164, 3, 0), (186, .bipush 48, 2, 0), (188, .if_icmp .lt 41, 3, 126), (191, .aload_n 0, 1, 0), (192, .invokevirtual 164, 3, 0), (195, .bipush 57, 2, 0), (197, .if_icmp .gt 32, 3, 126), (200, .bipush 10, 2, 0), (202, .iload_n 3, 1, 0), (203, .imul, 1, 0), (204, .aload_n 0, 1, 0), (205, .invokevirtual 164, 3, 0), (208, .iadd, 1, 0), (209, .bipush 48, 2, 0), (211, .isub, 1, 0), (212, .istore_n 3, 1, 0), (213, .iinc 4 1, 3, 0), (216, .aload_n 0, 1, 0), (217, .dup, 1, 0), (218, .getfield 152, 3, 0), (221, .iconst 1, 1, 0), (222, .iadd, 1, 0), (223, .putfield 152, 3, 0), (226, .goto (-50), 3, 98), (229, .iload 4, 2, 0), (231, .ifCond .ne 10, 3, 131), (234, .aload_n 0, 1, 0), (235, .invokevirtual 189, 3, 0), (238, .goto 4, 3, 132), (241, .iload_n 3, 1, 0), (242, .ireturn, 1, 0)])
theorem k_M_one : zchk m_M_one = true := by decide +kernel
def m_M_product : ZM := (yX11_product, cX11_product, 4, some .int, [(0, .aload_n 0, 1, 0), (1, .invokevirtual 183, 3, 0), (4, .istore_n 1, 1, 0), (5, .aload_n 0, 1, 0), (6, .invokevirtual 164, 3, 0), (9, .istore_n 2, 1, 0), (10, .aload_n 0, 1, 0), (11, .getfield 161, 3, 0), (14, .ifCond .ge 80, 3, 53), (17, .iload_n 2, 1, 0), (18, .bipush 42, 2, 0), (20, .if_icmp .eq 15, 3, 18), (23, .iload_n 2, 1, 0), (24, .bipush 47, 2, 0), (26, .if_icmp .eq 9, 3, 18), (29, .iload_n 2, 1, 0), (30, .bipush 37, 2, 0), (32, .if_icmp .ne 62, 3, 53), (35, .aload_n 0, 1, 0), (36, .dup, 1, 0), (37, .getfield 152, 3, 0), (40, .iconst 1, 1, 0), (41, .iadd, 1, 0), (42, .putfield 152, 3, 0), (45, .aload_n 0, 1, 0), (46, .invokevirtual 183, 3, 0), (49, .istore_n 3, 1, 0), (50, .iload_n 2, 1, 0), (51, .bipush 42, 2, 0), (53, .if_icmp .ne 9, 3, 34), (56, .iload_n 1, 1, 0), (57, .iload_n 3, 1, 0), (58, .imul, 1, 0), (59, .goto 26, 3, 48), (62, .iload_n 3, 1, 0), (63, .ifCond .ne 7, 3, 38), (66, .iconst 0, 1, 0), (67, .goto 18, 3, 48), (70, .iload_n 2, 1, 0), (71, .bipush 47, 2, 0), (73, .if_icmp .ne 9, 3, 45), (76, .iload_n 1, 1, 0), (77, .iload_n 3, 1, 0), (78, .idiv, 1, 0), (79, .goto 6, 3, 48), (82, .iload_n 1, 1, 0), (83, .iload_n 3, 1, 0), (84, .irem, 1, 0), (85, .istore_n 1, 1, 0), (86, .aload_n 0, 1, 0), (87, .invokevirtual 164, 3, 0), (90, .istore_n 2, 1, 0), (91, .goto (-81), 3, 6), (94, .iload_n 1, 1, 0), (95, .ireturn, 1, 0)])
theorem k_M_product : zchk m_M_product = true := by decide +kernel
def m_M_sums : ZM := (yX11_sums, cX11_sums, 4, some .int, [(0, .aload_n 0, 1, 0), (1, .invokevirtual 180, 3, 0), (4, .istore_n 1, 1, 0), (5, .aload_n 0, 1, 0), (6, .getfield 161, 3, 0), (9, .ifCond .ge 68, 3, 42), (12, .aload_n 0, 1, 0), (13, .invokevirtual 164, 3, 0), (16, .bipush 43, 2, 0), (18, .if_icmp .eq 12, 3, 14), (21, .aload_n 0, 1, 0), (22, .invokevirtual 164, 3, 0), (25, .bipush 45, 2, 0), (27, .if_icmp .ne 50, 3, 42), (30, .aload_n 0, 1, 0), (31, .invokevirtual 164, 3, 0), (34, .bipush 43, 2, 0), (36, .if_icmp .ne 7, 3, 20), (39, .iconst 1, 1, 0), (40, .goto 4, 3, 21), (43, .iconst 0, 1, 0), (44, .istore_n 2, 1, 0), (45, .aload_n 0, 1, 0), (46, .dup, 1, 0), (47, .getfield 152, 3, 0), (50, .iconst 1, 1, 0), (51, .iadd, 1, 0), (52, .putfield 152, 3, 0), (55, .aload_n 0, 1, 0), (56, .invokevirtual 180, 3, 0), (59, .istore_n 3, 1, 0), (60, .iload_n 2, 1, 0), (61, .ifCond .eq 9, 3, 37), (64, .iload_n 1, 1, 0), (65, .iload_n 3, 1, 0), (66, .iadd, 1, 0), (67, .goto 6, 3, 40), (70, .iload_n 1, 1, 0), (71, .iload_n 3, 1, 0), (72, .isub, 1, 0), (73, .istore_n 1, 1, 0), (74, .goto (-69), 3, 3), (77, .iload_n 1, 1, 0), (78, .ireturn, 1, 0)])
theorem k_M_sums : zchk m_M_sums = true := by decide +kernel
def m_M_workOut : ZM := (yX11_workOut, cX11_workOut, 8, some .int, [(0, .aload_n 0, 1, 0), (1, .iload_n 1, 1, 0), (2, .putfield 158, 3, 0), (5, .aload_n 0, 1, 0), (6, .iconst 0, 1, 0), (7, .putfield 152, 3, 0), (10, .aload_n 0, 1, 0), (11, .iload_n 2, 1, 0), (12, .putfield 155, 3, 0), (15, .aload_n 0, 1, 0), (16, .iconst (-1), 1, 0), (17, .putfield 161, 3, 0), (20, .aload_n 0, 1, 0), (21, .iconst 0, 1, 0), (22, .putfield 186, 3, 0), (25, .iconst 0, 1, 0), (26, .istore_n 3, 1, 0), (27, .iconst 0, 1, 0), (28, .istore 4, 2, 0), (30, .iconst 1, 1, 0), (31, .istore 5, 2, 0), (33, .iload 5, 2, 0), (35, .ifCond .eq 72, 3, 57), (38, .aload_n 0, 1, 0), (39, .invokevirtual 192, 3, 0), (42, .istore 6, 2, 0), (44, .iconst 1, 1, 0), (45, .istore 7, 2, 0), (47, .aload_n 0, 1, 0), (48, .bipush 63, 2, 0), (50, .invokevirtual 171, 3, 0), (53, .ifCond .eq 21, 3, 41), (56, .iload 6, 2, 0), (58, .ifCond .eq 7, 3, 36), (61, .iconst 1, 1, 0), (62, .goto 4, 3, 37), (65, .iconst 0, 1, 0), (66, .istore 7, 2, 0), (68, .aload_n 0, 1, 0), (69, .invokevirtual 192, 3, 0), (72, .istore 6, 2, 0), (74, .aload_n 0, 1, 0), (75, .getfield 161, 3, 0), (78, .ifCond .ge 18, 3, 52), (81, .iload 7, 2, 0), (83, .ifCond .eq 13, 3, 52), (86, .iload_n 3, 1, 0), (87, .ifCond .ne 9, 3, 52), (90, .iconst 1, 1, 0), (91, .istore_n 3, 1, 0), (92, .iload 6, 2, 0), (94, .istore 4, 2, 0), (96, .aload_n 0, 1, 0), (97, .bipush 59, 2, 0), (99, .invokevirtual 171, 3, 0), (102, .istore 5, 2, 0), (104, .goto (-71), 3, 21), (107, .aload_n 0, 1, 0), (108, .getfield 161, 3, 0), (111, .ifCond .ge 19, 3, 68), (114, .aload_n 0, 1, 0), (115, .getfield 152, 3, 0), (118, .aload_n 0, 1, 0), (119, .getfield 155, 3, 0), (122, .if_icmp .ge 8, 3, 68), (125, .aload_n 0, 1, 0), (126, .invokevirtual 189, 3, 0), (129, .ireturn, 1, 0), (130, .iload 4, 2, 0), (132, .ireturn, 1, 0)])
theorem k_M_workOut : zchk m_M_workOut = true := by decide +kernel
def m_M_law : ZM := (yX11_law, cX11_law, 4, some .int, [(0, .aload_n 0, 1, 0), (1, .iconst (-1), 1, 0), (2, .aload_n 0, 1, 0), (3, .getfield 149, 3, 0), (6, .invokevirtual 199, 3, 0), (9, .istore_n 1, 1, 0), (10, .aload_n 0, 1, 0), (11, .getfield 149, 3, 0), (14, .istore_n 2, 1, 0), (15, .aload_n 0, 1, 0), (16, .iconst 0, 1, 0), (17, .putfield 149, 3, 0), (20, .aload_n 0, 1, 0), (21, .getfield 161, 3, 0), (24, .ifCond .lt 11, 3, 20), (27, .bipush (-100), 2, 0), (29, .aload_n 0, 1, 0), (30, .getfield 161, 3, 0), (33, .isub, 1, 0), (34, .ireturn, 1, 0), (35, .iconst 0, 1, 0), (36, .istore_n 3, 1, 0), (37, .iload_n 3, 1, 0), (38, .iload_n 2, 1, 0), (39, .if_icmp .ge 21, 3, 35), (42, .aload_n 0, 1, 0), (43, .getfield 31, 3, 0), (46, .iload_n 3, 1, 0), (47, .aload_n 0, 1, 0), (48, .getfield 28, 3, 0), (51, .iload_n 3, 1, 0), (52, .iaload, 1, 0), (53, .iastore, 1, 0), (54, .iinc 3 1, 3, 0), (57, .goto (-20), 3, 22), (60, .aload_n 0, 1, 0), (61, .iload_n 2, 1, 0), (62, .putfield 78, 3, 0), (65, .iconst 1, 1, 0), (66, .ireturn, 1, 0)])
theorem k_M_law : zchk m_M_law = true := by decide +kernel
def m_Council_everything : ZM := (yX3_everything, cX3_everything, 1, some .int, [(0, .iconst 1, 1, 0), (1, .aload_n 0, 1, 0), (2, .getfield 31, 3, 0), (5, .ishl, 1, 0), (6, .iconst 1, 1, 0), (7, .isub, 1, 0), (8, .ireturn, 1, 0)])
theorem k_Council_everything : zchk m_Council_everything = true := by decide +kernel
def m_Council_isBundle : ZM := (yX3_isBundle, cX3_isBundle, 2, some .boolean, [(0, .iload_n 1, 1, 0), (1, .ifCond .le 15, 3, 8), (4, .iload_n 1, 1, 0), (5, .aload_n 0, 1, 0), (6, .invokevirtual 38, 3, 0), (9, .if_icmp .gt 7, 3, 8), (12, .iconst 1, 1, 0), (13, .goto 4, 3, 9), (16, .iconst 0, 1, 0), (17, .ireturn, 1, 0)])
theorem k_Council_isBundle : zchk m_Council_isBundle = true := by decide +kernel
def m_Council_everybody : ZM := (yX3_everybody, cX3_everybody, 1, some .int, [(0, .iconst 1, 1, 0), (1, .aload_n 0, 1, 0), (2, .getfield 28, 3, 0), (5, .ishl, 1, 0), (6, .iconst 1, 1, 0), (7, .isub, 1, 0), (8, .ireturn, 1, 0)])
theorem k_Council_everybody : zchk m_Council_everybody = true := by decide +kernel
def m_Council_isGifts : ZM := (yX3_isGifts, cX3_isGifts, 2, some .boolean, [(0, .iload_n 1, 1, 0), (1, .ifCond .lt 15, 3, 8), (4, .iload_n 1, 1, 0), (5, .aload_n 0, 1, 0), (6, .invokevirtual 42, 3, 0), (9, .if_icmp .gt 7, 3, 8), (12, .iconst 1, 1, 0), (13, .goto 4, 3, 9), (16, .iconst 0, 1, 0), (17, .ireturn, 1, 0)])
theorem k_Council_isGifts : zchk m_Council_isGifts = true := by decide +kernel
def m_X_isPut : ZM := (yX10_isPut, cX10_isPut, 3, some .boolean, [(0, .aload_n 0, 1, 0), (1, .getfield 10, 3, 0), (4, .iload_n 1, 1, 0), (5, .invokevirtual 187, 3, 0), (8, .ifCond .eq 18, 3, 12), (11, .aload_n 0, 1, 0), (12, .getfield 10, 3, 0), (15, .iload_n 2, 1, 0), (16, .invokevirtual 190, 3, 0), (19, .ifCond .eq 7, 3, 12), (22, .iconst 1, 1, 0), (23, .goto 4, 3, 13), (26, .iconst 0, 1, 0), (27, .ireturn, 1, 0)])
theorem k_X_isPut : zchk m_X_isPut = true := by decide +kernel
def m_Council_sumOf : ZM := (yX3_sumOf, cX3_sumOf, 6, some .int, [(0, .iconst 0, 1, 0), (1, .istore 4, 2, 0), (3, .iconst 0, 1, 0), (4, .istore 5, 2, 0), (6, .iload 5, 2, 0), (8, .aload_n 0, 1, 0), (9, .getfield 31, 3, 0), (12, .if_icmp .ge 39, 3, 30), (15, .iload_n 2, 1, 0), (16, .iload 5, 2, 0), (18, .iushr, 1, 0), (19, .iconst 1, 1, 0), (20, .iand, 1, 0), (21, .ifCond .eq 24, 3, 28), (24, .iload 4, 2, 0), (26, .aload_n 0, 1, 0), (27, .iload_n 3, 1, 0), (28, .bipush 100, 2, 0), (30, .imul, 1, 0), (31, .bipush 10, 2, 0), (33, .iload_n 1, 1, 0), (34, .imul, 1, 0), (35, .iadd, 1, 0), (36, .iload 5, 2, 0), (38, .iadd, 1, 0), (39, .invokevirtual 64, 3, 0), (42, .iadd, 1, 0), (43, .istore 4, 2, 0), (45, .iinc 5 1, 3, 0), (48, .goto (-42), 3, 4), (51, .iload 4, 2, 0), (53, .ireturn, 1, 0)])
theorem k_Council_sumOf : zchk m_Council_sumOf = true := by decide +kernel
def m_Ballot_weigh : ZM := (yX0_weigh, cX0_weigh, 4, none, [(0, .aload_n 0, 1, 0), (1, .iconst 0, 1, 0), (2, .putfield 53, 3, 0), (5, .iconst 0, 1, 0), (6, .istore_n 3, 1, 0), (7, .iload_n 3, 1, 0), (8, .aload_n 0, 1, 0), (9, .getfield 18, 3, 0), (12, .getfield 30, 3, 0), (15, .if_icmp .ge 62, 3, 46), (18, .iload_n 3, 1, 0), (19, .bipush 10, 2, 0), (21, .if_icmp .ge 56, 3, 46), (24, .aload_n 0, 1, 0), (25, .getfield 9, 3, 0), (28, .iload_n 3, 1, 0), (29, .aload_n 0, 1, 0), (30, .getfield 18, 3, 0), (33, .iload_n 3, 1, 0), (34, .iload_n 1, 1, 0), (35, .iconst 0, 1, 0), (36, .invokevirtual 56, 3, 0), (39, .iload_n 2, 1, 0), (40, .iload_n 3, 1, 0), (41, .iushr, 1, 0), (42, .iconst 1, 1, 0), (43, .iand, 1, 0), (44, .iadd, 1, 0), (45, .iastore, 1, 0), (46, .aload_n 0, 1, 0), (47, .dup, 1, 0), (48, .getfield 53, 3, 0), (51, .aload_n 0, 1, 0), (52, .getfield 9, 3, 0), (55, .iload_n 3, 1, 0), (56, .iaload, 1, 0), (57, .ifCond .le 9, 3, 41), (60, .iconst 1, 1, 0), (61, .iload_n 3, 1, 0), (62, .ishl, 1, 0), (63, .goto 4, 3, 42), (66, .iconst 0, 1, 0), (67, .ior, 1, 0), (68, .putfield 53, 3, 0), (71, .iinc 3 1, 3, 0), (74, .goto (-67), 3, 5), (77, .return_, 1, 0)])
theorem k_Ballot_weigh : zchk m_Ballot_weigh = true := by decide +kernel
def m_Code_isEmpty : ZM := (yX2_isEmpty, cX2_isEmpty, 1, some .boolean, [(0, .aload_n 0, 1, 0), (1, .getfield 19, 3, 0), (4, .ifCond .ne 7, 3, 5), (7, .iconst 1, 1, 0), (8, .goto 4, 3, 6), (11, .iconst 0, 1, 0), (12, .ireturn, 1, 0)])
theorem k_Code_isEmpty : zchk m_Code_isEmpty = true := by decide +kernel
def m_Ballot_nearOf : ZM := (yX0_nearOf, cX0_nearOf, 4, some .int, [(0, .bipush 9, 2, 0), (2, .istore_n 2, 1, 0), (3, .iconst 0, 1, 0), (4, .istore_n 3, 1, 0), (5, .iload_n 3, 1, 0), (6, .aload_n 0, 1, 0), (7, .getfield 18, 3, 0), (10, .getfield 30, 3, 0), (13, .if_icmp .ge 39, 3, 29), (16, .iload_n 3, 1, 0), (17, .iload_n 1, 1, 0), (18, .if_icmp .eq 28, 3, 27), (21, .aload_n 0, 1, 0), (22, .getfield 53, 3, 0), (25, .iload_n 3, 1, 0), (26, .iushr, 1, 0), (27, .iconst 1, 1, 0), (28, .iand, 1, 0), (29, .ifCond .eq 17, 3, 27), (32, .iload_n 2, 1, 0), (33, .aload_n 0, 1, 0), (34, .getfield 18, 3, 0), (37, .iload_n 1, 1, 0), (38, .iload_n 3, 1, 0), (39, .invokevirtual 73, 3, 0), (42, .invokestatic 77, 3, 0), (45, .istore_n 2, 1, 0), (46, .iinc 3 1, 3, 0), (49, .goto (-44), 3, 4), (52, .iload_n 2, 1, 0), (53, .ireturn, 1, 0)])
theorem k_Ballot_nearOf : zchk m_Ballot_nearOf = true := by decide +kernel
def m_Ballot_isFree : ZM := (yX0_isFree, cX0_isFree, 3, some .boolean, [(0, .aload_n 0, 1, 0), (1, .getfield 53, 3, 0), (4, .iload_n 1, 1, 0), (5, .iushr, 1, 0), (6, .iconst 1, 1, 0), (7, .iand, 1, 0), (8, .ifCond .ne 16, 3, 14), (11, .aload_n 0, 1, 0), (12, .iload_n 1, 1, 0), (13, .invokevirtual 60, 3, 0), (16, .iload_n 2, 1, 0), (17, .if_icmp .le 7, 3, 14), (20, .iconst 1, 1, 0), (21, .goto 4, 3, 15), (24, .iconst 0, 1, 0), (25, .ireturn, 1, 0)])
theorem k_Ballot_isFree : zchk m_Ballot_isFree = true := by decide +kernel
def m_Int_bitCount : ZM := (yJ6_bitCount_0f7a4, cJ6_bitCount_0f7a4, 1, some .int, [(0, .iload_n 0, 1, 0), (1, .iload_n 0, 1, 0), (2, .iconst 1, 1, 0), (3, .iushr, 1, 0), (4, .ldc_w 265, 3, 0), (7, .iand, 1, 0), (8, .isub, 1, 0), (9, .istore_n 0, 1, 0), (10, .iload_n 0, 1, 0), (11, .ldc_w 266, 3, 0), (14, .iand, 1, 0), (15, .iload_n 0, 1, 0), (16, .iconst 2, 1, 0), (17, .iushr, 1, 0), (18, .ldc_w 266, 3, 0), (21, .iand, 1, 0), (22, .iadd, 1, 0), (23, .istore_n 0, 1, 0), (24, .iload_n 0, 1, 0), (25, .iload_n 0, 1, 0), (26, .iconst 4, 1, 0), (27, .iushr, 1, 0), (28, .iadd, 1, 0), (29, .ldc_w 267, 3, 0), (32, .iand, 1, 0), (33, .istore_n 0, 1, 0), (34, .iload_n 0, 1, 0), (35, .iload_n 0, 1, 0), (36, .bipush 8, 2, 0), (38, .iushr, 1, 0), (39, .iadd, 1, 0), (40, .istore_n 0, 1, 0), (41, .iload_n 0, 1, 0), (42, .iload_n 0, 1, 0), (43, .bipush 16, 2, 0), (45, .iushr, 1, 0), (46, .iadd, 1, 0), (47, .istore_n 0, 1, 0), (48, .iload_n 0, 1, 0), (49, .bipush 63, 2, 0), (51, .iand, 1, 0), (52, .ireturn, 1, 0)])
theorem k_Int_bitCount : zchk m_Int_bitCount = true := by decide +kernel
def m_Code_named : ZM := (yX2_named, cX2_named, 2, some .int, [(0, .iload_n 1, 1, 0), (1, .ifCond .lt 15, 3, 10), (4, .iload_n 1, 1, 0), (5, .aload_n 0, 1, 0), (6, .arraylength, 1, 0), (7, .if_icmp .ge 9, 3, 10), (10, .aload_n 0, 1, 0), (11, .iload_n 1, 1, 0), (12, .iaload, 1, 0), (13, .goto 4, 3, 11), (16, .iconst 0, 1, 0), (17, .ireturn, 1, 0)])
theorem k_Code_named : zchk m_Code_named = true := by decide +kernel
def m_Code_needOf : ZM := (yX2_needOf, cX2_needOf, 1, some .int, [(0, .iload_n 0, 1, 0), (1, .bipush 59, 2, 0), (3, .if_icmp .eq 15, 3, 9), (6, .iload_n 0, 1, 0), (7, .bipush 33, 2, 0), (9, .if_icmp .eq 9, 3, 9), (12, .iload_n 0, 1, 0), (13, .bipush 126, 2, 0), (15, .if_icmp .ne 7, 3, 11), (18, .iconst 1, 1, 0), (19, .goto 4, 3, 12), (22, .iconst 2, 1, 0), (23, .ireturn, 1, 0)])
theorem k_Code_needOf : zchk m_Code_needOf = true := by decide +kernel
def m_Code_joined : ZM := (yX2_joined, cX2_joined, 3, some .int, [(0, .iload_n 0, 1, 0), (1, .lookupswitch 188 #[(37, 176), (38, 105), (42, 160), (43, 152), (45, 156), (47, 164), (60, 119), (61, 130), (62, 141), (124, 91)], 91, 0), (92, .iload_n 1, 1, 0), (93, .ifCond .ne 7, 3, 6), (96, .iload_n 2, 1, 0), (97, .ifCond .eq 7, 3, 8), (100, .iconst 1, 1, 0), (101, .goto 4, 3, 9), (104, .iconst 0, 1, 0), (105, .ireturn, 1, 0), (106, .iload_n 1, 1, 0), (107, .ifCond .eq 11, 3, 16), (110, .iload_n 2, 1, 0), (111, .ifCond .eq 7, 3, 16), (114, .iconst 1, 1, 0), (115, .goto 4, 3, 17), (118, .iconst 0, 1, 0), (119, .ireturn, 1, 0), (120, .iload_n 1, 1, 0), (121, .iload_n 2, 1, 0), (122, .if_icmp .ge 7, 3, 23), (125, .iconst 1, 1, 0), (126, .goto 4, 3, 24), (129, .iconst 0, 1, 0), (130, .ireturn, 1, 0), (131, .iload_n 1, 1, 0), (132, .iload_n 2, 1, 0), (133, .if_icmp .ne 7, 3, 30), (136, .iconst 1, 1, 0), (137, .goto 4, 3, 31), (140, .iconst 0, 1, 0), (141, .ireturn, 1, 0), (142, .iload_n 1, 1, 0), (143, .iload_n 2, 1, 0), (144, .if_icmp .le 7, 3, 37), (147, .iconst 1, 1, 0), (148, .goto 4, 3, 38), (151, .iconst 0, 1, 0), (152, .ireturn, 1, 0), (153, .iload_n 1, 1, 0), (154, .iload_n 2, 1, 0), (155, .iadd, 1, 0), (156, .ireturn, 1, 0), (157, .iload_n 1, 1, 0), (158, .iload_n 2, 1, 0), (159, .isub, 1, 0), (160, .ireturn, 1, 0), (161, .iload_n 1, 1, 0), (162, .iload_n 2, 1, 0), (163, .imul, 1, 0), (164, .ireturn, 1, 0), (165, .iload_n 2, 1, 0), (166, .ifCond .ne 7, 3, 55), (169, .iconst 0, 1, 0), (170, .goto 6, 3, 58), (173, .iload_n 1, 1, 0), (174, .iload_n 2, 1, 0), (175, .idiv, 1, 0), (176, .ireturn, 1, 0), (177, .iload_n 2, 1, 0), (178, .ifCond .ne 7, 3, 63), (181, .iconst 0, 1, 0), (182, .goto 6, 3, 66), (185, .iload_n 1, 1, 0), (186, .iload_n 2, 1, 0), (187, .irem, 1, 0), (188, .ireturn, 1, 0), (189, .iconst 0, 1, 0), (190, .ireturn, 1, 0)])
theorem k_Code_joined : zchk m_Code_joined = true := by decide +kernel
def m_Code_worth : ZM := (yX2_worth, cX2_worth, 5, some .int, [(0, .iconst 0, 1, 0), (1, .istore_n 2, 1, 0), (2, .iconst 0, 1, 0), (3, .istore_n 3, 1, 0), (4, .iload_n 3, 1, 0), (5, .aload_n 0, 1, 0), (6, .getfield 19, 3, 0), (9, .if_icmp .ge 230, 3, 134), (12, .iload_n 3, 1, 0), (13, .sipush 128, 3, 0), (16, .if_icmp .ge 223, 3, 134), (19, .aload_n 0, 1, 0), (20, .getfield 9, 3, 0), (23, .iload_n 3, 1, 0), (24, .iaload, 1, 0), (25, .istore 4, 2, 0), (27, .iload 4, 2, 0), (29, .bipush 48, 2, 0), (31, .if_icmp .eq 10, 3, 22), (34, .iload 4, 2, 0), (36, .bipush 97, 2, 0), (38, .if_icmp .ne 50, 3, 47), (41, .iload_n 2, 1, 0), (42, .sipush 128, 3, 0), (45, .if_icmp .lt 5, 3, 27), (48, .iconst 0, 1, 0), (49, .ireturn, 1, 0), (50, .aload_n 0, 1, 0), (51, .getfield 16, 3, 0), (54, .iload_n 2, 1, 0), (55, .iload 4, 2, 0), (57, .bipush 48, 2, 0), (59, .if_icmp .ne 12, 3, 38), (62, .aload_n 0, 1, 0), (63, .getfield 13, 3, 0), (66, .iload_n 3, 1, 0), (67, .iaload, 1, 0), (68, .goto 13, 3, 44), (71, .aload_n 1, 1, 0), (72, .aload_n 0, 1, 0), (73, .getfield 13, 3, 0), (76, .iload_n 3, 1, 0), (77, .iaload, 1, 0), (78, .invokestatic 29, 3, 0), (81, .iastore, 1, 0), (82, .iinc 2 1, 3, 0), (85, .goto 148, 3, 132), (88, .iload_n 2, 1, 0), (89, .iload 4, 2, 0), (91, .invokestatic 33, 3, 0), (94, .if_icmp .ge 5, 3, 53), (97, .iconst 0, 1, 0), (98, .ireturn, 1, 0), (99, .iload 4, 2, 0), (101, .bipush 59, 2, 0), (103, .if_icmp .ne 12, 3, 63), (106, .aload_n 0, 1, 0), (107, .getfield 16, 3, 0), (110, .iload_n 2, 1, 0), (111, .iconst 1, 1, 0), (112, .isub, 1, 0), (113, .iaload, 1, 0), (114, .ireturn, 1, 0), (115, .iload 4, 2, 0), (117, .bipush 33, 2, 0), (119, .if_icmp .eq 10, 3, 69), (122, .iload 4, 2, 0), (124, .bipush 126, 2, 0), (126, .if_icmp .ne 49, 3, 97), (129, .aload_n 0, 1, 0), (130, .getfield 16, 3, 0), (133, .iload_n 2, 1, 0), (134, .iconst 1, 1, 0), (135, .isub, 1, 0), (136, .iload 4, 2, 0), (138, .bipush 126, 2, 0), (140, .if_icmp .ne 15, 3, 85), (143, .aload_n 0, 1, 0), (144, .getfield 16, 3, 0), (147, .iload_n 2, 1, 0), (148, .iconst 1, 1, 0), (149, .isub, 1, 0), (150, .iaload, 1, 0), (151, .ineg, 1, 0), (152, .goto 19, 3, 95), (155, .aload_n 0, 1, 0), (156, .getfield 16, 3, 0), (159, .iload_n 2, 1, 0), (160, .iconst 1, 1, 0), (161, .isub, 1, 0), (162, .iaload, 1, 0), (163, .ifCond .ne 7, 3, 94), (166, .iconst 1, 1, 0), (167, .goto 4, 3, 95), (170, .iconst 0, 1, 0), (171, .iastore, 1, 0), (172, .goto 61, 3, 132), (175, .iload 4, 2, 0), (177, .bipush 63, 2, 0), (179, .if_icmp .ne 24, 3, 113), (182, .iinc 2 (-2), 3, 0), (185, .aload_n 0, 1, 0), (186, .getfield 16, 3, 0), (189, .iload_n 2, 1, 0), (190, .iaload, 1, 0), (191, .ifCond .eq 42, 3, 132), (194, .aload_n 0, 1, 0), (195, .getfield 16, 3, 0), (198, .iload_n 2, 1, 0), (199, .iconst 1, 1, 0), (200, .iadd, 1, 0), (201, .iaload, 1, 0), (202, .ireturn, 1, 0), (203, .iinc 2 (-1), 3, 0), (206, .aload_n 0, 1, 0), (207, .getfield 16, 3, 0), (210, .iload_n 2, 1, 0), (211, .iconst 1, 1, 0), (212, .isub, 1, 0), (213, .iload 4, 2, 0), (215, .aload_n 0, 1, 0), (216, .getfield 16, 3, 0), (219, .iload_n 2, 1, 0), (220, .iconst 1, 1, 0), (221, .isub, 1, 0), (222, .iaload, 1, 0), (223, .aload_n 0, 1, 0), (224, .getfield 16, 3, 0), (227, .iload_n 2, 1, 0), (228, .iaload, 1, 0), (229, .invokestatic 37, 3, 0), (232, .iastore, 1, 0), (233, .iinc 3 1, 3, 0), (236, .goto (-232), 3, 4), (239, .iconst 0, 1, 0), (240, .ireturn, 1, 0)])
theorem k_Code_worth : zchk m_Code_worth = true := by decide +kernel
def m_Ballot_isAllowed : ZM := (yX0_isAllowed, cX0_isAllowed, 4, some .boolean, [(0, .iload_n 1, 1, 0), (1, .ifCond .lt 9, 3, 5), (4, .iload_n 1, 1, 0), (5, .bipush 10, 2, 0), (7, .if_icmp .lt 5, 3, 7), (10, .iconst 0, 1, 0), (11, .ireturn, 1, 0), (12, .aload_n 0, 1, 0), (13, .getfield 15, 3, 0), (16, .iconst 0, 1, 0), (17, .aload_n 0, 1, 0), (18, .getfield 9, 3, 0), (21, .iload_n 1, 1, 0), (22, .iaload, 1, 0), (23, .iastore, 1, 0), (24, .aload_n 0, 1, 0), (25, .getfield 15, 3, 0), (28, .iconst 1, 1, 0), (29, .aload_n 0, 1, 0), (30, .iload_n 1, 1, 0), (31, .invokevirtual 60, 3, 0), (34, .iastore, 1, 0), (35, .aload_n 0, 1, 0), (36, .getfield 15, 3, 0), (39, .iconst 2, 1, 0), (40, .aload_n 0, 1, 0), (41, .getfield 18, 3, 0), (44, .iload_n 1, 1, 0), (45, .iload_n 2, 1, 0), (46, .iconst 1, 1, 0), (47, .invokevirtual 56, 3, 0), (50, .iastore, 1, 0), (51, .aload_n 0, 1, 0), (52, .getfield 15, 3, 0), (55, .iconst 3, 1, 0), (56, .iload_n 1, 1, 0), (57, .iastore, 1, 0), (58, .aload_n 0, 1, 0), (59, .getfield 15, 3, 0), (62, .iconst 4, 1, 0), (63, .iload_n 2, 1, 0), (64, .invokestatic 64, 3, 0), (67, .iastore, 1, 0), (68, .aload_n 0, 1, 0), (69, .getfield 15, 3, 0), (72, .iconst 5, 1, 0), (73, .iload_n 3, 1, 0), (74, .iload_n 1, 1, 0), (75, .iushr, 1, 0), (76, .iconst 1, 1, 0), (77, .iand, 1, 0), (78, .iastore, 1, 0), (79, .aload_n 0, 1, 0), (80, .getfield 22, 3, 0), (83, .aload_n 0, 1, 0), (84, .getfield 15, 3, 0), (87, .invokevirtual 69, 3, 0), (90, .ifCond .eq 7, 3, 60), (93, .iconst 1, 1, 0), (94, .goto 4, 3, 61), (97, .iconst 0, 1, 0), (98, .ireturn, 1, 0)])
theorem k_Ballot_isAllowed : zchk m_Ballot_isAllowed = true := by decide +kernel
def m_Ballot_whoMay : ZM := (yX0_whoMay, cX0_whoMay, 7, some .int, [(0, .aload_n 0, 1, 0), (1, .iload_n 2, 1, 0), (2, .iload_n 3, 1, 0), (3, .invokevirtual 26, 3, 0), (6, .iconst 0, 1, 0), (7, .istore 4, 2, 0), (9, .iconst 0, 1, 0), (10, .istore 5, 2, 0), (12, .iload 5, 2, 0), (14, .aload_n 0, 1, 0), (15, .getfield 18, 3, 0), (18, .getfield 30, 3, 0), (21, .if_icmp .ge 63, 3, 42), (24, .aload_n 0, 1, 0), (25, .getfield 22, 3, 0), (28, .invokevirtual 36, 3, 0), (31, .ifCond .eq 19, 3, 24), (34, .aload_n 0, 1, 0), (35, .iload 5, 2, 0), (37, .aload_n 0, 1, 0), (38, .getfield 18, 3, 0), (41, .getfield 42, 3, 0), (44, .invokevirtual 45, 3, 0), (47, .goto 11, 3, 29), (50, .aload_n 0, 1, 0), (51, .iload 5, 2, 0), (53, .iload_n 1, 1, 0), (54, .iload_n 3, 1, 0), (55, .invokevirtual 49, 3, 0), (58, .istore 6, 2, 0), (60, .iload 4, 2, 0), (62, .iload 6, 2, 0), (64, .ifCond .eq 10, 3, 37), (67, .iconst 1, 1, 0), (68, .iload 5, 2, 0), (70, .ishl, 1, 0), (71, .goto 4, 3, 38), (74, .iconst 0, 1, 0), (75, .ior, 1, 0), (76, .istore 4, 2, 0), (78, .iinc 5 1, 3, 0), (81, .goto (-69), 3, 8), (84, .iload 4, 2, 0), (86, .ireturn, 1, 0)])
theorem k_Ballot_whoMay : zchk m_Ballot_whoMay = true := by decide +kernel
def m_X_may : ZM := (yX10_may, cX10_may, 4, some .int, [(0, .aload_n 0, 1, 0), (1, .getfield 10, 3, 0), (4, .iload_n 1, 1, 0), (5, .invokevirtual 146, 3, 0), (8, .ifCond .eq 12, 3, 10), (11, .aload_n 0, 1, 0), (12, .iload_n 2, 1, 0), (13, .iload_n 3, 1, 0), (14, .invokevirtual 171, 3, 0), (17, .ifCond .ne 5, 3, 12), (20, .iconst (-1), 1, 0), (21, .ireturn, 1, 0), (22, .aload_n 0, 1, 0), (23, .getfield 44, 3, 0), (26, .iload_n 2, 1, 0), (27, .iload_n 2, 1, 0), (28, .iload_n 3, 1, 0), (29, .invokevirtual 174, 3, 0), (32, .iload_n 1, 1, 0), (33, .iushr, 1, 0), (34, .iconst 1, 1, 0), (35, .iand, 1, 0), (36, .ireturn, 1, 0)])
theorem k_X_may : zchk m_X_may = true := by decide +kernel
def m_M_isBundle : ZM := (yX11_isBundle, cX11_isBundle, 2, some .boolean, [(0, .iload_n 1, 1, 0), (1, .i2l, 1, 0), (2, .lconst 1, 1, 0), (3, .iconst 1, 1, 0), (4, .aload_n 0, 1, 0), (5, .getfield 101, 3, 0), (8, .ishl, 1, 0), (9, .iconst 1, 1, 0), (10, .isub, 1, 0), (11, .i2l, 1, 0), (12, .invokestatic 97, 3, 0), (15, .ireturn, 1, 0)])
theorem k_M_isBundle : zchk m_M_isBundle = true := by decide +kernel
def m_M_areGifts : ZM := (yX11_areGifts, cX11_areGifts, 2, some .boolean, [(0, .iload_n 1, 1, 0), (1, .i2l, 1, 0), (2, .lconst 0, 1, 0), (3, .iconst 1, 1, 0), (4, .aload_n 0, 1, 0), (5, .getfield 94, 3, 0), (8, .ishl, 1, 0), (9, .iconst 1, 1, 0), (10, .isub, 1, 0), (11, .i2l, 1, 0), (12, .invokestatic 97, 3, 0), (15, .ireturn, 1, 0)])
theorem k_M_areGifts : zchk m_M_areGifts = true := by decide +kernel
def m_M_touches : ZM := (yX11_touches, cX11_touches, 6, none, [(0, .iconst 0, 1, 0), (1, .istore 4, 2, 0), (3, .iload 4, 2, 0), (5, .aload_n 0, 1, 0), (6, .getfield 94, 3, 0), (9, .if_icmp .ge 129, 3, 72), (12, .aload_n 0, 1, 0), (13, .getfield 37, 3, 0), (16, .iload 4, 2, 0), (18, .iload_n 3, 1, 0), (19, .iload 4, 2, 0), (21, .invokestatic 118, 3, 0), (24, .ifCond .eq 7, 3, 15), (27, .iconst 1, 1, 0), (28, .goto 4, 3, 16), (31, .iconst 0, 1, 0), (32, .iastore, 1, 0), (33, .aload_n 0, 1, 0), (34, .getfield 40, 3, 0), (37, .iload 4, 2, 0), (39, .iconst 0, 1, 0), (40, .iastore, 1, 0), (41, .iconst 0, 1, 0), (42, .istore 5, 2, 0), (44, .iload 5, 2, 0), (46, .aload_n 0, 1, 0), (47, .getfield 101, 3, 0), (50, .if_icmp .ge 82, 3, 70), (53, .aload_n 0, 1, 0), (54, .getfield 37, 3, 0), (57, .iload 4, 2, 0), (59, .dup2, 1, 0), (60, .iaload, 1, 0), (61, .iload_n 2, 1, 0), (62, .iload 5, 2, 0), (64, .invokestatic 118, 3, 0), (67, .ifCond .eq 18, 3, 44), (70, .aload_n 0, 1, 0), (71, .getfield 9, 3, 0), (74, .iload 4, 2, 0), (76, .iload 5, 2, 0), (78, .invokestatic 128, 3, 0), (81, .iaload, 1, 0), (82, .goto 4, 3, 45), (85, .iconst 0, 1, 0), (86, .iadd, 1, 0), (87, .iastore, 1, 0), (88, .aload_n 0, 1, 0), (89, .getfield 40, 3, 0), (92, .iload 4, 2, 0), (94, .dup2, 1, 0), (95, .iaload, 1, 0), (96, .iload_n 1, 1, 0), (97, .iload 5, 2, 0), (99, .invokestatic 118, 3, 0), (102, .ifCond .eq 21, 3, 65), (105, .aload_n 0, 1, 0), (106, .getfield 9, 3, 0), (109, .bipush 60, 2, 0), (111, .iload 4, 2, 0), (113, .iload 5, 2, 0), (115, .invokestatic 128, 3, 0), (118, .iadd, 1, 0), (119, .iaload, 1, 0), (120, .goto 4, 3, 66), (123, .iconst 0, 1, 0), (124, .iadd, 1, 0), (125, .iastore, 1, 0), (126, .iinc 5 1, 3, 0), (129, .goto (-85), 3, 24), (132, .iinc 4 1, 3, 0), (135, .goto (-132), 3, 2), (138, .return_, 1, 0)])
theorem k_M_touches : zchk m_M_touches = true := by decide +kernel
def m_M_nearOf : ZM := (yX11_nearOf, cX11_nearOf, 4, some .int, [(0, .iconst 0, 1, 0), (1, .istore_n 2, 1, 0), (2, .iconst 0, 1, 0), (3, .istore_n 3, 1, 0), (4, .iload_n 3, 1, 0), (5, .aload_n 0, 1, 0), (6, .getfield 94, 3, 0), (9, .if_icmp .ge 33, 3, 26), (12, .iload_n 2, 1, 0), (13, .iload_n 3, 1, 0), (14, .iload_n 1, 1, 0), (15, .if_icmp .eq 18, 3, 21), (18, .aload_n 0, 1, 0), (19, .getfield 37, 3, 0), (22, .iload_n 3, 1, 0), (23, .iaload, 1, 0), (24, .ifCond .le 9, 3, 21), (27, .iconst 1, 1, 0), (28, .iload_n 3, 1, 0), (29, .ishl, 1, 0), (30, .goto 4, 3, 22), (33, .iconst 0, 1, 0), (34, .ior, 1, 0), (35, .istore_n 2, 1, 0), (36, .iinc 3 1, 3, 0), (39, .goto (-35), 3, 4), (42, .aload_n 0, 1, 0), (43, .iload_n 1, 1, 0), (44, .iload_n 2, 1, 0), (45, .invokevirtual 144, 3, 0), (48, .ireturn, 1, 0)])
theorem k_M_nearOf : zchk m_M_nearOf = true := by decide +kernel
def m_M_bitsOf : ZM := (yX11_bitsOf, cX11_bitsOf, 3, some .int, [(0, .iconst 0, 1, 0), (1, .istore_n 1, 1, 0), (2, .iload_n 0, 1, 0), (3, .istore_n 2, 1, 0), (4, .iload_n 2, 1, 0), (5, .ifCond .eq 15, 3, 14), (8, .iinc 1 1, 3, 0), (11, .iload_n 2, 1, 0), (12, .iload_n 2, 1, 0), (13, .iconst 1, 1, 0), (14, .isub, 1, 0), (15, .iand, 1, 0), (16, .istore_n 2, 1, 0), (17, .goto (-13), 3, 4), (20, .iload_n 1, 1, 0), (21, .ireturn, 1, 0)])
theorem k_M_bitsOf : zchk m_M_bitsOf = true := by decide +kernel
def m_M_mayVote : ZM := (yX11_mayVote, cX11_mayVote, 5, some .boolean, [(0, .aload_n 0, 1, 0), (1, .iload_n 1, 1, 0), (2, .invokevirtual 202, 3, 0), (5, .istore 4, 2, 0), (7, .aload_n 0, 1, 0), (8, .getfield 78, 3, 0), (11, .ifCond .ge 27, 3, 20), (14, .aload_n 0, 1, 0), (15, .getfield 37, 3, 0), (18, .iload_n 1, 1, 0), (19, .iaload, 1, 0), (20, .ifCond .ne 16, 3, 18), (23, .iload 4, 2, 0), (25, .aload_n 0, 1, 0), (26, .getfield 82, 3, 0), (29, .if_icmp .le 7, 3, 18), (32, .iconst 1, 1, 0), (33, .goto 4, 3, 19), (36, .iconst 0, 1, 0), (37, .ireturn, 1, 0), (38, .aload_n 0, 1, 0), (39, .getfield 34, 3, 0), (42, .iconst 0, 1, 0), (43, .aload_n 0, 1, 0), (44, .getfield 37, 3, 0), (47, .iload_n 1, 1, 0), (48, .iaload, 1, 0), (49, .iastore, 1, 0), (50, .aload_n 0, 1, 0), (51, .getfield 34, 3, 0), (54, .iconst 1, 1, 0), (55, .iload 4, 2, 0), (57, .iastore, 1, 0), (58, .aload_n 0, 1, 0), (59, .getfield 34, 3, 0), (62, .iconst 2, 1, 0), (63, .aload_n 0, 1, 0), (64, .getfield 40, 3, 0), (67, .iload_n 1, 1, 0), (68, .iaload, 1, 0), (69, .iastore, 1, 0), (70, .aload_n 0, 1, 0), (71, .getfield 34, 3, 0), (74, .iconst 3, 1, 0), (75, .iload_n 1, 1, 0), (76, .iastore, 1, 0), (77, .aload_n 0, 1, 0), (78, .getfield 34, 3, 0), (81, .iconst 4, 1, 0), (82, .iload_n 2, 1, 0), (83, .invokestatic 205, 3, 0), (86, .iastore, 1, 0), (87, .aload_n 0, 1, 0), (88, .getfield 34, 3, 0), (91, .iconst 5, 1, 0), (92, .iload_n 3, 1, 0), (93, .iload_n 1, 1, 0), (94, .invokestatic 118, 3, 0), (97, .ifCond .eq 7, 3, 61), (100, .iconst 1, 1, 0), (101, .goto 4, 3, 62), (104, .iconst 0, 1, 0), (105, .iastore, 1, 0), (106, .aload_n 0, 1, 0), (107, .iconst 0, 1, 0), (108, .aload_n 0, 1, 0), (109, .getfield 78, 3, 0), (112, .invokevirtual 199, 3, 0), (115, .ifCond .eq 7, 3, 71), (118, .iconst 1, 1, 0), (119, .goto 4, 3, 72), (122, .iconst 0, 1, 0), (123, .ireturn, 1, 0)])
theorem k_M_mayVote : zchk m_M_mayVote = true := by decide +kernel
def m_M_asks : ZM := (yX11_asks, cX11_asks, 5, none, [(0, .aload_n 0, 1, 0), (1, .iload_n 1, 1, 0), (2, .iload_n 2, 1, 0), (3, .iload_n 3, 1, 0), (4, .invokevirtual 208, 3, 0), (7, .aload_n 0, 1, 0), (8, .iconst 0, 1, 0), (9, .putfield 212, 3, 0), (12, .iconst 0, 1, 0), (13, .istore 4, 2, 0), (15, .iload 4, 2, 0), (17, .aload_n 0, 1, 0), (18, .getfield 94, 3, 0), (21, .if_icmp .ge 37, 3, 32), (24, .aload_n 0, 1, 0), (25, .dup, 1, 0), (26, .getfield 212, 3, 0), (29, .aload_n 0, 1, 0), (30, .iload 4, 2, 0), (32, .iload_n 1, 1, 0), (33, .iload_n 3, 1, 0), (34, .invokevirtual 215, 3, 0), (37, .ifCond .eq 10, 3, 27), (40, .iconst 1, 1, 0), (41, .iload 4, 2, 0), (43, .ishl, 1, 0), (44, .goto 4, 3, 28), (47, .iconst 0, 1, 0), (48, .ior, 1, 0), (49, .putfield 212, 3, 0), (52, .iinc 4 1, 3, 0), (55, .goto (-40), 3, 10), (58, .return_, 1, 0)])
theorem k_M_asks : zchk m_M_asks = true := by decide +kernel
def m_M_may : ZM := (yX11_may, cX11_may, 4, some .int, [(0, .aload_n 0, 1, 0), (1, .iload_n 1, 1, 0), (2, .invokevirtual 104, 3, 0), (5, .ifCond .eq 19, 3, 12), (8, .aload_n 0, 1, 0), (9, .iload_n 2, 1, 0), (10, .invokevirtual 232, 3, 0), (13, .ifCond .eq 11, 3, 12), (16, .aload_n 0, 1, 0), (17, .iload_n 3, 1, 0), (18, .invokevirtual 235, 3, 0), (21, .ifCond .ne 5, 3, 14), (24, .iconst (-1), 1, 0), (25, .ireturn, 1, 0), (26, .aload_n 0, 1, 0), (27, .iload_n 2, 1, 0), (28, .iload_n 2, 1, 0), (29, .iload_n 3, 1, 0), (30, .invokevirtual 226, 3, 0), (33, .aload_n 0, 1, 0), (34, .getfield 212, 3, 0), (37, .iload_n 1, 1, 0), (38, .invokestatic 118, 3, 0), (41, .ifCond .eq 7, 3, 26), (44, .iconst 1, 1, 0), (45, .goto 4, 3, 27), (48, .iconst 0, 1, 0), (49, .ireturn, 1, 0)])
theorem k_M_may : zchk m_M_may = true := by decide +kernel
def m_Ballot_whoLeans : ZM := (yX0_whoLeans, cX0_whoLeans, 5, some .int, [(0, .iconst 0, 1, 0), (1, .istore_n 3, 1, 0), (2, .iconst 0, 1, 0), (3, .istore 4, 2, 0), (5, .iload 4, 2, 0), (7, .aload_n 0, 1, 0), (8, .getfield 18, 3, 0), (11, .getfield 30, 3, 0), (14, .if_icmp .ge 36, 3, 28), (17, .iload_n 3, 1, 0), (18, .iload_n 2, 1, 0), (19, .aload_n 0, 1, 0), (20, .getfield 18, 3, 0), (23, .iload 4, 2, 0), (25, .iload_n 1, 1, 0), (26, .iconst 1, 1, 0), (27, .invokevirtual 56, 3, 0), (30, .imul, 1, 0), (31, .ifCond .le 10, 3, 23), (34, .iconst 1, 1, 0), (35, .iload 4, 2, 0), (37, .ishl, 1, 0), (38, .goto 4, 3, 24), (41, .iconst 0, 1, 0), (42, .ior, 1, 0), (43, .istore_n 3, 1, 0), (44, .iinc 4 1, 3, 0), (47, .goto (-42), 3, 4), (50, .iload_n 3, 1, 0), (51, .ireturn, 1, 0)])
theorem k_Ballot_whoLeans : zchk m_Ballot_whoLeans = true := by decide +kernel
def m_Ballot_fans : ZM := (yX0_fans, cX0_fans, 2, some .int, [(0, .aload_n 0, 1, 0), (1, .iload_n 1, 1, 0), (2, .iconst 1, 1, 0), (3, .invokevirtual 82, 3, 0), (6, .ireturn, 1, 0)])
theorem k_Ballot_fans : zchk m_Ballot_fans = true := by decide +kernel
def m_Ballot_foes : ZM := (yX0_foes, cX0_foes, 2, some .int, [(0, .aload_n 0, 1, 0), (1, .iload_n 1, 1, 0), (2, .iconst (-1), 1, 0), (3, .invokevirtual 82, 3, 0), (6, .ireturn, 1, 0)])
theorem k_Ballot_foes : zchk m_Ballot_foes = true := by decide +kernel
def m_Ballot_isMore : ZM := (yX0_isMore, cX0_isMore, 2, some .boolean, [(0, .iload_n 0, 1, 0), (1, .invokestatic 64, 3, 0), (4, .iload_n 1, 1, 0), (5, .invokestatic 64, 3, 0), (8, .if_icmp .le 7, 3, 7), (11, .iconst 1, 1, 0), (12, .goto 4, 3, 8), (15, .iconst 0, 1, 0), (16, .ireturn, 1, 0)])
theorem k_Ballot_isMore : zchk m_Ballot_isMore = true := by decide +kernel
def m_Ballot_isCarriedBy : ZM := (yX0_isCarriedBy, cX0_isCarriedBy, 4, some .boolean, [(0, .iload_n 1, 1, 0), (1, .invokestatic 64, 3, 0), (4, .aload_n 0, 1, 0), (5, .getfield 18, 3, 0), (8, .getfield 97, 3, 0), (11, .if_icmp .lt 19, 3, 16), (14, .iload_n 1, 1, 0), (15, .iload_n 2, 1, 0), (16, .iand, 1, 0), (17, .iload_n 1, 1, 0), (18, .iload_n 3, 1, 0), (19, .iand, 1, 0), (20, .invokestatic 100, 3, 0), (23, .ifCond .eq 7, 3, 16), (26, .iconst 1, 1, 0), (27, .goto 4, 3, 17), (30, .iconst 0, 1, 0), (31, .ireturn, 1, 0)])
theorem k_Ballot_isCarriedBy : zchk m_Ballot_isCarriedBy = true := by decide +kernel
def m_Ballot_isCarried : ZM := (yX0_isCarried, cX0_isCarried, 3, some .boolean, [(0, .aload_n 0, 1, 0), (1, .aload_n 0, 1, 0), (2, .iload_n 1, 1, 0), (3, .iload_n 1, 1, 0), (4, .iload_n 2, 1, 0), (5, .invokevirtual 85, 3, 0), (8, .aload_n 0, 1, 0), (9, .iload_n 1, 1, 0), (10, .invokevirtual 88, 3, 0), (13, .aload_n 0, 1, 0), (14, .iload_n 1, 1, 0), (15, .invokevirtual 91, 3, 0), (18, .invokevirtual 94, 3, 0), (21, .ireturn, 1, 0)])
theorem k_Ballot_isCarried : zchk m_Ballot_isCarried = true := by decide +kernel
def m_X_vote : ZM := (yX10_vote, cX10_vote, 4, some .int, [(0, .aload_n 0, 1, 0), (1, .iload_n 1, 1, 0), (2, .iload_n 2, 1, 0), (3, .invokevirtual 171, 3, 0), (6, .ifCond .ne 5, 3, 7), (9, .iconst (-1), 1, 0), (10, .ireturn, 1, 0), (11, .iload_n 3, 1, 0), (12, .tableswitch 101 0 3 #[32, 43, 63, 83], 32, 0), (44, .aload_n 0, 1, 0), (45, .getfield 44, 3, 0), (48, .iload_n 1, 1, 0), (49, .iload_n 1, 1, 0), (50, .iload_n 2, 1, 0), (51, .invokevirtual 174, 3, 0), (54, .ireturn, 1, 0), (55, .aload_n 0, 1, 0), (56, .getfield 44, 3, 0), (59, .iload_n 1, 1, 0), (60, .iload_n 1, 1, 0), (61, .iload_n 2, 1, 0), (62, .invokevirtual 174, 3, 0), (65, .aload_n 0, 1, 0), (66, .getfield 44, 3, 0), (69, .iload_n 1, 1, 0), (70, .invokevirtual 178, 3, 0), (73, .iand, 1, 0), (74, .ireturn, 1, 0), (75, .aload_n 0, 1, 0), (76, .getfield 44, 3, 0), (79, .iload_n 1, 1, 0), (80, .iload_n 1, 1, 0), (81, .iload_n 2, 1, 0), (82, .invokevirtual 174, 3, 0), (85, .aload_n 0, 1, 0), (86, .getfield 44, 3, 0), (89, .iload_n 1, 1, 0), (90, .invokevirtual 181, 3, 0), (93, .iand, 1, 0), (94, .ireturn, 1, 0), (95, .aload_n 0, 1, 0), (96, .getfield 44, 3, 0), (99, .iload_n 1, 1, 0), (100, .iload_n 2, 1, 0), (101, .invokevirtual 184, 3, 0), (104, .ifCond .eq 7, 3, 48), (107, .iconst 1, 1, 0), (108, .goto 4, 3, 49), (111, .iconst 0, 1, 0), (112, .ireturn, 1, 0), (113, .iconst (-1), 1, 0), (114, .ireturn, 1, 0)])
theorem k_X_vote : zchk m_X_vote = true := by decide +kernel
def m_M_sideOf : ZM := (yX11_sideOf, cX11_sideOf, 5, some .int, [(0, .iconst 0, 1, 0), (1, .istore_n 3, 1, 0), (2, .iconst 0, 1, 0), (3, .istore 4, 2, 0), (5, .iload 4, 2, 0), (7, .aload_n 0, 1, 0), (8, .getfield 94, 3, 0), (11, .if_icmp .ge 56, 3, 35), (14, .iload_n 3, 1, 0), (15, .iload_n 1, 1, 0), (16, .iload 4, 2, 0), (18, .invokestatic 118, 3, 0), (21, .ifCond .eq 37, 3, 30), (24, .iload_n 2, 1, 0), (25, .ifCond .eq 16, 3, 21), (28, .aload_n 0, 1, 0), (29, .getfield 40, 3, 0), (32, .iload 4, 2, 0), (34, .iaload, 1, 0), (35, .ifCond .le 23, 3, 30), (38, .goto 13, 3, 26), (41, .aload_n 0, 1, 0), (42, .getfield 40, 3, 0), (45, .iload 4, 2, 0), (47, .iaload, 1, 0), (48, .ifCond .ge 10, 3, 30), (51, .iconst 1, 1, 0), (52, .iload 4, 2, 0), (54, .ishl, 1, 0), (55, .goto 4, 3, 31), (58, .iconst 0, 1, 0), (59, .ior, 1, 0), (60, .istore_n 3, 1, 0), (61, .iinc 4 1, 3, 0), (64, .goto (-59), 3, 4), (67, .iload_n 3, 1, 0), (68, .ireturn, 1, 0)])
theorem k_M_sideOf : zchk m_M_sideOf = true := by decide +kernel
def m_M_isMore : ZM := (yX11_isMore, cX11_isMore, 2, some .boolean, [(0, .aload_n 0, 1, 0), (1, .iload_n 1, 1, 0), (2, .iconst 1, 1, 0), (3, .invokevirtual 219, 3, 0), (6, .invokestatic 205, 3, 0), (9, .aload_n 0, 1, 0), (10, .iload_n 1, 1, 0), (11, .iconst 0, 1, 0), (12, .invokevirtual 219, 3, 0), (15, .invokestatic 205, 3, 0), (18, .if_icmp .le 7, 3, 13), (21, .iconst 1, 1, 0), (22, .goto 4, 3, 14), (25, .iconst 0, 1, 0), (26, .ireturn, 1, 0)])
theorem k_M_isMore : zchk m_M_isMore = true := by decide +kernel
def m_M_isCarriedBy : ZM := (yX11_isCarriedBy, cX11_isCarriedBy, 2, some .boolean, [(0, .iload_n 1, 1, 0), (1, .invokestatic 205, 3, 0), (4, .aload_n 0, 1, 0), (5, .getfield 85, 3, 0), (8, .if_icmp .lt 15, 3, 11), (11, .aload_n 0, 1, 0), (12, .iload_n 1, 1, 0), (13, .invokevirtual 223, 3, 0), (16, .ifCond .eq 7, 3, 11), (19, .iconst 1, 1, 0), (20, .goto 4, 3, 12), (23, .iconst 0, 1, 0), (24, .ireturn, 1, 0)])
theorem k_M_isCarriedBy : zchk m_M_isCarriedBy = true := by decide +kernel
def m_M_isCarried : ZM := (yX11_isCarried, cX11_isCarried, 3, some .boolean, [(0, .aload_n 0, 1, 0), (1, .iload_n 1, 1, 0), (2, .iload_n 1, 1, 0), (3, .iload_n 2, 1, 0), (4, .invokevirtual 226, 3, 0), (7, .aload_n 0, 1, 0), (8, .aload_n 0, 1, 0), (9, .getfield 212, 3, 0), (12, .invokevirtual 229, 3, 0), (15, .ireturn, 1, 0)])
theorem k_M_isCarried : zchk m_M_isCarried = true := by decide +kernel
def m_M_vote : ZM := (yX11_vote, cX11_vote, 5, some .int, [(0, .aload_n 0, 1, 0), (1, .iload_n 1, 1, 0), (2, .invokevirtual 232, 3, 0), (5, .ifCond .eq 23, 3, 14), (8, .aload_n 0, 1, 0), (9, .iload_n 2, 1, 0), (10, .invokevirtual 235, 3, 0), (13, .ifCond .eq 15, 3, 14), (16, .iload_n 3, 1, 0), (17, .i2l, 1, 0), (18, .lconst 0, 1, 0), (19, .ldc2_w 238, 3, 0), (22, .invokestatic 97, 3, 0), (25, .ifCond .ne 5, 3, 16), (28, .iconst (-1), 1, 0), (29, .ireturn, 1, 0), (30, .aload_n 0, 1, 0), (31, .iload_n 1, 1, 0), (32, .iload_n 2, 1, 0), (33, .invokevirtual 240, 3, 0), (36, .istore 4, 2, 0), (38, .iload_n 3, 1, 0), (39, .ifCond .ne 10, 3, 26), (42, .aload_n 0, 1, 0), (43, .getfield 212, 3, 0), (46, .goto 39, 3, 45), (49, .iload_n 3, 1, 0), (50, .iconst 3, 1, 0), (51, .if_icmp .ge 24, 3, 40), (54, .aload_n 0, 1, 0), (55, .aload_n 0, 1, 0), (56, .getfield 212, 3, 0), (59, .iload_n 3, 1, 0), (60, .iconst 1, 1, 0), (61, .if_icmp .ne 7, 3, 37), (64, .iconst 1, 1, 0), (65, .goto 4, 3, 38), (68, .iconst 0, 1, 0), (69, .invokevirtual 219, 3, 0), (72, .goto 13, 3, 45), (75, .iload 4, 2, 0), (77, .ifCond .eq 7, 3, 44), (80, .iconst 1, 1, 0), (81, .goto 4, 3, 45), (84, .iconst 0, 1, 0), (85, .ireturn, 1, 0)])
theorem k_M_vote : zchk m_M_vote = true := by decide +kernel
def m_Finder_isFewer : ZM := (yX5_isFewer, cX5_isFewer, 2, some .boolean, [(0, .iload_n 1, 1, 0), (1, .ifCond .lt 14, 3, 7), (4, .iload_n 0, 1, 0), (5, .invokestatic 47, 3, 0), (8, .iload_n 1, 1, 0), (9, .invokestatic 47, 3, 0), (12, .if_icmp .ge 7, 3, 9), (15, .iconst 1, 1, 0), (16, .goto 4, 3, 10), (19, .iconst 0, 1, 0), (20, .ireturn, 1, 0)])
theorem k_Finder_isFewer : zchk m_Finder_isFewer = true := by decide +kernel
def m_Finder_smallestCarriedWith : ZM := (yX5_smallestCarriedWith, cX5_smallestCarriedWith, 5, some .int, [(0, .bipush (-2), 2, 0), (2, .istore_n 2, 1, 0), (3, .aload_n 0, 1, 0), (4, .getfield 24, 3, 0), (7, .invokevirtual 32, 3, 0), (10, .istore_n 3, 1, 0), (11, .iconst 1, 1, 0), (12, .istore 4, 2, 0), (14, .iload 4, 2, 0), (16, .iload_n 3, 1, 0), (17, .if_icmp .gt 43, 3, 31), (20, .iload 4, 2, 0), (22, .iload_n 1, 1, 0), (23, .iushr, 1, 0), (24, .iconst 1, 1, 0), (25, .iand, 1, 0), (26, .ifCond .eq 28, 3, 29), (29, .iload 4, 2, 0), (31, .iload_n 2, 1, 0), (32, .invokestatic 38, 3, 0), (35, .ifCond .eq 19, 3, 29), (38, .aload_n 0, 1, 0), (39, .getfield 28, 3, 0), (42, .iload 4, 2, 0), (44, .iconst 0, 1, 0), (45, .invokevirtual 42, 3, 0), (48, .ifCond .eq 6, 3, 29), (51, .iload 4, 2, 0), (53, .istore_n 2, 1, 0), (54, .iinc 4 1, 3, 0), (57, .goto (-43), 3, 8), (60, .iload_n 2, 1, 0), (61, .ireturn, 1, 0)])
theorem k_Finder_smallestCarriedWith : zchk m_Finder_smallestCarriedWith = true := by decide +kernel
def m_X_together : ZM := (yX10_together, cX10_together, 2, some .int, [(0, .aload_n 0, 1, 0), (1, .getfield 10, 3, 0), (4, .iload_n 1, 1, 0), (5, .invokevirtual 193, 3, 0), (8, .ifCond .ne 5, 3, 7), (11, .iconst (-1), 1, 0), (12, .ireturn, 1, 0), (13, .aload_n 0, 1, 0), (14, .getfield 53, 3, 0), (17, .iload_n 1, 1, 0), (18, .invokevirtual 196, 3, 0), (21, .ireturn, 1, 0)])
theorem k_X_together : zchk m_X_together = true := by decide +kernel
def m_M_together : ZM := (yX11_together, cX11_together, 4, some .int, [(0, .aload_n 0, 1, 0), (1, .iload_n 1, 1, 0), (2, .invokevirtual 108, 3, 0), (5, .ifCond .ne 5, 3, 6), (8, .iconst (-1), 1, 0), (9, .ireturn, 1, 0), (10, .bipush (-2), 2, 0), (12, .istore_n 2, 1, 0), (13, .iconst 1, 1, 0), (14, .istore_n 3, 1, 0), (15, .iload_n 3, 1, 0), (16, .iconst 1, 1, 0), (17, .aload_n 0, 1, 0), (18, .getfield 101, 3, 0), (21, .ishl, 1, 0), (22, .if_icmp .ge 43, 3, 36), (25, .iload_n 3, 1, 0), (26, .iload_n 1, 1, 0), (27, .invokestatic 118, 3, 0), (30, .ifCond .eq 29, 3, 34), (33, .iload_n 2, 1, 0), (34, .ifCond .lt 14, 3, 27), (37, .iload_n 3, 1, 0), (38, .invokestatic 205, 3, 0), (41, .iload_n 2, 1, 0), (42, .invokestatic 205, 3, 0), (45, .if_icmp .ge 14, 3, 34), (48, .aload_n 0, 1, 0), (49, .iload_n 3, 1, 0), (50, .iconst 0, 1, 0), (51, .invokevirtual 240, 3, 0), (54, .ifCond .eq 5, 3, 34), (57, .iload_n 3, 1, 0), (58, .istore_n 2, 1, 0), (59, .iinc 3 1, 3, 0), (62, .goto (-47), 3, 10), (65, .iload_n 2, 1, 0), (66, .ireturn, 1, 0)])
theorem k_M_together : zchk m_M_together = true := by decide +kernel
def m_Council_feesOf : ZM := (yX3_feesOf, cX3_feesOf, 4, some .int, [(0, .iconst 0, 1, 0), (1, .istore_n 2, 1, 0), (2, .iconst 0, 1, 0), (3, .istore_n 3, 1, 0), (4, .iload_n 3, 1, 0), (5, .bipush 10, 2, 0), (7, .if_icmp .ge 26, 3, 22), (10, .iload_n 1, 1, 0), (11, .iload_n 3, 1, 0), (12, .iushr, 1, 0), (13, .iconst 1, 1, 0), (14, .iand, 1, 0), (15, .ifCond .eq 12, 3, 20), (18, .iload_n 2, 1, 0), (19, .aload_n 0, 1, 0), (20, .getfield 9, 3, 0), (23, .iload_n 3, 1, 0), (24, .iaload, 1, 0), (25, .iadd, 1, 0), (26, .istore_n 2, 1, 0), (27, .iinc 3 1, 3, 0), (30, .goto (-26), 3, 4), (33, .iload_n 2, 1, 0), (34, .ireturn, 1, 0)])
theorem k_Council_feesOf : zchk m_Council_feesOf = true := by decide +kernel
def m_Finder_isCheaper : ZM := (yX5_isCheaper, cX5_isCheaper, 4, some .boolean, [(0, .iload_n 2, 1, 0), (1, .ifCond .ge 5, 3, 4), (4, .iconst 1, 1, 0), (5, .ireturn, 1, 0), (6, .aload_n 0, 1, 0), (7, .getfield 24, 3, 0), (10, .iload_n 1, 1, 0), (11, .invokevirtual 59, 3, 0), (14, .aload_n 0, 1, 0), (15, .getfield 24, 3, 0), (18, .iload_n 2, 1, 0), (19, .invokevirtual 59, 3, 0), (22, .isub, 1, 0), (23, .istore_n 3, 1, 0), (24, .iload_n 3, 1, 0), (25, .ifCond .lt 15, 3, 22), (28, .iload_n 3, 1, 0), (29, .ifCond .ne 15, 3, 24), (32, .iload_n 1, 1, 0), (33, .iload_n 2, 1, 0), (34, .invokestatic 38, 3, 0), (37, .ifCond .eq 7, 3, 24), (40, .iconst 1, 1, 0), (41, .goto 4, 3, 25), (44, .iconst 0, 1, 0), (45, .ireturn, 1, 0)])
theorem k_Finder_isCheaper : zchk m_Finder_isCheaper = true := by decide +kernel
def m_Finder_cheapestGifts : ZM := (yX5_cheapestGifts, cX5_cheapestGifts, 5, some .int, [(0, .bipush (-2), 2, 0), (2, .istore_n 2, 1, 0), (3, .aload_n 0, 1, 0), (4, .getfield 24, 3, 0), (7, .invokevirtual 53, 3, 0), (10, .istore_n 3, 1, 0), (11, .iconst 0, 1, 0), (12, .istore 4, 2, 0), (14, .iload 4, 2, 0), (16, .iload_n 3, 1, 0), (17, .if_icmp .gt 35, 3, 26), (20, .aload_n 0, 1, 0), (21, .iload 4, 2, 0), (23, .iload_n 2, 1, 0), (24, .invokevirtual 56, 3, 0), (27, .ifCond .eq 19, 3, 24), (30, .aload_n 0, 1, 0), (31, .getfield 28, 3, 0), (34, .iload_n 1, 1, 0), (35, .iload 4, 2, 0), (37, .invokevirtual 42, 3, 0), (40, .ifCond .eq 6, 3, 24), (43, .iload 4, 2, 0), (45, .istore_n 2, 1, 0), (46, .iinc 4 1, 3, 0), (49, .goto (-35), 3, 8), (52, .iload_n 2, 1, 0), (53, .ireturn, 1, 0)])
theorem k_Finder_cheapestGifts : zchk m_Finder_cheapestGifts = true := by decide +kernel
def m_X_silenced : ZM := (yX10_silenced, cX10_silenced, 4, some .int, [(0, .aload_n 0, 1, 0), (1, .getfield 10, 3, 0), (4, .iload_n 1, 1, 0), (5, .invokevirtual 187, 3, 0), (8, .ifCond .eq 12, 3, 10), (11, .iload_n 2, 1, 0), (12, .ifCond .lt 8, 3, 10), (15, .iload_n 2, 1, 0), (16, .iconst 1, 1, 0), (17, .if_icmp .le 5, 3, 12), (20, .iconst (-1), 1, 0), (21, .ireturn, 1, 0), (22, .aload_n 0, 1, 0), (23, .getfield 53, 3, 0), (26, .iload_n 1, 1, 0), (27, .invokevirtual 199, 3, 0), (30, .istore_n 3, 1, 0), (31, .iload_n 3, 1, 0), (32, .ifCond .lt 7, 3, 21), (35, .iload_n 2, 1, 0), (36, .ifCond .ne 7, 3, 23), (39, .iload_n 3, 1, 0), (40, .goto 11, 3, 27), (43, .aload_n 0, 1, 0), (44, .getfield 10, 3, 0), (47, .iload_n 3, 1, 0), (48, .invokevirtual 202, 3, 0), (51, .ireturn, 1, 0)])
theorem k_X_silenced : zchk m_X_silenced = true := by decide +kernel
def m_M_feesOf : ZM := (yX11_feesOf, cX11_feesOf, 4, some .int, [(0, .iconst 0, 1, 0), (1, .istore_n 2, 1, 0), (2, .iconst 0, 1, 0), (3, .istore_n 3, 1, 0), (4, .iload_n 3, 1, 0), (5, .aload_n 0, 1, 0), (6, .getfield 94, 3, 0), (9, .if_icmp .ge 30, 3, 23), (12, .iload_n 2, 1, 0), (13, .iload_n 1, 1, 0), (14, .iload_n 3, 1, 0), (15, .invokestatic 118, 3, 0), (18, .ifCond .eq 12, 3, 18), (21, .aload_n 0, 1, 0), (22, .getfield 22, 3, 0), (25, .iload_n 3, 1, 0), (26, .iaload, 1, 0), (27, .goto 4, 3, 19), (30, .iconst 0, 1, 0), (31, .iadd, 1, 0), (32, .istore_n 2, 1, 0), (33, .iinc 3 1, 3, 0), (36, .goto (-32), 3, 4), (39, .iload_n 2, 1, 0), (40, .ireturn, 1, 0)])
theorem k_M_feesOf : zchk m_M_feesOf = true := by decide +kernel
def m_M_silenced : ZM := (yX11_silenced, cX11_silenced, 6, some .int, [(0, .aload_n 0, 1, 0), (1, .iload_n 1, 1, 0), (2, .invokevirtual 232, 3, 0), (5, .ifCond .eq 13, 3, 10), (8, .iload_n 2, 1, 0), (9, .i2l, 1, 0), (10, .lconst 0, 1, 0), (11, .lconst 1, 1, 0), (12, .invokestatic 97, 3, 0), (15, .ifCond .ne 5, 3, 12), (18, .iconst (-1), 1, 0), (19, .ireturn, 1, 0), (20, .bipush (-2), 2, 0), (22, .istore_n 3, 1, 0), (23, .iconst 0, 1, 0), (24, .istore 4, 2, 0), (26, .iload 4, 2, 0), (28, .iconst 1, 1, 0), (29, .aload_n 0, 1, 0), (30, .getfield 94, 3, 0), (33, .ishl, 1, 0), (34, .if_icmp .ge 78, 3, 58), (37, .iload_n 3, 1, 0), (38, .ifCond .lt 43, 3, 43), (41, .aload_n 0, 1, 0), (42, .iload 4, 2, 0), (44, .invokevirtual 243, 3, 0), (47, .aload_n 0, 1, 0), (48, .iload_n 3, 1, 0), (49, .invokevirtual 243, 3, 0), (52, .if_icmp .lt 29, 3, 43), (55, .aload_n 0, 1, 0), (56, .iload 4, 2, 0), (58, .invokevirtual 243, 3, 0), (61, .aload_n 0, 1, 0), (62, .iload_n 3, 1, 0), (63, .invokevirtual 243, 3, 0), (66, .if_icmp .ne 19, 3, 45), (69, .iload 4, 2, 0), (71, .invokestatic 205, 3, 0), (74, .iload_n 3, 1, 0), (75, .invokestatic 205, 3, 0), (78, .if_icmp .ge 7, 3, 45), (81, .iconst 1, 1, 0), (82, .goto 4, 3, 46), (85, .iconst 0, 1, 0), (86, .istore 5, 2, 0), (88, .iload 5, 2, 0), (90, .ifCond .eq 16, 3, 56), (93, .aload_n 0, 1, 0), (94, .iload_n 1, 1, 0), (95, .iload 4, 2, 0), (97, .invokevirtual 240, 3, 0), (100, .ifCond .eq 6, 3, 56), (103, .iload 4, 2, 0), (105, .istore_n 3, 1, 0), (106, .iinc 4 1, 3, 0), (109, .goto (-83), 3, 16), (112, .iload_n 3, 1, 0), (113, .ifCond .lt 7, 3, 62), (116, .iload_n 2, 1, 0), (117, .ifCond .ne 7, 3, 64), (120, .iload_n 3, 1, 0), (121, .goto 8, 3, 67), (124, .aload_n 0, 1, 0), (125, .iload_n 3, 1, 0), (126, .invokevirtual 243, 3, 0), (129, .ireturn, 1, 0)])
theorem k_M_silenced : zchk m_M_silenced = true := by decide +kernel
def m_Finder_fewestLeftOut : ZM := (yX5_fewestLeftOut, cX5_fewestLeftOut, 5, some .int, [(0, .bipush (-2), 2, 0), (2, .istore_n 3, 1, 0), (3, .iconst 0, 1, 0), (4, .istore 4, 2, 0), (6, .iload 4, 2, 0), (8, .iload_n 2, 1, 0), (9, .if_icmp .ge 57, 3, 40), (12, .iload 4, 2, 0), (14, .iload_n 2, 1, 0), (15, .iconst (-1), 1, 0), (16, .ixor, 1, 0), (17, .iand, 1, 0), (18, .ifCond .ne 42, 3, 38), (21, .iload 4, 2, 0), (23, .iload_n 3, 1, 0), (24, .invokestatic 38, 3, 0), (27, .ifCond .eq 33, 3, 38), (30, .aload_n 0, 1, 0), (31, .getfield 28, 3, 0), (34, .iload_n 2, 1, 0), (35, .iload 4, 2, 0), (37, .iconst (-1), 1, 0), (38, .ixor, 1, 0), (39, .iand, 1, 0), (40, .iload_n 2, 1, 0), (41, .iload 4, 2, 0), (43, .iconst (-1), 1, 0), (44, .ixor, 1, 0), (45, .iand, 1, 0), (46, .iconst 0, 1, 0), (47, .invokevirtual 62, 3, 0), (50, .iload_n 1, 1, 0), (51, .iushr, 1, 0), (52, .iconst 1, 1, 0), (53, .iand, 1, 0), (54, .ifCond .eq 6, 3, 38), (57, .iload 4, 2, 0), (59, .istore_n 3, 1, 0), (60, .iinc 4 1, 3, 0), (63, .goto (-57), 3, 4), (66, .iload_n 3, 1, 0), (67, .ireturn, 1, 0)])
theorem k_Finder_fewestLeftOut : zchk m_Finder_fewestLeftOut = true := by decide +kernel
def m_X_leaveOut : ZM := (yX10_leaveOut, cX10_leaveOut, 3, some .int, [(0, .aload_n 0, 1, 0), (1, .getfield 10, 3, 0), (4, .iload_n 1, 1, 0), (5, .invokevirtual 146, 3, 0), (8, .ifCond .eq 14, 3, 10), (11, .aload_n 0, 1, 0), (12, .getfield 10, 3, 0), (15, .iload_n 2, 1, 0), (16, .invokevirtual 187, 3, 0), (19, .ifCond .ne 5, 3, 12), (22, .iconst (-1), 1, 0), (23, .ireturn, 1, 0), (24, .aload_n 0, 1, 0), (25, .getfield 53, 3, 0), (28, .iload_n 1, 1, 0), (29, .iload_n 2, 1, 0), (30, .invokevirtual 205, 3, 0), (33, .ireturn, 1, 0)])
theorem k_X_leaveOut : zchk m_X_leaveOut = true := by decide +kernel
def m_M_leaveOut : ZM := (yX11_leaveOut, cX11_leaveOut, 5, some .int, [(0, .aload_n 0, 1, 0), (1, .iload_n 1, 1, 0), (2, .invokevirtual 104, 3, 0), (5, .ifCond .eq 11, 3, 8), (8, .aload_n 0, 1, 0), (9, .iload_n 2, 1, 0), (10, .invokevirtual 232, 3, 0), (13, .ifCond .ne 5, 3, 10), (16, .iconst (-1), 1, 0), (17, .ireturn, 1, 0), (18, .bipush (-2), 2, 0), (20, .istore_n 3, 1, 0), (21, .iconst 0, 1, 0), (22, .istore 4, 2, 0), (24, .iload 4, 2, 0), (26, .iload_n 2, 1, 0), (27, .if_icmp .ge 72, 3, 55), (30, .iload 4, 2, 0), (32, .iload_n 2, 1, 0), (33, .iconst (-1), 1, 0), (34, .ixor, 1, 0), (35, .iand, 1, 0), (36, .ifCond .ne 57, 3, 53), (39, .iload_n 3, 1, 0), (40, .ifCond .lt 18, 3, 31), (43, .iload 4, 2, 0), (45, .invokestatic 205, 3, 0), (48, .iload_n 3, 1, 0), (49, .invokestatic 205, 3, 0), (52, .if_icmp .lt 6, 3, 31), (55, .goto 38, 3, 53), (58, .aload_n 0, 1, 0), (59, .iload_n 2, 1, 0), (60, .iload 4, 2, 0), (62, .iconst (-1), 1, 0), (63, .ixor, 1, 0), (64, .iand, 1, 0), (65, .iload_n 2, 1, 0), (66, .iload 4, 2, 0), (68, .iconst (-1), 1, 0), (69, .ixor, 1, 0), (70, .iand, 1, 0), (71, .iconst 0, 1, 0), (72, .invokevirtual 226, 3, 0), (75, .aload_n 0, 1, 0), (76, .getfield 212, 3, 0), (79, .iload_n 1, 1, 0), (80, .invokestatic 118, 3, 0), (83, .ifCond .eq 8, 3, 51), (86, .iload 4, 2, 0), (88, .goto 4, 3, 52), (91, .iload_n 3, 1, 0), (92, .istore_n 3, 1, 0), (93, .iinc 4 1, 3, 0), (96, .goto (-72), 3, 14), (99, .iload_n 3, 1, 0), (100, .ireturn, 1, 0)])
theorem k_M_leaveOut : zchk m_M_leaveOut = true := by decide +kernel
def m_Finder_carriedAlone : ZM := (yX5_carriedAlone, cX5_carriedAlone, 3, some .int, [(0, .iconst 0, 1, 0), (1, .istore_n 1, 1, 0), (2, .iconst 0, 1, 0), (3, .istore_n 2, 1, 0), (4, .iload_n 2, 1, 0), (5, .aload_n 0, 1, 0), (6, .getfield 24, 3, 0), (9, .getfield 66, 3, 0), (12, .if_icmp .ge 33, 3, 27), (15, .iload_n 1, 1, 0), (16, .aload_n 0, 1, 0), (17, .getfield 28, 3, 0), (20, .iconst 1, 1, 0), (21, .iload_n 2, 1, 0), (22, .ishl, 1, 0), (23, .iconst 0, 1, 0), (24, .invokevirtual 42, 3, 0), (27, .ifCond .eq 9, 3, 22), (30, .iconst 1, 1, 0), (31, .iload_n 2, 1, 0), (32, .ishl, 1, 0), (33, .goto 4, 3, 23), (36, .iconst 0, 1, 0), (37, .ior, 1, 0), (38, .istore_n 1, 1, 0), (39, .iinc 2 1, 3, 0), (42, .goto (-38), 3, 4), (45, .iload_n 1, 1, 0), (46, .ireturn, 1, 0)])
theorem k_Finder_carriedAlone : zchk m_Finder_carriedAlone = true := by decide +kernel
def m_X_alone : ZM := (yX10_alone, cX10_alone, 1, some .int, [(0, .aload_n 0, 1, 0), (1, .getfield 53, 3, 0), (4, .invokevirtual 208, 3, 0), (7, .ireturn, 1, 0)])
theorem k_X_alone : zchk m_X_alone = true := by decide +kernel
def m_M_alone : ZM := (yX11_alone, cX11_alone, 3, some .int, [(0, .iconst 0, 1, 0), (1, .istore_n 1, 1, 0), (2, .iconst 0, 1, 0), (3, .istore_n 2, 1, 0), (4, .iload_n 2, 1, 0), (5, .aload_n 0, 1, 0), (6, .getfield 101, 3, 0), (9, .if_icmp .ge 30, 3, 25), (12, .iload_n 1, 1, 0), (13, .aload_n 0, 1, 0), (14, .iconst 1, 1, 0), (15, .iload_n 2, 1, 0), (16, .ishl, 1, 0), (17, .iconst 0, 1, 0), (18, .invokevirtual 240, 3, 0), (21, .ifCond .eq 9, 3, 20), (24, .iconst 1, 1, 0), (25, .iload_n 2, 1, 0), (26, .ishl, 1, 0), (27, .goto 4, 3, 21), (30, .iconst 0, 1, 0), (31, .ior, 1, 0), (32, .istore_n 1, 1, 0), (33, .iinc 2 1, 3, 0), (36, .goto (-32), 3, 4), (39, .iload_n 1, 1, 0), (40, .ireturn, 1, 0)])
theorem k_M_alone : zchk m_M_alone = true := by decide +kernel
def m_Finder_part : ZM := (yX5_part, cX5_part, 6, none, [(0, .aload_n 0, 1, 0), (1, .getfield 24, 3, 0), (4, .invokevirtual 32, 3, 0), (7, .istore_n 1, 1, 0), (8, .aload_n 0, 1, 0), (9, .getfield 15, 3, 0), (12, .iconst 0, 1, 0), (13, .iconst 0, 1, 0), (14, .iastore, 1, 0), (15, .iconst 1, 1, 0), (16, .istore_n 2, 1, 0), (17, .iload_n 2, 1, 0), (18, .iload_n 1, 1, 0), (19, .if_icmp .gt 132, 3, 90), (22, .iload_n 2, 1, 0), (23, .bipush 64, 2, 0), (25, .if_icmp .ge 126, 3, 90), (28, .aload_n 0, 1, 0), (29, .getfield 21, 3, 0), (32, .iload_n 2, 1, 0), (33, .aload_n 0, 1, 0), (34, .getfield 28, 3, 0), (37, .iload_n 2, 1, 0), (38, .iconst 0, 1, 0), (39, .invokevirtual 42, 3, 0), (42, .ifCond .eq 10, 3, 29), (45, .iload_n 2, 1, 0), (46, .invokestatic 47, 3, 0), (49, .goto 4, 3, 30), (52, .iconst 0, 1, 0), (53, .iastore, 1, 0), (54, .aload_n 0, 1, 0), (55, .getfield 15, 3, 0), (58, .iload_n 2, 1, 0), (59, .iconst (-1), 1, 0), (60, .iastore, 1, 0), (61, .iload_n 2, 1, 0), (62, .iload_n 2, 1, 0), (63, .ineg, 1, 0), (64, .iand, 1, 0), (65, .istore_n 3, 1, 0), (66, .iload_n 3, 1, 0), (67, .istore 4, 2, 0), (69, .iload 4, 2, 0), (71, .iload_n 2, 1, 0), (72, .if_icmp .gt 73, 3, 88), (75, .iload 4, 2, 0), (77, .iload_n 2, 1, 0), (78, .iconst (-1), 1, 0), (79, .ixor, 1, 0), (80, .iand, 1, 0), (81, .ifCond .ne 58, 3, 86), (84, .iload 4, 2, 0), (86, .iload_n 3, 1, 0), (87, .iand, 1, 0), (88, .ifCond .eq 51, 3, 86), (91, .aload_n 0, 1, 0), (92, .getfield 21, 3, 0), (95, .iload 4, 2, 0), (97, .iaload, 1, 0), (98, .aload_n 0, 1, 0), (99, .getfield 15, 3, 0), (102, .iload_n 2, 1, 0), (103, .iload 4, 2, 0), (105, .iconst (-1), 1, 0), (106, .ixor, 1, 0), (107, .iand, 1, 0), (108, .iaload, 1, 0), (109, .iadd, 1, 0), (110, .istore 5, 2, 0), (112, .iload 5, 2, 0), (114, .aload_n 0, 1, 0), (115, .getfield 15, 3, 0), (118, .iload_n 2, 1, 0), (119, .iaload, 1, 0), (120, .if_icmp .le 19, 3, 86), (123, .aload_n 0, 1, 0), (124, .getfield 15, 3, 0), (127, .iload_n 2, 1, 0), (128, .iload 5, 2, 0), (130, .iastore, 1, 0), (131, .aload_n 0, 1, 0), (132, .getfield 18, 3, 0), (135, .iload_n 2, 1, 0), (136, .iload 4, 2, 0), (138, .iastore, 1, 0), (139, .iinc 4 1, 3, 0), (142, .goto (-73), 3, 43), (145, .iinc 2 1, 3, 0), (148, .goto (-131), 3, 11), (151, .return_, 1, 0)])
theorem k_Finder_part : zchk m_Finder_part = true := by decide +kernel
def m_Finder_mostCarried : ZM := (yX5_mostCarried, cX5_mostCarried, 2, some .int, [(0, .aload_n 0, 1, 0), (1, .getfield 24, 3, 0), (4, .invokevirtual 32, 3, 0), (7, .istore_n 1, 1, 0), (8, .iload_n 1, 1, 0), (9, .bipush 64, 2, 0), (11, .if_icmp .ge 12, 3, 12), (14, .aload_n 0, 1, 0), (15, .getfield 15, 3, 0), (18, .iload_n 1, 1, 0), (19, .iaload, 1, 0), (20, .goto 4, 3, 13), (23, .iconst (-1), 1, 0), (24, .ireturn, 1, 0)])
theorem k_Finder_mostCarried : zchk m_Finder_mostCarried = true := by decide +kernel
def m_Finder_partOf : ZM := (yX5_partOf, cX5_partOf, 4, some .int, [(0, .aload_n 0, 1, 0), (1, .getfield 24, 3, 0), (4, .invokevirtual 32, 3, 0), (7, .istore_n 2, 1, 0), (8, .iconst 0, 1, 0), (9, .istore_n 3, 1, 0), (10, .iload_n 3, 1, 0), (11, .bipush 6, 2, 0), (13, .if_icmp .ge 50, 3, 39), (16, .iload_n 2, 1, 0), (17, .ifCond .le 46, 3, 39), (20, .iload_n 2, 1, 0), (21, .bipush 64, 2, 0), (23, .if_icmp .ge 40, 3, 39), (26, .aload_n 0, 1, 0), (27, .getfield 18, 3, 0), (30, .iload_n 2, 1, 0), (31, .iaload, 1, 0), (32, .iload_n 1, 1, 0), (33, .iushr, 1, 0), (34, .iconst 1, 1, 0), (35, .iand, 1, 0), (36, .ifCond .eq 10, 3, 28), (39, .aload_n 0, 1, 0), (40, .getfield 18, 3, 0), (43, .iload_n 2, 1, 0), (44, .iaload, 1, 0), (45, .ireturn, 1, 0), (46, .iload_n 2, 1, 0), (47, .aload_n 0, 1, 0), (48, .getfield 18, 3, 0), (51, .iload_n 2, 1, 0), (52, .iaload, 1, 0), (53, .iconst (-1), 1, 0), (54, .ixor, 1, 0), (55, .iand, 1, 0), (56, .istore_n 2, 1, 0), (57, .iinc 3 1, 3, 0), (60, .goto (-50), 3, 6), (63, .iconst (-1), 1, 0), (64, .ireturn, 1, 0)])
theorem k_Finder_partOf : zchk m_Finder_partOf = true := by decide +kernel
def m_X_parted : ZM := (yX10_parted, cX10_parted, 2, some .int, [(0, .iload_n 1, 1, 0), (1, .iconst (-1), 1, 0), (2, .if_icmp .eq 16, 3, 10), (5, .aload_n 0, 1, 0), (6, .getfield 10, 3, 0), (9, .iload_n 1, 1, 0), (10, .invokevirtual 193, 3, 0), (13, .ifCond .ne 5, 3, 10), (16, .iconst (-1), 1, 0), (17, .ireturn, 1, 0), (18, .aload_n 0, 1, 0), (19, .getfield 53, 3, 0), (22, .invokevirtual 211, 3, 0), (25, .iload_n 1, 1, 0), (26, .iconst (-1), 1, 0), (27, .if_icmp .ne 13, 3, 20), (30, .aload_n 0, 1, 0), (31, .getfield 53, 3, 0), (34, .invokevirtual 214, 3, 0), (37, .goto 11, 3, 24), (40, .aload_n 0, 1, 0), (41, .getfield 53, 3, 0), (44, .iload_n 1, 1, 0), (45, .invokevirtual 217, 3, 0), (48, .ireturn, 1, 0)])
theorem k_X_parted : zchk m_X_parted = true := by decide +kernel
def m_M_parts : ZM := (yX11_parts, cX11_parts, 5, none, [(0, .aload_n 0, 1, 0), (1, .getfield 47, 3, 0), (4, .iconst 0, 1, 0), (5, .iconst 0, 1, 0), (6, .iastore, 1, 0), (7, .iconst 1, 1, 0), (8, .istore_n 1, 1, 0), (9, .iload_n 1, 1, 0), (10, .iconst 1, 1, 0), (11, .aload_n 0, 1, 0), (12, .getfield 101, 3, 0), (15, .ishl, 1, 0), (16, .if_icmp .ge 21, 3, 23), (19, .aload_n 0, 1, 0), (20, .getfield 43, 3, 0), (23, .iload_n 1, 1, 0), (24, .aload_n 0, 1, 0), (25, .iload_n 1, 1, 0), (26, .iconst 0, 1, 0), (27, .invokevirtual 240, 3, 0), (30, .bastore, 1, 0), (31, .iinc 1 1, 3, 0), (34, .goto (-25), 3, 7), (37, .iconst 1, 1, 0), (38, .istore_n 1, 1, 0), (39, .iload_n 1, 1, 0), (40, .iconst 1, 1, 0), (41, .aload_n 0, 1, 0), (42, .getfield 101, 3, 0), (45, .ishl, 1, 0), (46, .if_icmp .ge 107, 3, 96), (49, .iload_n 1, 1, 0), (50, .iload_n 1, 1, 0), (51, .ineg, 1, 0), (52, .iand, 1, 0), (53, .istore_n 2, 1, 0), (54, .aload_n 0, 1, 0), (55, .getfield 47, 3, 0), (58, .iload_n 1, 1, 0), (59, .iconst (-1), 1, 0), (60, .iastore, 1, 0), (61, .iconst 1, 1, 0), (62, .istore_n 3, 1, 0), (63, .iload_n 3, 1, 0), (64, .iload_n 1, 1, 0), (65, .if_icmp .gt 82, 3, 94), (68, .iload_n 3, 1, 0), (69, .iload_n 1, 1, 0), (70, .iconst (-1), 1, 0), (71, .ixor, 1, 0), (72, .iand, 1, 0), (73, .ifCond .ne 68, 3, 92), (76, .iload_n 3, 1, 0), (77, .iload_n 2, 1, 0), (78, .iand, 1, 0), (79, .ifCond .ne 6, 3, 57), (82, .goto 59, 3, 92), (85, .aload_n 0, 1, 0), (86, .getfield 43, 3, 0), (89, .iload_n 3, 1, 0), (90, .baload, 1, 0), (91, .ifCond .eq 10, 3, 65), (94, .iload_n 3, 1, 0), (95, .invokestatic 205, 3, 0), (98, .goto 4, 3, 66), (101, .iconst 0, 1, 0), (102, .aload_n 0, 1, 0), (103, .getfield 47, 3, 0), (106, .iload_n 1, 1, 0), (107, .iload_n 3, 1, 0), (108, .iconst (-1), 1, 0), (109, .ixor, 1, 0), (110, .iand, 1, 0), (111, .iaload, 1, 0), (112, .iadd, 1, 0), (113, .istore 4, 2, 0), (115, .iload 4, 2, 0), (117, .aload_n 0, 1, 0), (118, .getfield 47, 3, 0), (121, .iload_n 1, 1, 0), (122, .iaload, 1, 0), (123, .if_icmp .le 18, 3, 92), (126, .aload_n 0, 1, 0), (127, .getfield 47, 3, 0), (130, .iload_n 1, 1, 0), (131, .iload 4, 2, 0), (133, .iastore, 1, 0), (134, .aload_n 0, 1, 0), (135, .getfield 50, 3, 0), (138, .iload_n 1, 1, 0), (139, .iload_n 3, 1, 0), (140, .iastore, 1, 0), (141, .iinc 3 1, 3, 0), (144, .goto (-81), 3, 43), (147, .iinc 1 1, 3, 0), (150, .goto (-111), 3, 25), (153, .return_, 1, 0)])
theorem k_M_parts : zchk m_M_parts = true := by decide +kernel
def m_M_parted : ZM := (yX11_parted, cX11_parted, 3, some .int, [(0, .iload_n 1, 1, 0), (1, .iconst (-1), 1, 0), (2, .if_icmp .eq 13, 3, 9), (5, .aload_n 0, 1, 0), (6, .iload_n 1, 1, 0), (7, .invokevirtual 108, 3, 0), (10, .ifCond .ne 5, 3, 9), (13, .iconst (-1), 1, 0), (14, .ireturn, 1, 0), (15, .aload_n 0, 1, 0), (16, .invokevirtual 246, 3, 0), (19, .iconst 1, 1, 0), (20, .aload_n 0, 1, 0), (21, .getfield 101, 3, 0), (24, .ishl, 1, 0), (25, .iconst 1, 1, 0), (26, .isub, 1, 0), (27, .istore_n 2, 1, 0), (28, .iload_n 1, 1, 0), (29, .iconst (-1), 1, 0), (30, .if_icmp .ne 10, 3, 26), (33, .aload_n 0, 1, 0), (34, .getfield 47, 3, 0), (37, .iload_n 2, 1, 0), (38, .iaload, 1, 0), (39, .ireturn, 1, 0), (40, .aload_n 0, 1, 0), (41, .getfield 50, 3, 0), (44, .iload_n 2, 1, 0), (45, .iaload, 1, 0), (46, .iload_n 1, 1, 0), (47, .invokestatic 118, 3, 0), (50, .ifCond .ne 17, 3, 43), (53, .iload_n 2, 1, 0), (54, .aload_n 0, 1, 0), (55, .getfield 50, 3, 0), (58, .iload_n 2, 1, 0), (59, .iaload, 1, 0), (60, .iconst (-1), 1, 0), (61, .ixor, 1, 0), (62, .iand, 1, 0), (63, .istore_n 2, 1, 0), (64, .goto (-24), 3, 26), (67, .aload_n 0, 1, 0), (68, .getfield 50, 3, 0), (71, .iload_n 2, 1, 0), (72, .iaload, 1, 0), (73, .ireturn, 1, 0)])
theorem k_M_parted : zchk m_M_parted = true := by decide +kernel
def m_Finder_countSays : ZM := (yX5_countSays, cX5_countSays, 5, none, [(0, .iconst 0, 1, 0), (1, .istore_n 1, 1, 0), (2, .iload_n 1, 1, 0), (3, .bipush 10, 2, 0), (5, .if_icmp .ge 16, 3, 12), (8, .aload_n 0, 1, 0), (9, .getfield 9, 3, 0), (12, .iload_n 1, 1, 0), (13, .iconst 0, 1, 0), (14, .iastore, 1, 0), (15, .iinc 1 1, 3, 0), (18, .goto (-16), 3, 2), (21, .aload_n 0, 1, 0), (22, .getfield 24, 3, 0), (25, .invokevirtual 32, 3, 0), (28, .istore_n 1, 1, 0), (29, .iconst 1, 1, 0), (30, .istore_n 2, 1, 0), (31, .iload_n 2, 1, 0), (32, .iload_n 1, 1, 0), (33, .if_icmp .gt 52, 3, 49), (36, .aload_n 0, 1, 0), (37, .getfield 28, 3, 0), (40, .iload_n 2, 1, 0), (41, .iload_n 2, 1, 0), (42, .iconst 0, 1, 0), (43, .invokevirtual 62, 3, 0), (46, .istore_n 3, 1, 0), (47, .iconst 0, 1, 0), (48, .istore 4, 2, 0), (50, .iload 4, 2, 0), (52, .bipush 10, 2, 0), (54, .if_icmp .ge 25, 3, 47), (57, .aload_n 0, 1, 0), (58, .getfield 9, 3, 0), (61, .iload 4, 2, 0), (63, .dup2, 1, 0), (64, .iaload, 1, 0), (65, .iload_n 3, 1, 0), (66, .iload 4, 2, 0), (68, .iushr, 1, 0), (69, .iconst 1, 1, 0), (70, .iand, 1, 0), (71, .iadd, 1, 0), (72, .iastore, 1, 0), (73, .iinc 4 1, 3, 0), (76, .goto (-26), 3, 30), (79, .iinc 2 1, 3, 0), (82, .goto (-51), 3, 18), (85, .return_, 1, 0)])
theorem k_Finder_countSays : zchk m_Finder_countSays = true := by decide +kernel
def m_Finder_sayOf : ZM := (yX5_sayOf, cX5_sayOf, 2, some .int, [(0, .aload_n 0, 1, 0), (1, .invokevirtual 70, 3, 0), (4, .iload_n 1, 1, 0), (5, .ifCond .lt 18, 3, 12), (8, .iload_n 1, 1, 0), (9, .bipush 10, 2, 0), (11, .if_icmp .ge 12, 3, 12), (14, .aload_n 0, 1, 0), (15, .getfield 9, 3, 0), (18, .iload_n 1, 1, 0), (19, .iaload, 1, 0), (20, .goto 4, 3, 13), (23, .iconst (-1), 1, 0), (24, .ireturn, 1, 0)])
theorem k_Finder_sayOf : zchk m_Finder_sayOf = true := by decide +kernel
def m_Finder_powerOf : ZM := (yX5_powerOf, cX5_powerOf, 9, some .int, [(0, .iconst 0, 1, 0), (1, .istore_n 2, 1, 0), (2, .aload_n 0, 1, 0), (3, .getfield 24, 3, 0), (6, .invokevirtual 32, 3, 0), (9, .istore_n 3, 1, 0), (10, .iconst 1, 1, 0), (11, .istore 4, 2, 0), (13, .iload 4, 2, 0), (15, .iload_n 3, 1, 0), (16, .if_icmp .gt 94, 3, 55), (19, .aload_n 0, 1, 0), (20, .getfield 28, 3, 0), (23, .iload 4, 2, 0), (25, .iload 4, 2, 0), (27, .iconst 0, 1, 0), (28, .invokevirtual 62, 3, 0), (31, .istore 5, 2, 0), (33, .iload 5, 2, 0), (35, .iconst 1, 1, 0), (36, .iload_n 1, 1, 0), (37, .ishl, 1, 0), (38, .iconst (-1), 1, 0), (39, .ixor, 1, 0), (40, .iand, 1, 0), (41, .istore 6, 2, 0), (43, .aload_n 0, 1, 0), (44, .getfield 28, 3, 0), (47, .iload 4, 2, 0), (49, .invokevirtual 73, 3, 0), (52, .istore 7, 2, 0), (54, .aload_n 0, 1, 0), (55, .getfield 28, 3, 0), (58, .iload 4, 2, 0), (60, .invokevirtual 76, 3, 0), (63, .istore 8, 2, 0), (65, .iload 6, 2, 0), (67, .iload 5, 2, 0), (69, .if_icmp .eq 35, 3, 53), (72, .aload_n 0, 1, 0), (73, .getfield 28, 3, 0), (76, .iload 5, 2, 0), (78, .iload 7, 2, 0), (80, .iload 8, 2, 0), (82, .invokevirtual 79, 3, 0), (85, .aload_n 0, 1, 0), (86, .getfield 28, 3, 0), (89, .iload 6, 2, 0), (91, .iload 7, 2, 0), (93, .iload 8, 2, 0), (95, .invokevirtual 79, 3, 0), (98, .if_icmp .eq 6, 3, 53), (101, .iinc 2 1, 3, 0), (104, .iinc 4 1, 3, 0), (107, .goto (-94), 3, 8), (110, .iload_n 2, 1, 0), (111, .ireturn, 1, 0)])
theorem k_Finder_powerOf : zchk m_Finder_powerOf = true := by decide +kernel
def m_X_say : ZM := (yX10_say, cX10_say, 3, some .int, [(0, .aload_n 0, 1, 0), (1, .getfield 10, 3, 0), (4, .iload_n 1, 1, 0), (5, .invokevirtual 146, 3, 0), (8, .ifCond .ne 5, 3, 7), (11, .iconst (-1), 1, 0), (12, .ireturn, 1, 0), (13, .iload_n 2, 1, 0), (14, .lookupswitch 44 #[(0, 26), (1, 35)], 26, 0), (40, .aload_n 0, 1, 0), (41, .getfield 53, 3, 0), (44, .iload_n 1, 1, 0), (45, .invokevirtual 220, 3, 0), (48, .ireturn, 1, 0), (49, .aload_n 0, 1, 0), (50, .getfield 53, 3, 0), (53, .iload_n 1, 1, 0), (54, .invokevirtual 223, 3, 0), (57, .ireturn, 1, 0), (58, .iconst (-1), 1, 0), (59, .ireturn, 1, 0)])
theorem k_X_say : zchk m_X_say = true := by decide +kernel
def m_M_sayOf : ZM := (yX11_sayOf, cX11_sayOf, 7, some .int, [(0, .iconst 0, 1, 0), (1, .istore_n 3, 1, 0), (2, .iconst 1, 1, 0), (3, .istore 4, 2, 0), (5, .iload 4, 2, 0), (7, .iconst 1, 1, 0), (8, .aload_n 0, 1, 0), (9, .getfield 101, 3, 0), (12, .ishl, 1, 0), (13, .if_icmp .ge 64, 3, 44), (16, .aload_n 0, 1, 0), (17, .iload 4, 2, 0), (19, .iconst 0, 1, 0), (20, .invokevirtual 240, 3, 0), (23, .istore 5, 2, 0), (25, .aload_n 0, 1, 0), (26, .getfield 212, 3, 0), (29, .iload_n 1, 1, 0), (30, .invokestatic 118, 3, 0), (33, .istore 6, 2, 0), (35, .iload_n 3, 1, 0), (36, .iload 6, 2, 0), (38, .ifCond .eq 30, 3, 39), (41, .iload_n 2, 1, 0), (42, .ifCond .eq 22, 3, 37), (45, .iload 5, 2, 0), (47, .aload_n 0, 1, 0), (48, .aload_n 0, 1, 0), (49, .getfield 212, 3, 0), (52, .iconst 1, 1, 0), (53, .iload_n 1, 1, 0), (54, .ishl, 1, 0), (55, .iconst (-1), 1, 0), (56, .ixor, 1, 0), (57, .iand, 1, 0), (58, .invokevirtual 229, 3, 0), (61, .if_icmp .eq 7, 3, 39), (64, .iconst 1, 1, 0), (65, .goto 4, 3, 40), (68, .iconst 0, 1, 0), (69, .iadd, 1, 0), (70, .istore_n 3, 1, 0), (71, .iinc 4 1, 3, 0), (74, .goto (-69), 3, 4), (77, .iload_n 3, 1, 0), (78, .ireturn, 1, 0)])
theorem k_M_sayOf : zchk m_M_sayOf = true := by decide +kernel
def m_M_say : ZM := (yX11_say, cX11_say, 3, some .int, [(0, .aload_n 0, 1, 0), (1, .iload_n 1, 1, 0), (2, .invokevirtual 104, 3, 0), (5, .ifCond .eq 22, 3, 15), (8, .iload_n 2, 1, 0), (9, .i2l, 1, 0), (10, .lconst 0, 1, 0), (11, .lconst 1, 1, 0), (12, .invokestatic 97, 3, 0), (15, .ifCond .eq 12, 3, 15), (18, .aload_n 0, 1, 0), (19, .iload_n 1, 1, 0), (20, .iload_n 2, 1, 0), (21, .invokevirtual 249, 3, 0), (24, .goto 4, 3, 16), (27, .iconst (-1), 1, 0), (28, .ireturn, 1, 0)])
theorem k_M_say : zchk m_M_say = true := by decide +kernel
def m_Finder_mostSaying : ZM := (yX5_mostSaying, cX5_mostSaying, 3, some .int, [(0, .aload_n 0, 1, 0), (1, .invokevirtual 70, 3, 0), (4, .iconst 0, 1, 0), (5, .istore_n 1, 1, 0), (6, .iconst 1, 1, 0), (7, .istore_n 2, 1, 0), (8, .iload_n 2, 1, 0), (9, .aload_n 0, 1, 0), (10, .getfield 24, 3, 0), (13, .getfield 83, 3, 0), (16, .if_icmp .ge 32, 3, 27), (19, .iload_n 2, 1, 0), (20, .bipush 10, 2, 0), (22, .if_icmp .ge 26, 3, 27), (25, .aload_n 0, 1, 0), (26, .getfield 9, 3, 0), (29, .iload_n 2, 1, 0), (30, .iaload, 1, 0), (31, .aload_n 0, 1, 0), (32, .getfield 9, 3, 0), (35, .iload_n 1, 1, 0), (36, .iaload, 1, 0), (37, .if_icmp .le 5, 3, 25), (40, .iload_n 2, 1, 0), (41, .istore_n 1, 1, 0), (42, .iinc 2 1, 3, 0), (45, .goto (-37), 3, 6), (48, .iload_n 1, 1, 0), (49, .ireturn, 1, 0)])
theorem k_Finder_mostSaying : zchk m_Finder_mostSaying = true := by decide +kernel
def m_X_hermit : ZM := (yX10_hermit, cX10_hermit, 1, some .int, [(0, .aload_n 0, 1, 0), (1, .getfield 10, 3, 0), (4, .getfield 226, 3, 0), (7, .ifCond .ne 8, 3, 6), (10, .bipush (-5), 2, 0), (12, .goto 10, 3, 9), (15, .aload_n 0, 1, 0), (16, .getfield 53, 3, 0), (19, .invokevirtual 229, 3, 0), (22, .ireturn, 1, 0)])
theorem k_X_hermit : zchk m_X_hermit = true := by decide +kernel
def m_M_hermit : ZM := (yX11_hermit, cX11_hermit, 5, some .int, [(0, .bipush (-5), 2, 0), (2, .istore_n 1, 1, 0), (3, .iconst (-1), 1, 0), (4, .istore_n 2, 1, 0), (5, .iconst 0, 1, 0), (6, .istore_n 3, 1, 0), (7, .iload_n 3, 1, 0), (8, .aload_n 0, 1, 0), (9, .getfield 94, 3, 0), (12, .if_icmp .ge 42, 3, 31), (15, .aload_n 0, 1, 0), (16, .iload_n 3, 1, 0), (17, .iconst 0, 1, 0), (18, .invokevirtual 249, 3, 0), (21, .istore 4, 2, 0), (23, .iload 4, 2, 0), (25, .iload_n 2, 1, 0), (26, .if_icmp .le 7, 3, 20), (29, .iload_n 3, 1, 0), (30, .goto 4, 3, 21), (33, .iload_n 1, 1, 0), (34, .istore_n 1, 1, 0), (35, .iload 4, 2, 0), (37, .iload_n 2, 1, 0), (38, .if_icmp .le 8, 3, 27), (41, .iload 4, 2, 0), (43, .goto 4, 3, 28), (46, .iload_n 2, 1, 0), (47, .istore_n 2, 1, 0), (48, .iinc 3 1, 3, 0), (51, .goto (-44), 3, 6), (54, .iload_n 1, 1, 0), (55, .ireturn, 1, 0)])
theorem k_M_hermit : zchk m_M_hermit = true := by decide +kernel
def m_Council_rumourOf : ZM := (yX3_rumourOf, cX3_rumourOf, 2, some .int, [(0, .aload_n 0, 1, 0), (1, .sipush 200, 3, 0), (4, .iload_n 1, 1, 0), (5, .iadd, 1, 0), (6, .invokevirtual 64, 3, 0), (9, .ireturn, 1, 0)])
theorem k_Council_rumourOf : zchk m_Council_rumourOf = true := by decide +kernel
def m_Finder_weightOf : ZM := (yX5_weightOf, cX5_weightOf, 6, some .int, [(0, .iconst 1, 1, 0), (1, .istore_n 3, 1, 0), (2, .iconst 0, 1, 0), (3, .istore 4, 2, 0), (5, .iload 4, 2, 0), (7, .aload_n 0, 1, 0), (8, .getfield 24, 3, 0), (11, .getfield 66, 3, 0), (14, .if_icmp .ge 51, 3, 36), (17, .iload_n 1, 1, 0), (18, .iload 4, 2, 0), (20, .iushr, 1, 0), (21, .iconst 1, 1, 0), (22, .iand, 1, 0), (23, .ifCond .eq 36, 3, 34), (26, .aload_n 0, 1, 0), (27, .getfield 24, 3, 0), (30, .iload 4, 2, 0), (32, .invokevirtual 90, 3, 0), (35, .istore 5, 2, 0), (37, .iload_n 3, 1, 0), (38, .iload_n 2, 1, 0), (39, .iload 4, 2, 0), (41, .iushr, 1, 0), (42, .iconst 1, 1, 0), (43, .iand, 1, 0), (44, .ifCond .eq 8, 3, 29), (47, .iload 5, 2, 0), (49, .goto 8, 3, 32), (52, .bipush 12, 2, 0), (54, .iload 5, 2, 0), (56, .isub, 1, 0), (57, .imul, 1, 0), (58, .istore_n 3, 1, 0), (59, .iinc 4 1, 3, 0), (62, .goto (-57), 3, 4), (65, .iload_n 3, 1, 0), (66, .ireturn, 1, 0)])
theorem k_Finder_weightOf : zchk m_Finder_weightOf = true := by decide +kernel
def m_Finder_twelfthsCarried : ZM := (yX5_twelfthsCarried, cX5_twelfthsCarried, 7, some .int, [(0, .aload_n 0, 1, 0), (1, .getfield 28, 3, 0), (4, .iload_n 1, 1, 0), (5, .invokevirtual 73, 3, 0), (8, .istore_n 2, 1, 0), (9, .aload_n 0, 1, 0), (10, .getfield 28, 3, 0), (13, .iload_n 1, 1, 0), (14, .invokevirtual 76, 3, 0), (17, .istore_n 3, 1, 0), (18, .iconst 0, 1, 0), (19, .istore 4, 2, 0), (21, .iconst 0, 1, 0), (22, .istore 5, 2, 0), (24, .iload 5, 2, 0), (26, .iload_n 1, 1, 0), (27, .if_icmp .gt 62, 3, 48), (30, .iload 5, 2, 0), (32, .iload_n 1, 1, 0), (33, .iconst (-1), 1, 0), (34, .ixor, 1, 0), (35, .iand, 1, 0), (36, .ifCond .ne 47, 3, 46), (39, .aload_n 0, 1, 0), (40, .iload_n 1, 1, 0), (41, .iload 5, 2, 0), (43, .invokevirtual 86, 3, 0), (46, .istore 6, 2, 0), (48, .iload 6, 2, 0), (50, .ifCond .le 33, 3, 46), (53, .aload_n 0, 1, 0), (54, .getfield 28, 3, 0), (57, .aload_n 0, 1, 0), (58, .getfield 28, 3, 0), (61, .iload_n 1, 1, 0), (62, .iload 5, 2, 0), (64, .iconst 0, 1, 0), (65, .invokevirtual 62, 3, 0), (68, .iload_n 2, 1, 0), (69, .iload_n 3, 1, 0), (70, .invokevirtual 79, 3, 0), (73, .ifCond .eq 10, 3, 46), (76, .iload 4, 2, 0), (78, .iload 6, 2, 0), (80, .iadd, 1, 0), (81, .istore 4, 2, 0), (83, .iinc 5 1, 3, 0), (86, .goto (-62), 3, 14), (89, .iload 4, 2, 0), (91, .ireturn, 1, 0)])
theorem k_Finder_twelfthsCarried : zchk m_Finder_twelfthsCarried = true := by decide +kernel
def m_Finder_twelfths : ZM := (yX5_twelfths, cX5_twelfths, 3, some .int, [(0, .iconst 1, 1, 0), (1, .istore_n 1, 1, 0), (2, .iconst 0, 1, 0), (3, .istore_n 2, 1, 0), (4, .iload_n 2, 1, 0), (5, .bipush 6, 2, 0), (7, .if_icmp .ge 22, 3, 19), (10, .iload_n 0, 1, 0), (11, .iload_n 2, 1, 0), (12, .iushr, 1, 0), (13, .iconst 1, 1, 0), (14, .iand, 1, 0), (15, .ifCond .eq 8, 3, 17), (18, .iload_n 1, 1, 0), (19, .bipush 12, 2, 0), (21, .imul, 1, 0), (22, .istore_n 1, 1, 0), (23, .iinc 2 1, 3, 0), (26, .goto (-22), 3, 4), (29, .iload_n 1, 1, 0), (30, .ireturn, 1, 0)])
theorem k_Finder_twelfths : zchk m_Finder_twelfths = true := by decide +kernel
def m_Finder_commonDivisor : ZM := (yX5_commonDivisor, cX5_commonDivisor, 6, some .int, [(0, .iload_n 0, 1, 0), (1, .istore_n 2, 1, 0), (2, .iload_n 1, 1, 0), (3, .istore_n 3, 1, 0), (4, .iconst 0, 1, 0), (5, .istore 4, 2, 0), (7, .iload 4, 2, 0), (9, .bipush 100, 2, 0), (11, .if_icmp .ge 23, 3, 21), (14, .iload_n 3, 1, 0), (15, .ifCond .eq 19, 3, 21), (18, .iload_n 2, 1, 0), (19, .iload_n 3, 1, 0), (20, .irem, 1, 0), (21, .istore 5, 2, 0), (23, .iload_n 3, 1, 0), (24, .istore_n 2, 1, 0), (25, .iload 5, 2, 0), (27, .istore_n 3, 1, 0), (28, .iinc 4 1, 3, 0), (31, .goto (-24), 3, 6), (34, .iload_n 2, 1, 0), (35, .ireturn, 1, 0)])
theorem k_Finder_commonDivisor : zchk m_Finder_commonDivisor = true := by decide +kernel
def m_X_chance : ZM := (yX10_chance, cX10_chance, 6, some .int, [(0, .aload_n 0, 1, 0), (1, .getfield 10, 3, 0), (4, .iload_n 1, 1, 0), (5, .invokevirtual 187, 3, 0), (8, .ifCond .eq 12, 3, 10), (11, .iload_n 2, 1, 0), (12, .ifCond .lt 8, 3, 10), (15, .iload_n 2, 1, 0), (16, .iconst 1, 1, 0), (17, .if_icmp .le 5, 3, 12), (20, .iconst (-1), 1, 0), (21, .ireturn, 1, 0), (22, .aload_n 0, 1, 0), (23, .getfield 53, 3, 0), (26, .iload_n 1, 1, 0), (27, .invokevirtual 232, 3, 0), (30, .istore_n 3, 1, 0), (31, .iload_n 1, 1, 0), (32, .invokestatic 235, 3, 0), (35, .istore 4, 2, 0), (37, .iload_n 3, 1, 0), (38, .iload 4, 2, 0), (40, .invokestatic 238, 3, 0), (43, .istore 5, 2, 0), (45, .iload 5, 2, 0), (47, .iconst 1, 1, 0), (48, .if_icmp .ge 5, 3, 29), (51, .iconst (-1), 1, 0), (52, .ireturn, 1, 0), (53, .iload_n 2, 1, 0), (54, .ifCond .ne 7, 3, 33), (57, .iload_n 3, 1, 0), (58, .goto 5, 3, 34), (61, .iload 4, 2, 0), (63, .iload 5, 2, 0), (65, .idiv, 1, 0), (66, .ireturn, 1, 0)])
theorem k_X_chance : zchk m_X_chance = true := by decide +kernel
def m_M_common : ZM := (yX11_common, cX11_common, 5, some .int, [(0, .iload_n 0, 1, 0), (1, .istore_n 2, 1, 0), (2, .iload_n 1, 1, 0), (3, .istore_n 3, 1, 0), (4, .iload_n 3, 1, 0), (5, .ifCond .eq 16, 3, 15), (8, .iload_n 2, 1, 0), (9, .iload_n 3, 1, 0), (10, .irem, 1, 0), (11, .istore 4, 2, 0), (13, .iload_n 3, 1, 0), (14, .istore_n 2, 1, 0), (15, .iload 4, 2, 0), (17, .istore_n 3, 1, 0), (18, .goto (-14), 3, 4), (21, .iload_n 2, 1, 0), (22, .ireturn, 1, 0)])
theorem k_M_common : zchk m_M_common = true := by decide +kernel
def m_M_chance : ZM := (yX11_chance, cX11_chance, 9, some .int, [(0, .aload_n 0, 1, 0), (1, .iload_n 1, 1, 0), (2, .invokevirtual 232, 3, 0), (5, .ifCond .eq 13, 3, 10), (8, .iload_n 2, 1, 0), (9, .i2l, 1, 0), (10, .lconst 0, 1, 0), (11, .lconst 1, 1, 0), (12, .invokestatic 97, 3, 0), (15, .ifCond .ne 5, 3, 12), (18, .iconst (-1), 1, 0), (19, .ireturn, 1, 0), (20, .iconst 0, 1, 0), (21, .istore_n 3, 1, 0), (22, .iconst 1, 1, 0), (23, .istore 4, 2, 0), (25, .iconst 0, 1, 0), (26, .istore 5, 2, 0), (28, .iload 5, 2, 0), (30, .aload_n 0, 1, 0), (31, .getfield 101, 3, 0), (34, .if_icmp .ge 29, 3, 34), (37, .iload 4, 2, 0), (39, .iload_n 1, 1, 0), (40, .iload 5, 2, 0), (42, .invokestatic 118, 3, 0), (45, .ifCond .eq 8, 3, 29), (48, .bipush 12, 2, 0), (50, .goto 4, 3, 30), (53, .iconst 1, 1, 0), (54, .imul, 1, 0), (55, .istore 4, 2, 0), (57, .iinc 5 1, 3, 0), (60, .goto (-32), 3, 18), (63, .iconst 0, 1, 0), (64, .istore 5, 2, 0), (66, .iload 5, 2, 0), (68, .iload_n 1, 1, 0), (69, .if_icmp .gt 125, 3, 101), (72, .iload 5, 2, 0), (74, .iload_n 1, 1, 0), (75, .iconst (-1), 1, 0), (76, .ixor, 1, 0), (77, .iand, 1, 0), (78, .ifCond .eq 6, 3, 46), (81, .goto 107, 3, 99), (84, .iconst 1, 1, 0), (85, .istore 6, 2, 0), (87, .iconst 0, 1, 0), (88, .istore 7, 2, 0), (90, .iload 7, 2, 0), (92, .aload_n 0, 1, 0), (93, .getfield 101, 3, 0), (96, .if_icmp .ge 59, 3, 81), (99, .aload_n 0, 1, 0), (100, .getfield 9, 3, 0), (103, .bipush 120, 2, 0), (105, .iload 7, 2, 0), (107, .iadd, 1, 0), (108, .iaload, 1, 0), (109, .istore 8, 2, 0), (111, .iload 6, 2, 0), (113, .iload_n 1, 1, 0), (114, .iload 7, 2, 0), (116, .invokestatic 118, 3, 0), (119, .ifCond .ne 7, 3, 68), (122, .iconst 1, 1, 0), (123, .goto 23, 3, 77), (126, .iload 5, 2, 0), (128, .iload 7, 2, 0), (130, .invokestatic 118, 3, 0), (133, .ifCond .eq 8, 3, 74), (136, .iload 8, 2, 0), (138, .goto 8, 3, 77), (141, .bipush 12, 2, 0), (143, .iload 8, 2, 0), (145, .isub, 1, 0), (146, .imul, 1, 0), (147, .istore 6, 2, 0), (149, .iinc 7 1, 3, 0), (152, .goto (-62), 3, 50), (155, .iload 6, 2, 0), (157, .ifCond .le 31, 3, 99), (160, .aload_n 0, 1, 0), (161, .iload_n 1, 1, 0), (162, .iload 5, 2, 0), (164, .iconst 0, 1, 0), (165, .invokevirtual 226, 3, 0), (168, .iload_n 3, 1, 0), (169, .aload_n 0, 1, 0), (170, .aload_n 0, 1, 0), (171, .getfield 212, 3, 0), (174, .invokevirtual 229, 3, 0), (177, .ifCond .eq 8, 3, 96), (180, .iload 6, 2, 0), (182, .goto 4, 3, 97), (185, .iconst 0, 1, 0), (186, .iadd, 1, 0), (187, .istore_n 3, 1, 0), (188, .iinc 5 1, 3, 0), (191, .goto (-125), 3, 36), (194, .iload_n 3, 1, 0), (195, .ifCond .ne 5, 3, 105), (198, .iload_n 2, 1, 0), (199, .ireturn, 1, 0), (200, .iload_n 3, 1, 0), (201, .iload 4, 2, 0), (203, .invokestatic 252, 3, 0), (206, .istore 5, 2, 0), (208, .iload_n 2, 1, 0), (209, .ifCond .ne 10, 3, 115), (212, .iload_n 3, 1, 0), (213, .iload 5, 2, 0), (215, .idiv, 1, 0), (216, .goto 8, 3, 118), (219, .iload 4, 2, 0), (221, .iload 5, 2, 0), (223, .idiv, 1, 0), (224, .ireturn, 1, 0)])
theorem k_M_chance : zchk m_M_chance = true := by decide +kernel
def m_Finder_fewestLies : ZM := (yX5_fewestLies, cX5_fewestLies, 9, some .int, [(0, .aload_n 0, 1, 0), (1, .getfield 28, 3, 0), (4, .iload_n 1, 1, 0), (5, .iload_n 1, 1, 0), (6, .iconst 0, 1, 0), (7, .invokevirtual 62, 3, 0), (10, .istore_n 2, 1, 0), (11, .aload_n 0, 1, 0), (12, .getfield 28, 3, 0), (15, .iload_n 1, 1, 0), (16, .invokevirtual 73, 3, 0), (19, .istore_n 3, 1, 0), (20, .aload_n 0, 1, 0), (21, .getfield 28, 3, 0), (24, .iload_n 1, 1, 0), (25, .invokevirtual 76, 3, 0), (28, .istore 4, 2, 0), (30, .aload_n 0, 1, 0), (31, .getfield 28, 3, 0), (34, .iload_n 2, 1, 0), (35, .iload_n 3, 1, 0), (36, .iload 4, 2, 0), (38, .invokevirtual 79, 3, 0), (41, .istore 5, 2, 0), (43, .bipush (-2), 2, 0), (45, .istore 6, 2, 0), (47, .aload_n 0, 1, 0), (48, .getfield 24, 3, 0), (51, .invokevirtual 53, 3, 0), (54, .istore 7, 2, 0), (56, .iconst 1, 1, 0), (57, .istore 8, 2, 0), (59, .iload 8, 2, 0), (61, .iload 7, 2, 0), (63, .if_icmp .gt 42, 3, 53), (66, .iload 8, 2, 0), (68, .iload 6, 2, 0), (70, .invokestatic 38, 3, 0), (73, .ifCond .eq 26, 3, 51), (76, .aload_n 0, 1, 0), (77, .getfield 28, 3, 0), (80, .iload_n 2, 1, 0), (81, .iload 8, 2, 0), (83, .ixor, 1, 0), (84, .iload_n 3, 1, 0), (85, .iload 4, 2, 0), (87, .invokevirtual 79, 3, 0), (90, .iload 5, 2, 0), (92, .if_icmp .eq 7, 3, 51), (95, .iload 8, 2, 0), (97, .istore 6, 2, 0), (99, .iinc 8 1, 3, 0), (102, .goto (-43), 3, 32), (105, .iload 6, 2, 0), (107, .ireturn, 1, 0)])
theorem k_Finder_fewestLies : zchk m_Finder_fewestLies = true := by decide +kernel
def m_X_lies : ZM := (yX10_lies, cX10_lies, 2, some .int, [(0, .aload_n 0, 1, 0), (1, .getfield 10, 3, 0), (4, .iload_n 1, 1, 0), (5, .invokevirtual 187, 3, 0), (8, .ifCond .eq 14, 3, 10), (11, .aload_n 0, 1, 0), (12, .getfield 53, 3, 0), (15, .iload_n 1, 1, 0), (16, .invokevirtual 241, 3, 0), (19, .goto 4, 3, 11), (22, .iconst (-1), 1, 0), (23, .ireturn, 1, 0)])
theorem k_X_lies : zchk m_X_lies = true := by decide +kernel
def m_M_lies : ZM := (yX11_lies, cX11_lies, 5, some .int, [(0, .aload_n 0, 1, 0), (1, .iload_n 1, 1, 0), (2, .invokevirtual 232, 3, 0), (5, .ifCond .ne 5, 3, 6), (8, .iconst (-1), 1, 0), (9, .ireturn, 1, 0), (10, .aload_n 0, 1, 0), (11, .iload_n 1, 1, 0), (12, .iconst 0, 1, 0), (13, .invokevirtual 240, 3, 0), (16, .istore_n 2, 1, 0), (17, .bipush (-2), 2, 0), (19, .istore_n 3, 1, 0), (20, .iconst 1, 1, 0), (21, .istore 4, 2, 0), (23, .iload 4, 2, 0), (25, .iconst 1, 1, 0), (26, .aload_n 0, 1, 0), (27, .getfield 94, 3, 0), (30, .ishl, 1, 0), (31, .if_icmp .ge 43, 3, 40), (34, .iload_n 3, 1, 0), (35, .ifCond .lt 15, 3, 28), (38, .iload 4, 2, 0), (40, .invokestatic 205, 3, 0), (43, .iload_n 3, 1, 0), (44, .invokestatic 205, 3, 0), (47, .if_icmp .ge 21, 3, 38), (50, .aload_n 0, 1, 0), (51, .aload_n 0, 1, 0), (52, .getfield 212, 3, 0), (55, .iload 4, 2, 0), (57, .ixor, 1, 0), (58, .invokevirtual 229, 3, 0), (61, .iload_n 2, 1, 0), (62, .if_icmp .eq 6, 3, 38), (65, .iload 4, 2, 0), (67, .istore_n 3, 1, 0), (68, .iinc 4 1, 3, 0), (71, .goto (-48), 3, 15), (74, .iload_n 3, 1, 0), (75, .ireturn, 1, 0)])
theorem k_M_lies : zchk m_M_lies = true := by decide +kernel
def m_Ballot_whoIsFree : ZM := (yX0_whoIsFree, cX0_whoIsFree, 5, some .int, [(0, .aload_n 0, 1, 0), (1, .iload_n 1, 1, 0), (2, .iconst 0, 1, 0), (3, .invokevirtual 26, 3, 0), (6, .iconst 0, 1, 0), (7, .istore_n 3, 1, 0), (8, .iconst 0, 1, 0), (9, .istore 4, 2, 0), (11, .iload 4, 2, 0), (13, .aload_n 0, 1, 0), (14, .getfield 18, 3, 0), (17, .getfield 30, 3, 0), (20, .if_icmp .ge 30, 3, 28), (23, .iload_n 3, 1, 0), (24, .aload_n 0, 1, 0), (25, .iload 4, 2, 0), (27, .iload_n 2, 1, 0), (28, .invokevirtual 45, 3, 0), (31, .ifCond .eq 10, 3, 23), (34, .iconst 1, 1, 0), (35, .iload 4, 2, 0), (37, .ishl, 1, 0), (38, .goto 4, 3, 24), (41, .iconst 0, 1, 0), (42, .ior, 1, 0), (43, .istore_n 3, 1, 0), (44, .iinc 4 1, 3, 0), (47, .goto (-36), 3, 8), (50, .iload_n 3, 1, 0), (51, .ireturn, 1, 0)])
theorem k_Ballot_whoIsFree : zchk m_Ballot_whoIsFree = true := by decide +kernel
def m_Finder_stepWithFewer : ZM := (yX5_stepWithFewer, cX5_stepWithFewer, 4, some .int, [(0, .iconst 0, 1, 0), (1, .istore_n 3, 1, 0), (2, .iload_n 3, 1, 0), (3, .iconst 4, 1, 0), (4, .if_icmp .gt 27, 3, 17), (7, .aload_n 0, 1, 0), (8, .getfield 28, 3, 0), (11, .iload_n 1, 1, 0), (12, .iload_n 3, 1, 0), (13, .invokevirtual 93, 3, 0), (16, .invokestatic 47, 3, 0), (19, .iload_n 2, 1, 0), (20, .if_icmp .ge 5, 3, 15), (23, .iload_n 3, 1, 0), (24, .ireturn, 1, 0), (25, .iinc 3 1, 3, 0), (28, .goto (-26), 3, 2), (31, .bipush (-2), 2, 0), (33, .ireturn, 1, 0)])
theorem k_Finder_stepWithFewer : zchk m_Finder_stepWithFewer = true := by decide +kernel
def m_X_step : ZM := (yX10_step, cX10_step, 3, some .int, [(0, .aload_n 0, 1, 0), (1, .getfield 10, 3, 0), (4, .iload_n 1, 1, 0), (5, .invokevirtual 187, 3, 0), (8, .ifCond .eq 14, 3, 11), (11, .iload_n 2, 1, 0), (12, .iconst 1, 1, 0), (13, .if_icmp .lt 9, 3, 11), (16, .iload_n 2, 1, 0), (17, .bipush 10, 2, 0), (19, .if_icmp .le 5, 3, 13), (22, .iconst (-1), 1, 0), (23, .ireturn, 1, 0), (24, .aload_n 0, 1, 0), (25, .getfield 53, 3, 0), (28, .iload_n 1, 1, 0), (29, .iload_n 2, 1, 0), (30, .invokevirtual 244, 3, 0), (33, .ireturn, 1, 0)])
theorem k_X_step : zchk m_X_step = true := by decide +kernel
def m_M_step : ZM := (yX11_step, cX11_step, 6, some .int, [(0, .aload_n 0, 1, 0), (1, .iload_n 1, 1, 0), (2, .invokevirtual 232, 3, 0), (5, .ifCond .eq 15, 3, 10), (8, .iload_n 2, 1, 0), (9, .i2l, 1, 0), (10, .lconst 1, 1, 0), (11, .ldc2_w 116, 3, 0), (14, .invokestatic 97, 3, 0), (17, .ifCond .ne 5, 3, 12), (20, .iconst (-1), 1, 0), (21, .ireturn, 1, 0), (22, .aload_n 0, 1, 0), (23, .iload_n 1, 1, 0), (24, .iload_n 1, 1, 0), (25, .iconst 0, 1, 0), (26, .invokevirtual 208, 3, 0), (29, .iconst 0, 1, 0), (30, .istore_n 3, 1, 0), (31, .iload_n 3, 1, 0), (32, .iconst 5, 1, 0), (33, .if_icmp .ge 68, 3, 55), (36, .iconst 0, 1, 0), (37, .istore 4, 2, 0), (39, .iconst 0, 1, 0), (40, .istore 5, 2, 0), (42, .iload 5, 2, 0), (44, .aload_n 0, 1, 0), (45, .getfield 94, 3, 0), (48, .if_icmp .ge 39, 3, 48), (51, .iload 4, 2, 0), (53, .aload_n 0, 1, 0), (54, .getfield 37, 3, 0), (57, .iload 5, 2, 0), (59, .iaload, 1, 0), (60, .ifCond .ne 17, 3, 43), (63, .aload_n 0, 1, 0), (64, .iload 5, 2, 0), (66, .invokevirtual 202, 3, 0), (69, .iload_n 3, 1, 0), (70, .if_icmp .le 7, 3, 43), (73, .iconst 1, 1, 0), (74, .goto 4, 3, 44), (77, .iconst 0, 1, 0), (78, .iadd, 1, 0), (79, .istore 4, 2, 0), (81, .iinc 5 1, 3, 0), (84, .goto (-42), 3, 26), (87, .iload 4, 2, 0), (89, .iload_n 2, 1, 0), (90, .if_icmp .ge 5, 3, 53), (93, .iload_n 3, 1, 0), (94, .ireturn, 1, 0), (95, .iinc 3 1, 3, 0), (98, .goto (-67), 3, 19), (101, .bipush (-2), 2, 0), (103, .ireturn, 1, 0)])
theorem k_M_step : zchk m_M_step = true := by decide +kernel
def m_Finder_bitAt : ZM := (yX5_bitAt, cX5_bitAt, 4, some .int, [(0, .iload_n 0, 1, 0), (1, .istore_n 2, 1, 0), (2, .iconst 0, 1, 0), (3, .istore_n 3, 1, 0), (4, .iload_n 3, 1, 0), (5, .iload_n 1, 1, 0), (6, .if_icmp .ge 21, 3, 18), (9, .iload_n 3, 1, 0), (10, .bipush 10, 2, 0), (12, .if_icmp .ge 15, 3, 18), (15, .iload_n 2, 1, 0), (16, .iload_n 2, 1, 0), (17, .iconst 1, 1, 0), (18, .isub, 1, 0), (19, .iand, 1, 0), (20, .istore_n 2, 1, 0), (21, .iinc 3 1, 3, 0), (24, .goto (-20), 3, 4), (27, .iload_n 2, 1, 0), (28, .iload_n 2, 1, 0), (29, .ineg, 1, 0), (30, .iand, 1, 0), (31, .ireturn, 1, 0)])
theorem k_Finder_bitAt : zchk m_Finder_bitAt = true := by decide +kernel
def m_Finder_oftenCarriedByLot : ZM := (yX5_oftenCarriedByLot, cX5_oftenCarriedByLot, 12, some .int, [(0, .aload_n 0, 1, 0), (1, .getfield 28, 3, 0), (4, .iload 4, 2, 0), (6, .invokevirtual 73, 3, 0), (9, .istore 5, 2, 0), (11, .aload_n 0, 1, 0), (12, .getfield 28, 3, 0), (15, .iload 4, 2, 0), (17, .invokevirtual 76, 3, 0), (20, .istore 6, 2, 0), (22, .iconst 0, 1, 0), (23, .istore 7, 2, 0), (25, .iload_n 1, 1, 0), (26, .istore 8, 2, 0), (28, .iconst 0, 1, 0), (29, .istore 9, 2, 0), (31, .iload 9, 2, 0), (33, .iload_n 2, 1, 0), (34, .if_icmp .ge 104, 3, 69), (37, .iconst 0, 1, 0), (38, .istore 10, 2, 0), (40, .aload_n 0, 1, 0), (41, .getfield 24, 3, 0), (44, .getfield 83, 3, 0), (47, .istore 11, 2, 0), (49, .iload 11, 2, 0), (51, .ifCond .le 62, 3, 58), (54, .iload 11, 2, 0), (56, .aload_n 0, 1, 0), (57, .getfield 24, 3, 0), (60, .getfield 83, 3, 0), (63, .iload_n 3, 1, 0), (64, .isub, 1, 0), (65, .if_icmp .le 48, 3, 58), (68, .iload 8, 2, 0), (70, .ldc 96, 2, 0), (72, .imul, 1, 0), (73, .sipush 12345, 3, 0), (76, .iadd, 1, 0), (77, .istore 8, 2, 0), (79, .iload 10, 2, 0), (81, .aload_n 0, 1, 0), (82, .getfield 24, 3, 0), (85, .invokevirtual 53, 3, 0), (88, .iload 10, 2, 0), (90, .iconst (-1), 1, 0), (91, .ixor, 1, 0), (92, .iand, 1, 0), (93, .iload 8, 2, 0), (95, .bipush 8, 2, 0), (97, .iushr, 1, 0), (98, .iload 11, 2, 0), (100, .irem, 1, 0), (101, .invokestatic 97, 3, 0), (104, .ior, 1, 0), (105, .istore 10, 2, 0), (107, .iinc 11 (-1), 3, 0), (110, .goto (-61), 3, 25), (113, .iload 10, 2, 0), (115, .iload 5, 2, 0), (117, .iand, 1, 0), (118, .iload 10, 2, 0), (120, .iload 6, 2, 0), (122, .iand, 1, 0), (123, .invokestatic 100, 3, 0), (126, .ifCond .eq 6, 3, 67), (129, .iinc 7 1, 3, 0), (132, .iinc 9 1, 3, 0), (135, .goto (-104), 3, 16), (138, .iload 7, 2, 0), (140, .ireturn, 1, 0)])
theorem k_Finder_oftenCarriedByLot : zchk m_Finder_oftenCarriedByLot = true := by decide +kernel
def m_X_lots : ZM := (yX10_lots, cX10_lots, 6, some .int, [(0, .iload_n 2, 1, 0), (1, .ifCond .lt 14, 3, 7), (4, .aload_n 0, 1, 0), (5, .getfield 10, 3, 0), (8, .iload_n 3, 1, 0), (9, .invokevirtual 187, 3, 0), (12, .ifCond .ne 5, 3, 9), (15, .iconst (-1), 1, 0), (16, .ireturn, 1, 0), (17, .iload_n 2, 1, 0), (18, .bipush 100, 2, 0), (20, .idiv, 1, 0), (21, .istore 4, 2, 0), (23, .iload_n 2, 1, 0), (24, .bipush 100, 2, 0), (26, .irem, 1, 0), (27, .istore 5, 2, 0), (29, .iload 4, 2, 0), (31, .iconst 1, 1, 0), (32, .if_icmp .lt 28, 3, 31), (35, .iload 4, 2, 0), (37, .bipush 30, 2, 0), (39, .if_icmp .gt 21, 3, 31), (42, .iload 5, 2, 0), (44, .iconst 1, 1, 0), (45, .if_icmp .lt 15, 3, 31), (48, .iload 5, 2, 0), (50, .aload_n 0, 1, 0), (51, .getfield 10, 3, 0), (54, .getfield 226, 3, 0), (57, .if_icmp .le 5, 3, 33), (60, .iconst (-1), 1, 0), (61, .ireturn, 1, 0), (62, .aload_n 0, 1, 0), (63, .getfield 53, 3, 0), (66, .iload_n 1, 1, 0), (67, .iload 4, 2, 0), (69, .iload 5, 2, 0), (71, .iload_n 3, 1, 0), (72, .invokevirtual 247, 3, 0), (75, .ireturn, 1, 0)])
theorem k_X_lots : zchk m_X_lots = true := by decide +kernel
def m_M_drawnOf : ZM := (yX11_drawnOf, cX11_drawnOf, 5, some .int, [(0, .iload_n 2, 1, 0), (1, .istore_n 3, 1, 0), (2, .iconst 0, 1, 0), (3, .istore 4, 2, 0), (5, .iload 4, 2, 0), (7, .aload_n 0, 1, 0), (8, .getfield 94, 3, 0), (11, .if_icmp .ge 28, 3, 19), (14, .iload_n 1, 1, 0), (15, .iload 4, 2, 0), (17, .invokestatic 118, 3, 0), (20, .ifCond .eq 13, 3, 17), (23, .iload_n 3, 1, 0), (24, .ifCond .ne 6, 3, 16), (27, .iload 4, 2, 0), (29, .ireturn, 1, 0), (30, .iinc 3 (-1), 3, 0), (33, .iinc 4 1, 3, 0), (36, .goto (-31), 3, 4), (39, .iconst 0, 1, 0), (40, .ireturn, 1, 0)])
theorem k_M_drawnOf : zchk m_M_drawnOf = true := by decide +kernel
def m_M_lots : ZM := (yX11_lots, cX11_lots, 9, some .int, [(0, .iload_n 2, 1, 0), (1, .ifCond .lt 43, 3, 24), (4, .iload_n 2, 1, 0), (5, .bipush 100, 2, 0), (7, .idiv, 1, 0), (8, .i2l, 1, 0), (9, .lconst 1, 1, 0), (10, .ldc2_w 255, 3, 0), (13, .invokestatic 97, 3, 0), (16, .ifCond .eq 28, 3, 24), (19, .iload_n 2, 1, 0), (20, .bipush 100, 2, 0), (22, .irem, 1, 0), (23, .i2l, 1, 0), (24, .lconst 1, 1, 0), (25, .aload_n 0, 1, 0), (26, .getfield 94, 3, 0), (29, .i2l, 1, 0), (30, .invokestatic 97, 3, 0), (33, .ifCond .eq 11, 3, 24), (36, .aload_n 0, 1, 0), (37, .iload_n 3, 1, 0), (38, .invokevirtual 232, 3, 0), (41, .ifCond .ne 5, 3, 26), (44, .iconst (-1), 1, 0), (45, .ireturn, 1, 0), (46, .aload_n 0, 1, 0), (47, .iload_n 3, 1, 0), (48, .iload_n 3, 1, 0), (49, .iconst 0, 1, 0), (50, .invokevirtual 208, 3, 0), (53, .iload_n 1, 1, 0), (54, .istore 4, 2, 0), (56, .iconst 0, 1, 0), (57, .istore 5, 2, 0), (59, .iconst 0, 1, 0), (60, .istore 6, 2, 0), (62, .iload 6, 2, 0), (64, .iload_n 2, 1, 0), (65, .bipush 100, 2, 0), (67, .idiv, 1, 0), (68, .if_icmp .ge 105, 3, 101), (71, .iconst 1, 1, 0), (72, .aload_n 0, 1, 0), (73, .getfield 94, 3, 0), (76, .ishl, 1, 0), (77, .iconst 1, 1, 0), (78, .isub, 1, 0), (79, .istore 7, 2, 0), (81, .iconst 0, 1, 0), (82, .istore 8, 2, 0), (84, .iload 8, 2, 0), (86, .iload_n 2, 1, 0), (87, .bipush 100, 2, 0), (89, .irem, 1, 0), (90, .if_icmp .ge 47, 3, 80), (93, .iload 4, 2, 0), (95, .ldc_w 257, 3, 0), (98, .imul, 1, 0), (99, .sipush 12345, 3, 0), (102, .iadd, 1, 0), (103, .istore 4, 2, 0), (105, .iload 7, 2, 0), (107, .iconst 1, 1, 0), (108, .aload_n 0, 1, 0), (109, .iload 7, 2, 0), (111, .iload 4, 2, 0), (113, .bipush 8, 2, 0), (115, .iushr, 1, 0), (116, .iload 7, 2, 0), (118, .invokestatic 205, 3, 0), (121, .irem, 1, 0), (122, .invokevirtual 258, 3, 0), (125, .ishl, 1, 0), (126, .iconst (-1), 1, 0), (127, .ixor, 1, 0), (128, .iand, 1, 0), (129, .istore 7, 2, 0), (131, .iinc 8 1, 3, 0), (134, .goto (-50), 3, 51), (137, .iload 5, 2, 0), (139, .aload_n 0, 1, 0), (140, .iconst 1, 1, 0), (141, .aload_n 0, 1, 0), (142, .getfield 94, 3, 0), (145, .ishl, 1, 0), (146, .iconst 1, 1, 0), (147, .isub, 1, 0), (148, .iload 7, 2, 0), (150, .iconst (-1), 1, 0), (151, .ixor, 1, 0), (152, .iand, 1, 0), (153, .invokevirtual 223, 3, 0), (156, .ifCond .eq 7, 3, 96), (159, .iconst 1, 1, 0), (160, .goto 4, 3, 97), (163, .iconst 0, 1, 0), (164, .iadd, 1, 0), (165, .istore 5, 2, 0), (167, .iinc 6 1, 3, 0), (170, .goto (-108), 3, 37), (173, .iload 5, 2, 0), (175, .ireturn, 1, 0)])
theorem k_M_lots : zchk m_M_lots = true := by decide +kernel
def m_Shelves_refusedAsRow : ZM := (yX7_refusedAsRow, cX7_refusedAsRow, 3, some .int, [(0, .aload_n 0, 1, 0), (1, .iload_n 1, 1, 0), (2, .invokevirtual 25, 3, 0), (5, .ifCond .ne 5, 3, 6), (8, .iconst (-1), 1, 0), (9, .ireturn, 1, 0), (10, .aload_n 0, 1, 0), (11, .getfield 11, 3, 0), (14, .iload_n 1, 1, 0), (15, .iaload, 1, 0), (16, .iconst (-1), 1, 0), (17, .if_icmp .ne 6, 3, 14), (20, .bipush (-11), 2, 0), (22, .ireturn, 1, 0), (23, .aload_n 0, 1, 0), (24, .getfield 11, 3, 0), (27, .iload_n 1, 1, 0), (28, .iaload, 1, 0), (29, .iload_n 2, 1, 0), (30, .if_icmp .ne 7, 3, 22), (33, .iconst 0, 1, 0), (34, .goto 5, 3, 23), (37, .bipush (-12), 2, 0), (39, .ireturn, 1, 0)])
theorem k_Shelves_refusedAsRow : zchk m_Shelves_refusedAsRow = true := by decide +kernel
def m_Shelves_sizeOf : ZM := (yX7_sizeOf, cX7_sizeOf, 2, some .int, [(0, .aload_n 0, 1, 0), (1, .iload_n 1, 1, 0), (2, .invokevirtual 25, 3, 0), (5, .ifCond .eq 12, 3, 9), (8, .aload_n 0, 1, 0), (9, .getfield 15, 3, 0), (12, .iload_n 1, 1, 0), (13, .iaload, 1, 0), (14, .goto 4, 3, 10), (17, .iconst 0, 1, 0), (18, .ireturn, 1, 0)])
theorem k_Shelves_sizeOf : zchk m_Shelves_sizeOf = true := by decide +kernel
def m_Years_bundleAt : ZM := (yX9_bundleAt, cX9_bundleAt, 3, some .int, [(0, .aload_n 0, 1, 0), (1, .getfield 19, 3, 0), (4, .iload_n 1, 1, 0), (5, .iload_n 2, 1, 0), (6, .invokevirtual 62, 3, 0), (9, .l2i, 1, 0), (10, .ireturn, 1, 0)])
theorem k_Years_bundleAt : zchk m_Years_bundleAt = true := by decide +kernel
def m_Years_isWhole : ZM := (yX9_isWhole, cX9_isWhole, 3, some .boolean, [(0, .aload_n 0, 1, 0), (1, .getfield 19, 3, 0), (4, .iload_n 1, 1, 0), (5, .iload_n 2, 1, 0), (6, .iconst 1, 1, 0), (7, .iadd, 1, 0), (8, .invokevirtual 55, 3, 0), (11, .ifCond .eq 23, 3, 18), (14, .aload_n 0, 1, 0), (15, .getfield 9, 3, 0), (18, .aload_n 0, 1, 0), (19, .iload_n 1, 1, 0), (20, .iload_n 2, 1, 0), (21, .invokevirtual 37, 3, 0), (24, .invokevirtual 58, 3, 0), (27, .ifCond .eq 7, 3, 18), (30, .iconst 1, 1, 0), (31, .goto 4, 3, 19), (34, .iconst 0, 1, 0), (35, .ireturn, 1, 0)])
theorem k_Years_isWhole : zchk m_Years_isWhole = true := by decide +kernel
def m_Years_silentAt : ZM := (yX9_silentAt, cX9_silentAt, 3, some .int, [(0, .aload_n 0, 1, 0), (1, .getfield 19, 3, 0), (4, .iload_n 1, 1, 0), (5, .iload_n 2, 1, 0), (6, .iconst 1, 1, 0), (7, .iadd, 1, 0), (8, .invokevirtual 62, 3, 0), (11, .l2i, 1, 0), (12, .ireturn, 1, 0)])
theorem k_Years_silentAt : zchk m_Years_silentAt = true := by decide +kernel
def m_Years_mustBeSilent : ZM := (yX9_mustBeSilent, cX9_mustBeSilent, 2, some .int, [(0, .aload_n 0, 1, 0), (1, .getfield 9, 3, 0), (4, .invokevirtual 43, 3, 0), (7, .aload_n 0, 1, 0), (8, .getfield 15, 3, 0), (11, .iload_n 1, 1, 0), (12, .iload_n 1, 1, 0), (13, .iconst 0, 1, 0), (14, .invokevirtual 49, 3, 0), (17, .iconst (-1), 1, 0), (18, .ixor, 1, 0), (19, .iand, 1, 0), (20, .ireturn, 1, 0)])
theorem k_Years_mustBeSilent : zchk m_Years_mustBeSilent = true := by decide +kernel
def m_Years_firstWrong : ZM := (yX9_firstWrong, cX9_firstWrong, 4, some .int, [(0, .aload_n 0, 1, 0), (1, .getfield 19, 3, 0), (4, .iload_n 1, 1, 0), (5, .invokevirtual 23, 3, 0), (8, .istore_n 2, 1, 0), (9, .iconst 0, 1, 0), (10, .istore_n 3, 1, 0), (11, .iload_n 3, 1, 0), (12, .iload_n 2, 1, 0), (13, .if_icmp .ge 41, 3, 32), (16, .aload_n 0, 1, 0), (17, .iload_n 1, 1, 0), (18, .iload_n 3, 1, 0), (19, .invokevirtual 29, 3, 0), (22, .ifCond .eq 22, 3, 26), (25, .aload_n 0, 1, 0), (26, .iload_n 1, 1, 0), (27, .iload_n 3, 1, 0), (28, .invokevirtual 33, 3, 0), (31, .aload_n 0, 1, 0), (32, .aload_n 0, 1, 0), (33, .iload_n 1, 1, 0), (34, .iload_n 3, 1, 0), (35, .invokevirtual 37, 3, 0), (38, .invokevirtual 40, 3, 0), (41, .if_icmp .eq 7, 3, 30), (44, .iload_n 3, 1, 0), (45, .iconst 2, 1, 0), (46, .idiv, 1, 0), (47, .ireturn, 1, 0), (48, .iinc 3 2, 3, 0), (51, .goto (-40), 3, 7), (54, .bipush (-2), 2, 0), (56, .ireturn, 1, 0)])
theorem k_Years_firstWrong : zchk m_Years_firstWrong = true := by decide +kernel
def m_X_judge : ZM := (yX10_judge, cX10_judge, 3, some .int, [(0, .aload_n 0, 1, 0), (1, .getfield 60, 3, 0), (4, .iload_n 1, 1, 0), (5, .iconst 1, 1, 0), (6, .invokevirtual 251, 3, 0), (9, .istore_n 2, 1, 0), (10, .iload_n 2, 1, 0), (11, .ifCond .eq 5, 3, 10), (14, .iload_n 2, 1, 0), (15, .ireturn, 1, 0), (16, .aload_n 0, 1, 0), (17, .getfield 69, 3, 0), (20, .iload_n 1, 1, 0), (21, .invokevirtual 254, 3, 0), (24, .ireturn, 1, 0)])
theorem k_X_judge : zchk m_X_judge = true := by decide +kernel
def m_M_yearIs : ZM := (yX11_yearIs, cX11_yearIs, 2, some .int, [(0, .iload_n 1, 1, 0), (1, .invokestatic 113, 3, 0), (4, .ifCond .ne 7, 3, 5), (7, .iconst (-1), 1, 0), (8, .goto 34, 3, 21), (11, .aload_n 0, 1, 0), (12, .getfield 65, 3, 0), (15, .iload_n 1, 1, 0), (16, .iaload, 1, 0), (17, .ifCond .ge 8, 3, 12), (20, .bipush (-11), 2, 0), (22, .goto 20, 3, 21), (25, .aload_n 0, 1, 0), (26, .getfield 65, 3, 0), (29, .iload_n 1, 1, 0), (30, .iaload, 1, 0), (31, .bipush 51, 2, 0), (33, .if_icmp .ne 7, 3, 20), (36, .iconst 1, 1, 0), (37, .goto 5, 3, 21), (40, .bipush (-12), 2, 0), (42, .ireturn, 1, 0)])
theorem k_M_yearIs : zchk m_M_yearIs = true := by decide +kernel
def m_M_bundleAt : ZM := (yX11_bundleAt, cX11_bundleAt, 3, some .int, [(0, .aload_n 0, 1, 0), (1, .getfield 71, 3, 0), (4, .bipush 60, 2, 0), (6, .iload_n 1, 1, 0), (7, .imul, 1, 0), (8, .iconst 2, 1, 0), (9, .iload_n 2, 1, 0), (10, .imul, 1, 0), (11, .iadd, 1, 0), (12, .laload, 1, 0), (13, .l2i, 1, 0), (14, .ireturn, 1, 0)])
theorem k_M_bundleAt : zchk m_M_bundleAt = true := by decide +kernel
def m_M_silentAt : ZM := (yX11_silentAt, cX11_silentAt, 3, some .int, [(0, .aload_n 0, 1, 0), (1, .getfield 71, 3, 0), (4, .bipush 60, 2, 0), (6, .iload_n 1, 1, 0), (7, .imul, 1, 0), (8, .iconst 2, 1, 0), (9, .iload_n 2, 1, 0), (10, .imul, 1, 0), (11, .iadd, 1, 0), (12, .iconst 1, 1, 0), (13, .iadd, 1, 0), (14, .laload, 1, 0), (15, .l2i, 1, 0), (16, .ireturn, 1, 0)])
theorem k_M_silentAt : zchk m_M_silentAt = true := by decide +kernel
def m_M_judge : ZM := (yX11_judge, cX11_judge, 3, some .int, [(0, .aload_n 0, 1, 0), (1, .iload_n 1, 1, 0), (2, .invokevirtual 261, 3, 0), (5, .ifCond .ge 9, 3, 8), (8, .aload_n 0, 1, 0), (9, .iload_n 1, 1, 0), (10, .invokevirtual 261, 3, 0), (13, .ireturn, 1, 0), (14, .iconst 0, 1, 0), (15, .istore_n 2, 1, 0), (16, .iconst 2, 1, 0), (17, .iload_n 2, 1, 0), (18, .imul, 1, 0), (19, .aload_n 0, 1, 0), (20, .getfield 68, 3, 0), (23, .iload_n 1, 1, 0), (24, .iaload, 1, 0), (25, .if_icmp .ge 81, 3, 68), (28, .iconst 2, 1, 0), (29, .iload_n 2, 1, 0), (30, .imul, 1, 0), (31, .iconst 1, 1, 0), (32, .iadd, 1, 0), (33, .aload_n 0, 1, 0), (34, .getfield 68, 3, 0), (37, .iload_n 1, 1, 0), (38, .iaload, 1, 0), (39, .if_icmp .eq 16, 3, 35), (42, .aload_n 0, 1, 0), (43, .aload_n 0, 1, 0), (44, .iload_n 1, 1, 0), (45, .iload_n 2, 1, 0), (46, .invokevirtual 264, 3, 0), (49, .invokevirtual 232, 3, 0), (52, .ifCond .ne 5, 3, 37), (55, .iload_n 2, 1, 0), (56, .ireturn, 1, 0), (57, .aload_n 0, 1, 0), (58, .aload_n 0, 1, 0), (59, .iload_n 1, 1, 0), (60, .iload_n 2, 1, 0), (61, .invokevirtual 264, 3, 0), (64, .aload_n 0, 1, 0), (65, .iload_n 1, 1, 0), (66, .iload_n 2, 1, 0), (67, .invokevirtual 264, 3, 0), (70, .iconst 0, 1, 0), (71, .invokevirtual 226, 3, 0), (74, .aload_n 0, 1, 0), (75, .iload_n 1, 1, 0), (76, .iload_n 2, 1, 0), (77, .invokevirtual 267, 3, 0), (80, .iconst 1, 1, 0), (81, .aload_n 0, 1, 0), (82, .getfield 94, 3, 0), (85, .ishl, 1, 0), (86, .iconst 1, 1, 0), (87, .isub, 1, 0), (88, .aload_n 0, 1, 0), (89, .getfield 212, 3, 0), (92, .iconst (-1), 1, 0), (93, .ixor, 1, 0), (94, .iand, 1, 0), (95, .if_icmp .eq 5, 3, 66), (98, .iload_n 2, 1, 0), (99, .ireturn, 1, 0), (100, .iinc 2 1, 3, 0), (103, .goto (-87), 3, 10), (106, .bipush (-2), 2, 0), (108, .ireturn, 1, 0)])
theorem k_M_judge : zchk m_M_judge = true := by decide +kernel
def m_Years_isSilentFor : ZM := (yX9_isSilentFor, cX9_isSilentFor, 5, some .boolean, [(0, .aload_n 0, 1, 0), (1, .iload_n 1, 1, 0), (2, .iload_n 2, 1, 0), (3, .invokevirtual 37, 3, 0), (6, .iload 4, 2, 0), (8, .iushr, 1, 0), (9, .aload_n 0, 1, 0), (10, .iload_n 1, 1, 0), (11, .iload_n 2, 1, 0), (12, .invokevirtual 33, 3, 0), (15, .iload_n 3, 1, 0), (16, .iushr, 1, 0), (17, .iand, 1, 0), (18, .iconst 1, 1, 0), (19, .iand, 1, 0), (20, .ifCond .eq 7, 3, 18), (23, .iconst 1, 1, 0), (24, .goto 4, 3, 19), (27, .iconst 0, 1, 0), (28, .ireturn, 1, 0)])
theorem k_Years_isSilentFor : zchk m_Years_isSilentFor = true := by decide +kernel
def m_Years_hasVotedOn : ZM := (yX9_hasVotedOn, cX9_hasVotedOn, 9, some .boolean, [(0, .aload_n 0, 1, 0), (1, .getfield 19, 3, 0), (4, .iload_n 2, 1, 0), (5, .invokevirtual 23, 3, 0), (8, .istore 5, 2, 0), (10, .iconst 0, 1, 0), (11, .istore 6, 2, 0), (13, .iload 6, 2, 0), (15, .iload 5, 2, 0), (17, .if_icmp .ge 74, 3, 50), (20, .aload_n 0, 1, 0), (21, .iload_n 2, 1, 0), (22, .iload 6, 2, 0), (24, .invokevirtual 37, 3, 0), (27, .istore 7, 2, 0), (29, .iload 7, 2, 0), (31, .iload_n 1, 1, 0), (32, .iand, 1, 0), (33, .iload_n 1, 1, 0), (34, .if_icmp .ne 17, 3, 28), (37, .iload 7, 2, 0), (39, .iload 4, 2, 0), (41, .iushr, 1, 0), (42, .iconst 1, 1, 0), (43, .iand, 1, 0), (44, .ifCond .ne 7, 3, 28), (47, .iconst 1, 1, 0), (48, .goto 4, 3, 29), (51, .iconst 0, 1, 0), (52, .istore 8, 2, 0), (54, .iload 8, 2, 0), (56, .ifCond .eq 29, 3, 48), (59, .aload_n 0, 1, 0), (60, .iload_n 2, 1, 0), (61, .iload 6, 2, 0), (63, .invokevirtual 29, 3, 0), (66, .ifCond .eq 19, 3, 48), (69, .aload_n 0, 1, 0), (70, .iload_n 2, 1, 0), (71, .iload 6, 2, 0), (73, .invokevirtual 33, 3, 0), (76, .iload_n 3, 1, 0), (77, .iushr, 1, 0), (78, .iconst 1, 1, 0), (79, .iand, 1, 0), (80, .ifCond .ne 5, 3, 48), (83, .iconst 1, 1, 0), (84, .ireturn, 1, 0), (85, .iinc 6 2, 3, 0), (88, .goto (-75), 3, 7), (91, .iconst 0, 1, 0), (92, .ireturn, 1, 0)])
theorem k_Years_hasVotedOn : zchk m_Years_hasVotedOn = true := by decide +kernel
def m_Years_isShown : ZM := (yX9_isShown, cX9_isShown, 7, some .boolean, [(0, .aload_n 0, 1, 0), (1, .getfield 19, 3, 0), (4, .iload_n 1, 1, 0), (5, .invokevirtual 23, 3, 0), (8, .istore 4, 2, 0), (10, .iconst 0, 1, 0), (11, .istore 5, 2, 0), (13, .iload 5, 2, 0), (15, .iload 4, 2, 0), (17, .if_icmp .ge 65, 3, 46), (20, .aload_n 0, 1, 0), (21, .iload_n 1, 1, 0), (22, .iload 5, 2, 0), (24, .invokevirtual 29, 3, 0), (27, .ifCond .eq 49, 3, 44), (30, .aload_n 0, 1, 0), (31, .iload_n 1, 1, 0), (32, .iload 5, 2, 0), (34, .iload_n 2, 1, 0), (35, .iload_n 3, 1, 0), (36, .invokevirtual 66, 3, 0), (39, .ifCond .eq 37, 3, 44), (42, .aload_n 0, 1, 0), (43, .iload_n 1, 1, 0), (44, .iload 5, 2, 0), (46, .invokevirtual 37, 3, 0), (49, .iconst 1, 1, 0), (50, .iload_n 3, 1, 0), (51, .ishl, 1, 0), (52, .iconst (-1), 1, 0), (53, .ixor, 1, 0), (54, .iand, 1, 0), (55, .istore 6, 2, 0), (57, .iload 6, 2, 0), (59, .ifCond .eq 15, 3, 42), (62, .aload_n 0, 1, 0), (63, .iload 6, 2, 0), (65, .iload_n 1, 1, 0), (66, .iload_n 2, 1, 0), (67, .iload_n 3, 1, 0), (68, .invokevirtual 70, 3, 0), (71, .ifCond .eq 5, 3, 44), (74, .iconst 1, 1, 0), (75, .ireturn, 1, 0), (76, .iinc 5 2, 3, 0), (79, .goto (-66), 3, 7), (82, .iconst 0, 1, 0), (83, .ireturn, 1, 0)])
theorem k_Years_isShown : zchk m_Years_isShown = true := by decide +kernel
def m_X_must : ZM := (yX10_must, cX10_must, 4, some .int, [(0, .aload_n 0, 1, 0), (1, .getfield 10, 3, 0), (4, .iload_n 2, 1, 0), (5, .iconst 0, 1, 0), (6, .invokevirtual 123, 3, 0), (9, .ifCond .ge 5, 3, 8), (12, .iconst (-1), 1, 0), (13, .ireturn, 1, 0), (14, .aload_n 0, 1, 0), (15, .getfield 60, 3, 0), (18, .iload_n 1, 1, 0), (19, .iconst 1, 1, 0), (20, .invokevirtual 251, 3, 0), (23, .istore_n 3, 1, 0), (24, .iload_n 3, 1, 0), (25, .ifCond .eq 5, 3, 18), (28, .iload_n 3, 1, 0), (29, .ireturn, 1, 0), (30, .aload_n 0, 1, 0), (31, .getfield 69, 3, 0), (34, .iload_n 1, 1, 0), (35, .iload_n 2, 1, 0), (36, .bipush 10, 2, 0), (38, .idiv, 1, 0), (39, .iload_n 2, 1, 0), (40, .bipush 10, 2, 0), (42, .irem, 1, 0), (43, .invokevirtual 257, 3, 0), (46, .ifCond .eq 7, 3, 31), (49, .iconst 1, 1, 0), (50, .goto 4, 3, 32), (53, .iconst 0, 1, 0), (54, .ireturn, 1, 0)])
theorem k_X_must : zchk m_X_must = true := by decide +kernel
def m_M_isVotedBeside : ZM := (yX11_isVotedBeside, cX11_isVotedBeside, 7, some .boolean, [(0, .iconst 0, 1, 0), (1, .istore 5, 2, 0), (3, .iconst 2, 1, 0), (4, .iload 5, 2, 0), (6, .imul, 1, 0), (7, .iconst 1, 1, 0), (8, .iadd, 1, 0), (9, .aload_n 0, 1, 0), (10, .getfield 68, 3, 0), (13, .iload_n 1, 1, 0), (14, .iaload, 1, 0), (15, .if_icmp .ge 62, 3, 42), (18, .aload_n 0, 1, 0), (19, .iload_n 1, 1, 0), (20, .iload 5, 2, 0), (22, .invokevirtual 264, 3, 0), (25, .istore 6, 2, 0), (27, .aload_n 0, 1, 0), (28, .iload 6, 2, 0), (30, .invokevirtual 232, 3, 0), (33, .ifCond .eq 38, 3, 40), (36, .iload 6, 2, 0), (38, .iload_n 3, 1, 0), (39, .invokestatic 118, 3, 0), (42, .ifCond .ne 29, 3, 40), (45, .iload 4, 2, 0), (47, .iload 6, 2, 0), (49, .iconst (-1), 1, 0), (50, .ixor, 1, 0), (51, .iand, 1, 0), (52, .ifCond .ne 19, 3, 40), (55, .aload_n 0, 1, 0), (56, .iload_n 1, 1, 0), (57, .iload 5, 2, 0), (59, .invokevirtual 267, 3, 0), (62, .iload_n 2, 1, 0), (63, .invokestatic 118, 3, 0), (66, .ifCond .ne 5, 3, 40), (69, .iconst 1, 1, 0), (70, .ireturn, 1, 0), (71, .iinc 5 1, 3, 0), (74, .goto (-71), 3, 2), (77, .iconst 0, 1, 0), (78, .ireturn, 1, 0)])
theorem k_M_isVotedBeside : zchk m_M_isVotedBeside = true := by decide +kernel
def m_M_must : ZM := (yX11_must, cX11_must, 8, some .int, [(0, .aload_n 0, 1, 0), (1, .iload_n 1, 1, 0), (2, .invokevirtual 261, 3, 0), (5, .iconst (-1), 1, 0), (6, .if_icmp .eq 11, 3, 9), (9, .aload_n 0, 1, 0), (10, .iload_n 2, 1, 0), (11, .invokevirtual 125, 3, 0), (14, .ifCond .ne 5, 3, 11), (17, .iconst (-1), 1, 0), (18, .ireturn, 1, 0), (19, .aload_n 0, 1, 0), (20, .iload_n 1, 1, 0), (21, .invokevirtual 261, 3, 0), (24, .ifCond .ge 9, 3, 19), (27, .aload_n 0, 1, 0), (28, .iload_n 1, 1, 0), (29, .invokevirtual 261, 3, 0), (32, .ireturn, 1, 0), (33, .iload_n 2, 1, 0), (34, .bipush 10, 2, 0), (36, .idiv, 1, 0), (37, .istore_n 3, 1, 0), (38, .iload_n 2, 1, 0), (39, .bipush 10, 2, 0), (41, .irem, 1, 0), (42, .istore 4, 2, 0), (44, .iconst 0, 1, 0), (45, .istore 5, 2, 0), (47, .iconst 2, 1, 0), (48, .iload 5, 2, 0), (50, .imul, 1, 0), (51, .iconst 1, 1, 0), (52, .iadd, 1, 0), (53, .aload_n 0, 1, 0), (54, .getfield 68, 3, 0), (57, .iload_n 1, 1, 0), (58, .iaload, 1, 0), (59, .if_icmp .ge 85, 3, 81), (62, .aload_n 0, 1, 0), (63, .iload_n 1, 1, 0), (64, .iload 5, 2, 0), (66, .invokevirtual 264, 3, 0), (69, .istore 6, 2, 0), (71, .aload_n 0, 1, 0), (72, .iload 6, 2, 0), (74, .invokevirtual 232, 3, 0), (77, .ifCond .eq 61, 3, 79), (80, .iload 6, 2, 0), (82, .iload 4, 2, 0), (84, .invokestatic 118, 3, 0), (87, .ifCond .eq 51, 3, 79), (90, .aload_n 0, 1, 0), (91, .iload_n 1, 1, 0), (92, .iload 5, 2, 0), (94, .invokevirtual 267, 3, 0), (97, .iload_n 3, 1, 0), (98, .invokestatic 118, 3, 0), (101, .ifCond .ne 6, 3, 60), (104, .goto 34, 3, 79), (107, .iload 6, 2, 0), (109, .iconst 1, 1, 0), (110, .iload 4, 2, 0), (112, .ishl, 1, 0), (113, .iconst (-1), 1, 0), (114, .ixor, 1, 0), (115, .iand, 1, 0), (116, .istore 7, 2, 0), (118, .iload 7, 2, 0), (120, .ifCond .eq 16, 3, 77), (123, .aload_n 0, 1, 0), (124, .iload_n 1, 1, 0), (125, .iload_n 3, 1, 0), (126, .iload 4, 2, 0), (128, .iload 7, 2, 0), (130, .invokevirtual 270, 3, 0), (133, .ifCond .eq 5, 3, 79), (136, .iconst 1, 1, 0), (137, .ireturn, 1, 0), (138, .iinc 5 1, 3, 0), (141, .goto (-94), 3, 29), (144, .iconst 0, 1, 0), (145, .ireturn, 1, 0)])
theorem k_M_must : zchk m_M_must = true := by decide +kernel
def m_Deeds_decided : ZM := (yX4_decided, cX4_decided, 1, some .int, [(0, .aload_n 0, 1, 0), (1, .getfield 11, 3, 0), (4, .iconst 3, 1, 0), (5, .iaload, 1, 0), (6, .ireturn, 1, 0)])
theorem k_Deeds_decided : zchk m_Deeds_decided = true := by decide +kernel
def m_Deeds_enter : ZM := (yX4_enter, cX4_enter, 5, none, [(0, .aload_n 0, 1, 0), (1, .getfield 11, 3, 0), (4, .iconst 0, 1, 0), (5, .iload_n 1, 1, 0), (6, .iastore, 1, 0), (7, .aload_n 0, 1, 0), (8, .getfield 11, 3, 0), (11, .iconst 1, 1, 0), (12, .iload_n 2, 1, 0), (13, .iastore, 1, 0), (14, .aload_n 0, 1, 0), (15, .getfield 11, 3, 0), (18, .iconst 2, 1, 0), (19, .iload_n 3, 1, 0), (20, .iastore, 1, 0), (21, .aload_n 0, 1, 0), (22, .getfield 11, 3, 0), (25, .iconst 3, 1, 0), (26, .dup2, 1, 0), (27, .iaload, 1, 0), (28, .iload_n 3, 1, 0), (29, .ifCond .eq 7, 3, 24), (32, .iload_n 1, 1, 0), (33, .goto 4, 3, 25), (36, .iconst 0, 1, 0), (37, .ior, 1, 0), (38, .iastore, 1, 0), (39, .aload_n 0, 1, 0), (40, .getfield 11, 3, 0), (43, .iconst 4, 1, 0), (44, .dup2, 1, 0), (45, .iaload, 1, 0), (46, .iload 4, 2, 0), (48, .iadd, 1, 0), (49, .iastore, 1, 0), (50, .aload_n 0, 1, 0), (51, .getfield 11, 3, 0), (54, .iconst 5, 1, 0), (55, .iconst 1, 1, 0), (56, .iastore, 1, 0), (57, .return_, 1, 0)])
theorem k_Deeds_enter : zchk m_Deeds_enter = true := by decide +kernel
def m_X_decide : ZM := (yX10_decide, cX10_decide, 4, some .int, [(0, .aload_n 0, 1, 0), (1, .iload_n 1, 1, 0), (2, .iload_n 2, 1, 0), (3, .invokevirtual 171, 3, 0), (6, .ifCond .ne 5, 3, 7), (9, .iconst (-1), 1, 0), (10, .ireturn, 1, 0), (11, .aload_n 0, 1, 0), (12, .getfield 76, 3, 0), (15, .invokevirtual 261, 3, 0), (18, .iload_n 1, 1, 0), (19, .iand, 1, 0), (20, .ifCond .eq 6, 3, 15), (23, .bipush (-5), 2, 0), (25, .ireturn, 1, 0), (26, .aload_n 0, 1, 0), (27, .getfield 44, 3, 0), (30, .iload_n 1, 1, 0), (31, .iload_n 2, 1, 0), (32, .invokevirtual 184, 3, 0), (35, .ifCond .eq 7, 3, 23), (38, .iconst 1, 1, 0), (39, .goto 4, 3, 24), (42, .iconst 0, 1, 0), (43, .istore_n 3, 1, 0), (44, .aload_n 0, 1, 0), (45, .getfield 76, 3, 0), (48, .iload_n 1, 1, 0), (49, .iload_n 2, 1, 0), (50, .iload_n 3, 1, 0), (51, .aload_n 0, 1, 0), (52, .getfield 10, 3, 0), (55, .iload_n 2, 1, 0), (56, .invokevirtual 202, 3, 0), (59, .invokevirtual 264, 3, 0), (62, .iload_n 3, 1, 0), (63, .ireturn, 1, 0)])
theorem k_X_decide : zchk m_X_decide = true := by decide +kernel
def m_M_decide : ZM := (yX11_decide, cX11_decide, 4, some .int, [(0, .aload_n 0, 1, 0), (1, .iload_n 1, 1, 0), (2, .invokevirtual 232, 3, 0), (5, .ifCond .eq 11, 3, 8), (8, .aload_n 0, 1, 0), (9, .iload_n 2, 1, 0), (10, .invokevirtual 235, 3, 0), (13, .ifCond .ne 5, 3, 10), (16, .iconst (-1), 1, 0), (17, .ireturn, 1, 0), (18, .iload_n 1, 1, 0), (19, .aload_n 0, 1, 0), (20, .getfield 53, 3, 0), (23, .iconst 3, 1, 0), (24, .iaload, 1, 0), (25, .iand, 1, 0), (26, .ifCond .eq 6, 3, 19), (29, .bipush (-5), 2, 0), (31, .ireturn, 1, 0), (32, .aload_n 0, 1, 0), (33, .iload_n 1, 1, 0), (34, .iload_n 2, 1, 0), (35, .invokevirtual 240, 3, 0), (38, .istore_n 3, 1, 0), (39, .aload_n 0, 1, 0), (40, .getfield 53, 3, 0), (43, .iconst 0, 1, 0), (44, .iload_n 1, 1, 0), (45, .iastore, 1, 0), (46, .aload_n 0, 1, 0), (47, .getfield 53, 3, 0), (50, .iconst 1, 1, 0), (51, .iload_n 2, 1, 0), (52, .iastore, 1, 0), (53, .aload_n 0, 1, 0), (54, .getfield 53, 3, 0), (57, .iconst 2, 1, 0), (58, .iload_n 3, 1, 0), (59, .ifCond .eq 7, 3, 41), (62, .iconst 1, 1, 0), (63, .goto 4, 3, 42), (66, .iconst 0, 1, 0), (67, .iastore, 1, 0), (68, .aload_n 0, 1, 0), (69, .getfield 53, 3, 0), (72, .iconst 3, 1, 0), (73, .dup2, 1, 0), (74, .iaload, 1, 0), (75, .iload_n 3, 1, 0), (76, .ifCond .eq 7, 3, 52), (79, .iload_n 1, 1, 0), (80, .goto 4, 3, 53), (83, .iconst 0, 1, 0), (84, .ior, 1, 0), (85, .iastore, 1, 0), (86, .aload_n 0, 1, 0), (87, .getfield 53, 3, 0), (90, .iconst 4, 1, 0), (91, .dup2, 1, 0), (92, .iaload, 1, 0), (93, .aload_n 0, 1, 0), (94, .iload_n 2, 1, 0), (95, .invokevirtual 243, 3, 0), (98, .iadd, 1, 0), (99, .iastore, 1, 0), (100, .aload_n 0, 1, 0), (101, .getfield 53, 3, 0), (104, .iconst 2, 1, 0), (105, .iaload, 1, 0), (106, .ireturn, 1, 0)])
theorem k_M_decide : zchk m_M_decide = true := by decide +kernel
def m_Deeds_isAny : ZM := (yX4_isAny, cX4_isAny, 1, some .boolean, [(0, .aload_n 0, 1, 0), (1, .getfield 11, 3, 0), (4, .iconst 5, 1, 0), (5, .iaload, 1, 0), (6, .ifCond .eq 7, 3, 7), (9, .iconst 1, 1, 0), (10, .goto 4, 3, 8), (13, .iconst 0, 1, 0), (14, .ireturn, 1, 0)])
theorem k_Deeds_isAny : zchk m_Deeds_isAny = true := by decide +kernel
def m_Deeds_told : ZM := (yX4_told, cX4_told, 2, some .int, [(0, .iload_n 1, 1, 0), (1, .ifCond .lt 18, 3, 10), (4, .iload_n 1, 1, 0), (5, .bipush 6, 2, 0), (7, .if_icmp .ge 12, 3, 10), (10, .aload_n 0, 1, 0), (11, .getfield 11, 3, 0), (14, .iload_n 1, 1, 0), (15, .iaload, 1, 0), (16, .goto 4, 3, 11), (19, .iconst (-1), 1, 0), (20, .ireturn, 1, 0)])
theorem k_Deeds_told : zchk m_Deeds_told = true := by decide +kernel
def m_X_led : ZM := (yX10_led, cX10_led, 2, some .int, [(0, .iload_n 1, 1, 0), (1, .ifCond .lt 8, 3, 5), (4, .iload_n 1, 1, 0), (5, .iconst 4, 1, 0), (6, .if_icmp .le 5, 3, 7), (9, .iconst (-1), 1, 0), (10, .ireturn, 1, 0), (11, .iload_n 1, 1, 0), (12, .iconst 2, 1, 0), (13, .if_icmp .gt 18, 3, 16), (16, .aload_n 0, 1, 0), (17, .getfield 76, 3, 0), (20, .invokevirtual 268, 3, 0), (23, .ifCond .ne 8, 3, 16), (26, .bipush (-5), 2, 0), (28, .goto 11, 3, 20), (31, .aload_n 0, 1, 0), (32, .getfield 76, 3, 0), (35, .iload_n 1, 1, 0), (36, .invokevirtual 272, 3, 0), (39, .ireturn, 1, 0)])
theorem k_X_led : zchk m_X_led = true := by decide +kernel
def m_M_led : ZM := (yX11_led, cX11_led, 2, some .int, [(0, .iload_n 1, 1, 0), (1, .i2l, 1, 0), (2, .lconst 0, 1, 0), (3, .ldc2_w 142, 3, 0), (6, .invokestatic 97, 3, 0), (9, .ifCond .ne 5, 3, 8), (12, .iconst (-1), 1, 0), (13, .ireturn, 1, 0), (14, .iload_n 1, 1, 0), (15, .iconst 3, 1, 0), (16, .if_icmp .ge 17, 3, 18), (19, .aload_n 0, 1, 0), (20, .getfield 53, 3, 0), (23, .iconst 0, 1, 0), (24, .iaload, 1, 0), (25, .ifCond .ne 8, 3, 18), (28, .bipush (-5), 2, 0), (30, .goto 9, 3, 22), (33, .aload_n 0, 1, 0), (34, .getfield 53, 3, 0), (37, .iload_n 1, 1, 0), (38, .iaload, 1, 0), (39, .ireturn, 1, 0)])
theorem k_M_led : zchk m_M_led = true := by decide +kernel
def m_Deeds_keepImage : ZM := (yX4_keepImage, cX4_keepImage, 1, none, [(0, .aload_n 0, 1, 0), (1, .getfield 11, 3, 0), (4, .iconst 0, 1, 0), (5, .aload_n 0, 1, 0), (6, .getfield 15, 3, 0), (9, .iconst 0, 1, 0), (10, .bipush 6, 2, 0), (12, .invokestatic 18, 3, 0), (15, .aload_n 0, 1, 0), (16, .iconst 1, 1, 0), (17, .putfield 24, 3, 0), (20, .return_, 1, 0)])
theorem k_Deeds_keepImage : zchk m_Deeds_keepImage = true := by decide +kernel
def m_X_image : ZM := (yX10_image, cX10_image, 1, some .int, [(0, .aload_n 0, 1, 0), (1, .getfield 76, 3, 0), (4, .invokevirtual 275, 3, 0), (7, .aload_n 0, 1, 0), (8, .getfield 76, 3, 0), (11, .invokevirtual 261, 3, 0), (14, .ireturn, 1, 0)])
theorem k_X_image : zchk m_X_image = true := by decide +kernel
def m_M_image : ZM := (yX11_image, cX11_image, 2, some .int, [(0, .aload_n 0, 1, 0), (1, .iconst 1, 1, 0), (2, .putfield 274, 3, 0), (5, .iconst 0, 1, 0), (6, .istore_n 1, 1, 0), (7, .iload_n 1, 1, 0), (8, .iconst 5, 1, 0), (9, .if_icmp .ge 21, 3, 18), (12, .aload_n 0, 1, 0), (13, .getfield 56, 3, 0), (16, .iload_n 1, 1, 0), (17, .aload_n 0, 1, 0), (18, .getfield 53, 3, 0), (21, .iload_n 1, 1, 0), (22, .iaload, 1, 0), (23, .iastore, 1, 0), (24, .iinc 1 1, 3, 0), (27, .goto (-20), 3, 5), (30, .aload_n 0, 1, 0), (31, .getfield 53, 3, 0), (34, .iconst 3, 1, 0), (35, .iaload, 1, 0), (36, .ireturn, 1, 0)])
theorem k_M_image : zchk m_M_image = true := by decide +kernel
def m_Deeds_goBack : ZM := (yX4_goBack, cX4_goBack, 1, some .boolean, [(0, .aload_n 0, 1, 0), (1, .getfield 24, 3, 0), (4, .ifCond .eq 18, 3, 11), (7, .aload_n 0, 1, 0), (8, .getfield 15, 3, 0), (11, .iconst 0, 1, 0), (12, .aload_n 0, 1, 0), (13, .getfield 11, 3, 0), (16, .iconst 0, 1, 0), (17, .bipush 6, 2, 0), (19, .invokestatic 18, 3, 0), (22, .aload_n 0, 1, 0), (23, .getfield 24, 3, 0), (26, .ireturn, 1, 0)])
theorem k_Deeds_goBack : zchk m_Deeds_goBack = true := by decide +kernel
def m_X_back : ZM := (yX10_back, cX10_back, 1, some .int, [(0, .aload_n 0, 1, 0), (1, .getfield 76, 3, 0), (4, .invokevirtual 278, 3, 0), (7, .ifCond .eq 13, 3, 8), (10, .aload_n 0, 1, 0), (11, .getfield 76, 3, 0), (14, .invokevirtual 261, 3, 0), (17, .goto 5, 3, 9), (20, .bipush (-5), 2, 0), (22, .ireturn, 1, 0)])
theorem k_X_back : zchk m_X_back = true := by decide +kernel
def m_M_back : ZM := (yX11_back, cX11_back, 2, some .int, [(0, .aload_n 0, 1, 0), (1, .getfield 274, 3, 0), (4, .ifCond .ne 6, 3, 5), (7, .bipush (-5), 2, 0), (9, .ireturn, 1, 0), (10, .iconst 0, 1, 0), (11, .istore_n 1, 1, 0), (12, .iload_n 1, 1, 0), (13, .iconst 5, 1, 0), (14, .if_icmp .ge 21, 3, 20), (17, .aload_n 0, 1, 0), (18, .getfield 53, 3, 0), (21, .iload_n 1, 1, 0), (22, .aload_n 0, 1, 0), (23, .getfield 56, 3, 0), (26, .iload_n 1, 1, 0), (27, .iaload, 1, 0), (28, .iastore, 1, 0), (29, .iinc 1 1, 3, 0), (32, .goto (-20), 3, 7), (35, .aload_n 0, 1, 0), (36, .getfield 53, 3, 0), (39, .iconst 3, 1, 0), (40, .iaload, 1, 0), (41, .ireturn, 1, 0)])
theorem k_M_back : zchk m_M_back = true := by decide +kernel
def m_Changes_takeBack : ZM := (yX1_takeBack, cX1_takeBack, 1, some .boolean, [(0, .aload_n 0, 1, 0), (1, .getfield 33, 3, 0), (4, .iconst 1, 1, 0), (5, .if_icmp .lt 12, 3, 8), (8, .aload_n 0, 1, 0), (9, .getfield 33, 3, 0), (12, .bipush 40, 2, 0), (14, .if_icmp .le 5, 3, 10), (17, .iconst 0, 1, 0), (18, .ireturn, 1, 0), (19, .aload_n 0, 1, 0), (20, .dup, 1, 0), (21, .getfield 33, 3, 0), (24, .iconst 1, 1, 0), (25, .isub, 1, 0), (26, .putfield 33, 3, 0), (29, .aload_n 0, 1, 0), (30, .getfield 19, 3, 0), (33, .aload_n 0, 1, 0), (34, .getfield 9, 3, 0), (37, .aload_n 0, 1, 0), (38, .getfield 33, 3, 0), (41, .iaload, 1, 0), (42, .aload_n 0, 1, 0), (43, .getfield 13, 3, 0), (46, .aload_n 0, 1, 0), (47, .getfield 33, 3, 0), (50, .iaload, 1, 0), (51, .invokevirtual 29, 3, 0), (54, .iconst 1, 1, 0), (55, .ireturn, 1, 0)])
theorem k_Changes_takeBack : zchk m_Changes_takeBack = true := by decide +kernel
def m_Changes_undoable : ZM := (yX1_undoable, cX1_undoable, 1, some .int, [(0, .aload_n 0, 1, 0), (1, .getfield 33, 3, 0), (4, .ireturn, 1, 0)])
theorem k_Changes_undoable : zchk m_Changes_undoable = true := by decide +kernel
def m_X_undo : ZM := (yX10_undo, cX10_undo, 1, some .int, [(0, .aload_n 0, 1, 0), (1, .getfield 21, 3, 0), (4, .invokevirtual 281, 3, 0), (7, .ifCond .eq 13, 3, 8), (10, .aload_n 0, 1, 0), (11, .getfield 21, 3, 0), (14, .invokevirtual 284, 3, 0), (17, .goto 5, 3, 9), (20, .bipush (-5), 2, 0), (22, .ireturn, 1, 0)])
theorem k_X_undo : zchk m_X_undo = true := by decide +kernel
def m_M_undo : ZM := (yX11_undo, cX11_undo, 1, some .int, [(0, .aload_n 0, 1, 0), (1, .getfield 88, 3, 0), (4, .ifCond .ne 6, 3, 5), (7, .bipush (-5), 2, 0), (9, .ireturn, 1, 0), (10, .aload_n 0, 1, 0), (11, .dup, 1, 0), (12, .getfield 88, 3, 0), (15, .iconst 1, 1, 0), (16, .isub, 1, 0), (17, .putfield 88, 3, 0), (20, .aload_n 0, 1, 0), (21, .getfield 9, 3, 0), (24, .aload_n 0, 1, 0), (25, .getfield 13, 3, 0), (28, .aload_n 0, 1, 0), (29, .getfield 88, 3, 0), (32, .iaload, 1, 0), (33, .aload_n 0, 1, 0), (34, .getfield 16, 3, 0), (37, .aload_n 0, 1, 0), (38, .getfield 88, 3, 0), (41, .iaload, 1, 0), (42, .iastore, 1, 0), (43, .aload_n 0, 1, 0), (44, .getfield 88, 3, 0), (47, .ireturn, 1, 0)])
theorem k_M_undo : zchk m_M_undo = true := by decide +kernel
def m_Changes_makeAgain : ZM := (yX1_makeAgain, cX1_makeAgain, 1, some .boolean, [(0, .aload_n 0, 1, 0), (1, .getfield 33, 3, 0), (4, .aload_n 0, 1, 0), (5, .getfield 40, 3, 0), (8, .if_icmp .ge 12, 3, 9), (11, .aload_n 0, 1, 0), (12, .getfield 33, 3, 0), (15, .bipush 40, 2, 0), (17, .if_icmp .lt 5, 3, 11), (20, .iconst 0, 1, 0), (21, .ireturn, 1, 0), (22, .aload_n 0, 1, 0), (23, .getfield 19, 3, 0), (26, .aload_n 0, 1, 0), (27, .getfield 9, 3, 0), (30, .aload_n 0, 1, 0), (31, .getfield 33, 3, 0), (34, .iaload, 1, 0), (35, .aload_n 0, 1, 0), (36, .getfield 16, 3, 0), (39, .aload_n 0, 1, 0), (40, .getfield 33, 3, 0), (43, .iaload, 1, 0), (44, .invokevirtual 29, 3, 0), (47, .aload_n 0, 1, 0), (48, .dup, 1, 0), (49, .getfield 33, 3, 0), (52, .iconst 1, 1, 0), (53, .iadd, 1, 0), (54, .putfield 33, 3, 0), (57, .iconst 1, 1, 0), (58, .ireturn, 1, 0)])
theorem k_Changes_makeAgain : zchk m_Changes_makeAgain = true := by decide +kernel
def m_Changes_redoable : ZM := (yX1_redoable, cX1_redoable, 1, some .int, [(0, .aload_n 0, 1, 0), (1, .getfield 40, 3, 0), (4, .aload_n 0, 1, 0), (5, .getfield 33, 3, 0), (8, .isub, 1, 0), (9, .ireturn, 1, 0)])
theorem k_Changes_redoable : zchk m_Changes_redoable = true := by decide +kernel
def m_X_redo : ZM := (yX10_redo, cX10_redo, 1, some .int, [(0, .aload_n 0, 1, 0), (1, .getfield 21, 3, 0), (4, .invokevirtual 287, 3, 0), (7, .ifCond .eq 13, 3, 8), (10, .aload_n 0, 1, 0), (11, .getfield 21, 3, 0), (14, .invokevirtual 290, 3, 0), (17, .goto 5, 3, 9), (20, .bipush (-5), 2, 0), (22, .ireturn, 1, 0)])
theorem k_X_redo : zchk m_X_redo = true := by decide +kernel
def m_M_redo : ZM := (yX11_redo, cX11_redo, 1, some .int, [(0, .aload_n 0, 1, 0), (1, .getfield 88, 3, 0), (4, .aload_n 0, 1, 0), (5, .getfield 91, 3, 0), (8, .if_icmp .ne 6, 3, 7), (11, .bipush (-5), 2, 0), (13, .ireturn, 1, 0), (14, .aload_n 0, 1, 0), (15, .getfield 9, 3, 0), (18, .aload_n 0, 1, 0), (19, .getfield 13, 3, 0), (22, .aload_n 0, 1, 0), (23, .getfield 88, 3, 0), (26, .iaload, 1, 0), (27, .aload_n 0, 1, 0), (28, .getfield 19, 3, 0), (31, .aload_n 0, 1, 0), (32, .getfield 88, 3, 0), (35, .iaload, 1, 0), (36, .iastore, 1, 0), (37, .aload_n 0, 1, 0), (38, .dup, 1, 0), (39, .getfield 88, 3, 0), (42, .iconst 1, 1, 0), (43, .iadd, 1, 0), (44, .putfield 88, 3, 0), (47, .aload_n 0, 1, 0), (48, .getfield 91, 3, 0), (51, .aload_n 0, 1, 0), (52, .getfield 88, 3, 0), (55, .isub, 1, 0), (56, .ireturn, 1, 0)])
theorem k_M_redo : zchk m_M_redo = true := by decide +kernel
def m_Voters_isKind : ZM := (yX8_isKind, cX8_isKind, 1, some .boolean, [(0, .iload_n 0, 1, 0), (1, .ifCond .lt 13, 3, 7), (4, .iload_n 0, 1, 0), (5, .bipush 8, 2, 0), (7, .if_icmp .ge 7, 3, 7), (10, .iconst 1, 1, 0), (11, .goto 4, 3, 8), (14, .iconst 0, 1, 0), (15, .ireturn, 1, 0)])
theorem k_Voters_isKind : zchk m_Voters_isKind = true := by decide +kernel
def m_Voters_add : ZM := (yX8_add, cX8_add, 2, some .int, [(0, .aload_n 0, 1, 0), (1, .getfield 26, 3, 0), (4, .bipush 50, 2, 0), (6, .if_icmp .lt 6, 3, 6), (9, .bipush (-3), 2, 0), (11, .ireturn, 1, 0), (12, .aload_n 0, 1, 0), (13, .getfield 11, 3, 0), (16, .aload_n 0, 1, 0), (17, .getfield 26, 3, 0), (20, .iload_n 1, 1, 0), (21, .iastore, 1, 0), (22, .aload_n 0, 1, 0), (23, .dup, 1, 0), (24, .getfield 26, 3, 0), (27, .iconst 1, 1, 0), (28, .iadd, 1, 0), (29, .putfield 26, 3, 0), (32, .aload_n 0, 1, 0), (33, .getfield 26, 3, 0), (36, .iconst 1, 1, 0), (37, .isub, 1, 0), (38, .ireturn, 1, 0)])
theorem k_Voters_add : zchk m_Voters_add = true := by decide +kernel
def m_X_body : ZM := (yX10_body, cX10_body, 2, some .int, [(0, .iload_n 1, 1, 0), (1, .invokestatic 293, 3, 0), (4, .ifCond .eq 14, 3, 8), (7, .aload_n 0, 1, 0), (8, .getfield 83, 3, 0), (11, .iload_n 1, 1, 0), (12, .invokevirtual 296, 3, 0), (15, .goto 4, 3, 9), (18, .iconst (-1), 1, 0), (19, .ireturn, 1, 0)])
theorem k_X_body : zchk m_X_body = true := by decide +kernel
def m_M_body : ZM := (yX11_body, cX11_body, 2, some .int, [(0, .iload_n 1, 1, 0), (1, .i2l, 1, 0), (2, .lconst 0, 1, 0), (3, .ldc2_w 281, 3, 0), (6, .invokestatic 97, 3, 0), (9, .ifCond .ne 5, 3, 8), (12, .iconst (-1), 1, 0), (13, .ireturn, 1, 0), (14, .aload_n 0, 1, 0), (15, .getfield 278, 3, 0), (18, .bipush 50, 2, 0), (20, .if_icmp .ne 6, 3, 14), (23, .bipush (-3), 2, 0), (25, .ireturn, 1, 0), (26, .aload_n 0, 1, 0), (27, .getfield 59, 3, 0), (30, .aload_n 0, 1, 0), (31, .getfield 278, 3, 0), (34, .iload_n 1, 1, 0), (35, .iastore, 1, 0), (36, .aload_n 0, 1, 0), (37, .dup, 1, 0), (38, .getfield 278, 3, 0), (41, .iconst 1, 1, 0), (42, .iadd, 1, 0), (43, .putfield 278, 3, 0), (46, .aload_n 0, 1, 0), (47, .getfield 278, 3, 0), (50, .iconst 1, 1, 0), (51, .isub, 1, 0), (52, .ireturn, 1, 0)])
theorem k_M_body : zchk m_M_body = true := by decide +kernel
def m_Voters_isVoter : ZM := (yX8_isVoter, cX8_isVoter, 2, some .boolean, [(0, .iload_n 1, 1, 0), (1, .ifCond .lt 15, 3, 8), (4, .iload_n 1, 1, 0), (5, .aload_n 0, 1, 0), (6, .getfield 26, 3, 0), (9, .if_icmp .ge 7, 3, 8), (12, .iconst 1, 1, 0), (13, .goto 4, 3, 9), (16, .iconst 0, 1, 0), (17, .ireturn, 1, 0)])
theorem k_Voters_isVoter : zchk m_Voters_isVoter = true := by decide +kernel
def m_Voters_kindOf : ZM := (yX8_kindOf, cX8_kindOf, 2, some .int, [(0, .aload_n 0, 1, 0), (1, .iload_n 1, 1, 0), (2, .invokevirtual 30, 3, 0), (5, .ifCond .eq 12, 3, 9), (8, .aload_n 0, 1, 0), (9, .getfield 11, 3, 0), (12, .iload_n 1, 1, 0), (13, .iaload, 1, 0), (14, .goto 4, 3, 10), (17, .iconst (-1), 1, 0), (18, .ireturn, 1, 0)])
theorem k_Voters_kindOf : zchk m_Voters_kindOf = true := by decide +kernel
def m_Voters_bodyAt : ZM := (yX8_bodyAt, cX8_bodyAt, 3, some .int, [(0, .iconst 4, 1, 0), (1, .iload_n 0, 1, 0), (2, .imul, 1, 0), (3, .iload_n 1, 1, 0), (4, .iadd, 1, 0), (5, .istore_n 2, 1, 0), (6, .iload_n 0, 1, 0), (7, .invokestatic 18, 3, 0), (10, .ifCond .eq 23, 3, 19), (13, .iload_n 2, 1, 0), (14, .ifCond .lt 19, 3, 19), (17, .iload_n 2, 1, 0), (18, .getstatic 58, 3, 0), (21, .arraylength, 1, 0), (22, .if_icmp .ge 11, 3, 19), (25, .getstatic 58, 3, 0), (28, .iload_n 2, 1, 0), (29, .iaload, 1, 0), (30, .goto 4, 3, 20), (33, .iconst (-1), 1, 0), (34, .ireturn, 1, 0)])
theorem k_Voters_bodyAt : zchk m_Voters_bodyAt = true := by decide +kernel
def m_Voters_aboveOf : ZM := (yX8_aboveOf, cX8_aboveOf, 1, some .int, [(0, .iload_n 0, 1, 0), (1, .ifCond .lt 19, 3, 10), (4, .iload_n 0, 1, 0), (5, .getstatic 61, 3, 0), (8, .arraylength, 1, 0), (9, .if_icmp .ge 11, 3, 10), (12, .getstatic 61, 3, 0), (15, .iload_n 0, 1, 0), (16, .iaload, 1, 0), (17, .goto 4, 3, 11), (20, .iconst (-1), 1, 0), (21, .ireturn, 1, 0)])
theorem k_Voters_aboveOf : zchk m_Voters_aboveOf = true := by decide +kernel
def m_Voters_begin : ZM := (yX8_begin, cX8_begin, 2, none, [(0, .aload_n 0, 1, 0), (1, .getfield 33, 3, 0), (4, .bipush 24, 2, 0), (6, .if_icmp .ge 13, 3, 10), (9, .aload_n 0, 1, 0), (10, .getfield 15, 3, 0), (13, .aload_n 0, 1, 0), (14, .getfield 33, 3, 0), (17, .iload_n 1, 1, 0), (18, .iastore, 1, 0), (19, .aload_n 0, 1, 0), (20, .dup, 1, 0), (21, .getfield 33, 3, 0), (24, .iconst 1, 1, 0), (25, .iadd, 1, 0), (26, .putfield 33, 3, 0), (29, .return_, 1, 0)])
theorem k_Voters_begin : zchk m_Voters_begin = true := by decide +kernel
def m_Voters_own : ZM := (yX8_own, cX8_own, 5, some .int, [(0, .aload_n 0, 1, 0), (1, .aload_n 0, 1, 0), (2, .iload_n 1, 1, 0), (3, .invokevirtual 40, 3, 0), (6, .iload_n 1, 1, 0), (7, .iload_n 2, 1, 0), (8, .iload_n 3, 1, 0), (9, .iload 4, 2, 0), (11, .invokevirtual 43, 3, 0), (14, .ireturn, 1, 0)])
theorem k_Voters_own : zchk m_Voters_own = true := by decide +kernel
def m_Voters_run : ZM := (yX8_run, cX8_run, 6, some .int, [(0, .iload_n 1, 1, 0), (1, .lookupswitch 300 #[(1, 115), (2, 120), (10, 141), (11, 154), (20, 159), (30, 173), (40, 186), (41, 200), (50, 214), (60, 236), (70, 250), (80, 264), (81, 286)], 115, 0), (116, .iload 4, 2, 0), (118, .iload_n 3, 1, 0), (119, .iadd, 1, 0), (120, .ireturn, 1, 0), (121, .aload_n 0, 1, 0), (122, .iload_n 3, 1, 0), (123, .iconst 1, 1, 0), (124, .iload 4, 2, 0), (126, .iload 5, 2, 0), (128, .invokevirtual 36, 3, 0), (131, .aload_n 0, 1, 0), (132, .iload_n 3, 1, 0), (133, .iconst 2, 1, 0), (134, .iconst 1, 1, 0), (135, .iload 5, 2, 0), (137, .invokevirtual 36, 3, 0), (140, .isub, 1, 0), (141, .ireturn, 1, 0), (142, .aload_n 0, 1, 0), (143, .iload_n 3, 1, 0), (144, .iconst 0, 1, 0), (145, .iload 4, 2, 0), (147, .iload 5, 2, 0), (149, .invokevirtual 36, 3, 0), (152, .iconst 2, 1, 0), (153, .imul, 1, 0), (154, .ireturn, 1, 0), (155, .iload 4, 2, 0), (157, .iload_n 3, 1, 0), (158, .ixor, 1, 0), (159, .ireturn, 1, 0), (160, .aload_n 0, 1, 0), (161, .iload_n 2, 1, 0), (162, .iload_n 3, 1, 0), (163, .iconst 0, 1, 0), (164, .iload 4, 2, 0), (166, .iload 5, 2, 0), (168, .invokevirtual 43, 3, 0), (171, .iconst 3, 1, 0), (172, .iadd, 1, 0), (173, .ireturn, 1, 0), (174, .aload_n 0, 1, 0), (175, .iload_n 2, 1, 0), (176, .iload_n 3, 1, 0), (177, .iconst 1, 1, 0), (178, .iload 4, 2, 0), (180, .iload 5, 2, 0), (182, .invokevirtual 43, 3, 0), (185, .ineg, 1, 0), (186, .ireturn, 1, 0), (187, .aload_n 0, 1, 0), (188, .iload_n 2, 1, 0), (189, .iload_n 3, 1, 0), (190, .iconst 2, 1, 0), (191, .iload 4, 2, 0), (193, .iload 5, 2, 0), (195, .invokevirtual 43, 3, 0), (198, .iconst 3, 1, 0), (199, .imul, 1, 0), (200, .ireturn, 1, 0), (201, .aload_n 0, 1, 0), (202, .iload_n 2, 1, 0), (203, .iload_n 3, 1, 0), (204, .iconst 1, 1, 0), (205, .iload 4, 2, 0), (207, .iconst 1, 1, 0), (208, .iadd, 1, 0), (209, .iload 5, 2, 0), (211, .invokevirtual 43, 3, 0), (214, .ireturn, 1, 0), (215, .aload_n 0, 1, 0), (216, .iload_n 2, 1, 0), (217, .iload_n 3, 1, 0), (218, .iconst 2, 1, 0), (219, .iload 4, 2, 0), (221, .iload 5, 2, 0), (223, .invokevirtual 43, 3, 0), (226, .aload_n 0, 1, 0), (227, .iload_n 3, 1, 0), (228, .iconst 0, 1, 0), (229, .iconst 2, 1, 0), (230, .iload 5, 2, 0), (232, .invokevirtual 36, 3, 0), (235, .isub, 1, 0), (236, .ireturn, 1, 0), (237, .aload_n 0, 1, 0), (238, .iload_n 2, 1, 0), (239, .iload_n 3, 1, 0), (240, .iconst 3, 1, 0), (241, .iload 4, 2, 0), (243, .iload 5, 2, 0), (245, .invokevirtual 43, 3, 0), (248, .iconst 5, 1, 0), (249, .ixor, 1, 0), (250, .ireturn, 1, 0), (251, .aload_n 0, 1, 0), (252, .iload_n 2, 1, 0), (253, .iload_n 3, 1, 0), (254, .iconst 0, 1, 0), (255, .iload 4, 2, 0), (257, .iload 5, 2, 0), (259, .invokevirtual 43, 3, 0), (262, .iconst 2, 1, 0), (263, .imul, 1, 0), (264, .ireturn, 1, 0), (265, .aload_n 0, 1, 0), (266, .iload_n 2, 1, 0), (267, .iload_n 3, 1, 0), (268, .iconst 1, 1, 0), (269, .iload 4, 2, 0), (271, .iload 5, 2, 0), (273, .invokevirtual 43, 3, 0), (276, .aload_n 0, 1, 0), (277, .iload_n 3, 1, 0), (278, .iconst 2, 1, 0), (279, .iconst 2, 1, 0), (280, .iload 5, 2, 0), (282, .invokevirtual 36, 3, 0), (285, .iadd, 1, 0), (286, .ireturn, 1, 0), (287, .aload_n 0, 1, 0), (288, .iload_n 2, 1, 0), (289, .iload_n 3, 1, 0), (290, .iconst 3, 1, 0), (291, .iload 4, 2, 0), (293, .iload 5, 2, 0), (295, .invokevirtual 43, 3, 0), (298, .iconst 1, 1, 0), (299, .isub, 1, 0), (300, .ireturn, 1, 0), (301, .iconst 0, 1, 0), (302, .ireturn, 1, 0)])
theorem k_Voters_run : zchk m_Voters_run = true := by decide +kernel
def m_Voters_runFrom : ZM := (yX8_runFrom, cX8_runFrom, 8, some .int, [(0, .iload_n 1, 1, 0), (1, .istore 6, 2, 0), (3, .iconst 0, 1, 0), (4, .istore 7, 2, 0), (6, .iload 7, 2, 0), (8, .bipush 8, 2, 0), (10, .if_icmp .ge 25, 3, 16), (13, .iload 6, 2, 0), (15, .iload_n 3, 1, 0), (16, .invokestatic 47, 3, 0), (19, .ifCond .ne 16, 3, 16), (22, .iload 6, 2, 0), (24, .invokestatic 22, 3, 0), (27, .istore 6, 2, 0), (29, .iinc 7 1, 3, 0), (32, .goto (-26), 3, 4), (35, .iload 6, 2, 0), (37, .iload_n 3, 1, 0), (38, .invokestatic 47, 3, 0), (41, .istore 7, 2, 0), (43, .iload 7, 2, 0), (45, .ifCond .le 10, 3, 25), (48, .iload 5, 2, 0), (50, .bipush 30, 2, 0), (52, .if_icmp .le 5, 3, 27), (55, .iconst 0, 1, 0), (56, .ireturn, 1, 0), (57, .aload_n 0, 1, 0), (58, .iload 7, 2, 0), (60, .invokevirtual 51, 3, 0), (63, .aload_n 0, 1, 0), (64, .iload 7, 2, 0), (66, .iload 6, 2, 0), (68, .invokestatic 22, 3, 0), (71, .iload_n 2, 1, 0), (72, .iload 4, 2, 0), (74, .iload 5, 2, 0), (76, .iconst 1, 1, 0), (77, .iadd, 1, 0), (78, .invokevirtual 55, 3, 0), (81, .ireturn, 1, 0)])
theorem k_Voters_runFrom : zchk m_Voters_runFrom = true := by decide +kernel
def m_Voters_perform : ZM := (yX8_perform, cX8_perform, 4, some .int, [(0, .aload_n 0, 1, 0), (1, .iconst 0, 1, 0), (2, .putfield 33, 3, 0), (5, .aload_n 0, 1, 0), (6, .iload_n 1, 1, 0), (7, .invokevirtual 30, 3, 0), (10, .ifCond .eq 12, 3, 12), (13, .iload_n 2, 1, 0), (14, .ifCond .lt 8, 3, 12), (17, .iload_n 2, 1, 0), (18, .iconst 4, 1, 0), (19, .if_icmp .lt 5, 3, 14), (22, .iconst 0, 1, 0), (23, .ireturn, 1, 0), (24, .aload_n 0, 1, 0), (25, .iload_n 1, 1, 0), (26, .iload_n 2, 1, 0), (27, .iload_n 3, 1, 0), (28, .iconst 0, 1, 0), (29, .invokevirtual 36, 3, 0), (32, .ireturn, 1, 0)])
theorem k_Voters_perform : zchk m_Voters_perform = true := by decide +kernel
def m_X_act : ZM := (yX10_act, cX10_act, 4, some .int, [(0, .aload_n 0, 1, 0), (1, .getfield 83, 3, 0), (4, .iload_n 1, 1, 0), (5, .iload_n 2, 1, 0), (6, .iload_n 3, 1, 0), (7, .invokevirtual 299, 3, 0), (10, .ireturn, 1, 0)])
theorem k_X_act : zchk m_X_act = true := by decide +kernel
def m_M_isBody : ZM := (yX11_isBody, cX11_isBody, 2, some .boolean, [(0, .iload_n 1, 1, 0), (1, .i2l, 1, 0), (2, .lconst 0, 1, 0), (3, .aload_n 0, 1, 0), (4, .getfield 278, 3, 0), (7, .iconst 1, 1, 0), (8, .isub, 1, 0), (9, .i2l, 1, 0), (10, .invokestatic 97, 3, 0), (13, .ireturn, 1, 0)])
theorem k_M_isBody : zchk m_M_isBody = true := by decide +kernel
def m_M_begins : ZM := (yX11_begins, cX11_begins, 2, none, [(0, .aload_n 0, 1, 0), (1, .getfield 283, 3, 0), (4, .bipush 24, 2, 0), (6, .if_icmp .ge 13, 3, 10), (9, .aload_n 0, 1, 0), (10, .getfield 62, 3, 0), (13, .aload_n 0, 1, 0), (14, .getfield 283, 3, 0), (17, .iload_n 1, 1, 0), (18, .iastore, 1, 0), (19, .aload_n 0, 1, 0), (20, .dup, 1, 0), (21, .getfield 283, 3, 0), (24, .iconst 1, 1, 0), (25, .iadd, 1, 0), (26, .putfield 283, 3, 0), (29, .return_, 1, 0)])
theorem k_M_begins : zchk m_M_begins = true := by decide +kernel
def m_M_votesAs : ZM := (yX11_votesAs, cX11_votesAs, 3, some .int, [(0, .iload_n 1, 1, 0), (1, .iconst 1, 1, 0), (2, .if_icmp .eq 14, 3, 9), (5, .iload_n 1, 1, 0), (6, .iconst 4, 1, 0), (7, .if_icmp .eq 9, 3, 9), (10, .iload_n 1, 1, 0), (11, .bipush 7, 2, 0), (13, .if_icmp .ne 18, 3, 19), (16, .aload_n 0, 1, 0), (17, .bipush 20, 2, 0), (19, .invokevirtual 286, 3, 0), (22, .aload_n 0, 1, 0), (23, .iconst 0, 1, 0), (24, .iload_n 2, 1, 0), (25, .invokevirtual 290, 3, 0), (28, .iconst 3, 1, 0), (29, .iadd, 1, 0), (30, .ireturn, 1, 0), (31, .iload_n 1, 1, 0), (32, .bipush 6, 2, 0), (34, .if_icmp .ne 18, 3, 32), (37, .aload_n 0, 1, 0), (38, .bipush 70, 2, 0), (40, .invokevirtual 286, 3, 0), (43, .aload_n 0, 1, 0), (44, .iconst 0, 1, 0), (45, .iload_n 2, 1, 0), (46, .invokevirtual 290, 3, 0), (49, .iconst 2, 1, 0), (50, .imul, 1, 0), (51, .ireturn, 1, 0), (52, .aload_n 0, 1, 0), (53, .iconst 1, 1, 0), (54, .invokevirtual 286, 3, 0), (57, .iload_n 2, 1, 0), (58, .aload_n 0, 1, 0), (59, .getfield 293, 3, 0), (62, .iadd, 1, 0), (63, .ireturn, 1, 0)])
theorem k_M_votesAs : zchk m_M_votesAs = true := by decide +kernel
def m_M_givesAs : ZM := (yX11_givesAs, cX11_givesAs, 4, some .int, [(0, .iload_n 1, 1, 0), (1, .iconst 3, 1, 0), (2, .if_icmp .eq 8, 3, 6), (5, .iload_n 1, 1, 0), (6, .iconst 5, 1, 0), (7, .if_icmp .ne 18, 3, 16), (10, .aload_n 0, 1, 0), (11, .bipush 40, 2, 0), (13, .invokevirtual 286, 3, 0), (16, .aload_n 0, 1, 0), (17, .iconst 2, 1, 0), (18, .iload_n 2, 1, 0), (19, .invokevirtual 302, 3, 0), (22, .iconst 3, 1, 0), (23, .imul, 1, 0), (24, .ireturn, 1, 0), (25, .iload_n 1, 1, 0), (26, .iconst 4, 1, 0), (27, .if_icmp .eq 9, 3, 22), (30, .iload_n 1, 1, 0), (31, .bipush 7, 2, 0), (33, .if_icmp .ne 28, 3, 38), (36, .aload_n 0, 1, 0), (37, .bipush 50, 2, 0), (39, .invokevirtual 286, 3, 0), (42, .aload_n 0, 1, 0), (43, .iconst 1, 1, 0), (44, .iload_n 2, 1, 0), (45, .invokevirtual 302, 3, 0), (48, .istore_n 3, 1, 0), (49, .iload_n 3, 1, 0), (50, .aload_n 0, 1, 0), (51, .aload_n 0, 1, 0), (52, .getfield 299, 3, 0), (55, .iconst 2, 1, 0), (56, .invokevirtual 290, 3, 0), (59, .isub, 1, 0), (60, .ireturn, 1, 0), (61, .aload_n 0, 1, 0), (62, .bipush 11, 2, 0), (64, .invokevirtual 286, 3, 0), (67, .iload_n 2, 1, 0), (68, .aload_n 0, 1, 0), (69, .getfield 293, 3, 0), (72, .ixor, 1, 0), (73, .ireturn, 1, 0)])
theorem k_M_givesAs : zchk m_M_givesAs = true := by decide +kernel
def m_M_ownsAs : ZM := (yX11_ownsAs, cX11_ownsAs, 4, some .int, [(0, .iload_n 1, 1, 0), (1, .iconst 3, 1, 0), (2, .if_icmp .eq 8, 3, 6), (5, .iload_n 1, 1, 0), (6, .iconst 5, 1, 0), (7, .if_icmp .ne 18, 3, 16), (10, .aload_n 0, 1, 0), (11, .bipush 41, 2, 0), (13, .invokevirtual 286, 3, 0), (16, .aload_n 0, 1, 0), (17, .iconst 2, 1, 0), (18, .iload_n 2, 1, 0), (19, .iconst 1, 1, 0), (20, .iadd, 1, 0), (21, .invokevirtual 296, 3, 0), (24, .ireturn, 1, 0), (25, .iload_n 1, 1, 0), (26, .iconst 2, 1, 0), (27, .if_icmp .ne 17, 3, 28), (30, .aload_n 0, 1, 0), (31, .bipush 30, 2, 0), (33, .invokevirtual 286, 3, 0), (36, .aload_n 0, 1, 0), (37, .iconst 0, 1, 0), (38, .iload_n 2, 1, 0), (39, .invokevirtual 296, 3, 0), (42, .ineg, 1, 0), (43, .ireturn, 1, 0), (44, .iload_n 1, 1, 0), (45, .bipush 7, 2, 0), (47, .if_icmp .ne 28, 3, 47), (50, .aload_n 0, 1, 0), (51, .bipush 80, 2, 0), (53, .invokevirtual 286, 3, 0), (56, .aload_n 0, 1, 0), (57, .iconst 4, 1, 0), (58, .iload_n 2, 1, 0), (59, .invokevirtual 296, 3, 0), (62, .istore_n 3, 1, 0), (63, .iload_n 3, 1, 0), (64, .aload_n 0, 1, 0), (65, .aload_n 0, 1, 0), (66, .getfield 299, 3, 0), (69, .iconst 2, 1, 0), (70, .invokevirtual 302, 3, 0), (73, .iadd, 1, 0), (74, .ireturn, 1, 0), (75, .aload_n 0, 1, 0), (76, .bipush 10, 2, 0), (78, .invokevirtual 286, 3, 0), (81, .aload_n 0, 1, 0), (82, .aload_n 0, 1, 0), (83, .getfield 299, 3, 0), (86, .iload_n 2, 1, 0), (87, .invokevirtual 290, 3, 0), (90, .iconst 2, 1, 0), (91, .imul, 1, 0), (92, .ireturn, 1, 0)])
theorem k_M_ownsAs : zchk m_M_ownsAs = true := by decide +kernel
def m_M_tellsAs : ZM := (yX11_tellsAs, cX11_tellsAs, 4, some .int, [(0, .iload_n 1, 1, 0), (1, .iconst 5, 1, 0), (2, .if_icmp .ne 18, 3, 13), (5, .aload_n 0, 1, 0), (6, .bipush 60, 2, 0), (8, .invokevirtual 286, 3, 0), (11, .aload_n 0, 1, 0), (12, .iconst 3, 1, 0), (13, .iload_n 2, 1, 0), (14, .invokevirtual 305, 3, 0), (17, .iconst 5, 1, 0), (18, .ixor, 1, 0), (19, .ireturn, 1, 0), (20, .iload_n 1, 1, 0), (21, .bipush 7, 2, 0), (23, .if_icmp .ne 18, 3, 26), (26, .aload_n 0, 1, 0), (27, .bipush 81, 2, 0), (29, .invokevirtual 286, 3, 0), (32, .aload_n 0, 1, 0), (33, .iconst 4, 1, 0), (34, .iload_n 2, 1, 0), (35, .invokevirtual 305, 3, 0), (38, .iconst 1, 1, 0), (39, .isub, 1, 0), (40, .ireturn, 1, 0), (41, .aload_n 0, 1, 0), (42, .iconst 2, 1, 0), (43, .invokevirtual 286, 3, 0), (46, .aload_n 0, 1, 0), (47, .aload_n 0, 1, 0), (48, .getfield 299, 3, 0), (51, .iload_n 2, 1, 0), (52, .invokevirtual 296, 3, 0), (55, .istore_n 3, 1, 0), (56, .iload_n 3, 1, 0), (57, .aload_n 0, 1, 0), (58, .aload_n 0, 1, 0), (59, .getfield 299, 3, 0), (62, .iconst 1, 1, 0), (63, .invokevirtual 302, 3, 0), (66, .isub, 1, 0), (67, .ireturn, 1, 0)])
theorem k_M_tellsAs : zchk m_M_tellsAs = true := by decide +kernel
def m_M_act : ZM := (yX11_act, cX11_act, 4, some .int, [(0, .aload_n 0, 1, 0), (1, .iconst 0, 1, 0), (2, .putfield 283, 3, 0), (5, .aload_n 0, 1, 0), (6, .iload_n 1, 1, 0), (7, .invokevirtual 308, 3, 0), (10, .ifCond .ne 5, 3, 9), (13, .iconst 0, 1, 0), (14, .ireturn, 1, 0), (15, .aload_n 0, 1, 0), (16, .aload_n 0, 1, 0), (17, .getfield 59, 3, 0), (20, .iload_n 1, 1, 0), (21, .iaload, 1, 0), (22, .putfield 299, 3, 0), (25, .aload_n 0, 1, 0), (26, .iload_n 1, 1, 0), (27, .putfield 293, 3, 0), (30, .iload_n 2, 1, 0), (31, .tableswitch 69 0 3 #[29, 39, 49, 59], 29, 0), (60, .aload_n 0, 1, 0), (61, .aload_n 0, 1, 0), (62, .getfield 299, 3, 0), (65, .iload_n 3, 1, 0), (66, .invokevirtual 290, 3, 0), (69, .ireturn, 1, 0), (70, .aload_n 0, 1, 0), (71, .aload_n 0, 1, 0), (72, .getfield 299, 3, 0), (75, .iload_n 3, 1, 0), (76, .invokevirtual 296, 3, 0), (79, .ireturn, 1, 0), (80, .aload_n 0, 1, 0), (81, .aload_n 0, 1, 0), (82, .getfield 299, 3, 0), (85, .iload_n 3, 1, 0), (86, .invokevirtual 302, 3, 0), (89, .ireturn, 1, 0), (90, .aload_n 0, 1, 0), (91, .aload_n 0, 1, 0), (92, .getfield 299, 3, 0), (95, .iload_n 3, 1, 0), (96, .invokevirtual 305, 3, 0), (99, .ireturn, 1, 0), (100, .iconst 0, 1, 0), (101, .ireturn, 1, 0)])
theorem k_M_act : zchk m_M_act = true := by decide +kernel
def m_Voters_ranAt : ZM := (yX8_ranAt, cX8_ranAt, 2, some .int, [(0, .iload_n 1, 1, 0), (1, .ifCond .lt 26, 3, 14), (4, .iload_n 1, 1, 0), (5, .aload_n 0, 1, 0), (6, .getfield 33, 3, 0), (9, .if_icmp .ge 18, 3, 14), (12, .iload_n 1, 1, 0), (13, .bipush 24, 2, 0), (15, .if_icmp .ge 12, 3, 14), (18, .aload_n 0, 1, 0), (19, .getfield 15, 3, 0), (22, .iload_n 1, 1, 0), (23, .iaload, 1, 0), (24, .goto 4, 3, 15), (27, .iconst (-1), 1, 0), (28, .ireturn, 1, 0)])
theorem k_Voters_ranAt : zchk m_Voters_ranAt = true := by decide +kernel
def m_X_trace : ZM := (yX10_trace, cX10_trace, 2, some .int, [(0, .aload_n 0, 1, 0), (1, .getfield 83, 3, 0), (4, .iload_n 1, 1, 0), (5, .invokevirtual 302, 3, 0), (8, .ireturn, 1, 0)])
theorem k_X_trace : zchk m_X_trace = true := by decide +kernel
def m_M_trace : ZM := (yX11_trace, cX11_trace, 2, some .int, [(0, .iload_n 1, 1, 0), (1, .ifCond .lt 26, 3, 14), (4, .iload_n 1, 1, 0), (5, .aload_n 0, 1, 0), (6, .getfield 283, 3, 0), (9, .if_icmp .ge 18, 3, 14), (12, .iload_n 1, 1, 0), (13, .bipush 24, 2, 0), (15, .if_icmp .ge 12, 3, 14), (18, .aload_n 0, 1, 0), (19, .getfield 62, 3, 0), (22, .iload_n 1, 1, 0), (23, .iaload, 1, 0), (24, .goto 4, 3, 15), (27, .iconst (-1), 1, 0), (28, .ireturn, 1, 0)])
theorem k_M_trace : zchk m_M_trace = true := by decide +kernel
def m_Shelves_holdVoter : ZM := (yX7_holdVoter, cX7_holdVoter, 3, none, [(0, .aload_n 0, 1, 0), (1, .iload_n 1, 1, 0), (2, .invokevirtual 25, 3, 0), (5, .ifCond .eq 32, 3, 23), (8, .aload_n 0, 1, 0), (9, .getfield 11, 3, 0), (12, .iload_n 1, 1, 0), (13, .iload_n 2, 1, 0), (14, .ifCond .ge 7, 3, 11), (17, .iconst (-1), 1, 0), (18, .goto 4, 3, 12), (21, .iconst 5, 1, 0), (22, .iastore, 1, 0), (23, .aload_n 0, 1, 0), (24, .getfield 18, 3, 0), (27, .iload_n 1, 1, 0), (28, .iload_n 2, 1, 0), (29, .iastore, 1, 0), (30, .aload_n 0, 1, 0), (31, .getfield 15, 3, 0), (34, .iload_n 1, 1, 0), (35, .iconst 0, 1, 0), (36, .iastore, 1, 0), (37, .return_, 1, 0)])
theorem k_Shelves_holdVoter : zchk m_Shelves_holdVoter = true := by decide +kernel
def m_X_keep : ZM := (yX10_keep, cX10_keep, 3, some .int, [(0, .aload_n 0, 1, 0), (1, .getfield 60, 3, 0), (4, .iload_n 1, 1, 0), (5, .invokevirtual 95, 3, 0), (8, .ifCond .eq 19, 3, 13), (11, .iload_n 2, 1, 0), (12, .iconst (-1), 1, 0), (13, .if_icmp .eq 16, 3, 15), (16, .aload_n 0, 1, 0), (17, .getfield 83, 3, 0), (20, .iload_n 2, 1, 0), (21, .invokevirtual 305, 3, 0), (24, .ifCond .ne 5, 3, 15), (27, .iconst (-1), 1, 0), (28, .ireturn, 1, 0), (29, .aload_n 0, 1, 0), (30, .getfield 60, 3, 0), (33, .iload_n 1, 1, 0), (34, .iload_n 2, 1, 0), (35, .invokevirtual 308, 3, 0), (38, .iconst 1, 1, 0), (39, .ireturn, 1, 0)])
theorem k_X_keep : zchk m_X_keep = true := by decide +kernel
def m_M_keep : ZM := (yX11_keep, cX11_keep, 3, some .int, [(0, .iload_n 1, 1, 0), (1, .invokestatic 113, 3, 0), (4, .ifCond .eq 16, 3, 10), (7, .iload_n 2, 1, 0), (8, .iconst (-1), 1, 0), (9, .if_icmp .eq 13, 3, 12), (12, .aload_n 0, 1, 0), (13, .iload_n 2, 1, 0), (14, .invokevirtual 308, 3, 0), (17, .ifCond .ne 5, 3, 12), (20, .iconst (-1), 1, 0), (21, .ireturn, 1, 0), (22, .aload_n 0, 1, 0), (23, .getfield 65, 3, 0), (26, .iload_n 1, 1, 0), (27, .iload_n 2, 1, 0), (28, .iastore, 1, 0), (29, .aload_n 0, 1, 0), (30, .getfield 68, 3, 0), (33, .iload_n 1, 1, 0), (34, .iconst 0, 1, 0), (35, .iastore, 1, 0), (36, .iconst 1, 1, 0), (37, .ireturn, 1, 0)])
theorem k_M_keep : zchk m_M_keep = true := by decide +kernel
def m_Shelves_isSort : ZM := (yX7_isSort, cX7_isSort, 1, some .boolean, [(0, .iload_n 0, 1, 0), (1, .ifCond .lt 12, 3, 7), (4, .iload_n 0, 1, 0), (5, .iconst 4, 1, 0), (6, .if_icmp .gt 7, 3, 7), (9, .iconst 1, 1, 0), (10, .goto 4, 3, 8), (13, .iconst 0, 1, 0), (14, .ireturn, 1, 0)])
theorem k_Shelves_isSort : zchk m_Shelves_isSort = true := by decide +kernel
def m_Shelves_holdRow : ZM := (yX7_holdRow, cX7_holdRow, 5, none, [(0, .aload_n 0, 1, 0), (1, .iload_n 1, 1, 0), (2, .invokevirtual 25, 3, 0), (5, .ifCond .eq 55, 3, 35), (8, .iload_n 3, 1, 0), (9, .ifCond .lt 51, 3, 35), (12, .iload_n 3, 1, 0), (13, .bipush 60, 2, 0), (15, .if_icmp .gt 45, 3, 35), (18, .aload_n 0, 1, 0), (19, .getfield 11, 3, 0), (22, .iload_n 1, 1, 0), (23, .iload_n 2, 1, 0), (24, .iastore, 1, 0), (25, .aload_n 0, 1, 0), (26, .getfield 15, 3, 0), (29, .iload_n 1, 1, 0), (30, .iload_n 3, 1, 0), (31, .iastore, 1, 0), (32, .iconst 0, 1, 0), (33, .istore 4, 2, 0), (35, .iload 4, 2, 0), (37, .iload_n 3, 1, 0), (38, .if_icmp .ge 22, 3, 35), (41, .aload_n 0, 1, 0), (42, .getfield 21, 3, 0), (45, .bipush 60, 2, 0), (47, .iload_n 1, 1, 0), (48, .imul, 1, 0), (49, .iload 4, 2, 0), (51, .iadd, 1, 0), (52, .lconst 0, 1, 0), (53, .lastore, 1, 0), (54, .iinc 4 1, 3, 0), (57, .goto (-22), 3, 21), (60, .return_, 1, 0)])
theorem k_Shelves_holdRow : zchk m_Shelves_holdRow = true := by decide +kernel
def m_X_row : ZM := (yX10_row, cX10_row, 4, some .int, [(0, .aload_n 0, 1, 0), (1, .getfield 60, 3, 0), (4, .iload_n 1, 1, 0), (5, .invokevirtual 95, 3, 0), (8, .ifCond .eq 16, 3, 11), (11, .iload_n 2, 1, 0), (12, .invokestatic 312, 3, 0), (15, .ifCond .eq 9, 3, 11), (18, .iload_n 3, 1, 0), (19, .bipush 60, 2, 0), (21, .if_icmp .le 5, 3, 13), (24, .iconst (-1), 1, 0), (25, .ireturn, 1, 0), (26, .iload_n 3, 1, 0), (27, .ifCond .ge 6, 3, 17), (30, .bipush (-14), 2, 0), (32, .ireturn, 1, 0), (33, .aload_n 0, 1, 0), (34, .getfield 60, 3, 0), (37, .iload_n 1, 1, 0), (38, .iload_n 2, 1, 0), (39, .iload_n 3, 1, 0), (40, .invokevirtual 315, 3, 0), (43, .iconst 1, 1, 0), (44, .ireturn, 1, 0)])
theorem k_X_row : zchk m_X_row = true := by decide +kernel
def m_M_row : ZM := (yX11_row, cX11_row, 5, some .int, [(0, .iload_n 1, 1, 0), (1, .invokestatic 113, 3, 0), (4, .ifCond .eq 21, 3, 12), (7, .iload_n 2, 1, 0), (8, .i2l, 1, 0), (9, .lconst 0, 1, 0), (10, .ldc2_w 142, 3, 0), (13, .invokestatic 97, 3, 0), (16, .ifCond .eq 9, 3, 12), (19, .iload_n 3, 1, 0), (20, .bipush 60, 2, 0), (22, .if_icmp .le 5, 3, 14), (25, .iconst (-1), 1, 0), (26, .ireturn, 1, 0), (27, .iload_n 3, 1, 0), (28, .ifCond .ge 6, 3, 18), (31, .bipush (-14), 2, 0), (33, .ireturn, 1, 0), (34, .aload_n 0, 1, 0), (35, .getfield 65, 3, 0), (38, .iload_n 1, 1, 0), (39, .bipush 50, 2, 0), (41, .iload_n 2, 1, 0), (42, .iadd, 1, 0), (43, .iastore, 1, 0), (44, .aload_n 0, 1, 0), (45, .getfield 68, 3, 0), (48, .iload_n 1, 1, 0), (49, .iload_n 3, 1, 0), (50, .iastore, 1, 0), (51, .bipush 60, 2, 0), (53, .iload_n 1, 1, 0), (54, .imul, 1, 0), (55, .istore 4, 2, 0), (57, .iload 4, 2, 0), (59, .bipush 60, 2, 0), (61, .iload_n 1, 1, 0), (62, .imul, 1, 0), (63, .bipush 60, 2, 0), (65, .iadd, 1, 0), (66, .if_icmp .ge 17, 3, 48), (69, .aload_n 0, 1, 0), (70, .getfield 71, 3, 0), (73, .iload 4, 2, 0), (75, .lconst 0, 1, 0), (76, .lastore, 1, 0), (77, .iinc 4 1, 3, 0), (80, .goto (-23), 3, 34), (83, .iconst 1, 1, 0), (84, .ireturn, 1, 0)])
theorem k_M_row : zchk m_M_row = true := by decide +kernel
def m_Shelves_refusedAt : ZM := (yX7_refusedAt, cX7_refusedAt, 3, some .int, [(0, .aload_n 0, 1, 0), (1, .iload_n 1, 1, 0), (2, .invokevirtual 25, 3, 0), (5, .ifCond .ne 5, 3, 6), (8, .iconst (-1), 1, 0), (9, .ireturn, 1, 0), (10, .aload_n 0, 1, 0), (11, .getfield 11, 3, 0), (14, .iload_n 1, 1, 0), (15, .iaload, 1, 0), (16, .iconst (-1), 1, 0), (17, .if_icmp .ne 6, 3, 14), (20, .bipush (-11), 2, 0), (22, .ireturn, 1, 0), (23, .aload_n 0, 1, 0), (24, .getfield 11, 3, 0), (27, .iload_n 1, 1, 0), (28, .iaload, 1, 0), (29, .invokestatic 29, 3, 0), (32, .ifCond .ne 6, 3, 22), (35, .bipush (-12), 2, 0), (37, .ireturn, 1, 0), (38, .aload_n 0, 1, 0), (39, .iload_n 1, 1, 0), (40, .iload_n 2, 1, 0), (41, .invokevirtual 32, 3, 0), (44, .ifCond .eq 7, 3, 29), (47, .iconst 0, 1, 0), (48, .goto 5, 3, 30), (51, .bipush (-13), 2, 0), (53, .ireturn, 1, 0)])
theorem k_Shelves_refusedAt : zchk m_Shelves_refusedAt = true := by decide +kernel
def m_Shelves_lowestBits : ZM := (yX7_lowestBits, cX7_lowestBits, 3, some .long, [(0, .iload_n 0, 1, 0), (1, .tableswitch 61 0 4 #[35, 40, 45, 61, 49], 35, 0), (36, .lload_n 1, 1, 0), (37, .l2i, 1, 0), (38, .i2b, 1, 0), (39, .i2l, 1, 0), (40, .lreturn, 1, 0), (41, .lload_n 1, 1, 0), (42, .l2i, 1, 0), (43, .i2s, 1, 0), (44, .i2l, 1, 0), (45, .lreturn, 1, 0), (46, .lload_n 1, 1, 0), (47, .l2i, 1, 0), (48, .i2l, 1, 0), (49, .lreturn, 1, 0), (50, .lload_n 1, 1, 0), (51, .lconst 0, 1, 0), (52, .lcmp, 1, 0), (53, .ifCond .eq 7, 3, 22), (56, .lconst 1, 1, 0), (57, .goto 4, 3, 23), (60, .lconst 0, 1, 0), (61, .lreturn, 1, 0), (62, .lload_n 1, 1, 0), (63, .lreturn, 1, 0)])
theorem k_Shelves_lowestBits : zchk m_Shelves_lowestBits = true := by decide +kernel
def m_Shelves_set : ZM := (yX7_set, cX7_set, 5, none, [(0, .aload_n 0, 1, 0), (1, .iload_n 1, 1, 0), (2, .iload_n 2, 1, 0), (3, .invokevirtual 32, 3, 0), (6, .ifCond .eq 24, 3, 19), (9, .aload_n 0, 1, 0), (10, .getfield 21, 3, 0), (13, .bipush 60, 2, 0), (15, .iload_n 1, 1, 0), (16, .imul, 1, 0), (17, .iload_n 2, 1, 0), (18, .iadd, 1, 0), (19, .aload_n 0, 1, 0), (20, .getfield 11, 3, 0), (23, .iload_n 1, 1, 0), (24, .iaload, 1, 0), (25, .lload_n 3, 1, 0), (26, .invokestatic 40, 3, 0), (29, .lastore, 1, 0), (30, .return_, 1, 0)])
theorem k_Shelves_set : zchk m_Shelves_set = true := by decide +kernel
def m_X_put : ZM := (yX10_put, cX10_put, 6, some .int, [(0, .aload_n 0, 1, 0), (1, .getfield 60, 3, 0), (4, .iload_n 1, 1, 0), (5, .iload_n 2, 1, 0), (6, .invokevirtual 319, 3, 0), (9, .istore 5, 2, 0), (11, .iload 5, 2, 0), (13, .ifCond .eq 6, 3, 10), (16, .iload 5, 2, 0), (18, .ireturn, 1, 0), (19, .aload_n 0, 1, 0), (20, .getfield 60, 3, 0), (23, .iload_n 1, 1, 0), (24, .iload_n 2, 1, 0), (25, .lload_n 3, 1, 0), (26, .invokevirtual 322, 3, 0), (29, .iconst 1, 1, 0), (30, .ireturn, 1, 0)])
theorem k_X_put : zchk m_X_put = true := by decide +kernel
def m_M_refusal : ZM := (yX11_refusal, cX11_refusal, 3, some .int, [(0, .iload_n 1, 1, 0), (1, .invokestatic 113, 3, 0), (4, .ifCond .ne 5, 3, 5), (7, .iconst (-1), 1, 0), (8, .ireturn, 1, 0), (9, .aload_n 0, 1, 0), (10, .getfield 65, 3, 0), (13, .iload_n 1, 1, 0), (14, .iaload, 1, 0), (15, .ifCond .ge 6, 3, 12), (18, .bipush (-11), 2, 0), (20, .ireturn, 1, 0), (21, .aload_n 0, 1, 0), (22, .getfield 65, 3, 0), (25, .iload_n 1, 1, 0), (26, .iaload, 1, 0), (27, .bipush 50, 2, 0), (29, .if_icmp .ge 6, 3, 20), (32, .bipush (-12), 2, 0), (34, .ireturn, 1, 0), (35, .iload_n 2, 1, 0), (36, .ifCond .lt 17, 3, 30), (39, .iload_n 2, 1, 0), (40, .aload_n 0, 1, 0), (41, .getfield 68, 3, 0), (44, .iload_n 1, 1, 0), (45, .iaload, 1, 0), (46, .if_icmp .ge 7, 3, 30), (49, .iconst 0, 1, 0), (50, .goto 5, 3, 31), (53, .bipush (-13), 2, 0), (55, .ireturn, 1, 0)])
theorem k_M_refusal : zchk m_M_refusal = true := by decide +kernel
def m_M_asSort : ZM := (yX11_asSort, cX11_asSort, 3, some .long, [(0, .iload_n 0, 1, 0), (1, .ifCond .ne 10, 3, 7), (4, .lload_n 1, 1, 0), (5, .l2i, 1, 0), (6, .i2b, 1, 0), (7, .i2l, 1, 0), (8, .goto 46, 3, 34), (11, .iload_n 0, 1, 0), (12, .iconst 1, 1, 0), (13, .if_icmp .ne 10, 3, 15), (16, .lload_n 1, 1, 0), (17, .l2i, 1, 0), (18, .i2s, 1, 0), (19, .i2l, 1, 0), (20, .goto 34, 3, 34), (23, .iload_n 0, 1, 0), (24, .iconst 2, 1, 0), (25, .if_icmp .ne 9, 3, 22), (28, .lload_n 1, 1, 0), (29, .l2i, 1, 0), (30, .i2l, 1, 0), (31, .goto 23, 3, 34), (34, .iload_n 0, 1, 0), (35, .iconst 4, 1, 0), (36, .if_icmp .ne 17, 3, 33), (39, .lload_n 1, 1, 0), (40, .lconst 0, 1, 0), (41, .lcmp, 1, 0), (42, .ifCond .eq 7, 3, 31), (45, .lconst 1, 1, 0), (46, .goto 8, 3, 34), (49, .lconst 0, 1, 0), (50, .goto 4, 3, 34), (53, .lload_n 1, 1, 0), (54, .lreturn, 1, 0)])
theorem k_M_asSort : zchk m_M_asSort = true := by decide +kernel
def m_M_put : ZM := (yX11_put, cX11_put, 6, some .int, [(0, .aload_n 0, 1, 0), (1, .iload_n 1, 1, 0), (2, .iload_n 2, 1, 0), (3, .invokevirtual 313, 3, 0), (6, .istore 5, 2, 0), (8, .iload 5, 2, 0), (10, .ifCond .ne 27, 3, 23), (13, .aload_n 0, 1, 0), (14, .getfield 71, 3, 0), (17, .bipush 60, 2, 0), (19, .iload_n 1, 1, 0), (20, .imul, 1, 0), (21, .iload_n 2, 1, 0), (22, .iadd, 1, 0), (23, .aload_n 0, 1, 0), (24, .getfield 65, 3, 0), (27, .iload_n 1, 1, 0), (28, .iaload, 1, 0), (29, .bipush 50, 2, 0), (31, .isub, 1, 0), (32, .lload_n 3, 1, 0), (33, .invokestatic 316, 3, 0), (36, .lastore, 1, 0), (37, .iload 5, 2, 0), (39, .ifCond .ne 7, 3, 27), (42, .iconst 1, 1, 0), (43, .goto 5, 3, 28), (46, .iload 5, 2, 0), (48, .ireturn, 1, 0)])
theorem k_M_put : zchk m_M_put = true := by decide +kernel
def m_X_element : ZM := (yX10_element, cX10_element, 3, some .long, [(0, .aload_n 0, 1, 0), (1, .getfield 60, 3, 0), (4, .iload_n 1, 1, 0), (5, .iload_n 2, 1, 0), (6, .invokevirtual 319, 3, 0), (9, .ifCond .eq 9, 3, 8), (12, .ldc2_w 326, 3, 0), (15, .goto 12, 3, 13), (18, .aload_n 0, 1, 0), (19, .getfield 60, 3, 0), (22, .iload_n 1, 1, 0), (23, .iload_n 2, 1, 0), (24, .invokevirtual 108, 3, 0), (27, .lreturn, 1, 0)])
theorem k_X_element : zchk m_X_element = true := by decide +kernel
def m_M_element : ZM := (yX11_element, cX11_element, 3, some .long, [(0, .aload_n 0, 1, 0), (1, .iload_n 1, 1, 0), (2, .iload_n 2, 1, 0), (3, .invokevirtual 313, 3, 0), (6, .ifCond .eq 9, 3, 7), (9, .ldc2_w 322, 3, 0), (12, .goto 14, 3, 15), (15, .aload_n 0, 1, 0), (16, .getfield 71, 3, 0), (19, .bipush 60, 2, 0), (21, .iload_n 1, 1, 0), (22, .imul, 1, 0), (23, .iload_n 2, 1, 0), (24, .iadd, 1, 0), (25, .laload, 1, 0), (26, .lreturn, 1, 0)])
theorem k_M_element : zchk m_M_element = true := by decide +kernel
def m_Shelves_hasPlaces : ZM := (yX7_hasPlaces, cX7_hasPlaces, 4, some .boolean, [(0, .iload_n 2, 1, 0), (1, .ifCond .lt 31, 3, 18), (4, .iload_n 3, 1, 0), (5, .ifCond .lt 27, 3, 18), (8, .iload_n 3, 1, 0), (9, .aload_n 0, 1, 0), (10, .iload_n 1, 1, 0), (11, .invokevirtual 36, 3, 0), (14, .if_icmp .gt 18, 3, 18), (17, .iload_n 2, 1, 0), (18, .aload_n 0, 1, 0), (19, .iload_n 1, 1, 0), (20, .invokevirtual 36, 3, 0), (23, .iload_n 3, 1, 0), (24, .isub, 1, 0), (25, .if_icmp .gt 7, 3, 18), (28, .iconst 1, 1, 0), (29, .goto 4, 3, 19), (32, .iconst 0, 1, 0), (33, .ireturn, 1, 0)])
theorem k_Shelves_hasPlaces : zchk m_Shelves_hasPlaces = true := by decide +kernel
def m_Shelves_copy : ZM := (yX7_copy, cX7_copy, 6, none, [(0, .aload_n 0, 1, 0), (1, .iload_n 1, 1, 0), (2, .iload_n 2, 1, 0), (3, .iload 5, 2, 0), (5, .invokevirtual 44, 3, 0), (8, .ifCond .eq 41, 3, 28), (11, .aload_n 0, 1, 0), (12, .iload_n 3, 1, 0), (13, .iload 4, 2, 0), (15, .iload 5, 2, 0), (17, .invokevirtual 44, 3, 0), (20, .ifCond .eq 29, 3, 28), (23, .aload_n 0, 1, 0), (24, .getfield 21, 3, 0), (27, .bipush 60, 2, 0), (29, .iload_n 1, 1, 0), (30, .imul, 1, 0), (31, .iload_n 2, 1, 0), (32, .iadd, 1, 0), (33, .aload_n 0, 1, 0), (34, .getfield 21, 3, 0), (37, .bipush 60, 2, 0), (39, .iload_n 3, 1, 0), (40, .imul, 1, 0), (41, .iload 4, 2, 0), (43, .iadd, 1, 0), (44, .iload 5, 2, 0), (46, .invokestatic 48, 3, 0), (49, .return_, 1, 0)])
theorem k_Shelves_copy : zchk m_Shelves_copy = true := by decide +kernel
def m_X_shift : ZM := (yX10_shift, cX10_shift, 8, some .int, [(0, .aload_n 0, 1, 0), (1, .getfield 60, 3, 0), (4, .iload_n 1, 1, 0), (5, .invokevirtual 95, 3, 0), (8, .ifCond .eq 14, 3, 10), (11, .aload_n 0, 1, 0), (12, .getfield 60, 3, 0), (15, .iload_n 3, 1, 0), (16, .invokevirtual 95, 3, 0), (19, .ifCond .ne 5, 3, 12), (22, .iconst (-1), 1, 0), (23, .ireturn, 1, 0), (24, .aload_n 0, 1, 0), (25, .getfield 60, 3, 0), (28, .iload_n 1, 1, 0), (29, .invokevirtual 98, 3, 0), (32, .istore 6, 2, 0), (34, .aload_n 0, 1, 0), (35, .getfield 60, 3, 0), (38, .iload_n 3, 1, 0), (39, .invokevirtual 98, 3, 0), (42, .istore 7, 2, 0), (44, .iload 6, 2, 0), (46, .iconst (-1), 1, 0), (47, .if_icmp .eq 9, 3, 28), (50, .iload 7, 2, 0), (52, .iconst (-1), 1, 0), (53, .if_icmp .ne 6, 3, 30), (56, .bipush (-11), 2, 0), (58, .ireturn, 1, 0), (59, .iload 6, 2, 0), (61, .invokestatic 312, 3, 0), (64, .ifCond .eq 10, 3, 36), (67, .iload 6, 2, 0), (69, .iload 7, 2, 0), (71, .if_icmp .eq 6, 3, 38), (74, .bipush (-12), 2, 0), (76, .ireturn, 1, 0), (77, .aload_n 0, 1, 0), (78, .getfield 60, 3, 0), (81, .iload_n 1, 1, 0), (82, .iload_n 2, 1, 0), (83, .iload 5, 2, 0), (85, .invokevirtual 328, 3, 0), (88, .ifCond .eq 18, 3, 52), (91, .aload_n 0, 1, 0), (92, .getfield 60, 3, 0), (95, .iload_n 3, 1, 0), (96, .iload 4, 2, 0), (98, .iload 5, 2, 0), (100, .invokevirtual 328, 3, 0), (103, .ifCond .ne 6, 3, 54), (106, .bipush (-13), 2, 0), (108, .ireturn, 1, 0), (109, .aload_n 0, 1, 0), (110, .getfield 60, 3, 0), (113, .iload_n 1, 1, 0), (114, .iload_n 2, 1, 0), (115, .iload_n 3, 1, 0), (116, .iload 4, 2, 0), (118, .iload 5, 2, 0), (120, .invokevirtual 331, 3, 0), (123, .iload 5, 2, 0), (125, .ireturn, 1, 0)])
theorem k_X_shift : zchk m_X_shift = true := by decide +kernel
def m_M_shift : ZM := (yX11_shift, cX11_shift, 7, some .int, [(0, .iload_n 1, 1, 0), (1, .invokestatic 113, 3, 0), (4, .ifCond .eq 10, 3, 6), (7, .iload_n 3, 1, 0), (8, .invokestatic 113, 3, 0), (11, .ifCond .ne 5, 3, 8), (14, .iconst (-1), 1, 0), (15, .ireturn, 1, 0), (16, .aload_n 0, 1, 0), (17, .getfield 65, 3, 0), (20, .iload_n 1, 1, 0), (21, .iaload, 1, 0), (22, .ifCond .lt 12, 3, 18), (25, .aload_n 0, 1, 0), (26, .getfield 65, 3, 0), (29, .iload_n 3, 1, 0), (30, .iaload, 1, 0), (31, .ifCond .ge 6, 3, 20), (34, .bipush (-11), 2, 0), (36, .ireturn, 1, 0), (37, .aload_n 0, 1, 0), (38, .getfield 65, 3, 0), (41, .iload_n 1, 1, 0), (42, .iaload, 1, 0), (43, .bipush 50, 2, 0), (45, .if_icmp .lt 18, 3, 35), (48, .aload_n 0, 1, 0), (49, .getfield 65, 3, 0), (52, .iload_n 1, 1, 0), (53, .iaload, 1, 0), (54, .aload_n 0, 1, 0), (55, .getfield 65, 3, 0), (58, .iload_n 3, 1, 0), (59, .iaload, 1, 0), (60, .if_icmp .eq 6, 3, 37), (63, .bipush (-12), 2, 0), (65, .ireturn, 1, 0), (66, .iload 5, 2, 0), (68, .ifCond .lt 39, 3, 59), (71, .iload_n 2, 1, 0), (72, .ifCond .lt 35, 3, 59), (75, .iload 4, 2, 0), (77, .ifCond .lt 30, 3, 59), (80, .iload_n 2, 1, 0), (81, .aload_n 0, 1, 0), (82, .getfield 68, 3, 0), (85, .iload_n 1, 1, 0), (86, .iaload, 1, 0), (87, .iload 5, 2, 0), (89, .isub, 1, 0), (90, .if_icmp .gt 17, 3, 59), (93, .iload 4, 2, 0), (95, .aload_n 0, 1, 0), (96, .getfield 68, 3, 0), (99, .iload_n 3, 1, 0), (100, .iaload, 1, 0), (101, .iload 5, 2, 0), (103, .isub, 1, 0), (104, .if_icmp .le 6, 3, 61), (107, .bipush (-13), 2, 0), (109, .ireturn, 1, 0), (110, .iconst 0, 1, 0), (111, .istore 6, 2, 0), (113, .iload 6, 2, 0), (115, .iload 5, 2, 0), (117, .if_icmp .ge 30, 3, 82), (120, .aload_n 0, 1, 0), (121, .getfield 75, 3, 0), (124, .iload 6, 2, 0), (126, .aload_n 0, 1, 0), (127, .getfield 71, 3, 0), (130, .bipush 60, 2, 0), (132, .iload_n 1, 1, 0), (133, .imul, 1, 0), (134, .iload_n 2, 1, 0), (135, .iadd, 1, 0), (136, .iload 6, 2, 0), (138, .iadd, 1, 0), (139, .laload, 1, 0), (140, .lastore, 1, 0), (141, .iinc 6 1, 3, 0), (144, .goto (-31), 3, 63), (147, .iconst 0, 1, 0), (148, .istore 6, 2, 0), (150, .iload 6, 2, 0), (152, .iload 5, 2, 0), (154, .if_icmp .ge 31, 3, 103), (157, .aload_n 0, 1, 0), (158, .getfield 71, 3, 0), (161, .bipush 60, 2, 0), (163, .iload_n 3, 1, 0), (164, .imul, 1, 0), (165, .iload 4, 2, 0), (167, .iadd, 1, 0), (168, .iload 6, 2, 0), (170, .iadd, 1, 0), (171, .aload_n 0, 1, 0), (172, .getfield 75, 3, 0), (175, .iload 6, 2, 0), (177, .laload, 1, 0), (178, .lastore, 1, 0), (179, .iinc 6 1, 3, 0), (182, .goto (-32), 3, 84), (185, .iload 5, 2, 0), (187, .ireturn, 1, 0)])
theorem k_M_shift : zchk m_M_shift = true := by decide +kernel
def m_Shelves_voterOn : ZM := (yX7_voterOn, cX7_voterOn, 2, some .int, [(0, .aload_n 0, 1, 0), (1, .iload_n 1, 1, 0), (2, .invokevirtual 25, 3, 0), (5, .ifCond .eq 12, 3, 9), (8, .aload_n 0, 1, 0), (9, .getfield 18, 3, 0), (12, .iload_n 1, 1, 0), (13, .iaload, 1, 0), (14, .goto 4, 3, 10), (17, .iconst (-1), 1, 0), (18, .ireturn, 1, 0)])
theorem k_Shelves_voterOn : zchk m_Shelves_voterOn = true := by decide +kernel
def m_Voters_isUnder : ZM := (yX8_isUnder, cX8_isUnder, 4, some .boolean, [(0, .iload_n 0, 1, 0), (1, .istore_n 2, 1, 0), (2, .iconst 0, 1, 0), (3, .istore_n 3, 1, 0), (4, .iload_n 3, 1, 0), (5, .bipush 8, 2, 0), (7, .if_icmp .ge 28, 3, 20), (10, .iload_n 2, 1, 0), (11, .invokestatic 18, 3, 0), (14, .ifCond .eq 21, 3, 20), (17, .iload_n 2, 1, 0), (18, .iload_n 1, 1, 0), (19, .if_icmp .ne 5, 3, 15), (22, .iconst 1, 1, 0), (23, .ireturn, 1, 0), (24, .iload_n 2, 1, 0), (25, .invokestatic 22, 3, 0), (28, .istore_n 2, 1, 0), (29, .iinc 3 1, 3, 0), (32, .goto (-28), 3, 4), (35, .iconst 0, 1, 0), (36, .ireturn, 1, 0)])
theorem k_Voters_isUnder : zchk m_Voters_isUnder = true := by decide +kernel
def m_X_taken : ZM := (yX10_taken, cX10_taken, 4, some .int, [(0, .aload_n 0, 1, 0), (1, .getfield 60, 3, 0), (4, .iload_n 1, 1, 0), (5, .invokevirtual 95, 3, 0), (8, .ifCond .eq 10, 3, 8), (11, .iload_n 2, 1, 0), (12, .invokestatic 293, 3, 0), (15, .ifCond .ne 5, 3, 10), (18, .iconst (-1), 1, 0), (19, .ireturn, 1, 0), (20, .aload_n 0, 1, 0), (21, .getfield 60, 3, 0), (24, .iload_n 1, 1, 0), (25, .invokevirtual 98, 3, 0), (28, .iconst (-1), 1, 0), (29, .if_icmp .ne 6, 3, 18), (32, .bipush (-11), 2, 0), (34, .ireturn, 1, 0), (35, .aload_n 0, 1, 0), (36, .getfield 60, 3, 0), (39, .iload_n 1, 1, 0), (40, .invokevirtual 98, 3, 0), (43, .iconst 5, 1, 0), (44, .if_icmp .eq 6, 3, 26), (47, .bipush (-12), 2, 0), (49, .ireturn, 1, 0), (50, .aload_n 0, 1, 0), (51, .getfield 83, 3, 0), (54, .aload_n 0, 1, 0), (55, .getfield 60, 3, 0), (58, .iload_n 1, 1, 0), (59, .invokevirtual 335, 3, 0), (62, .invokevirtual 338, 3, 0), (65, .istore_n 3, 1, 0), (66, .iload_n 3, 1, 0), (67, .iload_n 2, 1, 0), (68, .invokestatic 341, 3, 0), (71, .ifCond .eq 7, 3, 40), (74, .iload_n 3, 1, 0), (75, .goto 5, 3, 41), (78, .bipush (-12), 2, 0), (80, .ireturn, 1, 0)])
theorem k_X_taken : zchk m_X_taken = true := by decide +kernel
def m_M_kindOf : ZM := (yX11_kindOf, cX11_kindOf, 2, some .int, [(0, .aload_n 0, 1, 0), (1, .getfield 59, 3, 0), (4, .iload_n 1, 1, 0), (5, .iaload, 1, 0), (6, .ireturn, 1, 0)])
theorem k_M_kindOf : zchk m_M_kindOf = true := by decide +kernel
def m_M_above : ZM := (yX11_above, cX11_above, 1, some .int, [(0, .iload_n 0, 1, 0), (1, .iconst 3, 1, 0), (2, .if_icmp .ne 7, 3, 5), (5, .iconst 2, 1, 0), (6, .goto 32, 3, 21), (9, .iload_n 0, 1, 0), (10, .iconst 4, 1, 0), (11, .if_icmp .ne 7, 3, 10), (14, .iconst 1, 1, 0), (15, .goto 23, 3, 21), (18, .iload_n 0, 1, 0), (19, .iconst 5, 1, 0), (20, .if_icmp .ne 7, 3, 15), (23, .iconst 3, 1, 0), (24, .goto 14, 3, 21), (27, .iload_n 0, 1, 0), (28, .bipush 7, 2, 0), (30, .if_icmp .ne 7, 3, 20), (33, .iconst 4, 1, 0), (34, .goto 4, 3, 21), (37, .iconst 0, 1, 0), (38, .ireturn, 1, 0)])
theorem k_M_above : zchk m_M_above = true := by decide +kernel
def m_M_taken : ZM := (yX11_taken, cX11_taken, 4, some .int, [(0, .iload_n 1, 1, 0), (1, .invokestatic 113, 3, 0), (4, .ifCond .eq 15, 3, 9), (7, .iload_n 2, 1, 0), (8, .i2l, 1, 0), (9, .lconst 0, 1, 0), (10, .ldc2_w 281, 3, 0), (13, .invokestatic 97, 3, 0), (16, .ifCond .ne 5, 3, 11), (19, .iconst (-1), 1, 0), (20, .ireturn, 1, 0), (21, .aload_n 0, 1, 0), (22, .getfield 65, 3, 0), (25, .iload_n 1, 1, 0), (26, .iaload, 1, 0), (27, .ifCond .ge 6, 3, 18), (30, .bipush (-11), 2, 0), (32, .ireturn, 1, 0), (33, .aload_n 0, 1, 0), (34, .getfield 65, 3, 0), (37, .iload_n 1, 1, 0), (38, .iaload, 1, 0), (39, .bipush 50, 2, 0), (41, .if_icmp .lt 6, 3, 26), (44, .bipush (-12), 2, 0), (46, .ireturn, 1, 0), (47, .aload_n 0, 1, 0), (48, .aload_n 0, 1, 0), (49, .getfield 65, 3, 0), (52, .iload_n 1, 1, 0), (53, .iaload, 1, 0), (54, .invokevirtual 324, 3, 0), (57, .istore_n 3, 1, 0), (58, .iload_n 3, 1, 0), (59, .iload_n 2, 1, 0), (60, .if_icmp .eq 15, 3, 42), (63, .iload_n 3, 1, 0), (64, .ifCond .le 11, 3, 42), (67, .iload_n 3, 1, 0), (68, .invokestatic 327, 3, 0), (71, .istore_n 3, 1, 0), (72, .goto (-14), 3, 33), (75, .iload_n 3, 1, 0), (76, .iload_n 2, 1, 0), (77, .if_icmp .ne 16, 3, 52), (80, .aload_n 0, 1, 0), (81, .aload_n 0, 1, 0), (82, .getfield 65, 3, 0), (85, .iload_n 1, 1, 0), (86, .iaload, 1, 0), (87, .invokevirtual 324, 3, 0), (90, .goto 5, 3, 53), (93, .bipush (-12), 2, 0), (95, .ireturn, 1, 0)])
theorem k_M_taken : zchk m_M_taken = true := by decide +kernel
def m_Voters_size : ZM := (yX8_size, cX8_size, 1, some .int, [(0, .aload_n 0, 1, 0), (1, .getfield 26, 3, 0), (4, .ireturn, 1, 0)])
theorem k_Voters_size : zchk m_Voters_size = true := by decide +kernel
def m_Voters_ranInAll : ZM := (yX8_ranInAll, cX8_ranInAll, 1, some .int, [(0, .aload_n 0, 1, 0), (1, .getfield 33, 3, 0), (4, .ireturn, 1, 0)])
theorem k_Voters_ranInAll : zchk m_Voters_ranInAll = true := by decide +kernel
def m_X_count : ZM := (yX10_count, cX10_count, 2, some .int, [(0, .iload_n 1, 1, 0), (1, .tableswitch 99 0 6 #[43, 51, 59, 67, 75, 83, 91], 43, 0), (44, .aload_n 0, 1, 0), (45, .getfield 10, 3, 0), (48, .getfield 226, 3, 0), (51, .ireturn, 1, 0), (52, .aload_n 0, 1, 0), (53, .getfield 10, 3, 0), (56, .getfield 344, 3, 0), (59, .ireturn, 1, 0), (60, .aload_n 0, 1, 0), (61, .getfield 10, 3, 0), (64, .getfield 347, 3, 0), (67, .ireturn, 1, 0), (68, .aload_n 0, 1, 0), (69, .getfield 28, 3, 0), (72, .getfield 350, 3, 0), (75, .ireturn, 1, 0), (76, .aload_n 0, 1, 0), (77, .getfield 21, 3, 0), (80, .invokevirtual 284, 3, 0), (83, .ireturn, 1, 0), (84, .aload_n 0, 1, 0), (85, .getfield 83, 3, 0), (88, .invokevirtual 353, 3, 0), (91, .ireturn, 1, 0), (92, .aload_n 0, 1, 0), (93, .getfield 83, 3, 0), (96, .invokevirtual 356, 3, 0), (99, .ireturn, 1, 0), (100, .iconst (-1), 1, 0), (101, .ireturn, 1, 0)])
theorem k_X_count : zchk m_X_count = true := by decide +kernel
def m_M_count : ZM := (yX11_count, cX11_count, 2, some .int, [(0, .iload_n 1, 1, 0), (1, .tableswitch 78 0 6 #[43, 48, 53, 58, 63, 68, 73], 43, 0), (44, .aload_n 0, 1, 0), (45, .getfield 94, 3, 0), (48, .ireturn, 1, 0), (49, .aload_n 0, 1, 0), (50, .getfield 101, 3, 0), (53, .ireturn, 1, 0), (54, .aload_n 0, 1, 0), (55, .getfield 122, 3, 0), (58, .ireturn, 1, 0), (59, .aload_n 0, 1, 0), (60, .getfield 149, 3, 0), (63, .ireturn, 1, 0), (64, .aload_n 0, 1, 0), (65, .getfield 88, 3, 0), (68, .ireturn, 1, 0), (69, .aload_n 0, 1, 0), (70, .getfield 278, 3, 0), (73, .ireturn, 1, 0), (74, .aload_n 0, 1, 0), (75, .getfield 283, 3, 0), (78, .ireturn, 1, 0), (79, .iconst (-1), 1, 0), (80, .ireturn, 1, 0)])
theorem k_M_count : zchk m_M_count = true := by decide +kernel
end
section
/-! by program (gen3.py): the words of the links -/
theorem ml_L_178 : Cond.methodLink RL 178 yX10_count ∈ lw_tbl := List.mem_of_getElem? (i := 1039) (by decide +kernel)
theorem ml_L_181 : Cond.methodLink RL 181 yX11_count ∈ lw_tbl := List.mem_of_getElem? (i := 1546) (by decide +kernel)
theorem ml_L_174 : Cond.methodLink RL 174 yX10_taken ∈ lw_tbl := List.mem_of_getElem? (i := 1027) (by decide +kernel)
theorem ml_L_177 : Cond.methodLink RL 177 yX11_taken ∈ lw_tbl := List.mem_of_getElem? (i := 1535) (by decide +kernel)
theorem ml_L_169 : Cond.methodLink RL 169 yX10_shift ∈ lw_tbl := List.mem_of_getElem? (i := 1012) (by decide +kernel)
theorem ml_L_173 : Cond.methodLink RL 173 yX11_shift ∈ lw_tbl := List.mem_of_getElem? (i := 1531) (by decide +kernel)
theorem ml_L_164 : Cond.methodLink RL 164 yX10_element ∈ lw_tbl := List.mem_of_getElem? (i := 1007) (by decide +kernel)
theorem ml_L_168 : Cond.methodLink RL 168 yX11_element ∈ lw_tbl := List.mem_of_getElem? (i := 1526) (by decide +kernel)
theorem ml_L_159 : Cond.methodLink RL 159 yX10_put ∈ lw_tbl := List.mem_of_getElem? (i := 991) (by decide +kernel)
theorem ml_L_163 : Cond.methodLink RL 163 yX11_put ∈ lw_tbl := List.mem_of_getElem? (i := 1515) (by decide +kernel)
theorem ml_L_153 : Cond.methodLink RL 153 yX10_row ∈ lw_tbl := List.mem_of_getElem? (i := 980) (by decide +kernel)
theorem ml_L_156 : Cond.methodLink RL 156 yX11_row ∈ lw_tbl := List.mem_of_getElem? (i := 1511) (by decide +kernel)
theorem ml_L_149 : Cond.methodLink RL 149 yX10_keep ∈ lw_tbl := List.mem_of_getElem? (i := 971) (by decide +kernel)
theorem ml_L_152 : Cond.methodLink RL 152 yX11_keep ∈ lw_tbl := List.mem_of_getElem? (i := 1507) (by decide +kernel)
theorem ml_L_145 : Cond.methodLink RL 145 yX10_trace ∈ lw_tbl := List.mem_of_getElem? (i := 963) (by decide +kernel)
theorem ml_L_148 : Cond.methodLink RL 148 yX11_trace ∈ lw_tbl := List.mem_of_getElem? (i := 1503) (by decide +kernel)
theorem ml_L_141 : Cond.methodLink RL 141 yX10_act ∈ lw_tbl := List.mem_of_getElem? (i := 920) (by decide +kernel)
theorem ml_L_144 : Cond.methodLink RL 144 yX11_act ∈ lw_tbl := List.mem_of_getElem? (i := 1475) (by decide +kernel)
theorem ml_L_137 : Cond.methodLink RL 137 yX10_body ∈ lw_tbl := List.mem_of_getElem? (i := 909) (by decide +kernel)
theorem ml_L_140 : Cond.methodLink RL 140 yX11_body ∈ lw_tbl := List.mem_of_getElem? (i := 1470) (by decide +kernel)
theorem ml_L_133 : Cond.methodLink RL 133 yX10_redo ∈ lw_tbl := List.mem_of_getElem? (i := 897) (by decide +kernel)
theorem ml_L_136 : Cond.methodLink RL 136 yX11_redo ∈ lw_tbl := List.mem_of_getElem? (i := 1189) (by decide +kernel)
theorem ml_L_129 : Cond.methodLink RL 129 yX10_undo ∈ lw_tbl := List.mem_of_getElem? (i := 885) (by decide +kernel)
theorem ml_L_132 : Cond.methodLink RL 132 yX11_undo ∈ lw_tbl := List.mem_of_getElem? (i := 1185) (by decide +kernel)
theorem ml_L_125 : Cond.methodLink RL 125 yX10_back ∈ lw_tbl := List.mem_of_getElem? (i := 877) (by decide +kernel)
theorem ml_L_128 : Cond.methodLink RL 128 yX11_back ∈ lw_tbl := List.mem_of_getElem? (i := 1466) (by decide +kernel)
theorem ml_L_121 : Cond.methodLink RL 121 yX10_image ∈ lw_tbl := List.mem_of_getElem? (i := 868) (by decide +kernel)
theorem ml_L_124 : Cond.methodLink RL 124 yX11_image ∈ lw_tbl := List.mem_of_getElem? (i := 1462) (by decide +kernel)
theorem ml_L_117 : Cond.methodLink RL 117 yX10_led ∈ lw_tbl := List.mem_of_getElem? (i := 856) (by decide +kernel)
theorem ml_L_120 : Cond.methodLink RL 120 yX11_led ∈ lw_tbl := List.mem_of_getElem? (i := 1458) (by decide +kernel)
theorem ml_L_113 : Cond.methodLink RL 113 yX10_decide ∈ lw_tbl := List.mem_of_getElem? (i := 844) (by decide +kernel)
theorem ml_L_116 : Cond.methodLink RL 116 yX11_decide ∈ lw_tbl := List.mem_of_getElem? (i := 1454) (by decide +kernel)
theorem ml_L_109 : Cond.methodLink RL 109 yX10_must ∈ lw_tbl := List.mem_of_getElem? (i := 828) (by decide +kernel)
theorem ml_L_112 : Cond.methodLink RL 112 yX11_must ∈ lw_tbl := List.mem_of_getElem? (i := 1446) (by decide +kernel)
theorem ml_L_105 : Cond.methodLink RL 105 yX10_judge ∈ lw_tbl := List.mem_of_getElem? (i := 791) (by decide +kernel)
theorem ml_L_108 : Cond.methodLink RL 108 yX11_judge ∈ lw_tbl := List.mem_of_getElem? (i := 1430) (by decide +kernel)
theorem ml_L_101 : Cond.methodLink RL 101 yX10_lots ∈ lw_tbl := List.mem_of_getElem? (i := 778) (by decide +kernel)
theorem ml_L_104 : Cond.methodLink RL 104 yX11_lots ∈ lw_tbl := List.mem_of_getElem? (i := 1420) (by decide +kernel)
theorem ml_L_97 : Cond.methodLink RL 97 yX10_step ∈ lw_tbl := List.mem_of_getElem? (i := 766) (by decide +kernel)
theorem ml_L_100 : Cond.methodLink RL 100 yX11_step ∈ lw_tbl := List.mem_of_getElem? (i := 1416) (by decide +kernel)
theorem ml_L_93 : Cond.methodLink RL 93 yX10_lies ∈ lw_tbl := List.mem_of_getElem? (i := 758) (by decide +kernel)
theorem ml_L_96 : Cond.methodLink RL 96 yX11_lies ∈ lw_tbl := List.mem_of_getElem? (i := 1412) (by decide +kernel)
theorem ml_L_89 : Cond.methodLink RL 89 yX10_chance ∈ lw_tbl := List.mem_of_getElem? (i := 736) (by decide +kernel)
theorem ml_L_92 : Cond.methodLink RL 92 yX11_chance ∈ lw_tbl := List.mem_of_getElem? (i := 1405) (by decide +kernel)
theorem ml_L_85 : Cond.methodLink RL 85 yX10_hermit ∈ lw_tbl := List.mem_of_getElem? (i := 728) (by decide +kernel)
theorem ml_L_88 : Cond.methodLink RL 88 yX11_hermit ∈ lw_tbl := List.mem_of_getElem? (i := 1401) (by decide +kernel)
theorem ml_L_81 : Cond.methodLink RL 81 yX10_say ∈ lw_tbl := List.mem_of_getElem? (i := 709) (by decide +kernel)
theorem ml_L_84 : Cond.methodLink RL 84 yX11_say ∈ lw_tbl := List.mem_of_getElem? (i := 1393) (by decide +kernel)
theorem ml_L_77 : Cond.methodLink RL 77 yX10_parted ∈ lw_tbl := List.mem_of_getElem? (i := 693) (by decide +kernel)
theorem ml_L_80 : Cond.methodLink RL 80 yX11_parted ∈ lw_tbl := List.mem_of_getElem? (i := 1385) (by decide +kernel)
theorem ml_L_73 : Cond.methodLink RL 73 yX10_alone ∈ lw_tbl := List.mem_of_getElem? (i := 685) (by decide +kernel)
theorem ml_L_76 : Cond.methodLink RL 76 yX11_alone ∈ lw_tbl := List.mem_of_getElem? (i := 1381) (by decide +kernel)
theorem ml_L_69 : Cond.methodLink RL 69 yX10_leaveOut ∈ lw_tbl := List.mem_of_getElem? (i := 676) (by decide +kernel)
theorem ml_L_72 : Cond.methodLink RL 72 yX11_leaveOut ∈ lw_tbl := List.mem_of_getElem? (i := 1377) (by decide +kernel)
theorem ml_L_65 : Cond.methodLink RL 65 yX10_silenced ∈ lw_tbl := List.mem_of_getElem? (i := 658) (by decide +kernel)
theorem ml_L_68 : Cond.methodLink RL 68 yX11_silenced ∈ lw_tbl := List.mem_of_getElem? (i := 1369) (by decide +kernel)
theorem ml_L_61 : Cond.methodLink RL 61 yX10_together ∈ lw_tbl := List.mem_of_getElem? (i := 643) (by decide +kernel)
theorem ml_L_64 : Cond.methodLink RL 64 yX11_together ∈ lw_tbl := List.mem_of_getElem? (i := 1365) (by decide +kernel)
theorem ml_L_57 : Cond.methodLink RL 57 yX10_vote ∈ lw_tbl := List.mem_of_getElem? (i := 613) (by decide +kernel)
theorem ml_L_60 : Cond.methodLink RL 60 yX11_vote ∈ lw_tbl := List.mem_of_getElem? (i := 1344) (by decide +kernel)
theorem ml_L_53 : Cond.methodLink RL 53 yX10_may ∈ lw_tbl := List.mem_of_getElem? (i := 539) (by decide +kernel)
theorem ml_L_56 : Cond.methodLink RL 56 yX11_may ∈ lw_tbl := List.mem_of_getElem? (i := 1313) (by decide +kernel)
theorem ml_L_49 : Cond.methodLink RL 49 yX10_law ∈ lw_tbl := List.mem_of_getElem? (i := 485) (by decide +kernel)
theorem ml_L_52 : Cond.methodLink RL 52 yX11_law ∈ lw_tbl := List.mem_of_getElem? (i := 1266) (by decide +kernel)
theorem ml_L_45 : Cond.methodLink RL 45 yX10_feed ∈ lw_tbl := List.mem_of_getElem? (i := 477) (by decide +kernel)
theorem ml_L_48 : Cond.methodLink RL 48 yX11_feed ∈ lw_tbl := List.mem_of_getElem? (i := 1261) (by decide +kernel)
theorem ml_L_41 : Cond.methodLink RL 41 yX10_of ∈ lw_tbl := List.mem_of_getElem? (i := 462) (by decide +kernel)
theorem ml_L_44 : Cond.methodLink RL 44 yX11_of ∈ lw_tbl := List.mem_of_getElem? (i := 1253) (by decide +kernel)
theorem ml_L_36 : Cond.methodLink RL 36 yX10_rule ∈ lw_tbl := List.mem_of_getElem? (i := 458) (by decide +kernel)
theorem ml_L_40 : Cond.methodLink RL 40 yX11_rule ∈ lw_tbl := List.mem_of_getElem? (i := 1248) (by decide +kernel)
theorem ml_L_32 : Cond.methodLink RL 32 yX10_mend ∈ lw_tbl := List.mem_of_getElem? (i := 423) (by decide +kernel)
theorem ml_L_35 : Cond.methodLink RL 35 yX11_mend ∈ lw_tbl := List.mem_of_getElem? (i := 1225) (by decide +kernel)
theorem ml_L_27 : Cond.methodLink RL 27 yX10_matter ∈ lw_tbl := List.mem_of_getElem? (i := 411) (by decide +kernel)
theorem ml_L_31 : Cond.methodLink RL 31 yX11_matter ∈ lw_tbl := List.mem_of_getElem? (i := 1221) (by decide +kernel)
theorem ml_L_23 : Cond.methodLink RL 23 yX10_cousins ∈ lw_tbl := List.mem_of_getElem? (i := 388) (by decide +kernel)
theorem ml_L_26 : Cond.methodLink RL 26 yX11_cousins ∈ lw_tbl := List.mem_of_getElem? (i := 1210) (by decide +kernel)
theorem ml_L_18 : Cond.methodLink RL 18 yX10_people ∈ lw_tbl := List.mem_of_getElem? (i := 362) (by decide +kernel)
theorem ml_L_22 : Cond.methodLink RL 22 yX11_people ∈ lw_tbl := List.mem_of_getElem? (i := 1201) (by decide +kernel)
theorem ml_L_13 : Cond.methodLink RL 13 yX10_person ∈ lw_tbl := List.mem_of_getElem? (i := 351) (by decide +kernel)
theorem ml_L_17 : Cond.methodLink RL 17 yX11_person ∈ lw_tbl := List.mem_of_getElem? (i := 1193) (by decide +kernel)
theorem ml_M_97 : Cond.methodLink RX11 97 yX11_within ∈ lw_tbl := List.mem_of_getElem? (i := 1198) (by decide +kernel)
theorem zf_M_94 : zFL RX11 94 11 6 := ⟨by decide, by decide, rfl, Or.inl (List.mem_of_getElem? (i := 1063) (by decide +kernel))⟩
theorem zf_M_22 : zFL RX11 22 11 8 := ⟨by decide, by decide, rfl, Or.inl (List.mem_of_getElem? (i := 1065) (by decide +kernel))⟩
theorem ml_X_87 : Cond.methodLink RX10 87 yX10_isFee ∈ lw_tbl := List.mem_of_getElem? (i := 355) (by decide +kernel)
theorem zf_X_10 : zFL RX10 10 10 0 := ⟨by decide, by decide, rfl, Or.inl (List.mem_of_getElem? (i := 320) (by decide +kernel))⟩
theorem ml_X_91 : Cond.methodLink RX10 91 yX3_addPerson ∈ lw_tbl := List.mem_of_getElem? (i := 358) (by decide +kernel)
theorem zf_Council_28 : zFL RX3 28 3 3 := ⟨by decide, by decide, rfl, Or.inl (List.mem_of_getElem? (i := 102) (by decide +kernel))⟩
theorem zf_Council_9 : zFL RX3 9 3 0 := ⟨by decide, by decide, rfl, Or.inl (List.mem_of_getElem? (i := 99) (by decide +kernel))⟩
theorem ml_M_113 : Cond.methodLink RX11 113 yX11_isShelf ∈ lw_tbl := List.mem_of_getElem? (i := 1205) (by decide +kernel)
theorem zf_M_65 : zFL RX11 65 11 38 := ⟨by decide, by decide, rfl, Or.inl (List.mem_of_getElem? (i := 1095) (by decide +kernel))⟩
theorem zf_M_68 : zFL RX11 68 11 39 := ⟨by decide, by decide, rfl, Or.inl (List.mem_of_getElem? (i := 1096) (by decide +kernel))⟩
theorem zf_M_71 : zFL RX11 71 11 40 := ⟨by decide, by decide, rfl, Or.inl (List.mem_of_getElem? (i := 1097) (by decide +kernel))⟩
theorem zf_X_60 : zFL RX10 60 10 6 := ⟨by decide, by decide, rfl, Or.inl (List.mem_of_getElem? (i := 326) (by decide +kernel))⟩
theorem ml_X_95 : Cond.methodLink RX10 95 yX7_isShelf ∈ lw_tbl := List.mem_of_getElem? (i := 366) (by decide +kernel)
theorem ml_X_98 : Cond.methodLink RX10 98 yX7_held ∈ lw_tbl := List.mem_of_getElem? (i := 370) (by decide +kernel)
theorem ml_X_101 : Cond.methodLink RX10 101 yX10_comesFrom ∈ lw_tbl := List.mem_of_getElem? (i := 375) (by decide +kernel)
theorem ml_X_105 : Cond.methodLink RX10 105 yX7_hasPlace ∈ lw_tbl := List.mem_of_getElem? (i := 379) (by decide +kernel)
theorem ml_X_108 : Cond.methodLink RX10 108 yX7_valueAt ∈ lw_tbl := List.mem_of_getElem? (i := 383) (by decide +kernel)
theorem ml_Shelves_32 : Cond.methodLink RX7 32 yX7_hasPlace ∈ lw_tbl := List.mem_of_getElem? (i := 387) (by decide +kernel)
theorem zf_Shelves_21 : zFL RX7 21 7 3 := ⟨by decide, by decide, rfl, Or.inl (List.mem_of_getElem? (i := 258) (by decide +kernel))⟩
theorem zf_Shelves_15 : zFL RX7 15 7 1 := ⟨by decide, by decide, rfl, Or.inl (List.mem_of_getElem? (i := 256) (by decide +kernel))⟩
theorem ml_Shelves_25 : Cond.methodLink RX7 25 yX7_isShelf ∈ lw_tbl := List.mem_of_getElem? (i := 374) (by decide +kernel)
theorem zf_Shelves_11 : zFL RX7 11 7 0 := ⟨by decide, by decide, rfl, Or.inl (List.mem_of_getElem? (i := 255) (by decide +kernel))⟩
theorem ml_M_104 : Cond.methodLink RX11 104 yX11_isPerson ∈ lw_tbl := List.mem_of_getElem? (i := 1214) (by decide +kernel)
theorem zf_M_25 : zFL RX11 25 11 10 := ⟨by decide, by decide, rfl, Or.inl (List.mem_of_getElem? (i := 1067) (by decide +kernel))⟩
theorem ml_M_118 : Cond.methodLink RX11 118 yX11_isIn ∈ lw_tbl := List.mem_of_getElem? (i := 1218) (by decide +kernel)
theorem zf_M_122 : zFL RX11 122 11 9 := ⟨by decide, by decide, rfl, Or.inl (List.mem_of_getElem? (i := 1066) (by decide +kernel))⟩
theorem ml_X_112 : Cond.methodLink RX10 112 yX3_isTwo ∈ lw_tbl := List.mem_of_getElem? (i := 392) (by decide +kernel)
theorem ml_X_115 : Cond.methodLink RX10 115 yX3_addPair ∈ lw_tbl := List.mem_of_getElem? (i := 400) (by decide +kernel)
theorem ml_Council_45 : Cond.methodLink RX3 45 yX3_stepsOf ∈ lw_tbl := List.mem_of_getElem? (i := 404) (by decide +kernel)
theorem zf_Council_49 : zFL RX3 49 3 4 := ⟨by decide, by decide, rfl, Or.inl (List.mem_of_getElem? (i := 106) (by decide +kernel))⟩
theorem zf_Council_15 : zFL RX3 15 3 1 := ⟨by decide, by decide, rfl, Or.inl (List.mem_of_getElem? (i := 100) (by decide +kernel))⟩
theorem ml_Council_52 : Cond.methodLink RX3 52 Lib.Math.min.name ∈ lw_tbl := List.mem_of_getElem? (i := 408) (by decide +kernel)
theorem ml_Council_34 : Cond.methodLink RX3 34 yX3_isPerson ∈ lw_tbl := List.mem_of_getElem? (i := 396) (by decide +kernel)
theorem zf_M_101 : zFL RX11 101 11 7 := ⟨by decide, by decide, rfl, Or.inl (List.mem_of_getElem? (i := 1064) (by decide +kernel))⟩
theorem zf_M_9 : zFL RX11 9 11 0 := ⟨by decide, by decide, rfl, Or.inl (List.mem_of_getElem? (i := 1057) (by decide +kernel))⟩
theorem ml_X_119 : Cond.methodLink RX10 119 yX3_addMatter ∈ lw_tbl := List.mem_of_getElem? (i := 415) (by decide +kernel)
theorem zf_Council_31 : zFL RX3 31 3 5 := ⟨by decide, by decide, rfl, Or.inl (List.mem_of_getElem? (i := 108) (by decide +kernel))⟩
theorem ml_Council_57 : Cond.methodLink RX3 57 yX3_tell ∈ lw_tbl := List.mem_of_getElem? (i := 419) (by decide +kernel)
theorem zf_Council_18 : zFL RX3 18 3 2 := ⟨by decide, by decide, rfl, Or.inl (List.mem_of_getElem? (i := 101) (by decide +kernel))⟩
theorem ml_M_108 : Cond.methodLink RX11 108 yX11_isMatter ∈ lw_tbl := List.mem_of_getElem? (i := 1233) (by decide +kernel)
theorem ml_M_132 : Cond.methodLink RX11 132 yX11_becomes ∈ lw_tbl := List.mem_of_getElem? (i := 1240) (by decide +kernel)
theorem ml_M_125 : Cond.methodLink RX11 125 yX11_isPm ∈ lw_tbl := List.mem_of_getElem? (i := 1229) (by decide +kernel)
theorem ml_M_128 : Cond.methodLink RX11 128 yX11_placeOf ∈ lw_tbl := List.mem_of_getElem? (i := 1237) (by decide +kernel)
theorem zf_M_88 : zFL RX11 88 11 5 := ⟨by decide, by decide, rfl, Or.inl (List.mem_of_getElem? (i := 1062) (by decide +kernel))⟩
theorem zf_M_13 : zFL RX11 13 11 1 := ⟨by decide, by decide, rfl, Or.inl (List.mem_of_getElem? (i := 1058) (by decide +kernel))⟩
theorem zf_M_16 : zFL RX11 16 11 2 := ⟨by decide, by decide, rfl, Or.inl (List.mem_of_getElem? (i := 1059) (by decide +kernel))⟩
theorem zf_M_19 : zFL RX11 19 11 3 := ⟨by decide, by decide, rfl, Or.inl (List.mem_of_getElem? (i := 1060) (by decide +kernel))⟩
theorem zf_M_91 : zFL RX11 91 11 4 := ⟨by decide, by decide, rfl, Or.inl (List.mem_of_getElem? (i := 1061) (by decide +kernel))⟩
theorem ml_X_123 : Cond.methodLink RX10 123 yX3_slotOf ∈ lw_tbl := List.mem_of_getElem? (i := 427) (by decide +kernel)
theorem ml_X_126 : Cond.methodLink RX10 126 yX3_leastOf ∈ lw_tbl := List.mem_of_getElem? (i := 435) (by decide +kernel)
theorem ml_X_129 : Cond.methodLink RX10 129 yX3_mostOf ∈ lw_tbl := List.mem_of_getElem? (i := 438) (by decide +kernel)
theorem zf_X_21 : zFL RX10 21 10 1 := ⟨by decide, by decide, rfl, Or.inl (List.mem_of_getElem? (i := 321) (by decide +kernel))⟩
theorem ml_X_133 : Cond.methodLink RX10 133 yX1_make ∈ lw_tbl := List.mem_of_getElem? (i := 442) (by decide +kernel)
theorem zf_Changes_19 : zFL RX1 19 1 0 := ⟨by decide, by decide, rfl, Or.inl (List.mem_of_getElem? (i := 141) (by decide +kernel))⟩
theorem ml_Changes_23 : Cond.methodLink RX1 23 yX3_toldAt ∈ lw_tbl := List.mem_of_getElem? (i := 446) (by decide +kernel)
theorem ml_Changes_29 : Cond.methodLink RX1 29 yX3_tell ∈ lw_tbl := List.mem_of_getElem? (i := 450) (by decide +kernel)
theorem zf_Changes_33 : zFL RX1 33 1 4 := ⟨by decide, by decide, rfl, Or.inl (List.mem_of_getElem? (i := 145) (by decide +kernel))⟩
theorem zf_Changes_9 : zFL RX1 9 1 1 := ⟨by decide, by decide, rfl, Or.inl (List.mem_of_getElem? (i := 142) (by decide +kernel))⟩
theorem zf_Changes_13 : zFL RX1 13 1 2 := ⟨by decide, by decide, rfl, Or.inl (List.mem_of_getElem? (i := 143) (by decide +kernel))⟩
theorem zf_Changes_16 : zFL RX1 16 1 3 := ⟨by decide, by decide, rfl, Or.inl (List.mem_of_getElem? (i := 144) (by decide +kernel))⟩
theorem zf_Changes_40 : zFL RX1 40 1 5 := ⟨by decide, by decide, rfl, Or.inl (List.mem_of_getElem? (i := 146) (by decide +kernel))⟩
theorem ml_Changes_37 : Cond.methodLink RX1 37 yX1_forgetOldest ∈ lw_tbl := List.mem_of_getElem? (i := 451) (by decide +kernel)
theorem ml_Changes_43 : Cond.methodLink RX1 43 arraycopyName ∈ lw_tbl := List.mem_of_getElem? (i := 455) (by decide +kernel)
theorem ml_Council_61 : Cond.methodLink RX3 61 yX3_isMatter ∈ lw_tbl := List.mem_of_getElem? (i := 431) (by decide +kernel)
theorem zf_M_85 : zFL RX11 85 11 12 := ⟨by decide, by decide, rfl, Or.inl (List.mem_of_getElem? (i := 1069) (by decide +kernel))⟩
theorem zf_M_82 : zFL RX11 82 11 11 := ⟨by decide, by decide, rfl, Or.inl (List.mem_of_getElem? (i := 1068) (by decide +kernel))⟩
theorem zf_X_140 : zFL RX10 140 3 7 := ⟨by decide, by decide, rfl, Or.inr ⟨"VotesUntouched", List.mem_of_getElem? (i := 115) (by decide +kernel)⟩⟩
theorem zf_X_136 : zFL RX10 136 3 6 := ⟨by decide, by decide, rfl, Or.inr ⟨"VotesUntouched", List.mem_of_getElem? (i := 113) (by decide +kernel)⟩⟩
theorem ml_M_144 : Cond.methodLink RX11 144 yX11_stepsTo ∈ lw_tbl := List.mem_of_getElem? (i := 1257) (by decide +kernel)
theorem ml_X_152 : Cond.methodLink RX10 152 yX3_stepsOf ∈ lw_tbl := List.mem_of_getElem? (i := 476) (by decide +kernel)
theorem ml_X_143 : Cond.methodLink RX10 143 yX10_toldOrVoid ∈ lw_tbl := List.mem_of_getElem? (i := 466) (by decide +kernel)
theorem ml_X_146 : Cond.methodLink RX10 146 yX3_isPerson ∈ lw_tbl := List.mem_of_getElem? (i := 471) (by decide +kernel)
theorem ml_X_149 : Cond.methodLink RX10 149 yX3_feeOf ∈ lw_tbl := List.mem_of_getElem? (i := 472) (by decide +kernel)
theorem ml_X_155 : Cond.methodLink RX10 155 yX3_toldAt ∈ lw_tbl := List.mem_of_getElem? (i := 470) (by decide +kernel)
theorem zf_M_149 : zFL RX11 149 11 14 := ⟨by decide, by decide, rfl, Or.inl (List.mem_of_getElem? (i := 1071) (by decide +kernel))⟩
theorem zf_M_28 : zFL RX11 28 11 13 := ⟨by decide, by decide, rfl, Or.inl (List.mem_of_getElem? (i := 1070) (by decide +kernel))⟩
theorem zf_X_28 : zFL RX10 28 10 2 := ⟨by decide, by decide, rfl, Or.inl (List.mem_of_getElem? (i := 322) (by decide +kernel))⟩
theorem ml_X_158 : Cond.methodLink RX10 158 yX6_take ∈ lw_tbl := List.mem_of_getElem? (i := 481) (by decide +kernel)
theorem zf_Reader_22 : zFL RX6 22 6 2 := ⟨by decide, by decide, rfl, Or.inl (List.mem_of_getElem? (i := 188) (by decide +kernel))⟩
theorem zf_Reader_11 : zFL RX6 11 6 0 := ⟨by decide, by decide, rfl, Or.inl (List.mem_of_getElem? (i := 185) (by decide +kernel))⟩
theorem ml_M_199 : Cond.methodLink RX11 199 yX11_workOut ∈ lw_tbl := List.mem_of_getElem? (i := 1270) (by decide +kernel)
theorem zf_M_161 : zFL RX11 161 11 20 := ⟨by decide, by decide, rfl, Or.inl (List.mem_of_getElem? (i := 1077) (by decide +kernel))⟩
theorem zf_M_78 : zFL RX11 78 11 16 := ⟨by decide, by decide, rfl, Or.inl (List.mem_of_getElem? (i := 1073) (by decide +kernel))⟩
theorem zf_M_31 : zFL RX11 31 11 15 := ⟨by decide, by decide, rfl, Or.inl (List.mem_of_getElem? (i := 1072) (by decide +kernel))⟩
theorem zf_M_158 : zFL RX11 158 11 17 := ⟨by decide, by decide, rfl, Or.inl (List.mem_of_getElem? (i := 1074) (by decide +kernel))⟩
theorem zf_M_152 : zFL RX11 152 11 18 := ⟨by decide, by decide, rfl, Or.inl (List.mem_of_getElem? (i := 1075) (by decide +kernel))⟩
theorem zf_M_155 : zFL RX11 155 11 19 := ⟨by decide, by decide, rfl, Or.inl (List.mem_of_getElem? (i := 1076) (by decide +kernel))⟩
theorem zf_M_186 : zFL RX11 186 11 21 := ⟨by decide, by decide, rfl, Or.inl (List.mem_of_getElem? (i := 1078) (by decide +kernel))⟩
theorem ml_M_189 : Cond.methodLink RX11 189 yX11_wrong ∈ lw_tbl := List.mem_of_getElem? (i := 1302) (by decide +kernel)
theorem ml_M_192 : Cond.methodLink RX11 192 yX11_either ∈ lw_tbl := List.mem_of_getElem? (i := 1274) (by decide +kernel)
theorem ml_M_171 : Cond.methodLink RX11 171 yX11_takes ∈ lw_tbl := List.mem_of_getElem? (i := 1306) (by decide +kernel)
theorem ml_M_168 : Cond.methodLink RX11 168 yX11_both ∈ lw_tbl := List.mem_of_getElem? (i := 1278) (by decide +kernel)
theorem ml_M_174 : Cond.methodLink RX11 174 yX11_compared ∈ lw_tbl := List.mem_of_getElem? (i := 1282) (by decide +kernel)
theorem ml_M_177 : Cond.methodLink RX11 177 yX11_sums ∈ lw_tbl := List.mem_of_getElem? (i := 1286) (by decide +kernel)
theorem ml_M_164 : Cond.methodLink RX11 164 yX11_byteAt ∈ lw_tbl := List.mem_of_getElem? (i := 1298) (by decide +kernel)
theorem ml_M_180 : Cond.methodLink RX11 180 yX11_product ∈ lw_tbl := List.mem_of_getElem? (i := 1290) (by decide +kernel)
theorem ml_M_183 : Cond.methodLink RX11 183 yX11_one ∈ lw_tbl := List.mem_of_getElem? (i := 1294) (by decide +kernel)
theorem ml_M_195 : Cond.methodLink RX11 195 yX11_nameOf ∈ lw_tbl := List.mem_of_getElem? (i := 1310) (by decide +kernel)
theorem zf_M_34 : zFL RX11 34 11 22 := ⟨by decide, by decide, rfl, Or.inl (List.mem_of_getElem? (i := 1079) (by decide +kernel))⟩
theorem ml_X_161 : Cond.methodLink RX10 161 yX6_read ∈ lw_tbl := List.mem_of_getElem? (i := 489) (by decide +kernel)
theorem zf_X_35 : zFL RX10 35 10 3 := ⟨by decide, by decide, rfl, Or.inl (List.mem_of_getElem? (i := 323) (by decide +kernel))⟩
theorem zf_X_164 : zFL RX10 164 6 1 := ⟨by decide, by decide, rfl, Or.inr ⟨"VotesUntouched", List.mem_of_getElem? (i := 187) (by decide +kernel)⟩⟩
theorem ml_X_167 : Cond.methodLink RX10 167 yX2_becomes ∈ lw_tbl := List.mem_of_getElem? (i := 534) (by decide +kernel)
theorem zf_Code_19 : zFL RX2 19 2 3 := ⟨by decide, by decide, rfl, Or.inl (List.mem_of_getElem? (i := 175) (by decide +kernel))⟩
theorem zf_Code_9 : zFL RX2 9 2 0 := ⟨by decide, by decide, rfl, Or.inl (List.mem_of_getElem? (i := 172) (by decide +kernel))⟩
theorem ml_Code_23 : Cond.methodLink RX2 23 arraycopyName ∈ lw_tbl := List.mem_of_getElem? (i := 538) (by decide +kernel)
theorem zf_Code_13 : zFL RX2 13 2 1 := ⟨by decide, by decide, rfl, Or.inl (List.mem_of_getElem? (i := 173) (by decide +kernel))⟩
theorem zf_Reader_26 : zFL RX6 26 6 3 := ⟨by decide, by decide, rfl, Or.inl (List.mem_of_getElem? (i := 190) (by decide +kernel))⟩
theorem zf_Reader_18 : zFL RX6 18 6 1 := ⟨by decide, by decide, rfl, Or.inl (List.mem_of_getElem? (i := 186) (by decide +kernel))⟩
theorem ml_Reader_29 : Cond.methodLink RX6 29 yX2_empty ∈ lw_tbl := List.mem_of_getElem? (i := 493) (by decide +kernel)
theorem ml_Reader_32 : Cond.methodLink RX6 32 yX6_readLine ∈ lw_tbl := List.mem_of_getElem? (i := 497) (by decide +kernel)
theorem ml_Reader_36 : Cond.methodLink RX6 36 yX6_next ∈ lw_tbl := List.mem_of_getElem? (i := 509) (by decide +kernel)
theorem ml_Reader_40 : Cond.methodLink RX6 40 yX6_readChain ∈ lw_tbl := List.mem_of_getElem? (i := 501) (by decide +kernel)
theorem ml_Reader_44 : Cond.methodLink RX6 44 yX2_add ∈ lw_tbl := List.mem_of_getElem? (i := 517) (by decide +kernel)
theorem ml_Reader_52 : Cond.methodLink RX6 52 yX6_levelOf ∈ lw_tbl := List.mem_of_getElem? (i := 531) (by decide +kernel)
theorem ml_Reader_48 : Cond.methodLink RX6 48 yX6_readOperand ∈ lw_tbl := List.mem_of_getElem? (i := 505) (by decide +kernel)
theorem ml_Reader_56 : Cond.methodLink RX6 56 yX6_readOpened ∈ lw_tbl := List.mem_of_getElem? (i := 513) (by decide +kernel)
theorem ml_Reader_59 : Cond.methodLink RX6 59 yX6_isDigit ∈ lw_tbl := List.mem_of_getElem? (i := 521) (by decide +kernel)
theorem ml_Reader_65 : Cond.methodLink RX6 65 yX6_nameOf ∈ lw_tbl := List.mem_of_getElem? (i := 528) (by decide +kernel)
theorem ml_Reader_62 : Cond.methodLink RX6 62 yX6_readNumber ∈ lw_tbl := List.mem_of_getElem? (i := 524) (by decide +kernel)
theorem ml_M_232 : Cond.methodLink RX11 232 yX11_isBundle ∈ lw_tbl := List.mem_of_getElem? (i := 1317) (by decide +kernel)
theorem ml_M_235 : Cond.methodLink RX11 235 yX11_areGifts ∈ lw_tbl := List.mem_of_getElem? (i := 1321) (by decide +kernel)
theorem ml_M_226 : Cond.methodLink RX11 226 yX11_asks ∈ lw_tbl := List.mem_of_getElem? (i := 1325) (by decide +kernel)
theorem zf_M_212 : zFL RX11 212 11 25 := ⟨by decide, by decide, rfl, Or.inl (List.mem_of_getElem? (i := 1082) (by decide +kernel))⟩
theorem ml_M_208 : Cond.methodLink RX11 208 yX11_touches ∈ lw_tbl := List.mem_of_getElem? (i := 1329) (by decide +kernel)
theorem ml_M_215 : Cond.methodLink RX11 215 yX11_mayVote ∈ lw_tbl := List.mem_of_getElem? (i := 1333) (by decide +kernel)
theorem ml_M_202 : Cond.methodLink RX11 202 yX11_nearOf ∈ lw_tbl := List.mem_of_getElem? (i := 1337) (by decide +kernel)
theorem zf_M_37 : zFL RX11 37 11 23 := ⟨by decide, by decide, rfl, Or.inl (List.mem_of_getElem? (i := 1080) (by decide +kernel))⟩
theorem zf_M_40 : zFL RX11 40 11 24 := ⟨by decide, by decide, rfl, Or.inl (List.mem_of_getElem? (i := 1081) (by decide +kernel))⟩
theorem ml_M_205 : Cond.methodLink RX11 205 yX11_bitsOf ∈ lw_tbl := List.mem_of_getElem? (i := 1341) (by decide +kernel)
theorem ml_X_171 : Cond.methodLink RX10 171 yX10_isPut ∈ lw_tbl := List.mem_of_getElem? (i := 543) (by decide +kernel)
theorem zf_X_44 : zFL RX10 44 10 4 := ⟨by decide, by decide, rfl, Or.inl (List.mem_of_getElem? (i := 324) (by decide +kernel))⟩
theorem ml_X_174 : Cond.methodLink RX10 174 yX0_whoMay ∈ lw_tbl := List.mem_of_getElem? (i := 563) (by decide +kernel)
theorem ml_Ballot_26 : Cond.methodLink RX0 26 yX0_weigh ∈ lw_tbl := List.mem_of_getElem? (i := 567) (by decide +kernel)
theorem zf_Ballot_18 : zFL RX0 18 0 0 := ⟨by decide, by decide, rfl, Or.inl (List.mem_of_getElem? (i := 208) (by decide +kernel))⟩
theorem zf_Ballot_30 : zFL RX0 30 3 3 := ⟨by decide, by decide, rfl, Or.inr ⟨"VotesUntouched", List.mem_of_getElem? (i := 103) (by decide +kernel)⟩⟩
theorem zf_Ballot_22 : zFL RX0 22 0 1 := ⟨by decide, by decide, rfl, Or.inl (List.mem_of_getElem? (i := 209) (by decide +kernel))⟩
theorem ml_Ballot_36 : Cond.methodLink RX0 36 yX2_isEmpty ∈ lw_tbl := List.mem_of_getElem? (i := 576) (by decide +kernel)
theorem ml_Ballot_49 : Cond.methodLink RX0 49 yX0_isAllowed ∈ lw_tbl := List.mem_of_getElem? (i := 590) (by decide +kernel)
theorem zf_Ballot_42 : zFL RX0 42 3 6 := ⟨by decide, by decide, rfl, Or.inr ⟨"VotesUntouched", List.mem_of_getElem? (i := 112) (by decide +kernel)⟩⟩
theorem ml_Ballot_45 : Cond.methodLink RX0 45 yX0_isFree ∈ lw_tbl := List.mem_of_getElem? (i := 580) (by decide +kernel)
theorem zf_Ballot_53 : zFL RX0 53 0 4 := ⟨by decide, by decide, rfl, Or.inl (List.mem_of_getElem? (i := 212) (by decide +kernel))⟩
theorem ml_Ballot_60 : Cond.methodLink RX0 60 yX0_nearOf ∈ lw_tbl := List.mem_of_getElem? (i := 584) (by decide +kernel)
theorem ml_Ballot_73 : Cond.methodLink RX0 73 yX3_stepsOf ∈ lw_tbl := List.mem_of_getElem? (i := 588) (by decide +kernel)
theorem ml_Ballot_77 : Cond.methodLink RX0 77 Lib.Math.min.name ∈ lw_tbl := List.mem_of_getElem? (i := 589) (by decide +kernel)
theorem zf_Ballot_15 : zFL RX0 15 0 3 := ⟨by decide, by decide, rfl, Or.inl (List.mem_of_getElem? (i := 211) (by decide +kernel))⟩
theorem zf_Ballot_9 : zFL RX0 9 0 2 := ⟨by decide, by decide, rfl, Or.inl (List.mem_of_getElem? (i := 210) (by decide +kernel))⟩
theorem ml_Ballot_56 : Cond.methodLink RX0 56 yX3_sumOf ∈ lw_tbl := List.mem_of_getElem? (i := 571) (by decide +kernel)
theorem ml_Ballot_64 : Cond.methodLink RX0 64 yJ6_bitCount_0f7a4 ∈ lw_tbl := List.mem_of_getElem? (i := 594) (by decide +kernel)
theorem ml_Ballot_69 : Cond.methodLink RX0 69 yX2_worth ∈ lw_tbl := List.mem_of_getElem? (i := 600) (by decide +kernel)
theorem zf_Code_16 : zFL RX2 16 2 2 := ⟨by decide, by decide, rfl, Or.inl (List.mem_of_getElem? (i := 174) (by decide +kernel))⟩
theorem ml_Code_29 : Cond.methodLink RX2 29 yX2_named ∈ lw_tbl := List.mem_of_getElem? (i := 604) (by decide +kernel)
theorem ml_Code_33 : Cond.methodLink RX2 33 yX2_needOf ∈ lw_tbl := List.mem_of_getElem? (i := 607) (by decide +kernel)
theorem ml_Code_37 : Cond.methodLink RX2 37 yX2_joined ∈ lw_tbl := List.mem_of_getElem? (i := 610) (by decide +kernel)
theorem ml_Council_64 : Cond.methodLink RX3 64 yX3_toldAt ∈ lw_tbl := List.mem_of_getElem? (i := 575) (by decide +kernel)
theorem ml_X_187 : Cond.methodLink RX10 187 yX3_isBundle ∈ lw_tbl := List.mem_of_getElem? (i := 547) (by decide +kernel)
theorem ml_X_190 : Cond.methodLink RX10 190 yX3_isGifts ∈ lw_tbl := List.mem_of_getElem? (i := 555) (by decide +kernel)
theorem ml_Council_42 : Cond.methodLink RX3 42 yX3_everybody ∈ lw_tbl := List.mem_of_getElem? (i := 559) (by decide +kernel)
theorem ml_Council_38 : Cond.methodLink RX3 38 yX3_everything ∈ lw_tbl := List.mem_of_getElem? (i := 551) (by decide +kernel)
theorem ml_M_240 : Cond.methodLink RX11 240 yX11_isCarried ∈ lw_tbl := List.mem_of_getElem? (i := 1349) (by decide +kernel)
theorem ml_M_219 : Cond.methodLink RX11 219 yX11_sideOf ∈ lw_tbl := List.mem_of_getElem? (i := 1361) (by decide +kernel)
theorem ml_M_229 : Cond.methodLink RX11 229 yX11_isCarriedBy ∈ lw_tbl := List.mem_of_getElem? (i := 1353) (by decide +kernel)
theorem ml_M_223 : Cond.methodLink RX11 223 yX11_isMore ∈ lw_tbl := List.mem_of_getElem? (i := 1357) (by decide +kernel)
theorem ml_X_184 : Cond.methodLink RX10 184 yX0_isCarried ∈ lw_tbl := List.mem_of_getElem? (i := 629) (by decide +kernel)
theorem ml_X_181 : Cond.methodLink RX10 181 yX0_foes ∈ lw_tbl := List.mem_of_getElem? (i := 625) (by decide +kernel)
theorem ml_X_178 : Cond.methodLink RX10 178 yX0_fans ∈ lw_tbl := List.mem_of_getElem? (i := 617) (by decide +kernel)
theorem ml_Ballot_82 : Cond.methodLink RX0 82 yX0_whoLeans ∈ lw_tbl := List.mem_of_getElem? (i := 621) (by decide +kernel)
theorem ml_Ballot_85 : Cond.methodLink RX0 85 yX0_whoMay ∈ lw_tbl := List.mem_of_getElem? (i := 633) (by decide +kernel)
theorem ml_Ballot_88 : Cond.methodLink RX0 88 yX0_fans ∈ lw_tbl := List.mem_of_getElem? (i := 634) (by decide +kernel)
theorem ml_Ballot_91 : Cond.methodLink RX0 91 yX0_foes ∈ lw_tbl := List.mem_of_getElem? (i := 635) (by decide +kernel)
theorem ml_Ballot_94 : Cond.methodLink RX0 94 yX0_isCarriedBy ∈ lw_tbl := List.mem_of_getElem? (i := 636) (by decide +kernel)
theorem zf_Ballot_97 : zFL RX0 97 3 7 := ⟨by decide, by decide, rfl, Or.inr ⟨"VotesUntouched", List.mem_of_getElem? (i := 116) (by decide +kernel)⟩⟩
theorem ml_Ballot_100 : Cond.methodLink RX0 100 yX0_isMore ∈ lw_tbl := List.mem_of_getElem? (i := 640) (by decide +kernel)
theorem ml_X_193 : Cond.methodLink RX10 193 yX3_isMatter ∈ lw_tbl := List.mem_of_getElem? (i := 647) (by decide +kernel)
theorem zf_X_53 : zFL RX10 53 10 5 := ⟨by decide, by decide, rfl, Or.inl (List.mem_of_getElem? (i := 325) (by decide +kernel))⟩
theorem ml_X_196 : Cond.methodLink RX10 196 yX5_smallestCarriedWith ∈ lw_tbl := List.mem_of_getElem? (i := 648) (by decide +kernel)
theorem zf_Finder_24 : zFL RX5 24 5 0 := ⟨by decide, by decide, rfl, Or.inl (List.mem_of_getElem? (i := 230) (by decide +kernel))⟩
theorem ml_Finder_32 : Cond.methodLink RX5 32 yX3_everything ∈ lw_tbl := List.mem_of_getElem? (i := 652) (by decide +kernel)
theorem ml_Finder_38 : Cond.methodLink RX5 38 yX5_isFewer ∈ lw_tbl := List.mem_of_getElem? (i := 653) (by decide +kernel)
theorem zf_Finder_28 : zFL RX5 28 5 1 := ⟨by decide, by decide, rfl, Or.inl (List.mem_of_getElem? (i := 231) (by decide +kernel))⟩
theorem ml_Finder_42 : Cond.methodLink RX5 42 yX0_isCarried ∈ lw_tbl := List.mem_of_getElem? (i := 657) (by decide +kernel)
theorem ml_Finder_47 : Cond.methodLink RX5 47 yJ6_bitCount_0f7a4 ∈ lw_tbl := List.mem_of_getElem? (i := 656) (by decide +kernel)
theorem ml_M_243 : Cond.methodLink RX11 243 yX11_feesOf ∈ lw_tbl := List.mem_of_getElem? (i := 1373) (by decide +kernel)
theorem ml_X_199 : Cond.methodLink RX10 199 yX5_cheapestGifts ∈ lw_tbl := List.mem_of_getElem? (i := 662) (by decide +kernel)
theorem ml_X_202 : Cond.methodLink RX10 202 yX3_feesOf ∈ lw_tbl := List.mem_of_getElem? (i := 675) (by decide +kernel)
theorem ml_Finder_53 : Cond.methodLink RX5 53 yX3_everybody ∈ lw_tbl := List.mem_of_getElem? (i := 666) (by decide +kernel)
theorem ml_Finder_56 : Cond.methodLink RX5 56 yX5_isCheaper ∈ lw_tbl := List.mem_of_getElem? (i := 667) (by decide +kernel)
theorem ml_Finder_59 : Cond.methodLink RX5 59 yX3_feesOf ∈ lw_tbl := List.mem_of_getElem? (i := 671) (by decide +kernel)
theorem ml_X_205 : Cond.methodLink RX10 205 yX5_fewestLeftOut ∈ lw_tbl := List.mem_of_getElem? (i := 680) (by decide +kernel)
theorem ml_Finder_62 : Cond.methodLink RX5 62 yX0_whoMay ∈ lw_tbl := List.mem_of_getElem? (i := 684) (by decide +kernel)
theorem ml_X_208 : Cond.methodLink RX10 208 yX5_carriedAlone ∈ lw_tbl := List.mem_of_getElem? (i := 689) (by decide +kernel)
theorem zf_Finder_66 : zFL RX5 66 3 5 := ⟨by decide, by decide, rfl, Or.inr ⟨"VotesUntouched", List.mem_of_getElem? (i := 109) (by decide +kernel)⟩⟩
theorem ml_M_246 : Cond.methodLink RX11 246 yX11_parts ∈ lw_tbl := List.mem_of_getElem? (i := 1389) (by decide +kernel)
theorem zf_M_50 : zFL RX11 50 11 28 := ⟨by decide, by decide, rfl, Or.inl (List.mem_of_getElem? (i := 1085) (by decide +kernel))⟩
theorem zf_M_47 : zFL RX11 47 11 27 := ⟨by decide, by decide, rfl, Or.inl (List.mem_of_getElem? (i := 1084) (by decide +kernel))⟩
theorem zf_M_43 : zFL RX11 43 11 26 := ⟨by decide, by decide, rfl, Or.inl (List.mem_of_getElem? (i := 1083) (by decide +kernel))⟩
theorem ml_X_211 : Cond.methodLink RX10 211 yX5_part ∈ lw_tbl := List.mem_of_getElem? (i := 697) (by decide +kernel)
theorem ml_X_217 : Cond.methodLink RX10 217 yX5_partOf ∈ lw_tbl := List.mem_of_getElem? (i := 705) (by decide +kernel)
theorem ml_X_214 : Cond.methodLink RX10 214 yX5_mostCarried ∈ lw_tbl := List.mem_of_getElem? (i := 701) (by decide +kernel)
theorem zf_Finder_15 : zFL RX5 15 5 3 := ⟨by decide, by decide, rfl, Or.inl (List.mem_of_getElem? (i := 233) (by decide +kernel))⟩
theorem zf_Finder_18 : zFL RX5 18 5 4 := ⟨by decide, by decide, rfl, Or.inl (List.mem_of_getElem? (i := 234) (by decide +kernel))⟩
theorem zf_Finder_21 : zFL RX5 21 5 5 := ⟨by decide, by decide, rfl, Or.inl (List.mem_of_getElem? (i := 235) (by decide +kernel))⟩
theorem ml_M_249 : Cond.methodLink RX11 249 yX11_sayOf ∈ lw_tbl := List.mem_of_getElem? (i := 1397) (by decide +kernel)
theorem ml_X_223 : Cond.methodLink RX10 223 yX5_powerOf ∈ lw_tbl := List.mem_of_getElem? (i := 721) (by decide +kernel)
theorem ml_X_220 : Cond.methodLink RX10 220 yX5_sayOf ∈ lw_tbl := List.mem_of_getElem? (i := 713) (by decide +kernel)
theorem ml_Finder_70 : Cond.methodLink RX5 70 yX5_countSays ∈ lw_tbl := List.mem_of_getElem? (i := 717) (by decide +kernel)
theorem zf_Finder_9 : zFL RX5 9 5 2 := ⟨by decide, by decide, rfl, Or.inl (List.mem_of_getElem? (i := 232) (by decide +kernel))⟩
theorem ml_Finder_73 : Cond.methodLink RX5 73 yX0_fans ∈ lw_tbl := List.mem_of_getElem? (i := 725) (by decide +kernel)
theorem ml_Finder_76 : Cond.methodLink RX5 76 yX0_foes ∈ lw_tbl := List.mem_of_getElem? (i := 726) (by decide +kernel)
theorem ml_Finder_79 : Cond.methodLink RX5 79 yX0_isCarriedBy ∈ lw_tbl := List.mem_of_getElem? (i := 727) (by decide +kernel)
theorem zf_X_226 : zFL RX10 226 3 3 := ⟨by decide, by decide, rfl, Or.inr ⟨"VotesUntouched", List.mem_of_getElem? (i := 105) (by decide +kernel)⟩⟩
theorem ml_X_229 : Cond.methodLink RX10 229 yX5_mostSaying ∈ lw_tbl := List.mem_of_getElem? (i := 732) (by decide +kernel)
theorem zf_Finder_83 : zFL RX5 83 3 3 := ⟨by decide, by decide, rfl, Or.inr ⟨"VotesUntouched", List.mem_of_getElem? (i := 104) (by decide +kernel)⟩⟩
theorem ml_M_252 : Cond.methodLink RX11 252 yX11_common ∈ lw_tbl := List.mem_of_getElem? (i := 1409) (by decide +kernel)
theorem ml_X_232 : Cond.methodLink RX10 232 yX5_twelfthsCarried ∈ lw_tbl := List.mem_of_getElem? (i := 740) (by decide +kernel)
theorem ml_X_235 : Cond.methodLink RX10 235 yX5_twelfths ∈ lw_tbl := List.mem_of_getElem? (i := 752) (by decide +kernel)
theorem ml_X_238 : Cond.methodLink RX10 238 yX5_commonDivisor ∈ lw_tbl := List.mem_of_getElem? (i := 755) (by decide +kernel)
theorem ml_Finder_86 : Cond.methodLink RX5 86 yX5_weightOf ∈ lw_tbl := List.mem_of_getElem? (i := 744) (by decide +kernel)
theorem ml_Finder_90 : Cond.methodLink RX5 90 yX3_rumourOf ∈ lw_tbl := List.mem_of_getElem? (i := 748) (by decide +kernel)
theorem ml_X_241 : Cond.methodLink RX10 241 yX5_fewestLies ∈ lw_tbl := List.mem_of_getElem? (i := 762) (by decide +kernel)
theorem ml_X_244 : Cond.methodLink RX10 244 yX5_stepWithFewer ∈ lw_tbl := List.mem_of_getElem? (i := 770) (by decide +kernel)
theorem ml_Finder_93 : Cond.methodLink RX5 93 yX0_whoIsFree ∈ lw_tbl := List.mem_of_getElem? (i := 774) (by decide +kernel)
theorem ml_M_258 : Cond.methodLink RX11 258 yX11_drawnOf ∈ lw_tbl := List.mem_of_getElem? (i := 1426) (by decide +kernel)
theorem ml_X_247 : Cond.methodLink RX10 247 yX5_oftenCarriedByLot ∈ lw_tbl := List.mem_of_getElem? (i := 782) (by decide +kernel)
theorem ml_Finder_100 : Cond.methodLink RX5 100 yX0_isMore ∈ lw_tbl := List.mem_of_getElem? (i := 790) (by decide +kernel)
theorem ml_Finder_97 : Cond.methodLink RX5 97 yX5_bitAt ∈ lw_tbl := List.mem_of_getElem? (i := 787) (by decide +kernel)
theorem ml_M_261 : Cond.methodLink RX11 261 yX11_yearIs ∈ lw_tbl := List.mem_of_getElem? (i := 1434) (by decide +kernel)
theorem ml_M_264 : Cond.methodLink RX11 264 yX11_bundleAt ∈ lw_tbl := List.mem_of_getElem? (i := 1438) (by decide +kernel)
theorem ml_M_267 : Cond.methodLink RX11 267 yX11_silentAt ∈ lw_tbl := List.mem_of_getElem? (i := 1442) (by decide +kernel)
theorem ml_X_251 : Cond.methodLink RX10 251 yX7_refusedAsRow ∈ lw_tbl := List.mem_of_getElem? (i := 795) (by decide +kernel)
theorem zf_X_69 : zFL RX10 69 10 7 := ⟨by decide, by decide, rfl, Or.inl (List.mem_of_getElem? (i := 327) (by decide +kernel))⟩
theorem ml_X_254 : Cond.methodLink RX10 254 yX9_firstWrong ∈ lw_tbl := List.mem_of_getElem? (i := 799) (by decide +kernel)
theorem zf_Years_19 : zFL RX9 19 9 2 := ⟨by decide, by decide, rfl, Or.inl (List.mem_of_getElem? (i := 277) (by decide +kernel))⟩
theorem ml_Years_23 : Cond.methodLink RX9 23 yX7_sizeOf ∈ lw_tbl := List.mem_of_getElem? (i := 803) (by decide +kernel)
theorem ml_Years_29 : Cond.methodLink RX9 29 yX9_isWhole ∈ lw_tbl := List.mem_of_getElem? (i := 807) (by decide +kernel)
theorem ml_Years_33 : Cond.methodLink RX9 33 yX9_silentAt ∈ lw_tbl := List.mem_of_getElem? (i := 818) (by decide +kernel)
theorem ml_Years_37 : Cond.methodLink RX9 37 yX9_bundleAt ∈ lw_tbl := List.mem_of_getElem? (i := 812) (by decide +kernel)
theorem ml_Years_40 : Cond.methodLink RX9 40 yX9_mustBeSilent ∈ lw_tbl := List.mem_of_getElem? (i := 822) (by decide +kernel)
theorem zf_Years_9 : zFL RX9 9 9 0 := ⟨by decide, by decide, rfl, Or.inl (List.mem_of_getElem? (i := 275) (by decide +kernel))⟩
theorem ml_Years_43 : Cond.methodLink RX9 43 yX3_everybody ∈ lw_tbl := List.mem_of_getElem? (i := 826) (by decide +kernel)
theorem zf_Years_15 : zFL RX9 15 9 1 := ⟨by decide, by decide, rfl, Or.inl (List.mem_of_getElem? (i := 276) (by decide +kernel))⟩
theorem ml_Years_49 : Cond.methodLink RX9 49 yX0_whoMay ∈ lw_tbl := List.mem_of_getElem? (i := 827) (by decide +kernel)
theorem ml_Years_62 : Cond.methodLink RX9 62 yX7_valueAt ∈ lw_tbl := List.mem_of_getElem? (i := 816) (by decide +kernel)
theorem ml_Years_55 : Cond.methodLink RX9 55 yX7_hasPlace ∈ lw_tbl := List.mem_of_getElem? (i := 811) (by decide +kernel)
theorem ml_Years_58 : Cond.methodLink RX9 58 yX3_isBundle ∈ lw_tbl := List.mem_of_getElem? (i := 817) (by decide +kernel)
theorem ml_M_270 : Cond.methodLink RX11 270 yX11_isVotedBeside ∈ lw_tbl := List.mem_of_getElem? (i := 1450) (by decide +kernel)
theorem ml_X_257 : Cond.methodLink RX10 257 yX9_isShown ∈ lw_tbl := List.mem_of_getElem? (i := 832) (by decide +kernel)
theorem ml_Years_66 : Cond.methodLink RX9 66 yX9_isSilentFor ∈ lw_tbl := List.mem_of_getElem? (i := 836) (by decide +kernel)
theorem ml_Years_70 : Cond.methodLink RX9 70 yX9_hasVotedOn ∈ lw_tbl := List.mem_of_getElem? (i := 840) (by decide +kernel)
theorem zf_M_53 : zFL RX11 53 11 29 := ⟨by decide, by decide, rfl, Or.inl (List.mem_of_getElem? (i := 1086) (by decide +kernel))⟩
theorem zf_X_76 : zFL RX10 76 10 8 := ⟨by decide, by decide, rfl, Or.inl (List.mem_of_getElem? (i := 328) (by decide +kernel))⟩
theorem ml_X_261 : Cond.methodLink RX10 261 yX4_decided ∈ lw_tbl := List.mem_of_getElem? (i := 848) (by decide +kernel)
theorem ml_X_264 : Cond.methodLink RX10 264 yX4_enter ∈ lw_tbl := List.mem_of_getElem? (i := 852) (by decide +kernel)
theorem zf_Deeds_11 : zFL RX4 11 4 0 := ⟨by decide, by decide, rfl, Or.inl (List.mem_of_getElem? (i := 291) (by decide +kernel))⟩
theorem ml_X_272 : Cond.methodLink RX10 272 yX4_told ∈ lw_tbl := List.mem_of_getElem? (i := 864) (by decide +kernel)
theorem ml_X_268 : Cond.methodLink RX10 268 yX4_isAny ∈ lw_tbl := List.mem_of_getElem? (i := 860) (by decide +kernel)
theorem zf_M_274 : zFL RX11 274 11 31 := ⟨by decide, by decide, rfl, Or.inl (List.mem_of_getElem? (i := 1088) (by decide +kernel))⟩
theorem zf_M_56 : zFL RX11 56 11 30 := ⟨by decide, by decide, rfl, Or.inl (List.mem_of_getElem? (i := 1087) (by decide +kernel))⟩
theorem ml_X_275 : Cond.methodLink RX10 275 yX4_keepImage ∈ lw_tbl := List.mem_of_getElem? (i := 872) (by decide +kernel)
theorem zf_Deeds_15 : zFL RX4 15 4 1 := ⟨by decide, by decide, rfl, Or.inl (List.mem_of_getElem? (i := 292) (by decide +kernel))⟩
theorem ml_Deeds_18 : Cond.methodLink RX4 18 arraycopyName ∈ lw_tbl := List.mem_of_getElem? (i := 876) (by decide +kernel)
theorem zf_Deeds_24 : zFL RX4 24 4 2 := ⟨by decide, by decide, rfl, Or.inl (List.mem_of_getElem? (i := 293) (by decide +kernel))⟩
theorem ml_X_278 : Cond.methodLink RX10 278 yX4_goBack ∈ lw_tbl := List.mem_of_getElem? (i := 881) (by decide +kernel)
theorem ml_X_281 : Cond.methodLink RX10 281 yX1_takeBack ∈ lw_tbl := List.mem_of_getElem? (i := 889) (by decide +kernel)
theorem ml_X_284 : Cond.methodLink RX10 284 yX1_undoable ∈ lw_tbl := List.mem_of_getElem? (i := 893) (by decide +kernel)
theorem ml_X_287 : Cond.methodLink RX10 287 yX1_makeAgain ∈ lw_tbl := List.mem_of_getElem? (i := 901) (by decide +kernel)
theorem ml_X_290 : Cond.methodLink RX10 290 yX1_redoable ∈ lw_tbl := List.mem_of_getElem? (i := 905) (by decide +kernel)
theorem zf_M_278 : zFL RX11 278 11 32 := ⟨by decide, by decide, rfl, Or.inl (List.mem_of_getElem? (i := 1089) (by decide +kernel))⟩
theorem zf_M_59 : zFL RX11 59 11 33 := ⟨by decide, by decide, rfl, Or.inl (List.mem_of_getElem? (i := 1090) (by decide +kernel))⟩
theorem ml_X_293 : Cond.methodLink RX10 293 yX8_isKind ∈ lw_tbl := List.mem_of_getElem? (i := 913) (by decide +kernel)
theorem zf_X_83 : zFL RX10 83 10 9 := ⟨by decide, by decide, rfl, Or.inl (List.mem_of_getElem? (i := 329) (by decide +kernel))⟩
theorem ml_X_296 : Cond.methodLink RX10 296 yX8_add ∈ lw_tbl := List.mem_of_getElem? (i := 916) (by decide +kernel)
theorem zf_Voters_26 : zFL RX8 26 8 2 := ⟨by decide, by decide, rfl, Or.inl (List.mem_of_getElem? (i := 309) (by decide +kernel))⟩
theorem zf_Voters_11 : zFL RX8 11 8 0 := ⟨by decide, by decide, rfl, Or.inl (List.mem_of_getElem? (i := 307) (by decide +kernel))⟩
theorem zf_M_283 : zFL RX11 283 11 35 := ⟨by decide, by decide, rfl, Or.inl (List.mem_of_getElem? (i := 1092) (by decide +kernel))⟩
theorem ml_M_308 : Cond.methodLink RX11 308 yX11_isBody ∈ lw_tbl := List.mem_of_getElem? (i := 1479) (by decide +kernel)
theorem zf_M_299 : zFL RX11 299 11 36 := ⟨by decide, by decide, rfl, Or.inl (List.mem_of_getElem? (i := 1093) (by decide +kernel))⟩
theorem zf_M_293 : zFL RX11 293 11 37 := ⟨by decide, by decide, rfl, Or.inl (List.mem_of_getElem? (i := 1094) (by decide +kernel))⟩
theorem ml_M_305 : Cond.methodLink RX11 305 yX11_tellsAs ∈ lw_tbl := List.mem_of_getElem? (i := 1499) (by decide +kernel)
theorem ml_M_302 : Cond.methodLink RX11 302 yX11_givesAs ∈ lw_tbl := List.mem_of_getElem? (i := 1495) (by decide +kernel)
theorem ml_M_296 : Cond.methodLink RX11 296 yX11_ownsAs ∈ lw_tbl := List.mem_of_getElem? (i := 1491) (by decide +kernel)
theorem ml_M_290 : Cond.methodLink RX11 290 yX11_votesAs ∈ lw_tbl := List.mem_of_getElem? (i := 1483) (by decide +kernel)
theorem ml_M_286 : Cond.methodLink RX11 286 yX11_begins ∈ lw_tbl := List.mem_of_getElem? (i := 1487) (by decide +kernel)
theorem zf_M_62 : zFL RX11 62 11 34 := ⟨by decide, by decide, rfl, Or.inl (List.mem_of_getElem? (i := 1091) (by decide +kernel))⟩
theorem ml_X_299 : Cond.methodLink RX10 299 yX8_perform ∈ lw_tbl := List.mem_of_getElem? (i := 924) (by decide +kernel)
theorem zf_Voters_33 : zFL RX8 33 8 3 := ⟨by decide, by decide, rfl, Or.inl (List.mem_of_getElem? (i := 310) (by decide +kernel))⟩
theorem ml_Voters_30 : Cond.methodLink RX8 30 yX8_isVoter ∈ lw_tbl := List.mem_of_getElem? (i := 928) (by decide +kernel)
theorem ml_Voters_36 : Cond.methodLink RX8 36 yX8_own ∈ lw_tbl := List.mem_of_getElem? (i := 932) (by decide +kernel)
theorem ml_Voters_40 : Cond.methodLink RX8 40 yX8_kindOf ∈ lw_tbl := List.mem_of_getElem? (i := 936) (by decide +kernel)
theorem ml_Voters_43 : Cond.methodLink RX8 43 yX8_runFrom ∈ lw_tbl := List.mem_of_getElem? (i := 940) (by decide +kernel)
theorem ml_Voters_47 : Cond.methodLink RX8 47 yX8_bodyAt ∈ lw_tbl := List.mem_of_getElem? (i := 944) (by decide +kernel)
theorem ml_Voters_51 : Cond.methodLink RX8 51 yX8_begin ∈ lw_tbl := List.mem_of_getElem? (i := 955) (by decide +kernel)
theorem ml_Voters_22 : Cond.methodLink RX8 22 yX8_aboveOf ∈ lw_tbl := List.mem_of_getElem? (i := 950) (by decide +kernel)
theorem ml_Voters_55 : Cond.methodLink RX8 55 yX8_run ∈ lw_tbl := List.mem_of_getElem? (i := 959) (by decide +kernel)
theorem ml_Voters_18 : Cond.methodLink RX8 18 yX8_isKind ∈ lw_tbl := List.mem_of_getElem? (i := 947) (by decide +kernel)
theorem zf_Voters_15 : zFL RX8 15 8 1 := ⟨by decide, by decide, rfl, Or.inl (List.mem_of_getElem? (i := 308) (by decide +kernel))⟩
theorem ml_X_302 : Cond.methodLink RX10 302 yX8_ranAt ∈ lw_tbl := List.mem_of_getElem? (i := 967) (by decide +kernel)
theorem ml_X_308 : Cond.methodLink RX10 308 yX7_holdVoter ∈ lw_tbl := List.mem_of_getElem? (i := 976) (by decide +kernel)
theorem ml_X_305 : Cond.methodLink RX10 305 yX8_isVoter ∈ lw_tbl := List.mem_of_getElem? (i := 975) (by decide +kernel)
theorem zf_Shelves_18 : zFL RX7 18 7 2 := ⟨by decide, by decide, rfl, Or.inl (List.mem_of_getElem? (i := 257) (by decide +kernel))⟩
theorem ml_X_312 : Cond.methodLink RX10 312 yX7_isSort ∈ lw_tbl := List.mem_of_getElem? (i := 984) (by decide +kernel)
theorem ml_X_315 : Cond.methodLink RX10 315 yX7_holdRow ∈ lw_tbl := List.mem_of_getElem? (i := 987) (by decide +kernel)
theorem ml_M_313 : Cond.methodLink RX11 313 yX11_refusal ∈ lw_tbl := List.mem_of_getElem? (i := 1519) (by decide +kernel)
theorem ml_M_316 : Cond.methodLink RX11 316 yX11_asSort ∈ lw_tbl := List.mem_of_getElem? (i := 1523) (by decide +kernel)
theorem ml_X_319 : Cond.methodLink RX10 319 yX7_refusedAt ∈ lw_tbl := List.mem_of_getElem? (i := 995) (by decide +kernel)
theorem ml_X_322 : Cond.methodLink RX10 322 yX7_set ∈ lw_tbl := List.mem_of_getElem? (i := 1000) (by decide +kernel)
theorem ml_Shelves_40 : Cond.methodLink RX7 40 yX7_lowestBits ∈ lw_tbl := List.mem_of_getElem? (i := 1004) (by decide +kernel)
theorem ml_Shelves_29 : Cond.methodLink RX7 29 yX7_isSort ∈ lw_tbl := List.mem_of_getElem? (i := 999) (by decide +kernel)
theorem zf_M_75 : zFL RX11 75 11 41 := ⟨by decide, by decide, rfl, Or.inl (List.mem_of_getElem? (i := 1098) (by decide +kernel))⟩
theorem ml_X_328 : Cond.methodLink RX10 328 yX7_hasPlaces ∈ lw_tbl := List.mem_of_getElem? (i := 1016) (by decide +kernel)
theorem ml_X_331 : Cond.methodLink RX10 331 yX7_copy ∈ lw_tbl := List.mem_of_getElem? (i := 1021) (by decide +kernel)
theorem ml_Shelves_44 : Cond.methodLink RX7 44 yX7_hasPlaces ∈ lw_tbl := List.mem_of_getElem? (i := 1025) (by decide +kernel)
theorem ml_Shelves_48 : Cond.methodLink RX7 48 arraycopyName ∈ lw_tbl := List.mem_of_getElem? (i := 1026) (by decide +kernel)
theorem ml_Shelves_36 : Cond.methodLink RX7 36 yX7_sizeOf ∈ lw_tbl := List.mem_of_getElem? (i := 1020) (by decide +kernel)
theorem ml_M_324 : Cond.methodLink RX11 324 yX11_kindOf ∈ lw_tbl := List.mem_of_getElem? (i := 1539) (by decide +kernel)
theorem ml_M_327 : Cond.methodLink RX11 327 yX11_above ∈ lw_tbl := List.mem_of_getElem? (i := 1543) (by decide +kernel)
theorem ml_X_335 : Cond.methodLink RX10 335 yX7_voterOn ∈ lw_tbl := List.mem_of_getElem? (i := 1031) (by decide +kernel)
theorem ml_X_338 : Cond.methodLink RX10 338 yX8_kindOf ∈ lw_tbl := List.mem_of_getElem? (i := 1035) (by decide +kernel)
theorem ml_X_341 : Cond.methodLink RX10 341 yX8_isUnder ∈ lw_tbl := List.mem_of_getElem? (i := 1036) (by decide +kernel)
theorem ml_X_356 : Cond.methodLink RX10 356 yX8_ranInAll ∈ lw_tbl := List.mem_of_getElem? (i := 1047) (by decide +kernel)
theorem ml_X_353 : Cond.methodLink RX10 353 yX8_size ∈ lw_tbl := List.mem_of_getElem? (i := 1043) (by decide +kernel)
theorem zf_X_350 : zFL RX10 350 6 2 := ⟨by decide, by decide, rfl, Or.inr ⟨"VotesUntouched", List.mem_of_getElem? (i := 189) (by decide +kernel)⟩⟩
theorem zf_X_347 : zFL RX10 347 3 4 := ⟨by decide, by decide, rfl, Or.inr ⟨"VotesUntouched", List.mem_of_getElem? (i := 107) (by decide +kernel)⟩⟩
theorem zf_X_344 : zFL RX10 344 3 5 := ⟨by decide, by decide, rfl, Or.inr ⟨"VotesUntouched", List.mem_of_getElem? (i := 110) (by decide +kernel)⟩⟩
theorem v_X_isFee : zCS m_X_isFee 1 := ⟨⟨List.mem_of_getElem? (i := 357) (by decide +kernel), List.mem_of_getElem? (i := 70) (by decide +kernel), by decide +kernel, by decide +kernel, by decide⟩, List.mem_of_getElem? (i := 356) (by decide +kernel)⟩
theorem zic_0 : Int32.ofInt (0) = (0 : Int32) := by decide +kernel
theorem zib_99 : (Int8.ofInt (99)).toInt32 = (99 : Int32) := by decide +kernel
theorem zic_1 : Int32.ofInt (1) = (1 : Int32) := by decide +kernel
theorem v_Council_addPerson : zCV m_Council_addPerson 1 := ⟨⟨List.mem_of_getElem? (i := 361) (by decide +kernel), List.mem_of_getElem? (i := 71) (by decide +kernel), by decide +kernel, by decide +kernel, by decide⟩, List.mem_of_getElem? (i := 359) (by decide +kernel), List.mem_of_getElem? (i := 360) (by decide +kernel)⟩
theorem zib_10 : (Int8.ofInt (10)).toInt32 = (10 : Int32) := by decide +kernel
theorem zp_3_3 : ((zcls 3).2.1 3).2.2.2 = false ∧ zty 3 3 = .int := by decide +kernel
theorem zib_m3 : (Int8.ofInt (-3)).toInt32 = (-3 : Int32) := by decide +kernel
theorem v_X_person : zCV m_X_person 1 := ⟨⟨List.mem_of_getElem? (i := 354) (by decide +kernel), List.mem_of_getElem? (i := 70) (by decide +kernel), by decide +kernel, by decide +kernel, by decide⟩, List.mem_of_getElem? (i := 352) (by decide +kernel), List.mem_of_getElem? (i := 353) (by decide +kernel)⟩
theorem zic_m1 : Int32.ofInt (-1) = (-1 : Int32) := by decide +kernel
theorem v_M_within : zCS m_M_within 3 := ⟨⟨List.mem_of_getElem? (i := 1200) (by decide +kernel), List.mem_of_getElem? (i := 81) (by decide +kernel), by decide +kernel, by decide +kernel, by decide⟩, List.mem_of_getElem? (i := 1199) (by decide +kernel)⟩
theorem v_M_person : zCV m_M_person 1 := ⟨⟨List.mem_of_getElem? (i := 1196) (by decide +kernel), List.mem_of_getElem? (i := 81) (by decide +kernel), by decide +kernel, by decide +kernel, by decide⟩, List.mem_of_getElem? (i := 1194) (by decide +kernel), List.mem_of_getElem? (i := 1195) (by decide +kernel)⟩
theorem zk_M_111 : Cond.constantLong RX11 111 (99 : Int64) ∈ lw_tbl := List.mem_of_getElem? (i := 1197) (by decide +kernel)
theorem zp_11_6 : ((zcls 11).2.1 6).2.2.2 = false ∧ zty 11 6 = .int := by decide +kernel
theorem v_Shelves_isShelf : zCV m_Shelves_isShelf 1 := ⟨⟨List.mem_of_getElem? (i := 369) (by decide +kernel), List.mem_of_getElem? (i := 77) (by decide +kernel), by decide +kernel, by decide +kernel, by decide⟩, List.mem_of_getElem? (i := 367) (by decide +kernel), List.mem_of_getElem? (i := 368) (by decide +kernel)⟩
theorem zib_6 : (Int8.ofInt (6)).toInt32 = (6 : Int32) := by decide +kernel
theorem v_Shelves_held : zCV m_Shelves_held 1 := ⟨⟨List.mem_of_getElem? (i := 373) (by decide +kernel), List.mem_of_getElem? (i := 77) (by decide +kernel), by decide +kernel, by decide +kernel, by decide⟩, List.mem_of_getElem? (i := 371) (by decide +kernel), List.mem_of_getElem? (i := 372) (by decide +kernel)⟩
theorem v_Shelves_hasPlace : zCV m_Shelves_hasPlace 2 := ⟨⟨List.mem_of_getElem? (i := 382) (by decide +kernel), List.mem_of_getElem? (i := 77) (by decide +kernel), by decide +kernel, by decide +kernel, by decide⟩, List.mem_of_getElem? (i := 380) (by decide +kernel), List.mem_of_getElem? (i := 381) (by decide +kernel)⟩
theorem v_Shelves_valueAt : zCV m_Shelves_valueAt 2 := ⟨⟨List.mem_of_getElem? (i := 386) (by decide +kernel), List.mem_of_getElem? (i := 77) (by decide +kernel), by decide +kernel, by decide +kernel, by decide⟩, List.mem_of_getElem? (i := 384) (by decide +kernel), List.mem_of_getElem? (i := 385) (by decide +kernel)⟩
theorem zib_60 : (Int8.ofInt (60)).toInt32 = (60 : Int32) := by decide +kernel
theorem v_X_comesFrom : zCV m_X_comesFrom 2 := ⟨⟨List.mem_of_getElem? (i := 378) (by decide +kernel), List.mem_of_getElem? (i := 70) (by decide +kernel), by decide +kernel, by decide +kernel, by decide⟩, List.mem_of_getElem? (i := 377) (by decide +kernel), List.mem_of_getElem? (i := 0) (by decide +kernel)⟩
theorem v_X_people : zCV m_X_people 3 := ⟨⟨List.mem_of_getElem? (i := 365) (by decide +kernel), List.mem_of_getElem? (i := 70) (by decide +kernel), by decide +kernel, by decide +kernel, by decide⟩, List.mem_of_getElem? (i := 363) (by decide +kernel), List.mem_of_getElem? (i := 364) (by decide +kernel)⟩
theorem zib_m12 : (Int8.ofInt (-12)).toInt32 = (-12 : Int32) := by decide +kernel
theorem v_M_isShelf : zCS m_M_isShelf 1 := ⟨⟨List.mem_of_getElem? (i := 1207) (by decide +kernel), List.mem_of_getElem? (i := 81) (by decide +kernel), by decide +kernel, by decide +kernel, by decide⟩, List.mem_of_getElem? (i := 1206) (by decide +kernel)⟩
theorem zk_M_311 : Cond.constantLong RX11 311 (5 : Int64) ∈ lw_tbl := List.mem_of_getElem? (i := 1208) (by decide +kernel)
theorem v_M_people : zCV m_M_people 3 := ⟨⟨List.mem_of_getElem? (i := 1204) (by decide +kernel), List.mem_of_getElem? (i := 81) (by decide +kernel), by decide +kernel, by decide +kernel, by decide⟩, List.mem_of_getElem? (i := 1202) (by decide +kernel), List.mem_of_getElem? (i := 1203) (by decide +kernel)⟩
theorem zk_M_116 : Cond.constantLong RX11 116 (10 : Int64) ∈ lw_tbl := List.mem_of_getElem? (i := 1209) (by decide +kernel)
theorem zib_50 : (Int8.ofInt (50)).toInt32 = (50 : Int32) := by decide +kernel
theorem v_Council_isPerson : zCV m_Council_isPerson 1 := ⟨⟨List.mem_of_getElem? (i := 399) (by decide +kernel), List.mem_of_getElem? (i := 71) (by decide +kernel), by decide +kernel, by decide +kernel, by decide⟩, List.mem_of_getElem? (i := 397) (by decide +kernel), List.mem_of_getElem? (i := 398) (by decide +kernel)⟩
theorem v_Council_isTwo : zCV m_Council_isTwo 1 := ⟨⟨List.mem_of_getElem? (i := 395) (by decide +kernel), List.mem_of_getElem? (i := 71) (by decide +kernel), by decide +kernel, by decide +kernel, by decide⟩, List.mem_of_getElem? (i := 393) (by decide +kernel), List.mem_of_getElem? (i := 394) (by decide +kernel)⟩
theorem v_Council_stepsOf : zCV m_Council_stepsOf 2 := ⟨⟨List.mem_of_getElem? (i := 407) (by decide +kernel), List.mem_of_getElem? (i := 71) (by decide +kernel), by decide +kernel, by decide +kernel, by decide⟩, List.mem_of_getElem? (i := 405) (by decide +kernel), List.mem_of_getElem? (i := 406) (by decide +kernel)⟩
theorem zib_9 : (Int8.ofInt (9)).toInt32 = (9 : Int32) := by decide +kernel
theorem zib_100 : (Int8.ofInt (100)).toInt32 = (100 : Int32) := by decide +kernel
theorem v_Council_addPair : zCV m_Council_addPair 2 := ⟨⟨List.mem_of_getElem? (i := 403) (by decide +kernel), List.mem_of_getElem? (i := 71) (by decide +kernel), by decide +kernel, by decide +kernel, by decide⟩, List.mem_of_getElem? (i := 401) (by decide +kernel), List.mem_of_getElem? (i := 402) (by decide +kernel)⟩
theorem zic_2 : Int32.ofInt (2) = (2 : Int32) := by decide +kernel
theorem zib_12 : (Int8.ofInt (12)).toInt32 = (12 : Int32) := by decide +kernel
theorem zp_3_4 : ((zcls 3).2.1 4).2.2.2 = false ∧ zty 3 4 = .int := by decide +kernel
theorem v_X_cousins : zCV m_X_cousins 1 := ⟨⟨List.mem_of_getElem? (i := 391) (by decide +kernel), List.mem_of_getElem? (i := 70) (by decide +kernel), by decide +kernel, by decide +kernel, by decide⟩, List.mem_of_getElem? (i := 389) (by decide +kernel), List.mem_of_getElem? (i := 390) (by decide +kernel)⟩
theorem v_M_isPerson : zCV m_M_isPerson 1 := ⟨⟨List.mem_of_getElem? (i := 1217) (by decide +kernel), List.mem_of_getElem? (i := 81) (by decide +kernel), by decide +kernel, by decide +kernel, by decide⟩, List.mem_of_getElem? (i := 1216) (by decide +kernel), List.mem_of_getElem? (i := 28) (by decide +kernel)⟩
theorem v_M_isIn : zCS m_M_isIn 2 := ⟨⟨List.mem_of_getElem? (i := 1220) (by decide +kernel), List.mem_of_getElem? (i := 81) (by decide +kernel), by decide +kernel, by decide +kernel, by decide⟩, List.mem_of_getElem? (i := 1219) (by decide +kernel)⟩
theorem v_M_cousins : zCV m_M_cousins 1 := ⟨⟨List.mem_of_getElem? (i := 1213) (by decide +kernel), List.mem_of_getElem? (i := 81) (by decide +kernel), by decide +kernel, by decide +kernel, by decide⟩, List.mem_of_getElem? (i := 1211) (by decide +kernel), List.mem_of_getElem? (i := 1212) (by decide +kernel)⟩
theorem zp_11_9 : ((zcls 11).2.1 9).2.2.2 = false ∧ zty 11 9 = .int := by decide +kernel
theorem v_Council_tell : zCV m_Council_tell 2 := ⟨⟨List.mem_of_getElem? (i := 422) (by decide +kernel), List.mem_of_getElem? (i := 71) (by decide +kernel), by decide +kernel, by decide +kernel, by decide⟩, List.mem_of_getElem? (i := 420) (by decide +kernel), List.mem_of_getElem? (i := 421) (by decide +kernel)⟩
theorem v_Council_addMatter : zCV m_Council_addMatter 0 := ⟨⟨List.mem_of_getElem? (i := 418) (by decide +kernel), List.mem_of_getElem? (i := 71) (by decide +kernel), by decide +kernel, by decide +kernel, by decide⟩, List.mem_of_getElem? (i := 416) (by decide +kernel), List.mem_of_getElem? (i := 417) (by decide +kernel)⟩
theorem zis_200 : (Int16.ofInt (200)).toInt32 = (200 : Int32) := by decide +kernel
theorem zp_3_5 : ((zcls 3).2.1 5).2.2.2 = false ∧ zty 3 5 = .int := by decide +kernel
theorem v_X_matter : zCV m_X_matter 0 := ⟨⟨List.mem_of_getElem? (i := 414) (by decide +kernel), List.mem_of_getElem? (i := 70) (by decide +kernel), by decide +kernel, by decide +kernel, by decide⟩, List.mem_of_getElem? (i := 412) (by decide +kernel), List.mem_of_getElem? (i := 413) (by decide +kernel)⟩
theorem v_M_matter : zCV m_M_matter 0 := ⟨⟨List.mem_of_getElem? (i := 1224) (by decide +kernel), List.mem_of_getElem? (i := 81) (by decide +kernel), by decide +kernel, by decide +kernel, by decide⟩, List.mem_of_getElem? (i := 1222) (by decide +kernel), List.mem_of_getElem? (i := 1223) (by decide +kernel)⟩
theorem zib_120 : (Int8.ofInt (120)).toInt32 = (120 : Int32) := by decide +kernel
theorem zp_11_7 : ((zcls 11).2.1 7).2.2.2 = false ∧ zty 11 7 = .int := by decide +kernel
theorem v_Council_isMatter : zCV m_Council_isMatter 1 := ⟨⟨List.mem_of_getElem? (i := 434) (by decide +kernel), List.mem_of_getElem? (i := 71) (by decide +kernel), by decide +kernel, by decide +kernel, by decide⟩, List.mem_of_getElem? (i := 432) (by decide +kernel), List.mem_of_getElem? (i := 433) (by decide +kernel)⟩
theorem v_Council_slotOf : zCV m_Council_slotOf 2 := ⟨⟨List.mem_of_getElem? (i := 430) (by decide +kernel), List.mem_of_getElem? (i := 71) (by decide +kernel), by decide +kernel, by decide +kernel, by decide⟩, List.mem_of_getElem? (i := 428) (by decide +kernel), List.mem_of_getElem? (i := 429) (by decide +kernel)⟩
theorem v_Council_leastOf : zCS m_Council_leastOf 1 := ⟨⟨List.mem_of_getElem? (i := 437) (by decide +kernel), List.mem_of_getElem? (i := 71) (by decide +kernel), by decide +kernel, by decide +kernel, by decide⟩, List.mem_of_getElem? (i := 436) (by decide +kernel)⟩
theorem zib_m9 : (Int8.ofInt (-9)).toInt32 = (-9 : Int32) := by decide +kernel
theorem v_Council_mostOf : zCS m_Council_mostOf 1 := ⟨⟨List.mem_of_getElem? (i := 440) (by decide +kernel), List.mem_of_getElem? (i := 71) (by decide +kernel), by decide +kernel, by decide +kernel, by decide⟩, List.mem_of_getElem? (i := 439) (by decide +kernel)⟩
theorem v_Council_toldAt : zCV m_Council_toldAt 1 := ⟨⟨List.mem_of_getElem? (i := 449) (by decide +kernel), List.mem_of_getElem? (i := 71) (by decide +kernel), by decide +kernel, by decide +kernel, by decide⟩, List.mem_of_getElem? (i := 447) (by decide +kernel), List.mem_of_getElem? (i := 448) (by decide +kernel)⟩
theorem v_Changes_forgetOldest : zCV m_Changes_forgetOldest 0 := ⟨⟨List.mem_of_getElem? (i := 454) (by decide +kernel), List.mem_of_getElem? (i := 72) (by decide +kernel), by decide +kernel, by decide +kernel, by decide⟩, List.mem_of_getElem? (i := 453) (by decide +kernel), List.mem_of_getElem? (i := 1) (by decide +kernel)⟩
theorem zib_39 : (Int8.ofInt (39)).toInt32 = (39 : Int32) := by decide +kernel
theorem zp_1_4 : ((zcls 1).2.1 4).2.2.2 = false ∧ zty 1 4 = .int := by decide +kernel
theorem v_Changes_make : zCV m_Changes_make 2 := ⟨⟨List.mem_of_getElem? (i := 445) (by decide +kernel), List.mem_of_getElem? (i := 72) (by decide +kernel), by decide +kernel, by decide +kernel, by decide⟩, List.mem_of_getElem? (i := 443) (by decide +kernel), List.mem_of_getElem? (i := 444) (by decide +kernel)⟩
theorem zib_40 : (Int8.ofInt (40)).toInt32 = (40 : Int32) := by decide +kernel
theorem zp_1_5 : ((zcls 1).2.1 5).2.2.2 = false ∧ zty 1 5 = .int := by decide +kernel
theorem v_X_mend : zCV m_X_mend 3 := ⟨⟨List.mem_of_getElem? (i := 426) (by decide +kernel), List.mem_of_getElem? (i := 70) (by decide +kernel), by decide +kernel, by decide +kernel, by decide⟩, List.mem_of_getElem? (i := 424) (by decide +kernel), List.mem_of_getElem? (i := 425) (by decide +kernel)⟩
theorem zk_X_132 : Cond.constant RX10 132 (-2000000000 : Int32) ∈ lw_tbl := List.mem_of_getElem? (i := 441) (by decide +kernel)
theorem v_M_isMatter : zCV m_M_isMatter 1 := ⟨⟨List.mem_of_getElem? (i := 1236) (by decide +kernel), List.mem_of_getElem? (i := 81) (by decide +kernel), by decide +kernel, by decide +kernel, by decide⟩, List.mem_of_getElem? (i := 1235) (by decide +kernel), List.mem_of_getElem? (i := 30) (by decide +kernel)⟩
theorem v_M_isPm : zCV m_M_isPm 1 := ⟨⟨List.mem_of_getElem? (i := 1232) (by decide +kernel), List.mem_of_getElem? (i := 81) (by decide +kernel), by decide +kernel, by decide +kernel, by decide⟩, List.mem_of_getElem? (i := 1231) (by decide +kernel), List.mem_of_getElem? (i := 29) (by decide +kernel)⟩
theorem v_M_placeOf : zCS m_M_placeOf 2 := ⟨⟨List.mem_of_getElem? (i := 1239) (by decide +kernel), List.mem_of_getElem? (i := 81) (by decide +kernel), by decide +kernel, by decide +kernel, by decide⟩, List.mem_of_getElem? (i := 1238) (by decide +kernel)⟩
theorem v_M_becomes : zCV m_M_becomes 2 := ⟨⟨List.mem_of_getElem? (i := 1243) (by decide +kernel), List.mem_of_getElem? (i := 81) (by decide +kernel), by decide +kernel, by decide +kernel, by decide⟩, List.mem_of_getElem? (i := 1242) (by decide +kernel), List.mem_of_getElem? (i := 31) (by decide +kernel)⟩
theorem zp_11_5 : ((zcls 11).2.1 5).2.2.2 = false ∧ zty 11 5 = .int := by decide +kernel
theorem zp_11_4 : ((zcls 11).2.1 4).2.2.2 = false ∧ zty 11 4 = .int := by decide +kernel
theorem v_M_mend : zCV m_M_mend 3 := ⟨⟨List.mem_of_getElem? (i := 1228) (by decide +kernel), List.mem_of_getElem? (i := 81) (by decide +kernel), by decide +kernel, by decide +kernel, by decide⟩, List.mem_of_getElem? (i := 1226) (by decide +kernel), List.mem_of_getElem? (i := 1227) (by decide +kernel)⟩
theorem zk_M_135 : Cond.constant RX11 135 (-2000000000 : Int32) ∈ lw_tbl := List.mem_of_getElem? (i := 1244) (by decide +kernel)
theorem zk_M_136 : Cond.constantLong RX11 136 (-9 : Int64) ∈ lw_tbl := List.mem_of_getElem? (i := 1245) (by decide +kernel)
theorem zk_M_138 : Cond.constantLong RX11 138 (9 : Int64) ∈ lw_tbl := List.mem_of_getElem? (i := 1246) (by decide +kernel)
theorem zk_M_140 : Cond.constantLong RX11 140 (12 : Int64) ∈ lw_tbl := List.mem_of_getElem? (i := 1247) (by decide +kernel)
theorem v_X_rule : zCV m_X_rule 2 := ⟨⟨List.mem_of_getElem? (i := 461) (by decide +kernel), List.mem_of_getElem? (i := 70) (by decide +kernel), by decide +kernel, by decide +kernel, by decide⟩, List.mem_of_getElem? (i := 459) (by decide +kernel), List.mem_of_getElem? (i := 460) (by decide +kernel)⟩
theorem zp_3_7 : ((zcls 3).2.1 7).2.2.2 = false ∧ zty 3 7 = .int := by decide +kernel
theorem zic_4 : Int32.ofInt (4) = (4 : Int32) := by decide +kernel
theorem zp_3_6 : ((zcls 3).2.1 6).2.2.2 = false ∧ zty 3 6 = .int := by decide +kernel
theorem v_M_rule : zCV m_M_rule 2 := ⟨⟨List.mem_of_getElem? (i := 1251) (by decide +kernel), List.mem_of_getElem? (i := 81) (by decide +kernel), by decide +kernel, by decide +kernel, by decide⟩, List.mem_of_getElem? (i := 1249) (by decide +kernel), List.mem_of_getElem? (i := 1250) (by decide +kernel)⟩
theorem zp_11_11 : ((zcls 11).2.1 11).2.2.2 = false ∧ zty 11 11 = .int := by decide +kernel
theorem zp_11_12 : ((zcls 11).2.1 12).2.2.2 = false ∧ zty 11 12 = .int := by decide +kernel
theorem zk_M_142 : Cond.constantLong RX11 142 (4 : Int64) ∈ lw_tbl := List.mem_of_getElem? (i := 1252) (by decide +kernel)
theorem v_X_toldOrVoid : zCV m_X_toldOrVoid 1 := ⟨⟨List.mem_of_getElem? (i := 469) (by decide +kernel), List.mem_of_getElem? (i := 70) (by decide +kernel), by decide +kernel, by decide +kernel, by decide⟩, List.mem_of_getElem? (i := 468) (by decide +kernel), List.mem_of_getElem? (i := 2) (by decide +kernel)⟩
theorem v_Council_feeOf : zCV m_Council_feeOf 1 := ⟨⟨List.mem_of_getElem? (i := 475) (by decide +kernel), List.mem_of_getElem? (i := 71) (by decide +kernel), by decide +kernel, by decide +kernel, by decide⟩, List.mem_of_getElem? (i := 473) (by decide +kernel), List.mem_of_getElem? (i := 474) (by decide +kernel)⟩
theorem v_X_of : zCV m_X_of 2 := ⟨⟨List.mem_of_getElem? (i := 465) (by decide +kernel), List.mem_of_getElem? (i := 70) (by decide +kernel), by decide +kernel, by decide +kernel, by decide⟩, List.mem_of_getElem? (i := 463) (by decide +kernel), List.mem_of_getElem? (i := 464) (by decide +kernel)⟩
theorem v_M_stepsTo : zCV m_M_stepsTo 2 := ⟨⟨List.mem_of_getElem? (i := 1260) (by decide +kernel), List.mem_of_getElem? (i := 81) (by decide +kernel), by decide +kernel, by decide +kernel, by decide⟩, List.mem_of_getElem? (i := 1259) (by decide +kernel), List.mem_of_getElem? (i := 32) (by decide +kernel)⟩
theorem v_M_of : zCV m_M_of 2 := ⟨⟨List.mem_of_getElem? (i := 1256) (by decide +kernel), List.mem_of_getElem? (i := 81) (by decide +kernel), by decide +kernel, by decide +kernel, by decide⟩, List.mem_of_getElem? (i := 1254) (by decide +kernel), List.mem_of_getElem? (i := 1255) (by decide +kernel)⟩
theorem v_Reader_take : zCV m_Reader_take 1 := ⟨⟨List.mem_of_getElem? (i := 484) (by decide +kernel), List.mem_of_getElem? (i := 73) (by decide +kernel), by decide +kernel, by decide +kernel, by decide⟩, List.mem_of_getElem? (i := 482) (by decide +kernel), List.mem_of_getElem? (i := 483) (by decide +kernel)⟩
theorem zp_6_2 : ((zcls 6).2.1 2).2.2.2 = false ∧ zty 6 2 = .int := by decide +kernel
theorem v_X_feed : zCV m_X_feed 1 := ⟨⟨List.mem_of_getElem? (i := 480) (by decide +kernel), List.mem_of_getElem? (i := 70) (by decide +kernel), by decide +kernel, by decide +kernel, by decide⟩, List.mem_of_getElem? (i := 478) (by decide +kernel), List.mem_of_getElem? (i := 479) (by decide +kernel)⟩
theorem zis_255 : (Int16.ofInt (255)).toInt32 = (255 : Int32) := by decide +kernel
theorem v_M_feed : zCV m_M_feed 1 := ⟨⟨List.mem_of_getElem? (i := 1264) (by decide +kernel), List.mem_of_getElem? (i := 81) (by decide +kernel), by decide +kernel, by decide +kernel, by decide⟩, List.mem_of_getElem? (i := 1262) (by decide +kernel), List.mem_of_getElem? (i := 1263) (by decide +kernel)⟩
theorem zk_M_147 : Cond.constantLong RX11 147 (255 : Int64) ∈ lw_tbl := List.mem_of_getElem? (i := 1265) (by decide +kernel)
theorem zp_11_14 : ((zcls 11).2.1 14).2.2.2 = false ∧ zty 11 14 = .int := by decide +kernel
theorem v_Code_empty : zCV m_Code_empty 0 := ⟨⟨List.mem_of_getElem? (i := 496) (by decide +kernel), List.mem_of_getElem? (i := 74) (by decide +kernel), by decide +kernel, by decide +kernel, by decide⟩, List.mem_of_getElem? (i := 494) (by decide +kernel), List.mem_of_getElem? (i := 495) (by decide +kernel)⟩
theorem zp_2_3 : ((zcls 2).2.1 3).2.2.2 = false ∧ zty 2 3 = .int := by decide +kernel
theorem v_Reader_next : zCV m_Reader_next 0 := ⟨⟨List.mem_of_getElem? (i := 512) (by decide +kernel), List.mem_of_getElem? (i := 73) (by decide +kernel), by decide +kernel, by decide +kernel, by decide⟩, List.mem_of_getElem? (i := 511) (by decide +kernel), List.mem_of_getElem? (i := 6) (by decide +kernel)⟩
theorem v_Code_add : zCV m_Code_add 2 := ⟨⟨List.mem_of_getElem? (i := 520) (by decide +kernel), List.mem_of_getElem? (i := 74) (by decide +kernel), by decide +kernel, by decide +kernel, by decide⟩, List.mem_of_getElem? (i := 518) (by decide +kernel), List.mem_of_getElem? (i := 519) (by decide +kernel)⟩
theorem zis_128 : (Int16.ofInt (128)).toInt32 = (128 : Int32) := by decide +kernel
theorem v_Reader_isDigit : zCS m_Reader_isDigit 1 := ⟨⟨List.mem_of_getElem? (i := 523) (by decide +kernel), List.mem_of_getElem? (i := 73) (by decide +kernel), by decide +kernel, by decide +kernel, by decide⟩, List.mem_of_getElem? (i := 522) (by decide +kernel)⟩
theorem zib_48 : (Int8.ofInt (48)).toInt32 = (48 : Int32) := by decide +kernel
theorem zib_57 : (Int8.ofInt (57)).toInt32 = (57 : Int32) := by decide +kernel
theorem v_Reader_readNumber : zCV m_Reader_readNumber 0 := ⟨⟨List.mem_of_getElem? (i := 527) (by decide +kernel), List.mem_of_getElem? (i := 73) (by decide +kernel), by decide +kernel, by decide +kernel, by decide⟩, List.mem_of_getElem? (i := 526) (by decide +kernel), List.mem_of_getElem? (i := 8) (by decide +kernel)⟩
theorem zp_6_3 : ((zcls 6).2.1 3).2.2.2 = false ∧ zty 6 3 = .int := by decide +kernel
theorem v_Reader_nameOf : zCS m_Reader_nameOf 1 := ⟨⟨List.mem_of_getElem? (i := 530) (by decide +kernel), List.mem_of_getElem? (i := 73) (by decide +kernel), by decide +kernel, by decide +kernel, by decide⟩, List.mem_of_getElem? (i := 529) (by decide +kernel)⟩
theorem zic_5 : Int32.ofInt (5) = (5 : Int32) := by decide +kernel
theorem zic_3 : Int32.ofInt (3) = (3 : Int32) := by decide +kernel
theorem v_Reader_levelOf : zCS m_Reader_levelOf 1 := ⟨⟨List.mem_of_getElem? (i := 533) (by decide +kernel), List.mem_of_getElem? (i := 73) (by decide +kernel), by decide +kernel, by decide +kernel, by decide⟩, List.mem_of_getElem? (i := 532) (by decide +kernel)⟩
theorem v_Reader_readChain : zCV m_Reader_readChain 2 := ⟨⟨List.mem_of_getElem? (i := 504) (by decide +kernel), List.mem_of_getElem? (i := 73) (by decide +kernel), by decide +kernel, by decide +kernel, by decide⟩, List.mem_of_getElem? (i := 503) (by decide +kernel), List.mem_of_getElem? (i := 4) (by decide +kernel)⟩
theorem v_Reader_readOpened : zCV m_Reader_readOpened 2 := ⟨⟨List.mem_of_getElem? (i := 516) (by decide +kernel), List.mem_of_getElem? (i := 73) (by decide +kernel), by decide +kernel, by decide +kernel, by decide⟩, List.mem_of_getElem? (i := 515) (by decide +kernel), List.mem_of_getElem? (i := 7) (by decide +kernel)⟩
theorem zib_33 : (Int8.ofInt (33)).toInt32 = (33 : Int32) := by decide +kernel
theorem zib_126 : (Int8.ofInt (126)).toInt32 = (126 : Int32) := by decide +kernel
theorem zib_41 : (Int8.ofInt (41)).toInt32 = (41 : Int32) := by decide +kernel
theorem v_Reader_readOperand : zCV m_Reader_readOperand 1 := ⟨⟨List.mem_of_getElem? (i := 508) (by decide +kernel), List.mem_of_getElem? (i := 73) (by decide +kernel), by decide +kernel, by decide +kernel, by decide⟩, List.mem_of_getElem? (i := 507) (by decide +kernel), List.mem_of_getElem? (i := 5) (by decide +kernel)⟩
theorem zib_45 : (Int8.ofInt (45)).toInt32 = (45 : Int32) := by decide +kernel
theorem zib_97 : (Int8.ofInt (97)).toInt32 = (97 : Int32) := by decide +kernel
theorem v_Reader_readLine : zCV m_Reader_readLine 0 := ⟨⟨List.mem_of_getElem? (i := 500) (by decide +kernel), List.mem_of_getElem? (i := 73) (by decide +kernel), by decide +kernel, by decide +kernel, by decide⟩, List.mem_of_getElem? (i := 499) (by decide +kernel), List.mem_of_getElem? (i := 3) (by decide +kernel)⟩
theorem zib_63 : (Int8.ofInt (63)).toInt32 = (63 : Int32) := by decide +kernel
theorem zib_59 : (Int8.ofInt (59)).toInt32 = (59 : Int32) := by decide +kernel
theorem v_Reader_read : zCV m_Reader_read 0 := ⟨⟨List.mem_of_getElem? (i := 492) (by decide +kernel), List.mem_of_getElem? (i := 73) (by decide +kernel), by decide +kernel, by decide +kernel, by decide⟩, List.mem_of_getElem? (i := 490) (by decide +kernel), List.mem_of_getElem? (i := 491) (by decide +kernel)⟩
theorem v_Code_becomes : zCV m_Code_becomes 1 := ⟨⟨List.mem_of_getElem? (i := 537) (by decide +kernel), List.mem_of_getElem? (i := 74) (by decide +kernel), by decide +kernel, by decide +kernel, by decide⟩, List.mem_of_getElem? (i := 535) (by decide +kernel), List.mem_of_getElem? (i := 536) (by decide +kernel)⟩
theorem v_X_law : zCV m_X_law 0 := ⟨⟨List.mem_of_getElem? (i := 488) (by decide +kernel), List.mem_of_getElem? (i := 70) (by decide +kernel), by decide +kernel, by decide +kernel, by decide⟩, List.mem_of_getElem? (i := 486) (by decide +kernel), List.mem_of_getElem? (i := 487) (by decide +kernel)⟩
theorem zib_m100 : (Int8.ofInt (-100)).toInt32 = (-100 : Int32) := by decide +kernel
theorem v_M_byteAt : zCV m_M_byteAt 0 := ⟨⟨List.mem_of_getElem? (i := 1301) (by decide +kernel), List.mem_of_getElem? (i := 81) (by decide +kernel), by decide +kernel, by decide +kernel, by decide⟩, List.mem_of_getElem? (i := 1300) (by decide +kernel), List.mem_of_getElem? (i := 40) (by decide +kernel)⟩
theorem v_M_wrong : zCV m_M_wrong 0 := ⟨⟨List.mem_of_getElem? (i := 1305) (by decide +kernel), List.mem_of_getElem? (i := 81) (by decide +kernel), by decide +kernel, by decide +kernel, by decide⟩, List.mem_of_getElem? (i := 1304) (by decide +kernel), List.mem_of_getElem? (i := 41) (by decide +kernel)⟩
theorem zp_11_20 : ((zcls 11).2.1 20).2.2.2 = false ∧ zty 11 20 = .int := by decide +kernel
theorem v_M_takes : zCV m_M_takes 1 := ⟨⟨List.mem_of_getElem? (i := 1309) (by decide +kernel), List.mem_of_getElem? (i := 81) (by decide +kernel), by decide +kernel, by decide +kernel, by decide⟩, List.mem_of_getElem? (i := 1308) (by decide +kernel), List.mem_of_getElem? (i := 42) (by decide +kernel)⟩
theorem zp_11_18 : ((zcls 11).2.1 18).2.2.2 = false ∧ zty 11 18 = .int := by decide +kernel
theorem v_M_nameOf : zCS m_M_nameOf 1 := ⟨⟨List.mem_of_getElem? (i := 1312) (by decide +kernel), List.mem_of_getElem? (i := 81) (by decide +kernel), by decide +kernel, by decide +kernel, by decide⟩, List.mem_of_getElem? (i := 1311) (by decide +kernel)⟩
theorem v_M_both : zCV m_M_both 0 := ⟨⟨List.mem_of_getElem? (i := 1281) (by decide +kernel), List.mem_of_getElem? (i := 81) (by decide +kernel), by decide +kernel, by decide +kernel, by decide⟩, List.mem_of_getElem? (i := 1280) (by decide +kernel), List.mem_of_getElem? (i := 35) (by decide +kernel)⟩
theorem zib_38 : (Int8.ofInt (38)).toInt32 = (38 : Int32) := by decide +kernel
theorem v_M_compared : zCV m_M_compared 0 := ⟨⟨List.mem_of_getElem? (i := 1285) (by decide +kernel), List.mem_of_getElem? (i := 81) (by decide +kernel), by decide +kernel, by decide +kernel, by decide⟩, List.mem_of_getElem? (i := 1284) (by decide +kernel), List.mem_of_getElem? (i := 36) (by decide +kernel)⟩
theorem zib_61 : (Int8.ofInt (61)).toInt32 = (61 : Int32) := by decide +kernel
theorem zib_62 : (Int8.ofInt (62)).toInt32 = (62 : Int32) := by decide +kernel
theorem v_M_either : zCV m_M_either 0 := ⟨⟨List.mem_of_getElem? (i := 1277) (by decide +kernel), List.mem_of_getElem? (i := 81) (by decide +kernel), by decide +kernel, by decide +kernel, by decide⟩, List.mem_of_getElem? (i := 1276) (by decide +kernel), List.mem_of_getElem? (i := 34) (by decide +kernel)⟩
theorem zib_124 : (Int8.ofInt (124)).toInt32 = (124 : Int32) := by decide +kernel
theorem v_M_one : zCV m_M_one 0 := ⟨⟨List.mem_of_getElem? (i := 1297) (by decide +kernel), List.mem_of_getElem? (i := 81) (by decide +kernel), by decide +kernel, by decide +kernel, by decide⟩, List.mem_of_getElem? (i := 1296) (by decide +kernel), List.mem_of_getElem? (i := 39) (by decide +kernel)⟩
theorem zp_11_21 : ((zcls 11).2.1 21).2.2.2 = false ∧ zty 11 21 = .int := by decide +kernel
theorem v_M_product : zCV m_M_product 0 := ⟨⟨List.mem_of_getElem? (i := 1293) (by decide +kernel), List.mem_of_getElem? (i := 81) (by decide +kernel), by decide +kernel, by decide +kernel, by decide⟩, List.mem_of_getElem? (i := 1292) (by decide +kernel), List.mem_of_getElem? (i := 38) (by decide +kernel)⟩
theorem zib_42 : (Int8.ofInt (42)).toInt32 = (42 : Int32) := by decide +kernel
theorem zib_47 : (Int8.ofInt (47)).toInt32 = (47 : Int32) := by decide +kernel
theorem zib_37 : (Int8.ofInt (37)).toInt32 = (37 : Int32) := by decide +kernel
theorem v_M_sums : zCV m_M_sums 0 := ⟨⟨List.mem_of_getElem? (i := 1289) (by decide +kernel), List.mem_of_getElem? (i := 81) (by decide +kernel), by decide +kernel, by decide +kernel, by decide⟩, List.mem_of_getElem? (i := 1288) (by decide +kernel), List.mem_of_getElem? (i := 37) (by decide +kernel)⟩
theorem zib_43 : (Int8.ofInt (43)).toInt32 = (43 : Int32) := by decide +kernel
theorem v_M_workOut : zCV m_M_workOut 2 := ⟨⟨List.mem_of_getElem? (i := 1273) (by decide +kernel), List.mem_of_getElem? (i := 81) (by decide +kernel), by decide +kernel, by decide +kernel, by decide⟩, List.mem_of_getElem? (i := 1272) (by decide +kernel), List.mem_of_getElem? (i := 33) (by decide +kernel)⟩
theorem zp_11_17 : ((zcls 11).2.1 17).2.2.2 = false ∧ zty 11 17 = .int := by decide +kernel
theorem zp_11_19 : ((zcls 11).2.1 19).2.2.2 = false ∧ zty 11 19 = .int := by decide +kernel
theorem v_M_law : zCV m_M_law 0 := ⟨⟨List.mem_of_getElem? (i := 1269) (by decide +kernel), List.mem_of_getElem? (i := 81) (by decide +kernel), by decide +kernel, by decide +kernel, by decide⟩, List.mem_of_getElem? (i := 1267) (by decide +kernel), List.mem_of_getElem? (i := 1268) (by decide +kernel)⟩
theorem zp_11_16 : ((zcls 11).2.1 16).2.2.2 = false ∧ zty 11 16 = .int := by decide +kernel
theorem v_Council_everything : zCV m_Council_everything 0 := ⟨⟨List.mem_of_getElem? (i := 554) (by decide +kernel), List.mem_of_getElem? (i := 71) (by decide +kernel), by decide +kernel, by decide +kernel, by decide⟩, List.mem_of_getElem? (i := 552) (by decide +kernel), List.mem_of_getElem? (i := 553) (by decide +kernel)⟩
theorem v_Council_isBundle : zCV m_Council_isBundle 1 := ⟨⟨List.mem_of_getElem? (i := 550) (by decide +kernel), List.mem_of_getElem? (i := 71) (by decide +kernel), by decide +kernel, by decide +kernel, by decide⟩, List.mem_of_getElem? (i := 548) (by decide +kernel), List.mem_of_getElem? (i := 549) (by decide +kernel)⟩
theorem v_Council_everybody : zCV m_Council_everybody 0 := ⟨⟨List.mem_of_getElem? (i := 562) (by decide +kernel), List.mem_of_getElem? (i := 71) (by decide +kernel), by decide +kernel, by decide +kernel, by decide⟩, List.mem_of_getElem? (i := 560) (by decide +kernel), List.mem_of_getElem? (i := 561) (by decide +kernel)⟩
theorem v_Council_isGifts : zCV m_Council_isGifts 1 := ⟨⟨List.mem_of_getElem? (i := 558) (by decide +kernel), List.mem_of_getElem? (i := 71) (by decide +kernel), by decide +kernel, by decide +kernel, by decide⟩, List.mem_of_getElem? (i := 556) (by decide +kernel), List.mem_of_getElem? (i := 557) (by decide +kernel)⟩
theorem v_X_isPut : zCV m_X_isPut 2 := ⟨⟨List.mem_of_getElem? (i := 546) (by decide +kernel), List.mem_of_getElem? (i := 70) (by decide +kernel), by decide +kernel, by decide +kernel, by decide⟩, List.mem_of_getElem? (i := 545) (by decide +kernel), List.mem_of_getElem? (i := 9) (by decide +kernel)⟩
theorem v_Council_sumOf : zCV m_Council_sumOf 3 := ⟨⟨List.mem_of_getElem? (i := 574) (by decide +kernel), List.mem_of_getElem? (i := 71) (by decide +kernel), by decide +kernel, by decide +kernel, by decide⟩, List.mem_of_getElem? (i := 572) (by decide +kernel), List.mem_of_getElem? (i := 573) (by decide +kernel)⟩
theorem v_Ballot_weigh : zCV m_Ballot_weigh 2 := ⟨⟨List.mem_of_getElem? (i := 570) (by decide +kernel), List.mem_of_getElem? (i := 75) (by decide +kernel), by decide +kernel, by decide +kernel, by decide⟩, List.mem_of_getElem? (i := 569) (by decide +kernel), List.mem_of_getElem? (i := 10) (by decide +kernel)⟩
theorem zp_0_4 : ((zcls 0).2.1 4).2.2.2 = false ∧ zty 0 4 = .int := by decide +kernel
theorem v_Code_isEmpty : zCV m_Code_isEmpty 0 := ⟨⟨List.mem_of_getElem? (i := 579) (by decide +kernel), List.mem_of_getElem? (i := 74) (by decide +kernel), by decide +kernel, by decide +kernel, by decide⟩, List.mem_of_getElem? (i := 577) (by decide +kernel), List.mem_of_getElem? (i := 578) (by decide +kernel)⟩
theorem v_Ballot_nearOf : zCV m_Ballot_nearOf 1 := ⟨⟨List.mem_of_getElem? (i := 587) (by decide +kernel), List.mem_of_getElem? (i := 75) (by decide +kernel), by decide +kernel, by decide +kernel, by decide⟩, List.mem_of_getElem? (i := 586) (by decide +kernel), List.mem_of_getElem? (i := 12) (by decide +kernel)⟩
theorem v_Ballot_isFree : zCV m_Ballot_isFree 2 := ⟨⟨List.mem_of_getElem? (i := 583) (by decide +kernel), List.mem_of_getElem? (i := 75) (by decide +kernel), by decide +kernel, by decide +kernel, by decide⟩, List.mem_of_getElem? (i := 582) (by decide +kernel), List.mem_of_getElem? (i := 11) (by decide +kernel)⟩
theorem v_Int_bitCount : zCS m_Int_bitCount 1 := ⟨⟨List.mem_of_getElem? (i := 596) (by decide +kernel), List.mem_of_getElem? (i := 84) (by decide +kernel), by decide +kernel, by decide +kernel, by decide⟩, List.mem_of_getElem? (i := 595) (by decide +kernel)⟩
theorem zk_Int_265 : Cond.constant RJ6 265 (1431655765 : Int32) ∈ lw_tbl := List.mem_of_getElem? (i := 597) (by decide +kernel)
theorem zk_Int_266 : Cond.constant RJ6 266 (858993459 : Int32) ∈ lw_tbl := List.mem_of_getElem? (i := 598) (by decide +kernel)
theorem zk_Int_267 : Cond.constant RJ6 267 (252645135 : Int32) ∈ lw_tbl := List.mem_of_getElem? (i := 599) (by decide +kernel)
theorem zib_8 : (Int8.ofInt (8)).toInt32 = (8 : Int32) := by decide +kernel
theorem zib_16 : (Int8.ofInt (16)).toInt32 = (16 : Int32) := by decide +kernel
theorem v_Code_named : zCS m_Code_named 2 := ⟨⟨List.mem_of_getElem? (i := 606) (by decide +kernel), List.mem_of_getElem? (i := 74) (by decide +kernel), by decide +kernel, by decide +kernel, by decide⟩, List.mem_of_getElem? (i := 605) (by decide +kernel)⟩
theorem v_Code_needOf : zCS m_Code_needOf 1 := ⟨⟨List.mem_of_getElem? (i := 609) (by decide +kernel), List.mem_of_getElem? (i := 74) (by decide +kernel), by decide +kernel, by decide +kernel, by decide⟩, List.mem_of_getElem? (i := 608) (by decide +kernel)⟩
theorem v_Code_joined : zCS m_Code_joined 3 := ⟨⟨List.mem_of_getElem? (i := 612) (by decide +kernel), List.mem_of_getElem? (i := 74) (by decide +kernel), by decide +kernel, by decide +kernel, by decide⟩, List.mem_of_getElem? (i := 611) (by decide +kernel)⟩
theorem v_Code_worth : zCV m_Code_worth 1 := ⟨⟨List.mem_of_getElem? (i := 603) (by decide +kernel), List.mem_of_getElem? (i := 74) (by decide +kernel), by decide +kernel, by decide +kernel, by decide⟩, List.mem_of_getElem? (i := 601) (by decide +kernel), List.mem_of_getElem? (i := 602) (by decide +kernel)⟩
theorem zic_m2 : Int32.ofInt (-2) = (-2 : Int32) := by decide +kernel
theorem v_Ballot_isAllowed : zCV m_Ballot_isAllowed 3 := ⟨⟨List.mem_of_getElem? (i := 593) (by decide +kernel), List.mem_of_getElem? (i := 75) (by decide +kernel), by decide +kernel, by decide +kernel, by decide⟩, List.mem_of_getElem? (i := 592) (by decide +kernel), List.mem_of_getElem? (i := 13) (by decide +kernel)⟩
theorem v_Ballot_whoMay : zCV m_Ballot_whoMay 3 := ⟨⟨List.mem_of_getElem? (i := 566) (by decide +kernel), List.mem_of_getElem? (i := 75) (by decide +kernel), by decide +kernel, by decide +kernel, by decide⟩, List.mem_of_getElem? (i := 564) (by decide +kernel), List.mem_of_getElem? (i := 565) (by decide +kernel)⟩
theorem v_X_may : zCV m_X_may 3 := ⟨⟨List.mem_of_getElem? (i := 542) (by decide +kernel), List.mem_of_getElem? (i := 70) (by decide +kernel), by decide +kernel, by decide +kernel, by decide⟩, List.mem_of_getElem? (i := 540) (by decide +kernel), List.mem_of_getElem? (i := 541) (by decide +kernel)⟩
theorem v_M_isBundle : zCV m_M_isBundle 1 := ⟨⟨List.mem_of_getElem? (i := 1320) (by decide +kernel), List.mem_of_getElem? (i := 81) (by decide +kernel), by decide +kernel, by decide +kernel, by decide⟩, List.mem_of_getElem? (i := 1319) (by decide +kernel), List.mem_of_getElem? (i := 43) (by decide +kernel)⟩
theorem v_M_areGifts : zCV m_M_areGifts 1 := ⟨⟨List.mem_of_getElem? (i := 1324) (by decide +kernel), List.mem_of_getElem? (i := 81) (by decide +kernel), by decide +kernel, by decide +kernel, by decide⟩, List.mem_of_getElem? (i := 1323) (by decide +kernel), List.mem_of_getElem? (i := 44) (by decide +kernel)⟩
theorem v_M_touches : zCV m_M_touches 3 := ⟨⟨List.mem_of_getElem? (i := 1332) (by decide +kernel), List.mem_of_getElem? (i := 81) (by decide +kernel), by decide +kernel, by decide +kernel, by decide⟩, List.mem_of_getElem? (i := 1331) (by decide +kernel), List.mem_of_getElem? (i := 46) (by decide +kernel)⟩
theorem v_M_nearOf : zCV m_M_nearOf 1 := ⟨⟨List.mem_of_getElem? (i := 1340) (by decide +kernel), List.mem_of_getElem? (i := 81) (by decide +kernel), by decide +kernel, by decide +kernel, by decide⟩, List.mem_of_getElem? (i := 1339) (by decide +kernel), List.mem_of_getElem? (i := 48) (by decide +kernel)⟩
theorem v_M_bitsOf : zCS m_M_bitsOf 1 := ⟨⟨List.mem_of_getElem? (i := 1343) (by decide +kernel), List.mem_of_getElem? (i := 81) (by decide +kernel), by decide +kernel, by decide +kernel, by decide⟩, List.mem_of_getElem? (i := 1342) (by decide +kernel)⟩
theorem v_M_mayVote : zCV m_M_mayVote 3 := ⟨⟨List.mem_of_getElem? (i := 1336) (by decide +kernel), List.mem_of_getElem? (i := 81) (by decide +kernel), by decide +kernel, by decide +kernel, by decide⟩, List.mem_of_getElem? (i := 1335) (by decide +kernel), List.mem_of_getElem? (i := 47) (by decide +kernel)⟩
theorem v_M_asks : zCV m_M_asks 3 := ⟨⟨List.mem_of_getElem? (i := 1328) (by decide +kernel), List.mem_of_getElem? (i := 81) (by decide +kernel), by decide +kernel, by decide +kernel, by decide⟩, List.mem_of_getElem? (i := 1327) (by decide +kernel), List.mem_of_getElem? (i := 45) (by decide +kernel)⟩
theorem zp_11_25 : ((zcls 11).2.1 25).2.2.2 = false ∧ zty 11 25 = .int := by decide +kernel
theorem v_M_may : zCV m_M_may 3 := ⟨⟨List.mem_of_getElem? (i := 1316) (by decide +kernel), List.mem_of_getElem? (i := 81) (by decide +kernel), by decide +kernel, by decide +kernel, by decide⟩, List.mem_of_getElem? (i := 1314) (by decide +kernel), List.mem_of_getElem? (i := 1315) (by decide +kernel)⟩
theorem v_Ballot_whoLeans : zCV m_Ballot_whoLeans 2 := ⟨⟨List.mem_of_getElem? (i := 624) (by decide +kernel), List.mem_of_getElem? (i := 75) (by decide +kernel), by decide +kernel, by decide +kernel, by decide⟩, List.mem_of_getElem? (i := 623) (by decide +kernel), List.mem_of_getElem? (i := 14) (by decide +kernel)⟩
theorem v_Ballot_fans : zCV m_Ballot_fans 1 := ⟨⟨List.mem_of_getElem? (i := 620) (by decide +kernel), List.mem_of_getElem? (i := 75) (by decide +kernel), by decide +kernel, by decide +kernel, by decide⟩, List.mem_of_getElem? (i := 618) (by decide +kernel), List.mem_of_getElem? (i := 619) (by decide +kernel)⟩
theorem v_Ballot_foes : zCV m_Ballot_foes 1 := ⟨⟨List.mem_of_getElem? (i := 628) (by decide +kernel), List.mem_of_getElem? (i := 75) (by decide +kernel), by decide +kernel, by decide +kernel, by decide⟩, List.mem_of_getElem? (i := 626) (by decide +kernel), List.mem_of_getElem? (i := 627) (by decide +kernel)⟩
theorem v_Ballot_isMore : zCS m_Ballot_isMore 2 := ⟨⟨List.mem_of_getElem? (i := 642) (by decide +kernel), List.mem_of_getElem? (i := 75) (by decide +kernel), by decide +kernel, by decide +kernel, by decide⟩, List.mem_of_getElem? (i := 641) (by decide +kernel)⟩
theorem v_Ballot_isCarriedBy : zCV m_Ballot_isCarriedBy 3 := ⟨⟨List.mem_of_getElem? (i := 639) (by decide +kernel), List.mem_of_getElem? (i := 75) (by decide +kernel), by decide +kernel, by decide +kernel, by decide⟩, List.mem_of_getElem? (i := 637) (by decide +kernel), List.mem_of_getElem? (i := 638) (by decide +kernel)⟩
theorem v_Ballot_isCarried : zCV m_Ballot_isCarried 2 := ⟨⟨List.mem_of_getElem? (i := 632) (by decide +kernel), List.mem_of_getElem? (i := 75) (by decide +kernel), by decide +kernel, by decide +kernel, by decide⟩, List.mem_of_getElem? (i := 630) (by decide +kernel), List.mem_of_getElem? (i := 631) (by decide +kernel)⟩
theorem v_X_vote : zCV m_X_vote 3 := ⟨⟨List.mem_of_getElem? (i := 616) (by decide +kernel), List.mem_of_getElem? (i := 70) (by decide +kernel), by decide +kernel, by decide +kernel, by decide⟩, List.mem_of_getElem? (i := 614) (by decide +kernel), List.mem_of_getElem? (i := 615) (by decide +kernel)⟩
theorem v_M_sideOf : zCV m_M_sideOf 2 := ⟨⟨List.mem_of_getElem? (i := 1364) (by decide +kernel), List.mem_of_getElem? (i := 81) (by decide +kernel), by decide +kernel, by decide +kernel, by decide⟩, List.mem_of_getElem? (i := 1363) (by decide +kernel), List.mem_of_getElem? (i := 52) (by decide +kernel)⟩
theorem v_M_isMore : zCV m_M_isMore 1 := ⟨⟨List.mem_of_getElem? (i := 1360) (by decide +kernel), List.mem_of_getElem? (i := 81) (by decide +kernel), by decide +kernel, by decide +kernel, by decide⟩, List.mem_of_getElem? (i := 1359) (by decide +kernel), List.mem_of_getElem? (i := 51) (by decide +kernel)⟩
theorem v_M_isCarriedBy : zCV m_M_isCarriedBy 1 := ⟨⟨List.mem_of_getElem? (i := 1356) (by decide +kernel), List.mem_of_getElem? (i := 81) (by decide +kernel), by decide +kernel, by decide +kernel, by decide⟩, List.mem_of_getElem? (i := 1355) (by decide +kernel), List.mem_of_getElem? (i := 50) (by decide +kernel)⟩
theorem v_M_isCarried : zCV m_M_isCarried 2 := ⟨⟨List.mem_of_getElem? (i := 1352) (by decide +kernel), List.mem_of_getElem? (i := 81) (by decide +kernel), by decide +kernel, by decide +kernel, by decide⟩, List.mem_of_getElem? (i := 1351) (by decide +kernel), List.mem_of_getElem? (i := 49) (by decide +kernel)⟩
theorem v_M_vote : zCV m_M_vote 3 := ⟨⟨List.mem_of_getElem? (i := 1347) (by decide +kernel), List.mem_of_getElem? (i := 81) (by decide +kernel), by decide +kernel, by decide +kernel, by decide⟩, List.mem_of_getElem? (i := 1345) (by decide +kernel), List.mem_of_getElem? (i := 1346) (by decide +kernel)⟩
theorem zk_M_238 : Cond.constantLong RX11 238 (3 : Int64) ∈ lw_tbl := List.mem_of_getElem? (i := 1348) (by decide +kernel)
theorem v_Finder_isFewer : zCS m_Finder_isFewer 2 := ⟨⟨List.mem_of_getElem? (i := 655) (by decide +kernel), List.mem_of_getElem? (i := 76) (by decide +kernel), by decide +kernel, by decide +kernel, by decide⟩, List.mem_of_getElem? (i := 654) (by decide +kernel)⟩
theorem v_Finder_smallestCarriedWith : zCV m_Finder_smallestCarriedWith 1 := ⟨⟨List.mem_of_getElem? (i := 651) (by decide +kernel), List.mem_of_getElem? (i := 76) (by decide +kernel), by decide +kernel, by decide +kernel, by decide⟩, List.mem_of_getElem? (i := 649) (by decide +kernel), List.mem_of_getElem? (i := 650) (by decide +kernel)⟩
theorem zib_m2 : (Int8.ofInt (-2)).toInt32 = (-2 : Int32) := by decide +kernel
theorem v_X_together : zCV m_X_together 1 := ⟨⟨List.mem_of_getElem? (i := 646) (by decide +kernel), List.mem_of_getElem? (i := 70) (by decide +kernel), by decide +kernel, by decide +kernel, by decide⟩, List.mem_of_getElem? (i := 644) (by decide +kernel), List.mem_of_getElem? (i := 645) (by decide +kernel)⟩
theorem v_M_together : zCV m_M_together 1 := ⟨⟨List.mem_of_getElem? (i := 1368) (by decide +kernel), List.mem_of_getElem? (i := 81) (by decide +kernel), by decide +kernel, by decide +kernel, by decide⟩, List.mem_of_getElem? (i := 1366) (by decide +kernel), List.mem_of_getElem? (i := 1367) (by decide +kernel)⟩
theorem v_Council_feesOf : zCV m_Council_feesOf 1 := ⟨⟨List.mem_of_getElem? (i := 674) (by decide +kernel), List.mem_of_getElem? (i := 71) (by decide +kernel), by decide +kernel, by decide +kernel, by decide⟩, List.mem_of_getElem? (i := 672) (by decide +kernel), List.mem_of_getElem? (i := 673) (by decide +kernel)⟩
theorem v_Finder_isCheaper : zCV m_Finder_isCheaper 2 := ⟨⟨List.mem_of_getElem? (i := 670) (by decide +kernel), List.mem_of_getElem? (i := 76) (by decide +kernel), by decide +kernel, by decide +kernel, by decide⟩, List.mem_of_getElem? (i := 669) (by decide +kernel), List.mem_of_getElem? (i := 15) (by decide +kernel)⟩
theorem v_Finder_cheapestGifts : zCV m_Finder_cheapestGifts 1 := ⟨⟨List.mem_of_getElem? (i := 665) (by decide +kernel), List.mem_of_getElem? (i := 76) (by decide +kernel), by decide +kernel, by decide +kernel, by decide⟩, List.mem_of_getElem? (i := 663) (by decide +kernel), List.mem_of_getElem? (i := 664) (by decide +kernel)⟩
theorem v_X_silenced : zCV m_X_silenced 2 := ⟨⟨List.mem_of_getElem? (i := 661) (by decide +kernel), List.mem_of_getElem? (i := 70) (by decide +kernel), by decide +kernel, by decide +kernel, by decide⟩, List.mem_of_getElem? (i := 659) (by decide +kernel), List.mem_of_getElem? (i := 660) (by decide +kernel)⟩
theorem v_M_feesOf : zCV m_M_feesOf 1 := ⟨⟨List.mem_of_getElem? (i := 1376) (by decide +kernel), List.mem_of_getElem? (i := 81) (by decide +kernel), by decide +kernel, by decide +kernel, by decide⟩, List.mem_of_getElem? (i := 1375) (by decide +kernel), List.mem_of_getElem? (i := 53) (by decide +kernel)⟩
theorem v_M_silenced : zCV m_M_silenced 2 := ⟨⟨List.mem_of_getElem? (i := 1372) (by decide +kernel), List.mem_of_getElem? (i := 81) (by decide +kernel), by decide +kernel, by decide +kernel, by decide⟩, List.mem_of_getElem? (i := 1370) (by decide +kernel), List.mem_of_getElem? (i := 1371) (by decide +kernel)⟩
theorem v_Finder_fewestLeftOut : zCV m_Finder_fewestLeftOut 2 := ⟨⟨List.mem_of_getElem? (i := 683) (by decide +kernel), List.mem_of_getElem? (i := 76) (by decide +kernel), by decide +kernel, by decide +kernel, by decide⟩, List.mem_of_getElem? (i := 681) (by decide +kernel), List.mem_of_getElem? (i := 682) (by decide +kernel)⟩
theorem v_X_leaveOut : zCV m_X_leaveOut 2 := ⟨⟨List.mem_of_getElem? (i := 679) (by decide +kernel), List.mem_of_getElem? (i := 70) (by decide +kernel), by decide +kernel, by decide +kernel, by decide⟩, List.mem_of_getElem? (i := 677) (by decide +kernel), List.mem_of_getElem? (i := 678) (by decide +kernel)⟩
theorem v_M_leaveOut : zCV m_M_leaveOut 2 := ⟨⟨List.mem_of_getElem? (i := 1380) (by decide +kernel), List.mem_of_getElem? (i := 81) (by decide +kernel), by decide +kernel, by decide +kernel, by decide⟩, List.mem_of_getElem? (i := 1378) (by decide +kernel), List.mem_of_getElem? (i := 1379) (by decide +kernel)⟩
theorem v_Finder_carriedAlone : zCV m_Finder_carriedAlone 0 := ⟨⟨List.mem_of_getElem? (i := 692) (by decide +kernel), List.mem_of_getElem? (i := 76) (by decide +kernel), by decide +kernel, by decide +kernel, by decide⟩, List.mem_of_getElem? (i := 690) (by decide +kernel), List.mem_of_getElem? (i := 691) (by decide +kernel)⟩
theorem v_X_alone : zCV m_X_alone 0 := ⟨⟨List.mem_of_getElem? (i := 688) (by decide +kernel), List.mem_of_getElem? (i := 70) (by decide +kernel), by decide +kernel, by decide +kernel, by decide⟩, List.mem_of_getElem? (i := 686) (by decide +kernel), List.mem_of_getElem? (i := 687) (by decide +kernel)⟩
theorem v_M_alone : zCV m_M_alone 0 := ⟨⟨List.mem_of_getElem? (i := 1384) (by decide +kernel), List.mem_of_getElem? (i := 81) (by decide +kernel), by decide +kernel, by decide +kernel, by decide⟩, List.mem_of_getElem? (i := 1382) (by decide +kernel), List.mem_of_getElem? (i := 1383) (by decide +kernel)⟩
theorem v_Finder_part : zCV m_Finder_part 0 := ⟨⟨List.mem_of_getElem? (i := 700) (by decide +kernel), List.mem_of_getElem? (i := 76) (by decide +kernel), by decide +kernel, by decide +kernel, by decide⟩, List.mem_of_getElem? (i := 698) (by decide +kernel), List.mem_of_getElem? (i := 699) (by decide +kernel)⟩
theorem zib_64 : (Int8.ofInt (64)).toInt32 = (64 : Int32) := by decide +kernel
theorem v_Finder_mostCarried : zCV m_Finder_mostCarried 0 := ⟨⟨List.mem_of_getElem? (i := 704) (by decide +kernel), List.mem_of_getElem? (i := 76) (by decide +kernel), by decide +kernel, by decide +kernel, by decide⟩, List.mem_of_getElem? (i := 702) (by decide +kernel), List.mem_of_getElem? (i := 703) (by decide +kernel)⟩
theorem v_Finder_partOf : zCV m_Finder_partOf 1 := ⟨⟨List.mem_of_getElem? (i := 708) (by decide +kernel), List.mem_of_getElem? (i := 76) (by decide +kernel), by decide +kernel, by decide +kernel, by decide⟩, List.mem_of_getElem? (i := 706) (by decide +kernel), List.mem_of_getElem? (i := 707) (by decide +kernel)⟩
theorem v_X_parted : zCV m_X_parted 1 := ⟨⟨List.mem_of_getElem? (i := 696) (by decide +kernel), List.mem_of_getElem? (i := 70) (by decide +kernel), by decide +kernel, by decide +kernel, by decide⟩, List.mem_of_getElem? (i := 694) (by decide +kernel), List.mem_of_getElem? (i := 695) (by decide +kernel)⟩
theorem v_M_parts : zCV m_M_parts 0 := ⟨⟨List.mem_of_getElem? (i := 1392) (by decide +kernel), List.mem_of_getElem? (i := 81) (by decide +kernel), by decide +kernel, by decide +kernel, by decide⟩, List.mem_of_getElem? (i := 1391) (by decide +kernel), List.mem_of_getElem? (i := 54) (by decide +kernel)⟩
theorem v_M_parted : zCV m_M_parted 1 := ⟨⟨List.mem_of_getElem? (i := 1388) (by decide +kernel), List.mem_of_getElem? (i := 81) (by decide +kernel), by decide +kernel, by decide +kernel, by decide⟩, List.mem_of_getElem? (i := 1386) (by decide +kernel), List.mem_of_getElem? (i := 1387) (by decide +kernel)⟩
theorem v_Finder_countSays : zCV m_Finder_countSays 0 := ⟨⟨List.mem_of_getElem? (i := 720) (by decide +kernel), List.mem_of_getElem? (i := 76) (by decide +kernel), by decide +kernel, by decide +kernel, by decide⟩, List.mem_of_getElem? (i := 719) (by decide +kernel), List.mem_of_getElem? (i := 16) (by decide +kernel)⟩
theorem v_Finder_sayOf : zCV m_Finder_sayOf 1 := ⟨⟨List.mem_of_getElem? (i := 716) (by decide +kernel), List.mem_of_getElem? (i := 76) (by decide +kernel), by decide +kernel, by decide +kernel, by decide⟩, List.mem_of_getElem? (i := 714) (by decide +kernel), List.mem_of_getElem? (i := 715) (by decide +kernel)⟩
theorem v_Finder_powerOf : zCV m_Finder_powerOf 1 := ⟨⟨List.mem_of_getElem? (i := 724) (by decide +kernel), List.mem_of_getElem? (i := 76) (by decide +kernel), by decide +kernel, by decide +kernel, by decide⟩, List.mem_of_getElem? (i := 722) (by decide +kernel), List.mem_of_getElem? (i := 723) (by decide +kernel)⟩
theorem v_X_say : zCV m_X_say 2 := ⟨⟨List.mem_of_getElem? (i := 712) (by decide +kernel), List.mem_of_getElem? (i := 70) (by decide +kernel), by decide +kernel, by decide +kernel, by decide⟩, List.mem_of_getElem? (i := 710) (by decide +kernel), List.mem_of_getElem? (i := 711) (by decide +kernel)⟩
theorem v_M_sayOf : zCV m_M_sayOf 2 := ⟨⟨List.mem_of_getElem? (i := 1400) (by decide +kernel), List.mem_of_getElem? (i := 81) (by decide +kernel), by decide +kernel, by decide +kernel, by decide⟩, List.mem_of_getElem? (i := 1399) (by decide +kernel), List.mem_of_getElem? (i := 55) (by decide +kernel)⟩
theorem v_M_say : zCV m_M_say 2 := ⟨⟨List.mem_of_getElem? (i := 1396) (by decide +kernel), List.mem_of_getElem? (i := 81) (by decide +kernel), by decide +kernel, by decide +kernel, by decide⟩, List.mem_of_getElem? (i := 1394) (by decide +kernel), List.mem_of_getElem? (i := 1395) (by decide +kernel)⟩
theorem v_Finder_mostSaying : zCV m_Finder_mostSaying 0 := ⟨⟨List.mem_of_getElem? (i := 735) (by decide +kernel), List.mem_of_getElem? (i := 76) (by decide +kernel), by decide +kernel, by decide +kernel, by decide⟩, List.mem_of_getElem? (i := 733) (by decide +kernel), List.mem_of_getElem? (i := 734) (by decide +kernel)⟩
theorem v_X_hermit : zCV m_X_hermit 0 := ⟨⟨List.mem_of_getElem? (i := 731) (by decide +kernel), List.mem_of_getElem? (i := 70) (by decide +kernel), by decide +kernel, by decide +kernel, by decide⟩, List.mem_of_getElem? (i := 729) (by decide +kernel), List.mem_of_getElem? (i := 730) (by decide +kernel)⟩
theorem zib_m5 : (Int8.ofInt (-5)).toInt32 = (-5 : Int32) := by decide +kernel
theorem v_M_hermit : zCV m_M_hermit 0 := ⟨⟨List.mem_of_getElem? (i := 1404) (by decide +kernel), List.mem_of_getElem? (i := 81) (by decide +kernel), by decide +kernel, by decide +kernel, by decide⟩, List.mem_of_getElem? (i := 1402) (by decide +kernel), List.mem_of_getElem? (i := 1403) (by decide +kernel)⟩
theorem v_Council_rumourOf : zCV m_Council_rumourOf 1 := ⟨⟨List.mem_of_getElem? (i := 751) (by decide +kernel), List.mem_of_getElem? (i := 71) (by decide +kernel), by decide +kernel, by decide +kernel, by decide⟩, List.mem_of_getElem? (i := 749) (by decide +kernel), List.mem_of_getElem? (i := 750) (by decide +kernel)⟩
theorem v_Finder_weightOf : zCV m_Finder_weightOf 2 := ⟨⟨List.mem_of_getElem? (i := 747) (by decide +kernel), List.mem_of_getElem? (i := 76) (by decide +kernel), by decide +kernel, by decide +kernel, by decide⟩, List.mem_of_getElem? (i := 746) (by decide +kernel), List.mem_of_getElem? (i := 17) (by decide +kernel)⟩
theorem v_Finder_twelfthsCarried : zCV m_Finder_twelfthsCarried 1 := ⟨⟨List.mem_of_getElem? (i := 743) (by decide +kernel), List.mem_of_getElem? (i := 76) (by decide +kernel), by decide +kernel, by decide +kernel, by decide⟩, List.mem_of_getElem? (i := 741) (by decide +kernel), List.mem_of_getElem? (i := 742) (by decide +kernel)⟩
theorem v_Finder_twelfths : zCS m_Finder_twelfths 1 := ⟨⟨List.mem_of_getElem? (i := 754) (by decide +kernel), List.mem_of_getElem? (i := 76) (by decide +kernel), by decide +kernel, by decide +kernel, by decide⟩, List.mem_of_getElem? (i := 753) (by decide +kernel)⟩
theorem v_Finder_commonDivisor : zCS m_Finder_commonDivisor 2 := ⟨⟨List.mem_of_getElem? (i := 757) (by decide +kernel), List.mem_of_getElem? (i := 76) (by decide +kernel), by decide +kernel, by decide +kernel, by decide⟩, List.mem_of_getElem? (i := 756) (by decide +kernel)⟩
theorem v_X_chance : zCV m_X_chance 2 := ⟨⟨List.mem_of_getElem? (i := 739) (by decide +kernel), List.mem_of_getElem? (i := 70) (by decide +kernel), by decide +kernel, by decide +kernel, by decide⟩, List.mem_of_getElem? (i := 737) (by decide +kernel), List.mem_of_getElem? (i := 738) (by decide +kernel)⟩
theorem v_M_common : zCS m_M_common 2 := ⟨⟨List.mem_of_getElem? (i := 1411) (by decide +kernel), List.mem_of_getElem? (i := 81) (by decide +kernel), by decide +kernel, by decide +kernel, by decide⟩, List.mem_of_getElem? (i := 1410) (by decide +kernel)⟩
theorem v_M_chance : zCV m_M_chance 2 := ⟨⟨List.mem_of_getElem? (i := 1408) (by decide +kernel), List.mem_of_getElem? (i := 81) (by decide +kernel), by decide +kernel, by decide +kernel, by decide⟩, List.mem_of_getElem? (i := 1406) (by decide +kernel), List.mem_of_getElem? (i := 1407) (by decide +kernel)⟩
theorem v_Finder_fewestLies : zCV m_Finder_fewestLies 1 := ⟨⟨List.mem_of_getElem? (i := 765) (by decide +kernel), List.mem_of_getElem? (i := 76) (by decide +kernel), by decide +kernel, by decide +kernel, by decide⟩, List.mem_of_getElem? (i := 763) (by decide +kernel), List.mem_of_getElem? (i := 764) (by decide +kernel)⟩
theorem v_X_lies : zCV m_X_lies 1 := ⟨⟨List.mem_of_getElem? (i := 761) (by decide +kernel), List.mem_of_getElem? (i := 70) (by decide +kernel), by decide +kernel, by decide +kernel, by decide⟩, List.mem_of_getElem? (i := 759) (by decide +kernel), List.mem_of_getElem? (i := 760) (by decide +kernel)⟩
theorem v_M_lies : zCV m_M_lies 1 := ⟨⟨List.mem_of_getElem? (i := 1415) (by decide +kernel), List.mem_of_getElem? (i := 81) (by decide +kernel), by decide +kernel, by decide +kernel, by decide⟩, List.mem_of_getElem? (i := 1413) (by decide +kernel), List.mem_of_getElem? (i := 1414) (by decide +kernel)⟩
theorem v_Ballot_whoIsFree : zCV m_Ballot_whoIsFree 2 := ⟨⟨List.mem_of_getElem? (i := 777) (by decide +kernel), List.mem_of_getElem? (i := 75) (by decide +kernel), by decide +kernel, by decide +kernel, by decide⟩, List.mem_of_getElem? (i := 775) (by decide +kernel), List.mem_of_getElem? (i := 776) (by decide +kernel)⟩
theorem v_Finder_stepWithFewer : zCV m_Finder_stepWithFewer 2 := ⟨⟨List.mem_of_getElem? (i := 773) (by decide +kernel), List.mem_of_getElem? (i := 76) (by decide +kernel), by decide +kernel, by decide +kernel, by decide⟩, List.mem_of_getElem? (i := 771) (by decide +kernel), List.mem_of_getElem? (i := 772) (by decide +kernel)⟩
theorem v_X_step : zCV m_X_step 2 := ⟨⟨List.mem_of_getElem? (i := 769) (by decide +kernel), List.mem_of_getElem? (i := 70) (by decide +kernel), by decide +kernel, by decide +kernel, by decide⟩, List.mem_of_getElem? (i := 767) (by decide +kernel), List.mem_of_getElem? (i := 768) (by decide +kernel)⟩
theorem v_M_step : zCV m_M_step 2 := ⟨⟨List.mem_of_getElem? (i := 1419) (by decide +kernel), List.mem_of_getElem? (i := 81) (by decide +kernel), by decide +kernel, by decide +kernel, by decide⟩, List.mem_of_getElem? (i := 1417) (by decide +kernel), List.mem_of_getElem? (i := 1418) (by decide +kernel)⟩
theorem v_Finder_bitAt : zCS m_Finder_bitAt 2 := ⟨⟨List.mem_of_getElem? (i := 789) (by decide +kernel), List.mem_of_getElem? (i := 76) (by decide +kernel), by decide +kernel, by decide +kernel, by decide⟩, List.mem_of_getElem? (i := 788) (by decide +kernel)⟩
theorem v_Finder_oftenCarriedByLot : zCV m_Finder_oftenCarriedByLot 4 := ⟨⟨List.mem_of_getElem? (i := 785) (by decide +kernel), List.mem_of_getElem? (i := 76) (by decide +kernel), by decide +kernel, by decide +kernel, by decide⟩, List.mem_of_getElem? (i := 783) (by decide +kernel), List.mem_of_getElem? (i := 784) (by decide +kernel)⟩
theorem zk_Finder_96 : Cond.constant RX5 96 (1103515245 : Int32) ∈ lw_tbl := List.mem_of_getElem? (i := 786) (by decide +kernel)
theorem zis_12345 : (Int16.ofInt (12345)).toInt32 = (12345 : Int32) := by decide +kernel
theorem v_X_lots : zCV m_X_lots 3 := ⟨⟨List.mem_of_getElem? (i := 781) (by decide +kernel), List.mem_of_getElem? (i := 70) (by decide +kernel), by decide +kernel, by decide +kernel, by decide⟩, List.mem_of_getElem? (i := 779) (by decide +kernel), List.mem_of_getElem? (i := 780) (by decide +kernel)⟩
theorem zib_30 : (Int8.ofInt (30)).toInt32 = (30 : Int32) := by decide +kernel
theorem v_M_drawnOf : zCV m_M_drawnOf 2 := ⟨⟨List.mem_of_getElem? (i := 1429) (by decide +kernel), List.mem_of_getElem? (i := 81) (by decide +kernel), by decide +kernel, by decide +kernel, by decide⟩, List.mem_of_getElem? (i := 1428) (by decide +kernel), List.mem_of_getElem? (i := 56) (by decide +kernel)⟩
theorem v_M_lots : zCV m_M_lots 3 := ⟨⟨List.mem_of_getElem? (i := 1423) (by decide +kernel), List.mem_of_getElem? (i := 81) (by decide +kernel), by decide +kernel, by decide +kernel, by decide⟩, List.mem_of_getElem? (i := 1421) (by decide +kernel), List.mem_of_getElem? (i := 1422) (by decide +kernel)⟩
theorem zk_M_255 : Cond.constantLong RX11 255 (30 : Int64) ∈ lw_tbl := List.mem_of_getElem? (i := 1424) (by decide +kernel)
theorem zk_M_257 : Cond.constant RX11 257 (1103515245 : Int32) ∈ lw_tbl := List.mem_of_getElem? (i := 1425) (by decide +kernel)
theorem v_Shelves_refusedAsRow : zCV m_Shelves_refusedAsRow 2 := ⟨⟨List.mem_of_getElem? (i := 798) (by decide +kernel), List.mem_of_getElem? (i := 77) (by decide +kernel), by decide +kernel, by decide +kernel, by decide⟩, List.mem_of_getElem? (i := 796) (by decide +kernel), List.mem_of_getElem? (i := 797) (by decide +kernel)⟩
theorem zib_m11 : (Int8.ofInt (-11)).toInt32 = (-11 : Int32) := by decide +kernel
theorem v_Shelves_sizeOf : zCV m_Shelves_sizeOf 1 := ⟨⟨List.mem_of_getElem? (i := 806) (by decide +kernel), List.mem_of_getElem? (i := 77) (by decide +kernel), by decide +kernel, by decide +kernel, by decide⟩, List.mem_of_getElem? (i := 804) (by decide +kernel), List.mem_of_getElem? (i := 805) (by decide +kernel)⟩
theorem v_Years_bundleAt : zCV m_Years_bundleAt 2 := ⟨⟨List.mem_of_getElem? (i := 815) (by decide +kernel), List.mem_of_getElem? (i := 78) (by decide +kernel), by decide +kernel, by decide +kernel, by decide⟩, List.mem_of_getElem? (i := 814) (by decide +kernel), List.mem_of_getElem? (i := 19) (by decide +kernel)⟩
theorem v_Years_isWhole : zCV m_Years_isWhole 2 := ⟨⟨List.mem_of_getElem? (i := 810) (by decide +kernel), List.mem_of_getElem? (i := 78) (by decide +kernel), by decide +kernel, by decide +kernel, by decide⟩, List.mem_of_getElem? (i := 809) (by decide +kernel), List.mem_of_getElem? (i := 18) (by decide +kernel)⟩
theorem v_Years_silentAt : zCV m_Years_silentAt 2 := ⟨⟨List.mem_of_getElem? (i := 821) (by decide +kernel), List.mem_of_getElem? (i := 78) (by decide +kernel), by decide +kernel, by decide +kernel, by decide⟩, List.mem_of_getElem? (i := 820) (by decide +kernel), List.mem_of_getElem? (i := 20) (by decide +kernel)⟩
theorem v_Years_mustBeSilent : zCV m_Years_mustBeSilent 1 := ⟨⟨List.mem_of_getElem? (i := 825) (by decide +kernel), List.mem_of_getElem? (i := 78) (by decide +kernel), by decide +kernel, by decide +kernel, by decide⟩, List.mem_of_getElem? (i := 824) (by decide +kernel), List.mem_of_getElem? (i := 21) (by decide +kernel)⟩
theorem v_Years_firstWrong : zCV m_Years_firstWrong 1 := ⟨⟨List.mem_of_getElem? (i := 802) (by decide +kernel), List.mem_of_getElem? (i := 78) (by decide +kernel), by decide +kernel, by decide +kernel, by decide⟩, List.mem_of_getElem? (i := 800) (by decide +kernel), List.mem_of_getElem? (i := 801) (by decide +kernel)⟩
theorem v_X_judge : zCV m_X_judge 1 := ⟨⟨List.mem_of_getElem? (i := 794) (by decide +kernel), List.mem_of_getElem? (i := 70) (by decide +kernel), by decide +kernel, by decide +kernel, by decide⟩, List.mem_of_getElem? (i := 792) (by decide +kernel), List.mem_of_getElem? (i := 793) (by decide +kernel)⟩
theorem v_M_yearIs : zCV m_M_yearIs 1 := ⟨⟨List.mem_of_getElem? (i := 1437) (by decide +kernel), List.mem_of_getElem? (i := 81) (by decide +kernel), by decide +kernel, by decide +kernel, by decide⟩, List.mem_of_getElem? (i := 1436) (by decide +kernel), List.mem_of_getElem? (i := 57) (by decide +kernel)⟩
theorem zib_51 : (Int8.ofInt (51)).toInt32 = (51 : Int32) := by decide +kernel
theorem v_M_bundleAt : zCV m_M_bundleAt 2 := ⟨⟨List.mem_of_getElem? (i := 1441) (by decide +kernel), List.mem_of_getElem? (i := 81) (by decide +kernel), by decide +kernel, by decide +kernel, by decide⟩, List.mem_of_getElem? (i := 1440) (by decide +kernel), List.mem_of_getElem? (i := 58) (by decide +kernel)⟩
theorem v_M_silentAt : zCV m_M_silentAt 2 := ⟨⟨List.mem_of_getElem? (i := 1445) (by decide +kernel), List.mem_of_getElem? (i := 81) (by decide +kernel), by decide +kernel, by decide +kernel, by decide⟩, List.mem_of_getElem? (i := 1444) (by decide +kernel), List.mem_of_getElem? (i := 59) (by decide +kernel)⟩
theorem v_M_judge : zCV m_M_judge 1 := ⟨⟨List.mem_of_getElem? (i := 1433) (by decide +kernel), List.mem_of_getElem? (i := 81) (by decide +kernel), by decide +kernel, by decide +kernel, by decide⟩, List.mem_of_getElem? (i := 1431) (by decide +kernel), List.mem_of_getElem? (i := 1432) (by decide +kernel)⟩
theorem v_Years_isSilentFor : zCV m_Years_isSilentFor 4 := ⟨⟨List.mem_of_getElem? (i := 839) (by decide +kernel), List.mem_of_getElem? (i := 78) (by decide +kernel), by decide +kernel, by decide +kernel, by decide⟩, List.mem_of_getElem? (i := 838) (by decide +kernel), List.mem_of_getElem? (i := 22) (by decide +kernel)⟩
theorem v_Years_hasVotedOn : zCV m_Years_hasVotedOn 4 := ⟨⟨List.mem_of_getElem? (i := 843) (by decide +kernel), List.mem_of_getElem? (i := 78) (by decide +kernel), by decide +kernel, by decide +kernel, by decide⟩, List.mem_of_getElem? (i := 842) (by decide +kernel), List.mem_of_getElem? (i := 23) (by decide +kernel)⟩
theorem v_Years_isShown : zCV m_Years_isShown 3 := ⟨⟨List.mem_of_getElem? (i := 835) (by decide +kernel), List.mem_of_getElem? (i := 78) (by decide +kernel), by decide +kernel, by decide +kernel, by decide⟩, List.mem_of_getElem? (i := 833) (by decide +kernel), List.mem_of_getElem? (i := 834) (by decide +kernel)⟩
theorem v_X_must : zCV m_X_must 2 := ⟨⟨List.mem_of_getElem? (i := 831) (by decide +kernel), List.mem_of_getElem? (i := 70) (by decide +kernel), by decide +kernel, by decide +kernel, by decide⟩, List.mem_of_getElem? (i := 829) (by decide +kernel), List.mem_of_getElem? (i := 830) (by decide +kernel)⟩
theorem v_M_isVotedBeside : zCV m_M_isVotedBeside 4 := ⟨⟨List.mem_of_getElem? (i := 1453) (by decide +kernel), List.mem_of_getElem? (i := 81) (by decide +kernel), by decide +kernel, by decide +kernel, by decide⟩, List.mem_of_getElem? (i := 1452) (by decide +kernel), List.mem_of_getElem? (i := 60) (by decide +kernel)⟩
theorem v_M_must : zCV m_M_must 2 := ⟨⟨List.mem_of_getElem? (i := 1449) (by decide +kernel), List.mem_of_getElem? (i := 81) (by decide +kernel), by decide +kernel, by decide +kernel, by decide⟩, List.mem_of_getElem? (i := 1447) (by decide +kernel), List.mem_of_getElem? (i := 1448) (by decide +kernel)⟩
theorem v_Deeds_decided : zCV m_Deeds_decided 0 := ⟨⟨List.mem_of_getElem? (i := 851) (by decide +kernel), List.mem_of_getElem? (i := 79) (by decide +kernel), by decide +kernel, by decide +kernel, by decide⟩, List.mem_of_getElem? (i := 849) (by decide +kernel), List.mem_of_getElem? (i := 850) (by decide +kernel)⟩
theorem v_Deeds_enter : zCV m_Deeds_enter 4 := ⟨⟨List.mem_of_getElem? (i := 855) (by decide +kernel), List.mem_of_getElem? (i := 79) (by decide +kernel), by decide +kernel, by decide +kernel, by decide⟩, List.mem_of_getElem? (i := 853) (by decide +kernel), List.mem_of_getElem? (i := 854) (by decide +kernel)⟩
theorem v_X_decide : zCV m_X_decide 2 := ⟨⟨List.mem_of_getElem? (i := 847) (by decide +kernel), List.mem_of_getElem? (i := 70) (by decide +kernel), by decide +kernel, by decide +kernel, by decide⟩, List.mem_of_getElem? (i := 845) (by decide +kernel), List.mem_of_getElem? (i := 846) (by decide +kernel)⟩
theorem v_M_decide : zCV m_M_decide 2 := ⟨⟨List.mem_of_getElem? (i := 1457) (by decide +kernel), List.mem_of_getElem? (i := 81) (by decide +kernel), by decide +kernel, by decide +kernel, by decide⟩, List.mem_of_getElem? (i := 1455) (by decide +kernel), List.mem_of_getElem? (i := 1456) (by decide +kernel)⟩
theorem v_Deeds_isAny : zCV m_Deeds_isAny 0 := ⟨⟨List.mem_of_getElem? (i := 863) (by decide +kernel), List.mem_of_getElem? (i := 79) (by decide +kernel), by decide +kernel, by decide +kernel, by decide⟩, List.mem_of_getElem? (i := 861) (by decide +kernel), List.mem_of_getElem? (i := 862) (by decide +kernel)⟩
theorem v_Deeds_told : zCV m_Deeds_told 1 := ⟨⟨List.mem_of_getElem? (i := 867) (by decide +kernel), List.mem_of_getElem? (i := 79) (by decide +kernel), by decide +kernel, by decide +kernel, by decide⟩, List.mem_of_getElem? (i := 865) (by decide +kernel), List.mem_of_getElem? (i := 866) (by decide +kernel)⟩
theorem v_X_led : zCV m_X_led 1 := ⟨⟨List.mem_of_getElem? (i := 859) (by decide +kernel), List.mem_of_getElem? (i := 70) (by decide +kernel), by decide +kernel, by decide +kernel, by decide⟩, List.mem_of_getElem? (i := 857) (by decide +kernel), List.mem_of_getElem? (i := 858) (by decide +kernel)⟩
theorem v_M_led : zCV m_M_led 1 := ⟨⟨List.mem_of_getElem? (i := 1461) (by decide +kernel), List.mem_of_getElem? (i := 81) (by decide +kernel), by decide +kernel, by decide +kernel, by decide⟩, List.mem_of_getElem? (i := 1459) (by decide +kernel), List.mem_of_getElem? (i := 1460) (by decide +kernel)⟩
theorem v_Deeds_keepImage : zCV m_Deeds_keepImage 0 := ⟨⟨List.mem_of_getElem? (i := 875) (by decide +kernel), List.mem_of_getElem? (i := 79) (by decide +kernel), by decide +kernel, by decide +kernel, by decide⟩, List.mem_of_getElem? (i := 873) (by decide +kernel), List.mem_of_getElem? (i := 874) (by decide +kernel)⟩
theorem zp_4_2 : ((zcls 4).2.1 2).2.2.2 = false ∧ zty 4 2 = .boolean := by decide +kernel
theorem v_X_image : zCV m_X_image 0 := ⟨⟨List.mem_of_getElem? (i := 871) (by decide +kernel), List.mem_of_getElem? (i := 70) (by decide +kernel), by decide +kernel, by decide +kernel, by decide⟩, List.mem_of_getElem? (i := 869) (by decide +kernel), List.mem_of_getElem? (i := 870) (by decide +kernel)⟩
theorem v_M_image : zCV m_M_image 0 := ⟨⟨List.mem_of_getElem? (i := 1465) (by decide +kernel), List.mem_of_getElem? (i := 81) (by decide +kernel), by decide +kernel, by decide +kernel, by decide⟩, List.mem_of_getElem? (i := 1463) (by decide +kernel), List.mem_of_getElem? (i := 1464) (by decide +kernel)⟩
theorem zp_11_31 : ((zcls 11).2.1 31).2.2.2 = false ∧ zty 11 31 = .boolean := by decide +kernel
theorem v_Deeds_goBack : zCV m_Deeds_goBack 0 := ⟨⟨List.mem_of_getElem? (i := 884) (by decide +kernel), List.mem_of_getElem? (i := 79) (by decide +kernel), by decide +kernel, by decide +kernel, by decide⟩, List.mem_of_getElem? (i := 882) (by decide +kernel), List.mem_of_getElem? (i := 883) (by decide +kernel)⟩
theorem v_X_back : zCV m_X_back 0 := ⟨⟨List.mem_of_getElem? (i := 880) (by decide +kernel), List.mem_of_getElem? (i := 70) (by decide +kernel), by decide +kernel, by decide +kernel, by decide⟩, List.mem_of_getElem? (i := 878) (by decide +kernel), List.mem_of_getElem? (i := 879) (by decide +kernel)⟩
theorem v_M_back : zCV m_M_back 0 := ⟨⟨List.mem_of_getElem? (i := 1469) (by decide +kernel), List.mem_of_getElem? (i := 81) (by decide +kernel), by decide +kernel, by decide +kernel, by decide⟩, List.mem_of_getElem? (i := 1467) (by decide +kernel), List.mem_of_getElem? (i := 1468) (by decide +kernel)⟩
theorem v_Changes_takeBack : zCV m_Changes_takeBack 0 := ⟨⟨List.mem_of_getElem? (i := 892) (by decide +kernel), List.mem_of_getElem? (i := 72) (by decide +kernel), by decide +kernel, by decide +kernel, by decide⟩, List.mem_of_getElem? (i := 890) (by decide +kernel), List.mem_of_getElem? (i := 891) (by decide +kernel)⟩
theorem v_Changes_undoable : zCV m_Changes_undoable 0 := ⟨⟨List.mem_of_getElem? (i := 896) (by decide +kernel), List.mem_of_getElem? (i := 72) (by decide +kernel), by decide +kernel, by decide +kernel, by decide⟩, List.mem_of_getElem? (i := 894) (by decide +kernel), List.mem_of_getElem? (i := 895) (by decide +kernel)⟩
theorem v_X_undo : zCV m_X_undo 0 := ⟨⟨List.mem_of_getElem? (i := 888) (by decide +kernel), List.mem_of_getElem? (i := 70) (by decide +kernel), by decide +kernel, by decide +kernel, by decide⟩, List.mem_of_getElem? (i := 886) (by decide +kernel), List.mem_of_getElem? (i := 887) (by decide +kernel)⟩
theorem v_M_undo : zCV m_M_undo 0 := ⟨⟨List.mem_of_getElem? (i := 1188) (by decide +kernel), List.mem_of_getElem? (i := 81) (by decide +kernel), by decide +kernel, by decide +kernel, by decide⟩, List.mem_of_getElem? (i := 1186) (by decide +kernel), List.mem_of_getElem? (i := 1187) (by decide +kernel)⟩
theorem v_Changes_makeAgain : zCV m_Changes_makeAgain 0 := ⟨⟨List.mem_of_getElem? (i := 904) (by decide +kernel), List.mem_of_getElem? (i := 72) (by decide +kernel), by decide +kernel, by decide +kernel, by decide⟩, List.mem_of_getElem? (i := 902) (by decide +kernel), List.mem_of_getElem? (i := 903) (by decide +kernel)⟩
theorem v_Changes_redoable : zCV m_Changes_redoable 0 := ⟨⟨List.mem_of_getElem? (i := 908) (by decide +kernel), List.mem_of_getElem? (i := 72) (by decide +kernel), by decide +kernel, by decide +kernel, by decide⟩, List.mem_of_getElem? (i := 906) (by decide +kernel), List.mem_of_getElem? (i := 907) (by decide +kernel)⟩
theorem v_X_redo : zCV m_X_redo 0 := ⟨⟨List.mem_of_getElem? (i := 900) (by decide +kernel), List.mem_of_getElem? (i := 70) (by decide +kernel), by decide +kernel, by decide +kernel, by decide⟩, List.mem_of_getElem? (i := 898) (by decide +kernel), List.mem_of_getElem? (i := 899) (by decide +kernel)⟩
theorem v_M_redo : zCV m_M_redo 0 := ⟨⟨List.mem_of_getElem? (i := 1192) (by decide +kernel), List.mem_of_getElem? (i := 81) (by decide +kernel), by decide +kernel, by decide +kernel, by decide⟩, List.mem_of_getElem? (i := 1190) (by decide +kernel), List.mem_of_getElem? (i := 1191) (by decide +kernel)⟩
theorem v_Voters_isKind : zCS m_Voters_isKind 1 := ⟨⟨List.mem_of_getElem? (i := 915) (by decide +kernel), List.mem_of_getElem? (i := 80) (by decide +kernel), by decide +kernel, by decide +kernel, by decide⟩, List.mem_of_getElem? (i := 914) (by decide +kernel)⟩
theorem v_Voters_add : zCV m_Voters_add 1 := ⟨⟨List.mem_of_getElem? (i := 919) (by decide +kernel), List.mem_of_getElem? (i := 80) (by decide +kernel), by decide +kernel, by decide +kernel, by decide⟩, List.mem_of_getElem? (i := 917) (by decide +kernel), List.mem_of_getElem? (i := 918) (by decide +kernel)⟩
theorem zp_8_2 : ((zcls 8).2.1 2).2.2.2 = false ∧ zty 8 2 = .int := by decide +kernel
theorem v_X_body : zCV m_X_body 1 := ⟨⟨List.mem_of_getElem? (i := 912) (by decide +kernel), List.mem_of_getElem? (i := 70) (by decide +kernel), by decide +kernel, by decide +kernel, by decide⟩, List.mem_of_getElem? (i := 910) (by decide +kernel), List.mem_of_getElem? (i := 911) (by decide +kernel)⟩
theorem v_M_body : zCV m_M_body 1 := ⟨⟨List.mem_of_getElem? (i := 1473) (by decide +kernel), List.mem_of_getElem? (i := 81) (by decide +kernel), by decide +kernel, by decide +kernel, by decide⟩, List.mem_of_getElem? (i := 1471) (by decide +kernel), List.mem_of_getElem? (i := 1472) (by decide +kernel)⟩
theorem zk_M_281 : Cond.constantLong RX11 281 (7 : Int64) ∈ lw_tbl := List.mem_of_getElem? (i := 1474) (by decide +kernel)
theorem zp_11_32 : ((zcls 11).2.1 32).2.2.2 = false ∧ zty 11 32 = .int := by decide +kernel
theorem v_Voters_isVoter : zCV m_Voters_isVoter 1 := ⟨⟨List.mem_of_getElem? (i := 931) (by decide +kernel), List.mem_of_getElem? (i := 80) (by decide +kernel), by decide +kernel, by decide +kernel, by decide⟩, List.mem_of_getElem? (i := 929) (by decide +kernel), List.mem_of_getElem? (i := 930) (by decide +kernel)⟩
theorem v_Voters_kindOf : zCV m_Voters_kindOf 1 := ⟨⟨List.mem_of_getElem? (i := 939) (by decide +kernel), List.mem_of_getElem? (i := 80) (by decide +kernel), by decide +kernel, by decide +kernel, by decide⟩, List.mem_of_getElem? (i := 937) (by decide +kernel), List.mem_of_getElem? (i := 938) (by decide +kernel)⟩
theorem v_Voters_bodyAt : zCS m_Voters_bodyAt 2 := ⟨⟨List.mem_of_getElem? (i := 946) (by decide +kernel), List.mem_of_getElem? (i := 80) (by decide +kernel), by decide +kernel, by decide +kernel, by decide⟩, List.mem_of_getElem? (i := 945) (by decide +kernel)⟩
theorem zg_Voters_58 : Cond.fieldLink RX8 58 RX8 "BODIES" "[I" ∈ lw_tbl := List.mem_of_getElem? (i := 948) (by decide +kernel)
theorem v_Voters_aboveOf : zCS m_Voters_aboveOf 1 := ⟨⟨List.mem_of_getElem? (i := 952) (by decide +kernel), List.mem_of_getElem? (i := 80) (by decide +kernel), by decide +kernel, by decide +kernel, by decide⟩, List.mem_of_getElem? (i := 951) (by decide +kernel)⟩
theorem zg_Voters_61 : Cond.fieldLink RX8 61 RX8 "ABOVE" "[I" ∈ lw_tbl := List.mem_of_getElem? (i := 953) (by decide +kernel)
theorem v_Voters_begin : zCV m_Voters_begin 1 := ⟨⟨List.mem_of_getElem? (i := 958) (by decide +kernel), List.mem_of_getElem? (i := 80) (by decide +kernel), by decide +kernel, by decide +kernel, by decide⟩, List.mem_of_getElem? (i := 957) (by decide +kernel), List.mem_of_getElem? (i := 26) (by decide +kernel)⟩
theorem zib_24 : (Int8.ofInt (24)).toInt32 = (24 : Int32) := by decide +kernel
theorem zp_8_3 : ((zcls 8).2.1 3).2.2.2 = false ∧ zty 8 3 = .int := by decide +kernel
theorem v_Voters_own : zCV m_Voters_own 4 := ⟨⟨List.mem_of_getElem? (i := 935) (by decide +kernel), List.mem_of_getElem? (i := 80) (by decide +kernel), by decide +kernel, by decide +kernel, by decide⟩, List.mem_of_getElem? (i := 934) (by decide +kernel), List.mem_of_getElem? (i := 24) (by decide +kernel)⟩
theorem v_Voters_run : zCV m_Voters_run 5 := ⟨⟨List.mem_of_getElem? (i := 962) (by decide +kernel), List.mem_of_getElem? (i := 80) (by decide +kernel), by decide +kernel, by decide +kernel, by decide⟩, List.mem_of_getElem? (i := 961) (by decide +kernel), List.mem_of_getElem? (i := 27) (by decide +kernel)⟩
theorem v_Voters_runFrom : zCV m_Voters_runFrom 5 := ⟨⟨List.mem_of_getElem? (i := 943) (by decide +kernel), List.mem_of_getElem? (i := 80) (by decide +kernel), by decide +kernel, by decide +kernel, by decide⟩, List.mem_of_getElem? (i := 942) (by decide +kernel), List.mem_of_getElem? (i := 25) (by decide +kernel)⟩
theorem v_Voters_perform : zCV m_Voters_perform 3 := ⟨⟨List.mem_of_getElem? (i := 927) (by decide +kernel), List.mem_of_getElem? (i := 80) (by decide +kernel), by decide +kernel, by decide +kernel, by decide⟩, List.mem_of_getElem? (i := 925) (by decide +kernel), List.mem_of_getElem? (i := 926) (by decide +kernel)⟩
theorem v_X_act : zCV m_X_act 3 := ⟨⟨List.mem_of_getElem? (i := 923) (by decide +kernel), List.mem_of_getElem? (i := 70) (by decide +kernel), by decide +kernel, by decide +kernel, by decide⟩, List.mem_of_getElem? (i := 921) (by decide +kernel), List.mem_of_getElem? (i := 922) (by decide +kernel)⟩
theorem v_M_isBody : zCV m_M_isBody 1 := ⟨⟨List.mem_of_getElem? (i := 1482) (by decide +kernel), List.mem_of_getElem? (i := 81) (by decide +kernel), by decide +kernel, by decide +kernel, by decide⟩, List.mem_of_getElem? (i := 1481) (by decide +kernel), List.mem_of_getElem? (i := 61) (by decide +kernel)⟩
theorem v_M_begins : zCV m_M_begins 1 := ⟨⟨List.mem_of_getElem? (i := 1490) (by decide +kernel), List.mem_of_getElem? (i := 81) (by decide +kernel), by decide +kernel, by decide +kernel, by decide⟩, List.mem_of_getElem? (i := 1489) (by decide +kernel), List.mem_of_getElem? (i := 63) (by decide +kernel)⟩
theorem zp_11_35 : ((zcls 11).2.1 35).2.2.2 = false ∧ zty 11 35 = .int := by decide +kernel
theorem v_M_votesAs : zCV m_M_votesAs 2 := ⟨⟨List.mem_of_getElem? (i := 1486) (by decide +kernel), List.mem_of_getElem? (i := 81) (by decide +kernel), by decide +kernel, by decide +kernel, by decide⟩, List.mem_of_getElem? (i := 1485) (by decide +kernel), List.mem_of_getElem? (i := 62) (by decide +kernel)⟩
theorem zib_20 : (Int8.ofInt (20)).toInt32 = (20 : Int32) := by decide +kernel
theorem zib_7 : (Int8.ofInt (7)).toInt32 = (7 : Int32) := by decide +kernel
theorem zib_70 : (Int8.ofInt (70)).toInt32 = (70 : Int32) := by decide +kernel
theorem v_M_givesAs : zCV m_M_givesAs 2 := ⟨⟨List.mem_of_getElem? (i := 1498) (by decide +kernel), List.mem_of_getElem? (i := 81) (by decide +kernel), by decide +kernel, by decide +kernel, by decide⟩, List.mem_of_getElem? (i := 1497) (by decide +kernel), List.mem_of_getElem? (i := 65) (by decide +kernel)⟩
theorem zib_11 : (Int8.ofInt (11)).toInt32 = (11 : Int32) := by decide +kernel
theorem v_M_ownsAs : zCV m_M_ownsAs 2 := ⟨⟨List.mem_of_getElem? (i := 1494) (by decide +kernel), List.mem_of_getElem? (i := 81) (by decide +kernel), by decide +kernel, by decide +kernel, by decide⟩, List.mem_of_getElem? (i := 1493) (by decide +kernel), List.mem_of_getElem? (i := 64) (by decide +kernel)⟩
theorem zib_80 : (Int8.ofInt (80)).toInt32 = (80 : Int32) := by decide +kernel
theorem v_M_tellsAs : zCV m_M_tellsAs 2 := ⟨⟨List.mem_of_getElem? (i := 1502) (by decide +kernel), List.mem_of_getElem? (i := 81) (by decide +kernel), by decide +kernel, by decide +kernel, by decide⟩, List.mem_of_getElem? (i := 1501) (by decide +kernel), List.mem_of_getElem? (i := 66) (by decide +kernel)⟩
theorem zib_81 : (Int8.ofInt (81)).toInt32 = (81 : Int32) := by decide +kernel
theorem v_M_act : zCV m_M_act 3 := ⟨⟨List.mem_of_getElem? (i := 1478) (by decide +kernel), List.mem_of_getElem? (i := 81) (by decide +kernel), by decide +kernel, by decide +kernel, by decide⟩, List.mem_of_getElem? (i := 1476) (by decide +kernel), List.mem_of_getElem? (i := 1477) (by decide +kernel)⟩
theorem zp_11_36 : ((zcls 11).2.1 36).2.2.2 = false ∧ zty 11 36 = .int := by decide +kernel
theorem zp_11_37 : ((zcls 11).2.1 37).2.2.2 = false ∧ zty 11 37 = .int := by decide +kernel
theorem v_Voters_ranAt : zCV m_Voters_ranAt 1 := ⟨⟨List.mem_of_getElem? (i := 970) (by decide +kernel), List.mem_of_getElem? (i := 80) (by decide +kernel), by decide +kernel, by decide +kernel, by decide⟩, List.mem_of_getElem? (i := 968) (by decide +kernel), List.mem_of_getElem? (i := 969) (by decide +kernel)⟩
theorem v_X_trace : zCV m_X_trace 1 := ⟨⟨List.mem_of_getElem? (i := 966) (by decide +kernel), List.mem_of_getElem? (i := 70) (by decide +kernel), by decide +kernel, by decide +kernel, by decide⟩, List.mem_of_getElem? (i := 964) (by decide +kernel), List.mem_of_getElem? (i := 965) (by decide +kernel)⟩
theorem v_M_trace : zCV m_M_trace 1 := ⟨⟨List.mem_of_getElem? (i := 1506) (by decide +kernel), List.mem_of_getElem? (i := 81) (by decide +kernel), by decide +kernel, by decide +kernel, by decide⟩, List.mem_of_getElem? (i := 1504) (by decide +kernel), List.mem_of_getElem? (i := 1505) (by decide +kernel)⟩
theorem v_Shelves_holdVoter : zCV m_Shelves_holdVoter 2 := ⟨⟨List.mem_of_getElem? (i := 979) (by decide +kernel), List.mem_of_getElem? (i := 77) (by decide +kernel), by decide +kernel, by decide +kernel, by decide⟩, List.mem_of_getElem? (i := 977) (by decide +kernel), List.mem_of_getElem? (i := 978) (by decide +kernel)⟩
theorem v_X_keep : zCV m_X_keep 2 := ⟨⟨List.mem_of_getElem? (i := 974) (by decide +kernel), List.mem_of_getElem? (i := 70) (by decide +kernel), by decide +kernel, by decide +kernel, by decide⟩, List.mem_of_getElem? (i := 972) (by decide +kernel), List.mem_of_getElem? (i := 973) (by decide +kernel)⟩
theorem v_M_keep : zCV m_M_keep 2 := ⟨⟨List.mem_of_getElem? (i := 1510) (by decide +kernel), List.mem_of_getElem? (i := 81) (by decide +kernel), by decide +kernel, by decide +kernel, by decide⟩, List.mem_of_getElem? (i := 1508) (by decide +kernel), List.mem_of_getElem? (i := 1509) (by decide +kernel)⟩
theorem v_Shelves_isSort : zCS m_Shelves_isSort 1 := ⟨⟨List.mem_of_getElem? (i := 986) (by decide +kernel), List.mem_of_getElem? (i := 77) (by decide +kernel), by decide +kernel, by decide +kernel, by decide⟩, List.mem_of_getElem? (i := 985) (by decide +kernel)⟩
theorem v_Shelves_holdRow : zCV m_Shelves_holdRow 3 := ⟨⟨List.mem_of_getElem? (i := 990) (by decide +kernel), List.mem_of_getElem? (i := 77) (by decide +kernel), by decide +kernel, by decide +kernel, by decide⟩, List.mem_of_getElem? (i := 988) (by decide +kernel), List.mem_of_getElem? (i := 989) (by decide +kernel)⟩
theorem v_X_row : zCV m_X_row 3 := ⟨⟨List.mem_of_getElem? (i := 983) (by decide +kernel), List.mem_of_getElem? (i := 70) (by decide +kernel), by decide +kernel, by decide +kernel, by decide⟩, List.mem_of_getElem? (i := 981) (by decide +kernel), List.mem_of_getElem? (i := 982) (by decide +kernel)⟩
theorem zib_m14 : (Int8.ofInt (-14)).toInt32 = (-14 : Int32) := by decide +kernel
theorem v_M_row : zCV m_M_row 3 := ⟨⟨List.mem_of_getElem? (i := 1514) (by decide +kernel), List.mem_of_getElem? (i := 81) (by decide +kernel), by decide +kernel, by decide +kernel, by decide⟩, List.mem_of_getElem? (i := 1512) (by decide +kernel), List.mem_of_getElem? (i := 1513) (by decide +kernel)⟩
theorem v_Shelves_refusedAt : zCV m_Shelves_refusedAt 2 := ⟨⟨List.mem_of_getElem? (i := 998) (by decide +kernel), List.mem_of_getElem? (i := 77) (by decide +kernel), by decide +kernel, by decide +kernel, by decide⟩, List.mem_of_getElem? (i := 996) (by decide +kernel), List.mem_of_getElem? (i := 997) (by decide +kernel)⟩
theorem zib_m13 : (Int8.ofInt (-13)).toInt32 = (-13 : Int32) := by decide +kernel
theorem v_Shelves_lowestBits : zCS m_Shelves_lowestBits 2 := ⟨⟨List.mem_of_getElem? (i := 1006) (by decide +kernel), List.mem_of_getElem? (i := 77) (by decide +kernel), by decide +kernel, by decide +kernel, by decide⟩, List.mem_of_getElem? (i := 1005) (by decide +kernel)⟩
theorem v_Shelves_set : zCV m_Shelves_set 3 := ⟨⟨List.mem_of_getElem? (i := 1003) (by decide +kernel), List.mem_of_getElem? (i := 77) (by decide +kernel), by decide +kernel, by decide +kernel, by decide⟩, List.mem_of_getElem? (i := 1001) (by decide +kernel), List.mem_of_getElem? (i := 1002) (by decide +kernel)⟩
theorem v_X_put : zCV m_X_put 3 := ⟨⟨List.mem_of_getElem? (i := 994) (by decide +kernel), List.mem_of_getElem? (i := 70) (by decide +kernel), by decide +kernel, by decide +kernel, by decide⟩, List.mem_of_getElem? (i := 992) (by decide +kernel), List.mem_of_getElem? (i := 993) (by decide +kernel)⟩
theorem v_M_refusal : zCV m_M_refusal 2 := ⟨⟨List.mem_of_getElem? (i := 1522) (by decide +kernel), List.mem_of_getElem? (i := 81) (by decide +kernel), by decide +kernel, by decide +kernel, by decide⟩, List.mem_of_getElem? (i := 1521) (by decide +kernel), List.mem_of_getElem? (i := 67) (by decide +kernel)⟩
theorem v_M_asSort : zCS m_M_asSort 2 := ⟨⟨List.mem_of_getElem? (i := 1525) (by decide +kernel), List.mem_of_getElem? (i := 81) (by decide +kernel), by decide +kernel, by decide +kernel, by decide⟩, List.mem_of_getElem? (i := 1524) (by decide +kernel)⟩
theorem v_M_put : zCV m_M_put 3 := ⟨⟨List.mem_of_getElem? (i := 1518) (by decide +kernel), List.mem_of_getElem? (i := 81) (by decide +kernel), by decide +kernel, by decide +kernel, by decide⟩, List.mem_of_getElem? (i := 1516) (by decide +kernel), List.mem_of_getElem? (i := 1517) (by decide +kernel)⟩
theorem v_X_element : zCV m_X_element 2 := ⟨⟨List.mem_of_getElem? (i := 1010) (by decide +kernel), List.mem_of_getElem? (i := 70) (by decide +kernel), by decide +kernel, by decide +kernel, by decide⟩, List.mem_of_getElem? (i := 1008) (by decide +kernel), List.mem_of_getElem? (i := 1009) (by decide +kernel)⟩
theorem zk_X_326 : Cond.constantLong RX10 326 (-9223372036854775808 : Int64) ∈ lw_tbl := List.mem_of_getElem? (i := 1011) (by decide +kernel)
theorem v_M_element : zCV m_M_element 2 := ⟨⟨List.mem_of_getElem? (i := 1529) (by decide +kernel), List.mem_of_getElem? (i := 81) (by decide +kernel), by decide +kernel, by decide +kernel, by decide⟩, List.mem_of_getElem? (i := 1527) (by decide +kernel), List.mem_of_getElem? (i := 1528) (by decide +kernel)⟩
theorem zk_M_322 : Cond.constantLong RX11 322 (-9223372036854775808 : Int64) ∈ lw_tbl := List.mem_of_getElem? (i := 1530) (by decide +kernel)
theorem v_Shelves_hasPlaces : zCV m_Shelves_hasPlaces 3 := ⟨⟨List.mem_of_getElem? (i := 1019) (by decide +kernel), List.mem_of_getElem? (i := 77) (by decide +kernel), by decide +kernel, by decide +kernel, by decide⟩, List.mem_of_getElem? (i := 1017) (by decide +kernel), List.mem_of_getElem? (i := 1018) (by decide +kernel)⟩
theorem v_Shelves_copy : zCV m_Shelves_copy 5 := ⟨⟨List.mem_of_getElem? (i := 1024) (by decide +kernel), List.mem_of_getElem? (i := 77) (by decide +kernel), by decide +kernel, by decide +kernel, by decide⟩, List.mem_of_getElem? (i := 1022) (by decide +kernel), List.mem_of_getElem? (i := 1023) (by decide +kernel)⟩
theorem v_X_shift : zCV m_X_shift 5 := ⟨⟨List.mem_of_getElem? (i := 1015) (by decide +kernel), List.mem_of_getElem? (i := 70) (by decide +kernel), by decide +kernel, by decide +kernel, by decide⟩, List.mem_of_getElem? (i := 1013) (by decide +kernel), List.mem_of_getElem? (i := 1014) (by decide +kernel)⟩
theorem v_M_shift : zCV m_M_shift 5 := ⟨⟨List.mem_of_getElem? (i := 1534) (by decide +kernel), List.mem_of_getElem? (i := 81) (by decide +kernel), by decide +kernel, by decide +kernel, by decide⟩, List.mem_of_getElem? (i := 1532) (by decide +kernel), List.mem_of_getElem? (i := 1533) (by decide +kernel)⟩
theorem v_Shelves_voterOn : zCV m_Shelves_voterOn 1 := ⟨⟨List.mem_of_getElem? (i := 1034) (by decide +kernel), List.mem_of_getElem? (i := 77) (by decide +kernel), by decide +kernel, by decide +kernel, by decide⟩, List.mem_of_getElem? (i := 1032) (by decide +kernel), List.mem_of_getElem? (i := 1033) (by decide +kernel)⟩
theorem v_Voters_isUnder : zCS m_Voters_isUnder 2 := ⟨⟨List.mem_of_getElem? (i := 1038) (by decide +kernel), List.mem_of_getElem? (i := 80) (by decide +kernel), by decide +kernel, by decide +kernel, by decide⟩, List.mem_of_getElem? (i := 1037) (by decide +kernel)⟩
theorem v_X_taken : zCV m_X_taken 2 := ⟨⟨List.mem_of_getElem? (i := 1030) (by decide +kernel), List.mem_of_getElem? (i := 70) (by decide +kernel), by decide +kernel, by decide +kernel, by decide⟩, List.mem_of_getElem? (i := 1028) (by decide +kernel), List.mem_of_getElem? (i := 1029) (by decide +kernel)⟩
theorem v_M_kindOf : zCV m_M_kindOf 1 := ⟨⟨List.mem_of_getElem? (i := 1542) (by decide +kernel), List.mem_of_getElem? (i := 81) (by decide +kernel), by decide +kernel, by decide +kernel, by decide⟩, List.mem_of_getElem? (i := 1541) (by decide +kernel), List.mem_of_getElem? (i := 68) (by decide +kernel)⟩
theorem v_M_above : zCS m_M_above 1 := ⟨⟨List.mem_of_getElem? (i := 1545) (by decide +kernel), List.mem_of_getElem? (i := 81) (by decide +kernel), by decide +kernel, by decide +kernel, by decide⟩, List.mem_of_getElem? (i := 1544) (by decide +kernel)⟩
theorem v_M_taken : zCV m_M_taken 2 := ⟨⟨List.mem_of_getElem? (i := 1538) (by decide +kernel), List.mem_of_getElem? (i := 81) (by decide +kernel), by decide +kernel, by decide +kernel, by decide⟩, List.mem_of_getElem? (i := 1536) (by decide +kernel), List.mem_of_getElem? (i := 1537) (by decide +kernel)⟩
theorem v_Voters_size : zCV m_Voters_size 0 := ⟨⟨List.mem_of_getElem? (i := 1046) (by decide +kernel), List.mem_of_getElem? (i := 80) (by decide +kernel), by decide +kernel, by decide +kernel, by decide⟩, List.mem_of_getElem? (i := 1044) (by decide +kernel), List.mem_of_getElem? (i := 1045) (by decide +kernel)⟩
theorem v_Voters_ranInAll : zCV m_Voters_ranInAll 0 := ⟨⟨List.mem_of_getElem? (i := 1050) (by decide +kernel), List.mem_of_getElem? (i := 80) (by decide +kernel), by decide +kernel, by decide +kernel, by decide⟩, List.mem_of_getElem? (i := 1048) (by decide +kernel), List.mem_of_getElem? (i := 1049) (by decide +kernel)⟩
theorem v_X_count : zCV m_X_count 1 := ⟨⟨List.mem_of_getElem? (i := 1042) (by decide +kernel), List.mem_of_getElem? (i := 70) (by decide +kernel), by decide +kernel, by decide +kernel, by decide⟩, List.mem_of_getElem? (i := 1040) (by decide +kernel), List.mem_of_getElem? (i := 1041) (by decide +kernel)⟩
theorem v_M_count : zCV m_M_count 1 := ⟨⟨List.mem_of_getElem? (i := 1549) (by decide +kernel), List.mem_of_getElem? (i := 81) (by decide +kernel), by decide +kernel, by decide +kernel, by decide⟩, List.mem_of_getElem? (i := 1547) (by decide +kernel), List.mem_of_getElem? (i := 1548) (by decide +kernel)⟩
theorem zic_6 : Int32.ofInt (6) = (6 : Int32) := by decide +kernel
theorem zib_32 : (Int8.ofInt (32)).toInt32 = (32 : Int32) := by decide +kernel
theorem zk_L_157 : Cond.constantLong RL 157 (4294967295 : Int64) ∈ lw_tbl := List.mem_of_getElem? (i := 1550) (by decide +kernel)
end
section
/-! by program (gen3.py): the law with its instructions -/
def zseg (M : ZM) : Nat → List ZI → Bool
  | 0, _ => true
  | _ + 1, [] => true
  | n + 1, e :: r => (decide (decode (zcc M) e.1 = .ok (e.2.1, e.2.2.1)) && (zends e.2.1 || (match r with | e2 :: _ => e2.1 == e.1 + e.2.2.1 | [] => false)) && (match zjump e.2.1 with | some off => decide ((e.1 : Int) + off = (zpc M e.2.2.2 : Int)) | none => true)) && zseg M n r
theorem zseg_app {M : ZM} {n : Nat} {l : List ZI} (h : zseg M n l = true) (h2 : zchk1 M (l.drop n) = true) : zchk1 M l = true := by
  induction n generalizing l with
  | zero => simpa using h2
  | succ n ih =>
    cases l with
    | nil => rfl
    | cons e r =>
      simp only [zseg, Bool.and_eq_true] at h
      simp only [zchk1, Bool.and_eq_true]
      exact ⟨h.1, ih h.2 (by simpa using h2)⟩
def m_L_law : ZM := (yL_law, cL_law, 4, some .boolean, [(0, .new 7, 3, 0), (3, .dup, 1, 0), (4, .invokespecial 9, 3, 0), (7, .astore_n 1, 1, 0), (8, .new 10, 3, 0), (11, .dup, 1, 0), (12, .invokespecial 12, 3, 0), (15, .astore_n 2, 1, 0), (16, .iconst 0, 1, 0), (17, .istore_n 3, 1, 0), (18, .iload_n 3, 1, 0), (19, .aload_n 0, 1, 0), (20, .arraylength, 1, 0), (21, .bipush 6, 2, 0), (23, .isub, 1, 0), (24, .if_icmp .gt 1381, 3, 969), (27, .aload_n 0, 1, 0), (28, .iload_n 3, 1, 0), (29, .iaload, 1, 0), (30, .bipush 63, 2, 0), (32, .iand, 1, 0), (33, .tableswitch 1366 0 39 #[175, 198, 241, 264, 277, 320, 353, 386, 409, 422, 465, 508, 531, 564, 597, 610, 633, 666, 679, 712, 735, 768, 811, 834, 867, 900, 923, 936, 949, 962, 975, 998, 1041, 1064, 1097, 1140, 1213, 1247, 1310, 1343], 175, 0), (208, .aload_n 1, 1, 0), (209, .aload_n 0, 1, 0), (210, .iload_n 3, 1, 0), (211, .iconst 1, 1, 0), (212, .iadd, 1, 0), (213, .iaload, 1, 0), (214, .invokevirtual 13, 3, 0), (217, .aload_n 2, 1, 0), (218, .aload_n 0, 1, 0), (219, .iload_n 3, 1, 0), (220, .iconst 1, 1, 0), (221, .iadd, 1, 0), (222, .iaload, 1, 0), (223, .invokevirtual 17, 3, 0), (226, .if_icmp .eq 1173, 3, 967), (229, .iconst 0, 1, 0), (230, .ireturn, 1, 0), (231, .aload_n 1, 1, 0), (232, .aload_n 0, 1, 0), (233, .iload_n 3, 1, 0), (234, .iconst 1, 1, 0), (235, .iadd, 1, 0), (236, .iaload, 1, 0), (237, .aload_n 0, 1, 0), (238, .iload_n 3, 1, 0), (239, .iconst 2, 1, 0), (240, .iadd, 1, 0), (241, .iaload, 1, 0), (242, .aload_n 0, 1, 0), (243, .iload_n 3, 1, 0), (244, .iconst 3, 1, 0), (245, .iadd, 1, 0), (246, .iaload, 1, 0), (247, .invokevirtual 18, 3, 0), (250, .aload_n 2, 1, 0), (251, .aload_n 0, 1, 0), (252, .iload_n 3, 1, 0), (253, .iconst 1, 1, 0), (254, .iadd, 1, 0), (255, .iaload, 1, 0), (256, .aload_n 0, 1, 0), (257, .iload_n 3, 1, 0), (258, .iconst 2, 1, 0), (259, .iadd, 1, 0), (260, .iaload, 1, 0), (261, .aload_n 0, 1, 0), (262, .iload_n 3, 1, 0), (263, .iconst 3, 1, 0), (264, .iadd, 1, 0), (265, .iaload, 1, 0), (266, .invokevirtual 22, 3, 0), (269, .if_icmp .eq 1130, 3, 967), (272, .iconst 0, 1, 0), (273, .ireturn, 1, 0), (274, .aload_n 1, 1, 0), (275, .aload_n 0, 1, 0), (276, .iload_n 3, 1, 0), (277, .iconst 1, 1, 0), (278, .iadd, 1, 0), (279, .iaload, 1, 0), (280, .invokevirtual 23, 3, 0), (283, .aload_n 2, 1, 0), (284, .aload_n 0, 1, 0), (285, .iload_n 3, 1, 0), (286, .iconst 1, 1, 0), (287, .iadd, 1, 0), (288, .iaload, 1, 0), (289, .invokevirtual 26, 3, 0), (292, .if_icmp .eq 1107, 3, 967), (295, .iconst 0, 1, 0), (296, .ireturn, 1, 0), (297, .aload_n 1, 1, 0), (298, .invokevirtual 27, 3, 0), (301, .aload_n 2, 1, 0), (302, .invokevirtual 31, 3, 0), (305, .if_icmp .eq 1094, 3, 967), (308, .iconst 0, 1, 0), (309, .ireturn, 1, 0), (310, .aload_n 1, 1, 0), (311, .aload_n 0, 1, 0), (312, .iload_n 3, 1, 0), (313, .iconst 1, 1, 0), (314, .iadd, 1, 0), (315, .iaload, 1, 0), (316, .aload_n 0, 1, 0), (317, .iload_n 3, 1, 0), (318, .iconst 2, 1, 0), (319, .iadd, 1, 0), (320, .iaload, 1, 0), (321, .aload_n 0, 1, 0), (322, .iload_n 3, 1, 0), (323, .iconst 3, 1, 0), (324, .iadd, 1, 0), (325, .iaload, 1, 0), (326, .invokevirtual 32, 3, 0), (329, .aload_n 2, 1, 0), (330, .aload_n 0, 1, 0), (331, .iload_n 3, 1, 0), (332, .iconst 1, 1, 0), (333, .iadd, 1, 0), (334, .iaload, 1, 0), (335, .aload_n 0, 1, 0), (336, .iload_n 3, 1, 0), (337, .iconst 2, 1, 0), (338, .iadd, 1, 0), (339, .iaload, 1, 0), (340, .aload_n 0, 1, 0), (341, .iload_n 3, 1, 0), (342, .iconst 3, 1, 0), (343, .iadd, 1, 0), (344, .iaload, 1, 0), (345, .invokevirtual 35, 3, 0), (348, .if_icmp .eq 1051, 3, 967), (351, .iconst 0, 1, 0), (352, .ireturn, 1, 0), (353, .aload_n 1, 1, 0), (354, .aload_n 0, 1, 0), (355, .iload_n 3, 1, 0), (356, .iconst 1, 1, 0), (357, .iadd, 1, 0), (358, .iaload, 1, 0), (359, .aload_n 0, 1, 0), (360, .iload_n 3, 1, 0), (361, .iconst 2, 1, 0), (362, .iadd, 1, 0), (363, .iaload, 1, 0), (364, .invokevirtual 36, 3, 0), (367, .aload_n 2, 1, 0), (368, .aload_n 0, 1, 0), (369, .iload_n 3, 1, 0), (370, .iconst 1, 1, 0), (371, .iadd, 1, 0), (372, .iaload, 1, 0), (373, .aload_n 0, 1, 0), (374, .iload_n 3, 1, 0), (375, .iconst 2, 1, 0), (376, .iadd, 1, 0), (377, .iaload, 1, 0), (378, .invokevirtual 40, 3, 0), (381, .if_icmp .eq 1018, 3, 967), (384, .iconst 0, 1, 0), (385, .ireturn, 1, 0), (386, .aload_n 1, 1, 0), (387, .aload_n 0, 1, 0), (388, .iload_n 3, 1, 0), (389, .iconst 1, 1, 0), (390, .iadd, 1, 0), (391, .iaload, 1, 0), (392, .aload_n 0, 1, 0), (393, .iload_n 3, 1, 0), (394, .iconst 2, 1, 0), (395, .iadd, 1, 0), (396, .iaload, 1, 0), (397, .invokevirtual 41, 3, 0), (400, .aload_n 2, 1, 0), (401, .aload_n 0, 1, 0), (402, .iload_n 3, 1, 0), (403, .iconst 1, 1, 0), (404, .iadd, 1, 0), (405, .iaload, 1, 0), (406, .aload_n 0, 1, 0), (407, .iload_n 3, 1, 0), (408, .iconst 2, 1, 0), (409, .iadd, 1, 0), (410, .iaload, 1, 0), (411, .invokevirtual 44, 3, 0), (414, .if_icmp .eq 985, 3, 967), (417, .iconst 0, 1, 0), (418, .ireturn, 1, 0), (419, .aload_n 1, 1, 0), (420, .aload_n 0, 1, 0), (421, .iload_n 3, 1, 0), (422, .iconst 1, 1, 0), (423, .iadd, 1, 0), (424, .iaload, 1, 0), (425, .invokevirtual 45, 3, 0), (428, .aload_n 2, 1, 0), (429, .aload_n 0, 1, 0), (430, .iload_n 3, 1, 0), (431, .iconst 1, 1, 0), (432, .iadd, 1, 0), (433, .iaload, 1, 0), (434, .invokevirtual 48, 3, 0), (437, .if_icmp .eq 962, 3, 967), (440, .iconst 0, 1, 0), (441, .ireturn, 1, 0), (442, .aload_n 1, 1, 0), (443, .invokevirtual 49, 3, 0), (446, .aload_n 2, 1, 0), (447, .invokevirtual 52, 3, 0), (450, .if_icmp .eq 949, 3, 967), (453, .iconst 0, 1, 0), (454, .ireturn, 1, 0), (455, .aload_n 1, 1, 0), (456, .aload_n 0, 1, 0), (457, .iload_n 3, 1, 0), (458, .iconst 1, 1, 0), (459, .iadd, 1, 0), (460, .iaload, 1, 0), (461, .aload_n 0, 1, 0), (462, .iload_n 3, 1, 0), (463, .iconst 2, 1, 0), (464, .iadd, 1, 0), (465, .iaload, 1, 0), (466, .aload_n 0, 1, 0), (467, .iload_n 3, 1, 0), (468, .iconst 3, 1, 0), (469, .iadd, 1, 0), (470, .iaload, 1, 0), (471, .invokevirtual 53, 3, 0), (474, .aload_n 2, 1, 0), (475, .aload_n 0, 1, 0), (476, .iload_n 3, 1, 0), (477, .iconst 1, 1, 0), (478, .iadd, 1, 0), (479, .iaload, 1, 0), (480, .aload_n 0, 1, 0), (481, .iload_n 3, 1, 0), (482, .iconst 2, 1, 0), (483, .iadd, 1, 0), (484, .iaload, 1, 0), (485, .aload_n 0, 1, 0), (486, .iload_n 3, 1, 0), (487, .iconst 3, 1, 0), (488, .iadd, 1, 0), (489, .iaload, 1, 0), (490, .invokevirtual 56, 3, 0), (493, .if_icmp .eq 906, 3, 967), (496, .iconst 0, 1, 0), (497, .ireturn, 1, 0), (498, .aload_n 1, 1, 0), (499, .aload_n 0, 1, 0), (500, .iload_n 3, 1, 0), (501, .iconst 1, 1, 0), (502, .iadd, 1, 0), (503, .iaload, 1, 0), (504, .aload_n 0, 1, 0), (505, .iload_n 3, 1, 0), (506, .iconst 2, 1, 0), (507, .iadd, 1, 0), (508, .iaload, 1, 0), (509, .aload_n 0, 1, 0), (510, .iload_n 3, 1, 0), (511, .iconst 3, 1, 0), (512, .iadd, 1, 0), (513, .iaload, 1, 0), (514, .invokevirtual 57, 3, 0), (517, .aload_n 2, 1, 0), (518, .aload_n 0, 1, 0), (519, .iload_n 3, 1, 0), (520, .iconst 1, 1, 0), (521, .iadd, 1, 0), (522, .iaload, 1, 0), (523, .aload_n 0, 1, 0), (524, .iload_n 3, 1, 0), (525, .iconst 2, 1, 0), (526, .iadd, 1, 0), (527, .iaload, 1, 0), (528, .aload_n 0, 1, 0), (529, .iload_n 3, 1, 0), (530, .iconst 3, 1, 0), (531, .iadd, 1, 0), (532, .iaload, 1, 0), (533, .invokevirtual 60, 3, 0), (536, .if_icmp .eq 863, 3, 967), (539, .iconst 0, 1, 0), (540, .ireturn, 1, 0), (541, .aload_n 1, 1, 0), (542, .aload_n 0, 1, 0), (543, .iload_n 3, 1, 0), (544, .iconst 1, 1, 0), (545, .iadd, 1, 0), (546, .iaload, 1, 0), (547, .invokevirtual 61, 3, 0), (550, .aload_n 2, 1, 0), (551, .aload_n 0, 1, 0), (552, .iload_n 3, 1, 0), (553, .iconst 1, 1, 0), (554, .iadd, 1, 0), (555, .iaload, 1, 0), (556, .invokevirtual 64, 3, 0), (559, .if_icmp .eq 840, 3, 967), (562, .iconst 0, 1, 0), (563, .ireturn, 1, 0), (564, .aload_n 1, 1, 0), (565, .aload_n 0, 1, 0), (566, .iload_n 3, 1, 0), (567, .iconst 1, 1, 0), (568, .iadd, 1, 0), (569, .iaload, 1, 0), (570, .aload_n 0, 1, 0), (571, .iload_n 3, 1, 0), (572, .iconst 2, 1, 0), (573, .iadd, 1, 0), (574, .iaload, 1, 0), (575, .invokevirtual 65, 3, 0), (578, .aload_n 2, 1, 0), (579, .aload_n 0, 1, 0), (580, .iload_n 3, 1, 0), (581, .iconst 1, 1, 0), (582, .iadd, 1, 0), (583, .iaload, 1, 0), (584, .aload_n 0, 1, 0), (585, .iload_n 3, 1, 0), (586, .iconst 2, 1, 0), (587, .iadd, 1, 0), (588, .iaload, 1, 0), (589, .invokevirtual 68, 3, 0), (592, .if_icmp .eq 807, 3, 967), (595, .iconst 0, 1, 0), (596, .ireturn, 1, 0), (597, .aload_n 1, 1, 0), (598, .aload_n 0, 1, 0), (599, .iload_n 3, 1, 0), (600, .iconst 1, 1, 0), (601, .iadd, 1, 0), (602, .iaload, 1, 0), (603, .aload_n 0, 1, 0), (604, .iload_n 3, 1, 0), (605, .iconst 2, 1, 0), (606, .iadd, 1, 0), (607, .iaload, 1, 0), (608, .invokevirtual 69, 3, 0), (611, .aload_n 2, 1, 0), (612, .aload_n 0, 1, 0), (613, .iload_n 3, 1, 0), (614, .iconst 1, 1, 0), (615, .iadd, 1, 0), (616, .iaload, 1, 0), (617, .aload_n 0, 1, 0), (618, .iload_n 3, 1, 0), (619, .iconst 2, 1, 0), (620, .iadd, 1, 0), (621, .iaload, 1, 0), (622, .invokevirtual 72, 3, 0), (625, .if_icmp .eq 774, 3, 967), (628, .iconst 0, 1, 0), (629, .ireturn, 1, 0), (630, .aload_n 1, 1, 0), (631, .invokevirtual 73, 3, 0), (634, .aload_n 2, 1, 0), (635, .invokevirtual 76, 3, 0), (638, .if_icmp .eq 761, 3, 967), (641, .iconst 0, 1, 0), (642, .ireturn, 1, 0), (643, .aload_n 1, 1, 0), (644, .aload_n 0, 1, 0), (645, .iload_n 3, 1, 0), (646, .iconst 1, 1, 0), (647, .iadd, 1, 0), (648, .iaload, 1, 0), (649, .invokevirtual 77, 3, 0), (652, .aload_n 2, 1, 0), (653, .aload_n 0, 1, 0), (654, .iload_n 3, 1, 0), (655, .iconst 1, 1, 0), (656, .iadd, 1, 0), (657, .iaload, 1, 0), (658, .invokevirtual 80, 3, 0), (661, .if_icmp .eq 738, 3, 967), (664, .iconst 0, 1, 0), (665, .ireturn, 1, 0), (666, .aload_n 1, 1, 0), (667, .aload_n 0, 1, 0), (668, .iload_n 3, 1, 0), (669, .iconst 1, 1, 0), (670, .iadd, 1, 0), (671, .iaload, 1, 0), (672, .aload_n 0, 1, 0), (673, .iload_n 3, 1, 0), (674, .iconst 2, 1, 0), (675, .iadd, 1, 0), (676, .iaload, 1, 0), (677, .invokevirtual 81, 3, 0), (680, .aload_n 2, 1, 0), (681, .aload_n 0, 1, 0), (682, .iload_n 3, 1, 0), (683, .iconst 1, 1, 0), (684, .iadd, 1, 0), (685, .iaload, 1, 0), (686, .aload_n 0, 1, 0), (687, .iload_n 3, 1, 0), (688, .iconst 2, 1, 0), (689, .iadd, 1, 0), (690, .iaload, 1, 0), (691, .invokevirtual 84, 3, 0), (694, .if_icmp .eq 705, 3, 967), (697, .iconst 0, 1, 0), (698, .ireturn, 1, 0), (699, .aload_n 1, 1, 0), (700, .invokevirtual 85, 3, 0), (703, .aload_n 2, 1, 0), (704, .invokevirtual 88, 3, 0), (707, .if_icmp .eq 692, 3, 967), (710, .iconst 0, 1, 0), (711, .ireturn, 1, 0), (712, .aload_n 1, 1, 0), (713, .aload_n 0, 1, 0), (714, .iload_n 3, 1, 0), (715, .iconst 1, 1, 0), (716, .iadd, 1, 0), (717, .iaload, 1, 0), (718, .aload_n 0, 1, 0), (719, .iload_n 3, 1, 0), (720, .iconst 2, 1, 0), (721, .iadd, 1, 0), (722, .iaload, 1, 0), (723, .invokevirtual 89, 3, 0), (726, .aload_n 2, 1, 0), (727, .aload_n 0, 1, 0), (728, .iload_n 3, 1, 0), (729, .iconst 1, 1, 0), (730, .iadd, 1, 0), (731, .iaload, 1, 0), (732, .aload_n 0, 1, 0), (733, .iload_n 3, 1, 0), (734, .iconst 2, 1, 0), (735, .iadd, 1, 0), (736, .iaload, 1, 0), (737, .invokevirtual 92, 3, 0), (740, .if_icmp .eq 659, 3, 967), (743, .iconst 0, 1, 0), (744, .ireturn, 1, 0), (745, .aload_n 1, 1, 0), (746, .aload_n 0, 1, 0), (747, .iload_n 3, 1, 0), (748, .iconst 1, 1, 0), (749, .iadd, 1, 0), (750, .iaload, 1, 0), (751, .invokevirtual 93, 3, 0), (754, .aload_n 2, 1, 0), (755, .aload_n 0, 1, 0), (756, .iload_n 3, 1, 0), (757, .iconst 1, 1, 0), (758, .iadd, 1, 0), (759, .iaload, 1, 0), (760, .invokevirtual 96, 3, 0), (763, .if_icmp .eq 636, 3, 967), (766, .iconst 0, 1, 0), (767, .ireturn, 1, 0), (768, .aload_n 1, 1, 0), (769, .aload_n 0, 1, 0), (770, .iload_n 3, 1, 0), (771, .iconst 1, 1, 0), (772, .iadd, 1, 0), (773, .iaload, 1, 0), (774, .aload_n 0, 1, 0), (775, .iload_n 3, 1, 0), (776, .iconst 2, 1, 0), (777, .iadd, 1, 0), (778, .iaload, 1, 0), (779, .invokevirtual 97, 3, 0), (782, .aload_n 2, 1, 0), (783, .aload_n 0, 1, 0), (784, .iload_n 3, 1, 0), (785, .iconst 1, 1, 0), (786, .iadd, 1, 0), (787, .iaload, 1, 0), (788, .aload_n 0, 1, 0), (789, .iload_n 3, 1, 0), (790, .iconst 2, 1, 0), (791, .iadd, 1, 0), (792, .iaload, 1, 0), (793, .invokevirtual 100, 3, 0), (796, .if_icmp .eq 603, 3, 967), (799, .iconst 0, 1, 0), (800, .ireturn, 1, 0), (801, .aload_n 1, 1, 0), (802, .aload_n 0, 1, 0), (803, .iload_n 3, 1, 0), (804, .iconst 1, 1, 0), (805, .iadd, 1, 0), (806, .iaload, 1, 0), (807, .aload_n 0, 1, 0), (808, .iload_n 3, 1, 0), (809, .iconst 2, 1, 0), (810, .iadd, 1, 0), (811, .iaload, 1, 0), (812, .aload_n 0, 1, 0), (813, .iload_n 3, 1, 0), (814, .iconst 3, 1, 0), (815, .iadd, 1, 0), (816, .iaload, 1, 0), (817, .invokevirtual 101, 3, 0), (820, .aload_n 2, 1, 0), (821, .aload_n 0, 1, 0), (822, .iload_n 3, 1, 0), (823, .iconst 1, 1, 0), (824, .iadd, 1, 0), (825, .iaload, 1, 0), (826, .aload_n 0, 1, 0), (827, .iload_n 3, 1, 0), (828, .iconst 2, 1, 0), (829, .iadd, 1, 0), (830, .iaload, 1, 0), (831, .aload_n 0, 1, 0), (832, .iload_n 3, 1, 0), (833, .iconst 3, 1, 0), (834, .iadd, 1, 0), (835, .iaload, 1, 0), (836, .invokevirtual 104, 3, 0), (839, .if_icmp .eq 560, 3, 967), (842, .iconst 0, 1, 0), (843, .ireturn, 1, 0), (844, .aload_n 1, 1, 0), (845, .aload_n 0, 1, 0), (846, .iload_n 3, 1, 0), (847, .iconst 1, 1, 0), (848, .iadd, 1, 0), (849, .iaload, 1, 0), (850, .invokevirtual 105, 3, 0), (853, .aload_n 2, 1, 0), (854, .aload_n 0, 1, 0), (855, .iload_n 3, 1, 0), (856, .iconst 1, 1, 0), (857, .iadd, 1, 0), (858, .iaload, 1, 0), (859, .invokevirtual 108, 3, 0), (862, .if_icmp .eq 537, 3, 967), (865, .iconst 0, 1, 0), (866, .ireturn, 1, 0), (867, .aload_n 1, 1, 0), (868, .aload_n 0, 1, 0), (869, .iload_n 3, 1, 0), (870, .iconst 1, 1, 0), (871, .iadd, 1, 0), (872, .iaload, 1, 0), (873, .aload_n 0, 1, 0), (874, .iload_n 3, 1, 0), (875, .iconst 2, 1, 0), (876, .iadd, 1, 0), (877, .iaload, 1, 0), (878, .invokevirtual 109, 3, 0), (881, .aload_n 2, 1, 0), (882, .aload_n 0, 1, 0), (883, .iload_n 3, 1, 0), (884, .iconst 1, 1, 0), (885, .iadd, 1, 0), (886, .iaload, 1, 0), (887, .aload_n 0, 1, 0), (888, .iload_n 3, 1, 0), (889, .iconst 2, 1, 0), (890, .iadd, 1, 0), (891, .iaload, 1, 0), (892, .invokevirtual 112, 3, 0), (895, .if_icmp .eq 504, 3, 967), (898, .iconst 0, 1, 0), (899, .ireturn, 1, 0), (900, .aload_n 1, 1, 0), (901, .aload_n 0, 1, 0), (902, .iload_n 3, 1, 0), (903, .iconst 1, 1, 0), (904, .iadd, 1, 0), (905, .iaload, 1, 0), (906, .aload_n 0, 1, 0), (907, .iload_n 3, 1, 0), (908, .iconst 2, 1, 0), (909, .iadd, 1, 0), (910, .iaload, 1, 0), (911, .invokevirtual 113, 3, 0), (914, .aload_n 2, 1, 0), (915, .aload_n 0, 1, 0), (916, .iload_n 3, 1, 0), (917, .iconst 1, 1, 0), (918, .iadd, 1, 0), (919, .iaload, 1, 0), (920, .aload_n 0, 1, 0), (921, .iload_n 3, 1, 0), (922, .iconst 2, 1, 0), (923, .iadd, 1, 0), (924, .iaload, 1, 0), (925, .invokevirtual 116, 3, 0), (928, .if_icmp .eq 471, 3, 967), (931, .iconst 0, 1, 0), (932, .ireturn, 1, 0), (933, .aload_n 1, 1, 0), (934, .aload_n 0, 1, 0), (935, .iload_n 3, 1, 0), (936, .iconst 1, 1, 0), (937, .iadd, 1, 0), (938, .iaload, 1, 0), (939, .invokevirtual 117, 3, 0), (942, .aload_n 2, 1, 0), (943, .aload_n 0, 1, 0), (944, .iload_n 3, 1, 0), (945, .iconst 1, 1, 0), (946, .iadd, 1, 0), (947, .iaload, 1, 0), (948, .invokevirtual 120, 3, 0), (951, .if_icmp .eq 448, 3, 967), (954, .iconst 0, 1, 0), (955, .ireturn, 1, 0), (956, .aload_n 1, 1, 0), (957, .invokevirtual 121, 3, 0), (960, .aload_n 2, 1, 0), (961, .invokevirtual 124, 3, 0), (964, .if_icmp .eq 435, 3, 967), (967, .iconst 0, 1, 0), (968, .ireturn, 1, 0), (969, .aload_n 1, 1, 0), (970, .invokevirtual 125, 3, 0), (973, .aload_n 2, 1, 0), (974, .invokevirtual 128, 3, 0), (977, .if_icmp .eq 422, 3, 967), (980, .iconst 0, 1, 0), (981, .ireturn, 1, 0), (982, .aload_n 1, 1, 0), (983, .invokevirtual 129, 3, 0), (986, .aload_n 2, 1, 0), (987, .invokevirtual 132, 3, 0), (990, .if_icmp .eq 409, 3, 967), (993, .iconst 0, 1, 0), (994, .ireturn, 1, 0), (995, .aload_n 1, 1, 0), (996, .invokevirtual 133, 3, 0), (999, .aload_n 2, 1, 0), (1000, .invokevirtual 136, 3, 0), (1003, .if_icmp .eq 396, 3, 967), (1006, .iconst 0, 1, 0), (1007, .ireturn, 1, 0), (1008, .aload_n 1, 1, 0), (1009, .aload_n 0, 1, 0), (1010, .iload_n 3, 1, 0), (1011, .iconst 1, 1, 0), (1012, .iadd, 1, 0), (1013, .iaload, 1, 0), (1014, .invokevirtual 137, 3, 0), (1017, .aload_n 2, 1, 0), (1018, .aload_n 0, 1, 0), (1019, .iload_n 3, 1, 0), (1020, .iconst 1, 1, 0), (1021, .iadd, 1, 0), (1022, .iaload, 1, 0), (1023, .invokevirtual 140, 3, 0), (1026, .if_icmp .eq 373, 3, 967), (1029, .iconst 0, 1, 0), (1030, .ireturn, 1, 0), (1031, .aload_n 1, 1, 0), (1032, .aload_n 0, 1, 0), (1033, .iload_n 3, 1, 0), (1034, .iconst 1, 1, 0), (1035, .iadd, 1, 0), (1036, .iaload, 1, 0), (1037, .aload_n 0, 1, 0), (1038, .iload_n 3, 1, 0), (1039, .iconst 2, 1, 0), (1040, .iadd, 1, 0), (1041, .iaload, 1, 0), (1042, .aload_n 0, 1, 0), (1043, .iload_n 3, 1, 0), (1044, .iconst 3, 1, 0), (1045, .iadd, 1, 0), (1046, .iaload, 1, 0), (1047, .invokevirtual 141, 3, 0), (1050, .aload_n 2, 1, 0), (1051, .aload_n 0, 1, 0), (1052, .iload_n 3, 1, 0), (1053, .iconst 1, 1, 0), (1054, .iadd, 1, 0), (1055, .iaload, 1, 0), (1056, .aload_n 0, 1, 0), (1057, .iload_n 3, 1, 0), (1058, .iconst 2, 1, 0), (1059, .iadd, 1, 0), (1060, .iaload, 1, 0), (1061, .aload_n 0, 1, 0), (1062, .iload_n 3, 1, 0), (1063, .iconst 3, 1, 0), (1064, .iadd, 1, 0), (1065, .iaload, 1, 0), (1066, .invokevirtual 144, 3, 0), (1069, .if_icmp .eq 330, 3, 967), (1072, .iconst 0, 1, 0), (1073, .ireturn, 1, 0), (1074, .aload_n 1, 1, 0), (1075, .aload_n 0, 1, 0), (1076, .iload_n 3, 1, 0), (1077, .iconst 1, 1, 0), (1078, .iadd, 1, 0), (1079, .iaload, 1, 0), (1080, .invokevirtual 145, 3, 0), (1083, .aload_n 2, 1, 0), (1084, .aload_n 0, 1, 0), (1085, .iload_n 3, 1, 0), (1086, .iconst 1, 1, 0), (1087, .iadd, 1, 0), (1088, .iaload, 1, 0), (1089, .invokevirtual 148, 3, 0), (1092, .if_icmp .eq 307, 3, 967), (1095, .iconst 0, 1, 0), (1096, .ireturn, 1, 0), (1097, .aload_n 1, 1, 0), (1098, .aload_n 0, 1, 0), (1099, .iload_n 3, 1, 0), (1100, .iconst 1, 1, 0), (1101, .iadd, 1, 0), (1102, .iaload, 1, 0), (1103, .aload_n 0, 1, 0), (1104, .iload_n 3, 1, 0), (1105, .iconst 2, 1, 0), (1106, .iadd, 1, 0), (1107, .iaload, 1, 0), (1108, .invokevirtual 149, 3, 0), (1111, .aload_n 2, 1, 0), (1112, .aload_n 0, 1, 0), (1113, .iload_n 3, 1, 0), (1114, .iconst 1, 1, 0), (1115, .iadd, 1, 0), (1116, .iaload, 1, 0), (1117, .aload_n 0, 1, 0), (1118, .iload_n 3, 1, 0), (1119, .iconst 2, 1, 0), (1120, .iadd, 1, 0), (1121, .iaload, 1, 0), (1122, .invokevirtual 152, 3, 0), (1125, .if_icmp .eq 274, 3, 967), (1128, .iconst 0, 1, 0), (1129, .ireturn, 1, 0), (1130, .aload_n 1, 1, 0), (1131, .aload_n 0, 1, 0), (1132, .iload_n 3, 1, 0), (1133, .iconst 1, 1, 0), (1134, .iadd, 1, 0), (1135, .iaload, 1, 0), (1136, .aload_n 0, 1, 0), (1137, .iload_n 3, 1, 0), (1138, .iconst 2, 1, 0), (1139, .iadd, 1, 0), (1140, .iaload, 1, 0), (1141, .aload_n 0, 1, 0), (1142, .iload_n 3, 1, 0), (1143, .iconst 3, 1, 0), (1144, .iadd, 1, 0), (1145, .iaload, 1, 0), (1146, .invokevirtual 153, 3, 0), (1149, .aload_n 2, 1, 0), (1150, .aload_n 0, 1, 0), (1151, .iload_n 3, 1, 0), (1152, .iconst 1, 1, 0), (1153, .iadd, 1, 0), (1154, .iaload, 1, 0), (1155, .aload_n 0, 1, 0), (1156, .iload_n 3, 1, 0), (1157, .iconst 2, 1, 0), (1158, .iadd, 1, 0), (1159, .iaload, 1, 0), (1160, .aload_n 0, 1, 0), (1161, .iload_n 3, 1, 0), (1162, .iconst 3, 1, 0), (1163, .iadd, 1, 0), (1164, .iaload, 1, 0), (1165, .invokevirtual 156, 3, 0), (1168, .if_icmp .eq 231, 3, 967), (1171, .iconst 0, 1, 0), (1172, .ireturn, 1, 0), (1173, .aload_n 1, 1, 0), (1174, .aload_n 0, 1, 0), (1175, .iload_n 3, 1, 0), (1176, .iconst 1, 1, 0), (1177, .iadd, 1, 0), (1178, .iaload, 1, 0), (1179, .aload_n 0, 1, 0), (1180, .iload_n 3, 1, 0), (1181, .iconst 2, 1, 0), (1182, .iadd, 1, 0), (1183, .iaload, 1, 0), (1184, .aload_n 0, 1, 0), (1185, .iload_n 3, 1, 0), (1186, .iconst 3, 1, 0), (1187, .iadd, 1, 0), (1188, .iaload, 1, 0), (1189, .i2l, 1, 0), (1190, .bipush 32, 2, 0), (1192, .lshl, 1, 0), (1193, .aload_n 0, 1, 0), (1194, .iload_n 3, 1, 0), (1195, .iconst 4, 1, 0), (1196, .iadd, 1, 0), (1197, .iaload, 1, 0), (1198, .i2l, 1, 0), (1199, .ldc2_w 157, 3, 0), (1202, .land, 1, 0), (1203, .lor, 1, 0), (1204, .invokevirtual 159, 3, 0), (1207, .aload_n 2, 1, 0), (1208, .aload_n 0, 1, 0), (1209, .iload_n 3, 1, 0), (1210, .iconst 1, 1, 0), (1211, .iadd, 1, 0), (1212, .iaload, 1, 0), (1213, .aload_n 0, 1, 0), (1214, .iload_n 3, 1, 0), (1215, .iconst 2, 1, 0), (1216, .iadd, 1, 0), (1217, .iaload, 1, 0), (1218, .aload_n 0, 1, 0), (1219, .iload_n 3, 1, 0), (1220, .iconst 3, 1, 0), (1221, .iadd, 1, 0), (1222, .iaload, 1, 0), (1223, .i2l, 1, 0), (1224, .bipush 32, 2, 0), (1226, .lshl, 1, 0), (1227, .aload_n 0, 1, 0), (1228, .iload_n 3, 1, 0), (1229, .iconst 4, 1, 0), (1230, .iadd, 1, 0), (1231, .iaload, 1, 0), (1232, .i2l, 1, 0), (1233, .ldc2_w 157, 3, 0), (1236, .land, 1, 0), (1237, .lor, 1, 0), (1238, .invokevirtual 163, 3, 0), (1241, .if_icmp .eq 158, 3, 967), (1244, .iconst 0, 1, 0), (1245, .ireturn, 1, 0), (1246, .aload_n 1, 1, 0), (1247, .aload_n 0, 1, 0), (1248, .iload_n 3, 1, 0), (1249, .iconst 1, 1, 0), (1250, .iadd, 1, 0), (1251, .iaload, 1, 0), (1252, .aload_n 0, 1, 0), (1253, .iload_n 3, 1, 0), (1254, .iconst 2, 1, 0), (1255, .iadd, 1, 0), (1256, .iaload, 1, 0), (1257, .invokevirtual 164, 3, 0), (1260, .aload_n 2, 1, 0), (1261, .aload_n 0, 1, 0), (1262, .iload_n 3, 1, 0), (1263, .iconst 1, 1, 0), (1264, .iadd, 1, 0), (1265, .iaload, 1, 0), (1266, .aload_n 0, 1, 0), (1267, .iload_n 3, 1, 0), (1268, .iconst 2, 1, 0), (1269, .iadd, 1, 0), (1270, .iaload, 1, 0), (1271, .invokevirtual 168, 3, 0), (1274, .lcmp, 1, 0), (1275, .ifCond .eq 124, 3, 967), (1278, .iconst 0, 1, 0), (1279, .ireturn, 1, 0), (1280, .aload_n 1, 1, 0), (1281, .aload_n 0, 1, 0), (1282, .iload_n 3, 1, 0), (1283, .iconst 1, 1, 0), (1284, .iadd, 1, 0), (1285, .iaload, 1, 0), (1286, .aload_n 0, 1, 0), (1287, .iload_n 3, 1, 0), (1288, .iconst 2, 1, 0), (1289, .iadd, 1, 0), (1290, .iaload, 1, 0), (1291, .aload_n 0, 1, 0), (1292, .iload_n 3, 1, 0), (1293, .iconst 3, 1, 0), (1294, .iadd, 1, 0), (1295, .iaload, 1, 0), (1296, .aload_n 0, 1, 0), (1297, .iload_n 3, 1, 0), (1298, .iconst 4, 1, 0), (1299, .iadd, 1, 0), (1300, .iaload, 1, 0), (1301, .aload_n 0, 1, 0), (1302, .iload_n 3, 1, 0), (1303, .iconst 5, 1, 0), (1304, .iadd, 1, 0), (1305, .iaload, 1, 0), (1306, .invokevirtual 169, 3, 0), (1309, .aload_n 2, 1, 0), (1310, .aload_n 0, 1, 0), (1311, .iload_n 3, 1, 0), (1312, .iconst 1, 1, 0), (1313, .iadd, 1, 0), (1314, .iaload, 1, 0), (1315, .aload_n 0, 1, 0), (1316, .iload_n 3, 1, 0), (1317, .iconst 2, 1, 0), (1318, .iadd, 1, 0), (1319, .iaload, 1, 0), (1320, .aload_n 0, 1, 0), (1321, .iload_n 3, 1, 0), (1322, .iconst 3, 1, 0), (1323, .iadd, 1, 0), (1324, .iaload, 1, 0), (1325, .aload_n 0, 1, 0), (1326, .iload_n 3, 1, 0), (1327, .iconst 4, 1, 0), (1328, .iadd, 1, 0), (1329, .iaload, 1, 0), (1330, .aload_n 0, 1, 0), (1331, .iload_n 3, 1, 0), (1332, .iconst 5, 1, 0), (1333, .iadd, 1, 0), (1334, .iaload, 1, 0), (1335, .invokevirtual 173, 3, 0), (1338, .if_icmp .eq 61, 3, 967), (1341, .iconst 0, 1, 0), (1342, .ireturn, 1, 0), (1343, .aload_n 1, 1, 0), (1344, .aload_n 0, 1, 0), (1345, .iload_n 3, 1, 0), (1346, .iconst 1, 1, 0), (1347, .iadd, 1, 0), (1348, .iaload, 1, 0), (1349, .aload_n 0, 1, 0), (1350, .iload_n 3, 1, 0), (1351, .iconst 2, 1, 0), (1352, .iadd, 1, 0), (1353, .iaload, 1, 0), (1354, .invokevirtual 174, 3, 0), (1357, .aload_n 2, 1, 0), (1358, .aload_n 0, 1, 0), (1359, .iload_n 3, 1, 0), (1360, .iconst 1, 1, 0), (1361, .iadd, 1, 0), (1362, .iaload, 1, 0), (1363, .aload_n 0, 1, 0), (1364, .iload_n 3, 1, 0), (1365, .iconst 2, 1, 0), (1366, .iadd, 1, 0), (1367, .iaload, 1, 0), (1368, .invokevirtual 177, 3, 0), (1371, .if_icmp .eq 28, 3, 967), (1374, .iconst 0, 1, 0), (1375, .ireturn, 1, 0), (1376, .aload_n 1, 1, 0), (1377, .aload_n 0, 1, 0), (1378, .iload_n 3, 1, 0), (1379, .iconst 1, 1, 0), (1380, .iadd, 1, 0), (1381, .iaload, 1, 0), (1382, .invokevirtual 178, 3, 0), (1385, .aload_n 2, 1, 0), (1386, .aload_n 0, 1, 0), (1387, .iload_n 3, 1, 0), (1388, .iconst 1, 1, 0), (1389, .iadd, 1, 0), (1390, .iaload, 1, 0), (1391, .invokevirtual 181, 3, 0), (1394, .if_icmp .eq 5, 3, 967), (1397, .iconst 0, 1, 0), (1398, .ireturn, 1, 0), (1399, .iinc 3 6, 3, 0), (1402, .goto (-1384), 3, 10), (1405, .iconst 1, 1, 0), (1406, .ireturn, 1, 0)])
theorem kl_0 : zseg m_L_law 50 ((ztb m_L_law).drop 0) = true := by decide +kernel
theorem kl_50 : zseg m_L_law 50 ((ztb m_L_law).drop 50) = true := by decide +kernel
theorem kl_100 : zseg m_L_law 50 ((ztb m_L_law).drop 100) = true := by decide +kernel
theorem kl_150 : zseg m_L_law 50 ((ztb m_L_law).drop 150) = true := by decide +kernel
theorem kl_200 : zseg m_L_law 50 ((ztb m_L_law).drop 200) = true := by decide +kernel
theorem kl_250 : zseg m_L_law 50 ((ztb m_L_law).drop 250) = true := by decide +kernel
theorem kl_300 : zseg m_L_law 50 ((ztb m_L_law).drop 300) = true := by decide +kernel
theorem kl_350 : zseg m_L_law 50 ((ztb m_L_law).drop 350) = true := by decide +kernel
theorem kl_400 : zseg m_L_law 50 ((ztb m_L_law).drop 400) = true := by decide +kernel
theorem kl_450 : zseg m_L_law 50 ((ztb m_L_law).drop 450) = true := by decide +kernel
theorem kl_500 : zseg m_L_law 50 ((ztb m_L_law).drop 500) = true := by decide +kernel
theorem kl_550 : zseg m_L_law 50 ((ztb m_L_law).drop 550) = true := by decide +kernel
theorem kl_600 : zseg m_L_law 50 ((ztb m_L_law).drop 600) = true := by decide +kernel
theorem kl_650 : zseg m_L_law 50 ((ztb m_L_law).drop 650) = true := by decide +kernel
theorem kl_700 : zseg m_L_law 50 ((ztb m_L_law).drop 700) = true := by decide +kernel
theorem kl_750 : zseg m_L_law 50 ((ztb m_L_law).drop 750) = true := by decide +kernel
theorem kl_800 : zseg m_L_law 50 ((ztb m_L_law).drop 800) = true := by decide +kernel
theorem kl_850 : zseg m_L_law 50 ((ztb m_L_law).drop 850) = true := by decide +kernel
theorem kl_900 : zseg m_L_law 50 ((ztb m_L_law).drop 900) = true := by decide +kernel
theorem kl_950 : zseg m_L_law 50 ((ztb m_L_law).drop 950) = true := by decide +kernel
theorem kd_971 : zchk1 m_L_law ((ztb m_L_law).drop 971) = true := by decide +kernel
theorem kd_1000_ : zchk1 m_L_law ((ztb m_L_law).drop 1000) = true := by decide +kernel
theorem kd_950 : zchk1 m_L_law ((ztb m_L_law).drop 950) = true := zseg_app kl_950 (by rw [List.drop_drop]; exact kd_1000_)
theorem kd_900 : zchk1 m_L_law ((ztb m_L_law).drop 900) = true := zseg_app kl_900 (by rw [List.drop_drop]; exact kd_950)
theorem kd_850 : zchk1 m_L_law ((ztb m_L_law).drop 850) = true := zseg_app kl_850 (by rw [List.drop_drop]; exact kd_900)
theorem kd_800 : zchk1 m_L_law ((ztb m_L_law).drop 800) = true := zseg_app kl_800 (by rw [List.drop_drop]; exact kd_850)
theorem kd_750 : zchk1 m_L_law ((ztb m_L_law).drop 750) = true := zseg_app kl_750 (by rw [List.drop_drop]; exact kd_800)
theorem kd_700 : zchk1 m_L_law ((ztb m_L_law).drop 700) = true := zseg_app kl_700 (by rw [List.drop_drop]; exact kd_750)
theorem kd_650 : zchk1 m_L_law ((ztb m_L_law).drop 650) = true := zseg_app kl_650 (by rw [List.drop_drop]; exact kd_700)
theorem kd_600 : zchk1 m_L_law ((ztb m_L_law).drop 600) = true := zseg_app kl_600 (by rw [List.drop_drop]; exact kd_650)
theorem kd_550 : zchk1 m_L_law ((ztb m_L_law).drop 550) = true := zseg_app kl_550 (by rw [List.drop_drop]; exact kd_600)
theorem kd_500 : zchk1 m_L_law ((ztb m_L_law).drop 500) = true := zseg_app kl_500 (by rw [List.drop_drop]; exact kd_550)
theorem kd_450 : zchk1 m_L_law ((ztb m_L_law).drop 450) = true := zseg_app kl_450 (by rw [List.drop_drop]; exact kd_500)
theorem kd_400 : zchk1 m_L_law ((ztb m_L_law).drop 400) = true := zseg_app kl_400 (by rw [List.drop_drop]; exact kd_450)
theorem kd_350 : zchk1 m_L_law ((ztb m_L_law).drop 350) = true := zseg_app kl_350 (by rw [List.drop_drop]; exact kd_400)
theorem kd_300 : zchk1 m_L_law ((ztb m_L_law).drop 300) = true := zseg_app kl_300 (by rw [List.drop_drop]; exact kd_350)
theorem kd_250 : zchk1 m_L_law ((ztb m_L_law).drop 250) = true := zseg_app kl_250 (by rw [List.drop_drop]; exact kd_300)
theorem kd_200 : zchk1 m_L_law ((ztb m_L_law).drop 200) = true := zseg_app kl_200 (by rw [List.drop_drop]; exact kd_250)
theorem kd_150 : zchk1 m_L_law ((ztb m_L_law).drop 150) = true := zseg_app kl_150 (by rw [List.drop_drop]; exact kd_200)
theorem kd_100 : zchk1 m_L_law ((ztb m_L_law).drop 100) = true := zseg_app kl_100 (by rw [List.drop_drop]; exact kd_150)
theorem kd_50 : zchk1 m_L_law ((ztb m_L_law).drop 50) = true := zseg_app kl_50 (by rw [List.drop_drop]; exact kd_100)
theorem kd_0 : zchk1 m_L_law ((ztb m_L_law).drop 0) = true := zseg_app kl_0 (by rw [List.drop_drop]; exact kd_50)
theorem k_L_law : zchk m_L_law = true := by
  have h : (zpc m_L_law 0 == 0) = true ∧ plainName (zy m_L_law).cls = true := by decide +kernel
  simp only [zchk, Bool.and_eq_true]
  exact ⟨⟨⟨kd_0, h.1⟩, h.2⟩, rfl⟩
end
