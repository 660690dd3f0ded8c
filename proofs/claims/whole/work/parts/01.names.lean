-- ===== PART A: goes FIRST, ahead of the names: the tables' words, and 'selects' of the private methods out of them =====
/-- a private method of a class that the tables say can be made, by its rows of tables_1 -/
def lw_okq (q : MethodName × Nat) : Prop := (q.1.cls ≠ "java/lang/invoke/MethodHandle" ∧ q.1.cls ≠ "java/lang/invoke/VarHandle") ∧ Cond.instantiable q.1.cls q.2 ∈ tables_1 ∧ Cond.privateMethod q.1 ∈ tables_1 ∧ Cond.instanceMethod q.1 ∈ tables_1
theorem lw_p0 : lw_okq (⟨"OpensLikeThat$MoveList", "endOf", "(II)I"⟩, 7) := ⟨⟨by decide +kernel, by decide +kernel⟩, List.mem_of_getElem? (i := 65) (by decide +kernel), List.mem_of_getElem? (i := 415) (by decide +kernel), List.mem_of_getElem? (i := 416) (by decide +kernel)⟩
theorem lw_p1 : lw_okq (⟨"OpensLikeThat", "comesFromRow", "(II)Z"⟩, 11) := ⟨⟨by decide +kernel, by decide +kernel⟩, List.mem_of_getElem? (i := 18) (by decide +kernel), List.mem_of_getElem? (i := 442) (by decide +kernel), List.mem_of_getElem? (i := 443) (by decide +kernel)⟩
theorem lw_p2 : lw_okq (⟨"OpensLikeThat", "fits", "(III)Z"⟩, 11) := ⟨⟨by decide +kernel, by decide +kernel⟩, List.mem_of_getElem? (i := 18) (by decide +kernel), List.mem_of_getElem? (i := 463) (by decide +kernel), List.mem_of_getElem? (i := 464) (by decide +kernel)⟩
theorem lw_p3 : lw_okq (⟨"OpensLikeThat", "canMend", "(II)Z"⟩, 11) := ⟨⟨by decide +kernel, by decide +kernel⟩, List.mem_of_getElem? (i := 18) (by decide +kernel), List.mem_of_getElem? (i := 476) (by decide +kernel), List.mem_of_getElem? (i := 477) (by decide +kernel)⟩
theorem lw_p4 : lw_okq (⟨"OpensLikeThat", "numberAt", "(II)I"⟩, 11) := ⟨⟨by decide +kernel, by decide +kernel⟩, List.mem_of_getElem? (i := 18) (by decide +kernel), List.mem_of_getElem? (i := 484) (by decide +kernel), List.mem_of_getElem? (i := 485) (by decide +kernel)⟩
theorem lw_p5 : lw_okq (⟨"OpensLikeThat", "setNumber", "(III)V"⟩, 11) := ⟨⟨by decide +kernel, by decide +kernel⟩, List.mem_of_getElem? (i := 18) (by decide +kernel), List.mem_of_getElem? (i := 488) (by decide +kernel), List.mem_of_getElem? (i := 489) (by decide +kernel)⟩
theorem lw_p6 : lw_okq (⟨"OpensLikeThat$Changes", "forgetFirst", "()V"⟩, 6) := ⟨⟨by decide +kernel, by decide +kernel⟩, List.mem_of_getElem? (i := 182) (by decide +kernel), List.mem_of_getElem? (i := 497) (by decide +kernel), List.mem_of_getElem? (i := 498) (by decide +kernel)⟩
theorem lw_p7 : lw_okq (⟨"OpensLikeThat$Law", "readText", "()Z"⟩, 10) := ⟨⟨by decide +kernel, by decide +kernel⟩, List.mem_of_getElem? (i := 26) (by decide +kernel), List.mem_of_getElem? (i := 524) (by decide +kernel), List.mem_of_getElem? (i := 525) (by decide +kernel)⟩
theorem lw_p8 : lw_okq (⟨"OpensLikeThat$Law", "readLine", "()Z"⟩, 10) := ⟨⟨by decide +kernel, by decide +kernel⟩, List.mem_of_getElem? (i := 26) (by decide +kernel), List.mem_of_getElem? (i := 528) (by decide +kernel), List.mem_of_getElem? (i := 529) (by decide +kernel)⟩
theorem lw_p9 : lw_okq (⟨"OpensLikeThat$Law", "readLevel", "(II)Z"⟩, 10) := ⟨⟨by decide +kernel, by decide +kernel⟩, List.mem_of_getElem? (i := 26) (by decide +kernel), List.mem_of_getElem? (i := 532) (by decide +kernel), List.mem_of_getElem? (i := 533) (by decide +kernel)⟩
theorem lw_p10 : lw_okq (⟨"OpensLikeThat$Law", "readOperand", "(I)Z"⟩, 10) := ⟨⟨by decide +kernel, by decide +kernel⟩, List.mem_of_getElem? (i := 26) (by decide +kernel), List.mem_of_getElem? (i := 536) (by decide +kernel), List.mem_of_getElem? (i := 537) (by decide +kernel)⟩
theorem lw_p11 : lw_okq (⟨"OpensLikeThat$Law", "ahead", "()I"⟩, 10) := ⟨⟨by decide +kernel, by decide +kernel⟩, List.mem_of_getElem? (i := 26) (by decide +kernel), List.mem_of_getElem? (i := 540) (by decide +kernel), List.mem_of_getElem? (i := 541) (by decide +kernel)⟩
theorem lw_p12 : lw_okq (⟨"OpensLikeThat$Law", "readNumber", "()V"⟩, 10) := ⟨⟨by decide +kernel, by decide +kernel⟩, List.mem_of_getElem? (i := 26) (by decide +kernel), List.mem_of_getElem? (i := 544) (by decide +kernel), List.mem_of_getElem? (i := 545) (by decide +kernel)⟩
theorem lw_p13 : lw_okq (⟨"OpensLikeThat$Law", "write", "(I)V"⟩, 10) := ⟨⟨by decide +kernel, by decide +kernel⟩, List.mem_of_getElem? (i := 26) (by decide +kernel), List.mem_of_getElem? (i := 548) (by decide +kernel), List.mem_of_getElem? (i := 549) (by decide +kernel)⟩
theorem lw_p14 : lw_okq (⟨"OpensLikeThat", "isOneOrNobody", "(I)Z"⟩, 11) := ⟨⟨by decide +kernel, by decide +kernel⟩, List.mem_of_getElem? (i := 18) (by decide +kernel), List.mem_of_getElem? (i := 574) (by decide +kernel), List.mem_of_getElem? (i := 575) (by decide +kernel)⟩
theorem lw_p15 : lw_okq (⟨"OpensLikeThat$Web", "secondsIf", "(IIII)I"⟩, 13) := ⟨⟨by decide +kernel, by decide +kernel⟩, List.mem_of_getElem? (i := 243) (by decide +kernel), List.mem_of_getElem? (i := 587) (by decide +kernel), List.mem_of_getElem? (i := 588) (by decide +kernel)⟩
def lw_privs_1 : List (MethodName × Nat) := [(⟨"OpensLikeThat$MoveList", "endOf", "(II)I"⟩, 7), (⟨"OpensLikeThat", "comesFromRow", "(II)Z"⟩, 11), (⟨"OpensLikeThat", "fits", "(III)Z"⟩, 11), (⟨"OpensLikeThat", "canMend", "(II)Z"⟩, 11), (⟨"OpensLikeThat", "numberAt", "(II)I"⟩, 11), (⟨"OpensLikeThat", "setNumber", "(III)V"⟩, 11), (⟨"OpensLikeThat$Changes", "forgetFirst", "()V"⟩, 6), (⟨"OpensLikeThat$Law", "readText", "()Z"⟩, 10), (⟨"OpensLikeThat$Law", "readLine", "()Z"⟩, 10), (⟨"OpensLikeThat$Law", "readLevel", "(II)Z"⟩, 10), (⟨"OpensLikeThat$Law", "readOperand", "(I)Z"⟩, 10), (⟨"OpensLikeThat$Law", "ahead", "()I"⟩, 10), (⟨"OpensLikeThat$Law", "readNumber", "()V"⟩, 10), (⟨"OpensLikeThat$Law", "write", "(I)V"⟩, 10), (⟨"OpensLikeThat", "isOneOrNobody", "(I)Z"⟩, 11), (⟨"OpensLikeThat$Web", "secondsIf", "(IIII)I"⟩, 13)]
theorem lw_r1 : ∀ q ∈ lw_privs_1, lw_okq q := List.forall_mem_cons.mpr ⟨lw_p0, List.forall_mem_cons.mpr ⟨lw_p1, List.forall_mem_cons.mpr ⟨lw_p2, List.forall_mem_cons.mpr ⟨lw_p3, List.forall_mem_cons.mpr ⟨lw_p4, List.forall_mem_cons.mpr ⟨lw_p5, List.forall_mem_cons.mpr ⟨lw_p6, List.forall_mem_cons.mpr ⟨lw_p7, List.forall_mem_cons.mpr ⟨lw_p8, List.forall_mem_cons.mpr ⟨lw_p9, List.forall_mem_cons.mpr ⟨lw_p10, List.forall_mem_cons.mpr ⟨lw_p11, List.forall_mem_cons.mpr ⟨lw_p12, List.forall_mem_cons.mpr ⟨lw_p13, List.forall_mem_cons.mpr ⟨lw_p14, List.forall_mem_cons.mpr ⟨lw_p15, fun _ h => absurd h List.not_mem_nil⟩⟩⟩⟩⟩⟩⟩⟩⟩⟩⟩⟩⟩⟩⟩⟩
theorem lw_p16 : lw_okq (⟨"OpensLikeThat$Law", "workedOut", "()I"⟩, 10) := ⟨⟨by decide +kernel, by decide +kernel⟩, List.mem_of_getElem? (i := 26) (by decide +kernel), List.mem_of_getElem? (i := 601) (by decide +kernel), List.mem_of_getElem? (i := 602) (by decide +kernel)⟩
theorem lw_p17 : lw_okq (⟨"OpensLikeThat$Law", "pop", "()I"⟩, 10) := ⟨⟨by decide +kernel, by decide +kernel⟩, List.mem_of_getElem? (i := 26) (by decide +kernel), List.mem_of_getElem? (i := 605) (by decide +kernel), List.mem_of_getElem? (i := 606) (by decide +kernel)⟩
theorem lw_p18 : lw_okq (⟨"OpensLikeThat$Law", "step", "(I)V"⟩, 10) := ⟨⟨by decide +kernel, by decide +kernel⟩, List.mem_of_getElem? (i := 26) (by decide +kernel), List.mem_of_getElem? (i := 609) (by decide +kernel), List.mem_of_getElem? (i := 610) (by decide +kernel)⟩
theorem lw_p19 : lw_okq (⟨"OpensLikeThat$Law", "push", "(I)V"⟩, 10) := ⟨⟨by decide +kernel, by decide +kernel⟩, List.mem_of_getElem? (i := 26) (by decide +kernel), List.mem_of_getElem? (i := 613) (by decide +kernel), List.mem_of_getElem? (i := 614) (by decide +kernel)⟩
theorem lw_p20 : lw_okq (⟨"OpensLikeThat", "isPs", "(I)Z"⟩, 11) := ⟨⟨by decide +kernel, by decide +kernel⟩, List.mem_of_getElem? (i := 18) (by decide +kernel), List.mem_of_getElem? (i := 627) (by decide +kernel), List.mem_of_getElem? (i := 628) (by decide +kernel)⟩
theorem lw_p21 : lw_okq (⟨"OpensLikeThat", "refusesOne", "(II)I"⟩, 11) := ⟨⟨by decide +kernel, by decide +kernel⟩, List.mem_of_getElem? (i := 18) (by decide +kernel), List.mem_of_getElem? (i := 738) (by decide +kernel), List.mem_of_getElem? (i := 739) (by decide +kernel)⟩
theorem lw_p22 : lw_okq (⟨"OpensLikeThat$Lessons", "isSoon", "(III)Z"⟩, 5) := ⟨⟨by decide +kernel, by decide +kernel⟩, List.mem_of_getElem? (i := 290) (by decide +kernel), List.mem_of_getElem? (i := 771) (by decide +kernel), List.mem_of_getElem? (i := 772) (by decide +kernel)⟩
theorem lw_p23 : lw_okq (⟨"OpensLikeThat$Attendant", "chairsOn", "(I)I"⟩, 5) := ⟨⟨by decide +kernel, by decide +kernel⟩, List.mem_of_getElem? (i := 312) (by decide +kernel), List.mem_of_getElem? (i := 788) (by decide +kernel), List.mem_of_getElem? (i := 789) (by decide +kernel)⟩
theorem lw_p24 : lw_okq (⟨"OpensLikeThat", "refusesFound", "(II)I"⟩, 11) := ⟨⟨by decide +kernel, by decide +kernel⟩, List.mem_of_getElem? (i := 18) (by decide +kernel), List.mem_of_getElem? (i := 845) (by decide +kernel), List.mem_of_getElem? (i := 846) (by decide +kernel)⟩
theorem lw_p25 : lw_okq (⟨"OpensLikeThat", "canMakeAll", "(III)Z"⟩, 11) := ⟨⟨by decide +kernel, by decide +kernel⟩, List.mem_of_getElem? (i := 18) (by decide +kernel), List.mem_of_getElem? (i := 864) (by decide +kernel), List.mem_of_getElem? (i := 865) (by decide +kernel)⟩
theorem lw_p26 : lw_okq (⟨"OpensLikeThat$Found", "drawnFrom", "(II)I"⟩, 5) := ⟨⟨by decide +kernel, by decide +kernel⟩, List.mem_of_getElem? (i := 334) (by decide +kernel), List.mem_of_getElem? (i := 882) (by decide +kernel), List.mem_of_getElem? (i := 883) (by decide +kernel)⟩
theorem lw_p27 : lw_okq (⟨"OpensLikeThat$Bodies", "run", "(IIII)I"⟩, 5) := ⟨⟨by decide +kernel, by decide +kernel⟩, List.mem_of_getElem? (i := 158) (by decide +kernel), List.mem_of_getElem? (i := 967) (by decide +kernel), List.mem_of_getElem? (i := 968) (by decide +kernel)⟩
theorem lw_p28 : lw_okq (⟨"OpensLikeThat$Bodies", "runBody", "(IIII)I"⟩, 5) := ⟨⟨by decide +kernel, by decide +kernel⟩, List.mem_of_getElem? (i := 158) (by decide +kernel), List.mem_of_getElem? (i := 976) (by decide +kernel), List.mem_of_getElem? (i := 977) (by decide +kernel)⟩
theorem lw_p29 : lw_okq (⟨"OpensLikeThat$Shelves", "isSpan", "(III)Z"⟩, 3) := ⟨⟨by decide +kernel, by decide +kernel⟩, List.mem_of_getElem? (i := 134) (by decide +kernel), List.mem_of_getElem? (i := 1030) (by decide +kernel), List.mem_of_getElem? (i := 1031) (by decide +kernel)⟩
theorem lw_p30 : lw_okq (⟨"OpensLikeThatModel", "newMove", "(IIIII)I"⟩, 53) := ⟨⟨by decide +kernel, by decide +kernel⟩, List.mem_of_getElem? (i := 1048) (by decide +kernel), List.mem_of_getElem? (i := 1224) (by decide +kernel), List.mem_of_getElem? (i := 1225) (by decide +kernel)⟩
theorem lw_p31 : lw_okq (⟨"OpensLikeThatModel", "isOf", "(II)Z"⟩, 53) := ⟨⟨by decide +kernel, by decide +kernel⟩, List.mem_of_getElem? (i := 1048) (by decide +kernel), List.mem_of_getElem? (i := 1244) (by decide +kernel), List.mem_of_getElem? (i := 1245) (by decide +kernel)⟩
def lw_privs_2 : List (MethodName × Nat) := [(⟨"OpensLikeThat$Law", "workedOut", "()I"⟩, 10), (⟨"OpensLikeThat$Law", "pop", "()I"⟩, 10), (⟨"OpensLikeThat$Law", "step", "(I)V"⟩, 10), (⟨"OpensLikeThat$Law", "push", "(I)V"⟩, 10), (⟨"OpensLikeThat", "isPs", "(I)Z"⟩, 11), (⟨"OpensLikeThat", "refusesOne", "(II)I"⟩, 11), (⟨"OpensLikeThat$Lessons", "isSoon", "(III)Z"⟩, 5), (⟨"OpensLikeThat$Attendant", "chairsOn", "(I)I"⟩, 5), (⟨"OpensLikeThat", "refusesFound", "(II)I"⟩, 11), (⟨"OpensLikeThat", "canMakeAll", "(III)Z"⟩, 11), (⟨"OpensLikeThat$Found", "drawnFrom", "(II)I"⟩, 5), (⟨"OpensLikeThat$Bodies", "run", "(IIII)I"⟩, 5), (⟨"OpensLikeThat$Bodies", "runBody", "(IIII)I"⟩, 5), (⟨"OpensLikeThat$Shelves", "isSpan", "(III)Z"⟩, 3), (⟨"OpensLikeThatModel", "newMove", "(IIIII)I"⟩, 53), (⟨"OpensLikeThatModel", "isOf", "(II)Z"⟩, 53)]
theorem lw_r2 : ∀ q ∈ lw_privs_2, lw_okq q := List.forall_mem_cons.mpr ⟨lw_p16, List.forall_mem_cons.mpr ⟨lw_p17, List.forall_mem_cons.mpr ⟨lw_p18, List.forall_mem_cons.mpr ⟨lw_p19, List.forall_mem_cons.mpr ⟨lw_p20, List.forall_mem_cons.mpr ⟨lw_p21, List.forall_mem_cons.mpr ⟨lw_p22, List.forall_mem_cons.mpr ⟨lw_p23, List.forall_mem_cons.mpr ⟨lw_p24, List.forall_mem_cons.mpr ⟨lw_p25, List.forall_mem_cons.mpr ⟨lw_p26, List.forall_mem_cons.mpr ⟨lw_p27, List.forall_mem_cons.mpr ⟨lw_p28, List.forall_mem_cons.mpr ⟨lw_p29, List.forall_mem_cons.mpr ⟨lw_p30, List.forall_mem_cons.mpr ⟨lw_p31, fun _ h => absurd h List.not_mem_nil⟩⟩⟩⟩⟩⟩⟩⟩⟩⟩⟩⟩⟩⟩⟩⟩
theorem lw_p32 : lw_okq (⟨"OpensLikeThatModel", "isMove", "(I)Z"⟩, 53) := ⟨⟨by decide +kernel, by decide +kernel⟩, List.mem_of_getElem? (i := 1048) (by decide +kernel), List.mem_of_getElem? (i := 1248) (by decide +kernel), List.mem_of_getElem? (i := 1249) (by decide +kernel)⟩
theorem lw_p33 : lw_okq (⟨"OpensLikeThatModel", "isOne", "(I)Z"⟩, 53) := ⟨⟨by decide +kernel, by decide +kernel⟩, List.mem_of_getElem? (i := 1048) (by decide +kernel), List.mem_of_getElem? (i := 1252) (by decide +kernel), List.mem_of_getElem? (i := 1253) (by decide +kernel)⟩
theorem lw_p34 : lw_okq (⟨"OpensLikeThatModel", "isFit", "(III)Z"⟩, 53) := ⟨⟨by decide +kernel, by decide +kernel⟩, List.mem_of_getElem? (i := 1048) (by decide +kernel), List.mem_of_getElem? (i := 1256) (by decide +kernel), List.mem_of_getElem? (i := 1257) (by decide +kernel)⟩
theorem lw_p35 : lw_okq (⟨"OpensLikeThatModel", "get", "(II)I"⟩, 53) := ⟨⟨by decide +kernel, by decide +kernel⟩, List.mem_of_getElem? (i := 1048) (by decide +kernel), List.mem_of_getElem? (i := 1260) (by decide +kernel), List.mem_of_getElem? (i := 1261) (by decide +kernel)⟩
theorem lw_p36 : lw_okq (⟨"OpensLikeThatModel", "becomes", "(III)V"⟩, 53) := ⟨⟨by decide +kernel, by decide +kernel⟩, List.mem_of_getElem? (i := 1048) (by decide +kernel), List.mem_of_getElem? (i := 1264) (by decide +kernel), List.mem_of_getElem? (i := 1265) (by decide +kernel)⟩
theorem lw_p37 : lw_okq (⟨"OpensLikeThatModel", "isLine", "()Z"⟩, 53) := ⟨⟨by decide +kernel, by decide +kernel⟩, List.mem_of_getElem? (i := 1048) (by decide +kernel), List.mem_of_getElem? (i := 1288) (by decide +kernel), List.mem_of_getElem? (i := 1289) (by decide +kernel)⟩
theorem lw_p38 : lw_okq (⟨"OpensLikeThatModel", "isE", "()Z"⟩, 53) := ⟨⟨by decide +kernel, by decide +kernel⟩, List.mem_of_getElem? (i := 1048) (by decide +kernel), List.mem_of_getElem? (i := 1292) (by decide +kernel), List.mem_of_getElem? (i := 1293) (by decide +kernel)⟩
theorem lw_p39 : lw_okq (⟨"OpensLikeThatModel", "isA", "()Z"⟩, 53) := ⟨⟨by decide +kernel, by decide +kernel⟩, List.mem_of_getElem? (i := 1048) (by decide +kernel), List.mem_of_getElem? (i := 1296) (by decide +kernel), List.mem_of_getElem? (i := 1297) (by decide +kernel)⟩
theorem lw_p40 : lw_okq (⟨"OpensLikeThatModel", "isB", "()Z"⟩, 53) := ⟨⟨by decide +kernel, by decide +kernel⟩, List.mem_of_getElem? (i := 1048) (by decide +kernel), List.mem_of_getElem? (i := 1300) (by decide +kernel), List.mem_of_getElem? (i := 1301) (by decide +kernel)⟩
theorem lw_p41 : lw_okq (⟨"OpensLikeThatModel", "isS", "()Z"⟩, 53) := ⟨⟨by decide +kernel, by decide +kernel⟩, List.mem_of_getElem? (i := 1048) (by decide +kernel), List.mem_of_getElem? (i := 1304) (by decide +kernel), List.mem_of_getElem? (i := 1305) (by decide +kernel)⟩
theorem lw_p42 : lw_okq (⟨"OpensLikeThatModel", "isP", "()Z"⟩, 53) := ⟨⟨by decide +kernel, by decide +kernel⟩, List.mem_of_getElem? (i := 1048) (by decide +kernel), List.mem_of_getElem? (i := 1308) (by decide +kernel), List.mem_of_getElem? (i := 1309) (by decide +kernel)⟩
theorem lw_p43 : lw_okq (⟨"OpensLikeThatModel", "isO", "()Z"⟩, 53) := ⟨⟨by decide +kernel, by decide +kernel⟩, List.mem_of_getElem? (i := 1048) (by decide +kernel), List.mem_of_getElem? (i := 1312) (by decide +kernel), List.mem_of_getElem? (i := 1313) (by decide +kernel)⟩
theorem lw_p44 : lw_okq (⟨"OpensLikeThatModel", "isDigit", "()Z"⟩, 53) := ⟨⟨by decide +kernel, by decide +kernel⟩, List.mem_of_getElem? (i := 1048) (by decide +kernel), List.mem_of_getElem? (i := 1316) (by decide +kernel), List.mem_of_getElem? (i := 1317) (by decide +kernel)⟩
theorem lw_p45 : lw_okq (⟨"OpensLikeThatModel", "sign", "()I"⟩, 53) := ⟨⟨by decide +kernel, by decide +kernel⟩, List.mem_of_getElem? (i := 1048) (by decide +kernel), List.mem_of_getElem? (i := 1320) (by decide +kernel), List.mem_of_getElem? (i := 1321) (by decide +kernel)⟩
theorem lw_p46 : lw_okq (⟨"OpensLikeThatModel", "codes", "(I)Z"⟩, 53) := ⟨⟨by decide +kernel, by decide +kernel⟩, List.mem_of_getElem? (i := 1048) (by decide +kernel), List.mem_of_getElem? (i := 1324) (by decide +kernel), List.mem_of_getElem? (i := 1325) (by decide +kernel)⟩
theorem lw_p47 : lw_okq (⟨"OpensLikeThatModel", "is", "(I)Z"⟩, 53) := ⟨⟨by decide +kernel, by decide +kernel⟩, List.mem_of_getElem? (i := 1048) (by decide +kernel), List.mem_of_getElem? (i := 1331) (by decide +kernel), List.mem_of_getElem? (i := 1332) (by decide +kernel)⟩
def lw_privs_3 : List (MethodName × Nat) := [(⟨"OpensLikeThatModel", "isMove", "(I)Z"⟩, 53), (⟨"OpensLikeThatModel", "isOne", "(I)Z"⟩, 53), (⟨"OpensLikeThatModel", "isFit", "(III)Z"⟩, 53), (⟨"OpensLikeThatModel", "get", "(II)I"⟩, 53), (⟨"OpensLikeThatModel", "becomes", "(III)V"⟩, 53), (⟨"OpensLikeThatModel", "isLine", "()Z"⟩, 53), (⟨"OpensLikeThatModel", "isE", "()Z"⟩, 53), (⟨"OpensLikeThatModel", "isA", "()Z"⟩, 53), (⟨"OpensLikeThatModel", "isB", "()Z"⟩, 53), (⟨"OpensLikeThatModel", "isS", "()Z"⟩, 53), (⟨"OpensLikeThatModel", "isP", "()Z"⟩, 53), (⟨"OpensLikeThatModel", "isO", "()Z"⟩, 53), (⟨"OpensLikeThatModel", "isDigit", "()Z"⟩, 53), (⟨"OpensLikeThatModel", "sign", "()I"⟩, 53), (⟨"OpensLikeThatModel", "codes", "(I)Z"⟩, 53), (⟨"OpensLikeThatModel", "is", "(I)Z"⟩, 53)]
theorem lw_r3 : ∀ q ∈ lw_privs_3, lw_okq q := List.forall_mem_cons.mpr ⟨lw_p32, List.forall_mem_cons.mpr ⟨lw_p33, List.forall_mem_cons.mpr ⟨lw_p34, List.forall_mem_cons.mpr ⟨lw_p35, List.forall_mem_cons.mpr ⟨lw_p36, List.forall_mem_cons.mpr ⟨lw_p37, List.forall_mem_cons.mpr ⟨lw_p38, List.forall_mem_cons.mpr ⟨lw_p39, List.forall_mem_cons.mpr ⟨lw_p40, List.forall_mem_cons.mpr ⟨lw_p41, List.forall_mem_cons.mpr ⟨lw_p42, List.forall_mem_cons.mpr ⟨lw_p43, List.forall_mem_cons.mpr ⟨lw_p44, List.forall_mem_cons.mpr ⟨lw_p45, List.forall_mem_cons.mpr ⟨lw_p46, List.forall_mem_cons.mpr ⟨lw_p47, fun _ h => absurd h List.not_mem_nil⟩⟩⟩⟩⟩⟩⟩⟩⟩⟩⟩⟩⟩⟩⟩⟩
theorem lw_p48 : lw_okq (⟨"OpensLikeThatModel", "may", "(II)Z"⟩, 53) := ⟨⟨by decide +kernel, by decide +kernel⟩, List.mem_of_getElem? (i := 1048) (by decide +kernel), List.mem_of_getElem? (i := 1342) (by decide +kernel), List.mem_of_getElem? (i := 1343) (by decide +kernel)⟩
theorem lw_p49 : lw_okq (⟨"OpensLikeThatModel", "leadsTo", "(II)I"⟩, 53) := ⟨⟨by decide +kernel, by decide +kernel⟩, List.mem_of_getElem? (i := 1048) (by decide +kernel), List.mem_of_getElem? (i := 1349) (by decide +kernel), List.mem_of_getElem? (i := 1350) (by decide +kernel)⟩
theorem lw_p50 : lw_okq (⟨"OpensLikeThatModel", "isAny", "(I)Z"⟩, 53) := ⟨⟨by decide +kernel, by decide +kernel⟩, List.mem_of_getElem? (i := 1048) (by decide +kernel), List.mem_of_getElem? (i := 1357) (by decide +kernel), List.mem_of_getElem? (i := 1358) (by decide +kernel)⟩
theorem lw_p51 : lw_okq (⟨"OpensLikeThatModel", "secondsOf", "(III)I"⟩, 53) := ⟨⟨by decide +kernel, by decide +kernel⟩, List.mem_of_getElem? (i := 1048) (by decide +kernel), List.mem_of_getElem? (i := 1361) (by decide +kernel), List.mem_of_getElem? (i := 1362) (by decide +kernel)⟩
theorem lw_p52 : lw_okq (⟨"OpensLikeThatModel", "worked", "(IIIII)I"⟩, 53) := ⟨⟨by decide +kernel, by decide +kernel⟩, List.mem_of_getElem? (i := 1048) (by decide +kernel), List.mem_of_getElem? (i := 1366) (by decide +kernel), List.mem_of_getElem? (i := 1367) (by decide +kernel)⟩
theorem lw_p53 : lw_okq (⟨"OpensLikeThatModel", "isFrom", "(I)Z"⟩, 53) := ⟨⟨by decide +kernel, by decide +kernel⟩, List.mem_of_getElem? (i := 1048) (by decide +kernel), List.mem_of_getElem? (i := 1378) (by decide +kernel), List.mem_of_getElem? (i := 1379) (by decide +kernel)⟩
theorem lw_p54 : lw_okq (⟨"OpensLikeThatModel", "goes", "(III)V"⟩, 53) := ⟨⟨by decide +kernel, by decide +kernel⟩, List.mem_of_getElem? (i := 1048) (by decide +kernel), List.mem_of_getElem? (i := 1382) (by decide +kernel), List.mem_of_getElem? (i := 1383) (by decide +kernel)⟩
theorem lw_p55 : lw_okq (⟨"OpensLikeThatModel", "goes", "(IIIIZ)V"⟩, 53) := ⟨⟨by decide +kernel, by decide +kernel⟩, List.mem_of_getElem? (i := 1048) (by decide +kernel), List.mem_of_getElem? (i := 1386) (by decide +kernel), List.mem_of_getElem? (i := 1387) (by decide +kernel)⟩
theorem lw_p56 : lw_okq (⟨"OpensLikeThatModel", "steps", "(II)V"⟩, 53) := ⟨⟨by decide +kernel, by decide +kernel⟩, List.mem_of_getElem? (i := 1048) (by decide +kernel), List.mem_of_getElem? (i := 1390) (by decide +kernel), List.mem_of_getElem? (i := 1391) (by decide +kernel)⟩
theorem lw_p57 : lw_okq (⟨"OpensLikeThatModel", "step", "(IIII)I"⟩, 53) := ⟨⟨by decide +kernel, by decide +kernel⟩, List.mem_of_getElem? (i := 1048) (by decide +kernel), List.mem_of_getElem? (i := 1394) (by decide +kernel), List.mem_of_getElem? (i := 1395) (by decide +kernel)⟩
theorem lw_p58 : lw_okq (⟨"OpensLikeThatModel", "least", "(I)I"⟩, 53) := ⟨⟨by decide +kernel, by decide +kernel⟩, List.mem_of_getElem? (i := 1048) (by decide +kernel), List.mem_of_getElem? (i := 1401) (by decide +kernel), List.mem_of_getElem? (i := 1402) (by decide +kernel)⟩
theorem lw_p59 : lw_okq (⟨"OpensLikeThatModel", "reached", "()I"⟩, 53) := ⟨⟨by decide +kernel, by decide +kernel⟩, List.mem_of_getElem? (i := 1048) (by decide +kernel), List.mem_of_getElem? (i := 1419) (by decide +kernel), List.mem_of_getElem? (i := 1420) (by decide +kernel)⟩
theorem lw_p60 : lw_okq (⟨"OpensLikeThatModel", "chairsFrom", "(II)V"⟩, 53) := ⟨⟨by decide +kernel, by decide +kernel⟩, List.mem_of_getElem? (i := 1048) (by decide +kernel), List.mem_of_getElem? (i := 1427) (by decide +kernel), List.mem_of_getElem? (i := 1428) (by decide +kernel)⟩
theorem lw_p61 : lw_okq (⟨"OpensLikeThatModel", "noRow", "(I)I"⟩, 53) := ⟨⟨by decide +kernel, by decide +kernel⟩, List.mem_of_getElem? (i := 1048) (by decide +kernel), List.mem_of_getElem? (i := 1451) (by decide +kernel), List.mem_of_getElem? (i := 1452) (by decide +kernel)⟩
theorem lw_p62 : lw_okq (⟨"OpensLikeThatModel", "told", "(II)I"⟩, 53) := ⟨⟨by decide +kernel, by decide +kernel⟩, List.mem_of_getElem? (i := 1048) (by decide +kernel), List.mem_of_getElem? (i := 1455) (by decide +kernel), List.mem_of_getElem? (i := 1456) (by decide +kernel)⟩
theorem lw_p63 : lw_okq (⟨"OpensLikeThatModel", "reads", "(II)V"⟩, 53) := ⟨⟨by decide +kernel, by decide +kernel⟩, List.mem_of_getElem? (i := 1048) (by decide +kernel), List.mem_of_getElem? (i := 1468) (by decide +kernel), List.mem_of_getElem? (i := 1469) (by decide +kernel)⟩
def lw_privs_4 : List (MethodName × Nat) := [(⟨"OpensLikeThatModel", "may", "(II)Z"⟩, 53), (⟨"OpensLikeThatModel", "leadsTo", "(II)I"⟩, 53), (⟨"OpensLikeThatModel", "isAny", "(I)Z"⟩, 53), (⟨"OpensLikeThatModel", "secondsOf", "(III)I"⟩, 53), (⟨"OpensLikeThatModel", "worked", "(IIIII)I"⟩, 53), (⟨"OpensLikeThatModel", "isFrom", "(I)Z"⟩, 53), (⟨"OpensLikeThatModel", "goes", "(III)V"⟩, 53), (⟨"OpensLikeThatModel", "goes", "(IIIIZ)V"⟩, 53), (⟨"OpensLikeThatModel", "steps", "(II)V"⟩, 53), (⟨"OpensLikeThatModel", "step", "(IIII)I"⟩, 53), (⟨"OpensLikeThatModel", "least", "(I)I"⟩, 53), (⟨"OpensLikeThatModel", "reached", "()I"⟩, 53), (⟨"OpensLikeThatModel", "chairsFrom", "(II)V"⟩, 53), (⟨"OpensLikeThatModel", "noRow", "(I)I"⟩, 53), (⟨"OpensLikeThatModel", "told", "(II)I"⟩, 53), (⟨"OpensLikeThatModel", "reads", "(II)V"⟩, 53)]
theorem lw_r4 : ∀ q ∈ lw_privs_4, lw_okq q := List.forall_mem_cons.mpr ⟨lw_p48, List.forall_mem_cons.mpr ⟨lw_p49, List.forall_mem_cons.mpr ⟨lw_p50, List.forall_mem_cons.mpr ⟨lw_p51, List.forall_mem_cons.mpr ⟨lw_p52, List.forall_mem_cons.mpr ⟨lw_p53, List.forall_mem_cons.mpr ⟨lw_p54, List.forall_mem_cons.mpr ⟨lw_p55, List.forall_mem_cons.mpr ⟨lw_p56, List.forall_mem_cons.mpr ⟨lw_p57, List.forall_mem_cons.mpr ⟨lw_p58, List.forall_mem_cons.mpr ⟨lw_p59, List.forall_mem_cons.mpr ⟨lw_p60, List.forall_mem_cons.mpr ⟨lw_p61, List.forall_mem_cons.mpr ⟨lw_p62, List.forall_mem_cons.mpr ⟨lw_p63, fun _ h => absurd h List.not_mem_nil⟩⟩⟩⟩⟩⟩⟩⟩⟩⟩⟩⟩⟩⟩⟩⟩
theorem lw_p64 : lw_okq (⟨"OpensLikeThatModel", "secondsTo", "(II)I"⟩, 53) := ⟨⟨by decide +kernel, by decide +kernel⟩, List.mem_of_getElem? (i := 1048) (by decide +kernel), List.mem_of_getElem? (i := 1472) (by decide +kernel), List.mem_of_getElem? (i := 1473) (by decide +kernel)⟩
theorem lw_p65 : lw_okq (⟨"OpensLikeThatModel", "wrong", "(II)I"⟩, 53) := ⟨⟨by decide +kernel, by decide +kernel⟩, List.mem_of_getElem? (i := 1048) (by decide +kernel), List.mem_of_getElem? (i := 1492) (by decide +kernel), List.mem_of_getElem? (i := 1493) (by decide +kernel)⟩
theorem lw_p66 : lw_okq (⟨"OpensLikeThatModel", "mayBe", "(II)I"⟩, 53) := ⟨⟨by decide +kernel, by decide +kernel⟩, List.mem_of_getElem? (i := 1048) (by decide +kernel), List.mem_of_getElem? (i := 1513) (by decide +kernel), List.mem_of_getElem? (i := 1514) (by decide +kernel)⟩
theorem lw_p67 : lw_okq (⟨"OpensLikeThatModel", "lies", "(III)I"⟩, 53) := ⟨⟨by decide +kernel, by decide +kernel⟩, List.mem_of_getElem? (i := 1048) (by decide +kernel), List.mem_of_getElem? (i := 1545) (by decide +kernel), List.mem_of_getElem? (i := 1546) (by decide +kernel)⟩
theorem lw_p68 : lw_okq (⟨"OpensLikeThatModel", "ran", "(I)V"⟩, 53) := ⟨⟨by decide +kernel, by decide +kernel⟩, List.mem_of_getElem? (i := 1048) (by decide +kernel), List.mem_of_getElem? (i := 1549) (by decide +kernel), List.mem_of_getElem? (i := 1550) (by decide +kernel)⟩
theorem lw_p69 : lw_okq (⟨"OpensLikeThatModel", "folds", "(III)I"⟩, 53) := ⟨⟨by decide +kernel, by decide +kernel⟩, List.mem_of_getElem? (i := 1048) (by decide +kernel), List.mem_of_getElem? (i := 1556) (by decide +kernel), List.mem_of_getElem? (i := 1557) (by decide +kernel)⟩
theorem lw_p70 : lw_okq (⟨"OpensLikeThatModel", "turns", "(III)I"⟩, 53) := ⟨⟨by decide +kernel, by decide +kernel⟩, List.mem_of_getElem? (i := 1048) (by decide +kernel), List.mem_of_getElem? (i := 1560) (by decide +kernel), List.mem_of_getElem? (i := 1561) (by decide +kernel)⟩
theorem lw_p71 : lw_okq (⟨"OpensLikeThatModel", "tells", "(III)I"⟩, 53) := ⟨⟨by decide +kernel, by decide +kernel⟩, List.mem_of_getElem? (i := 1048) (by decide +kernel), List.mem_of_getElem? (i := 1564) (by decide +kernel), List.mem_of_getElem? (i := 1565) (by decide +kernel)⟩
theorem lw_p72 : lw_okq (⟨"OpensLikeThatModel", "isRow", "(I)Z"⟩, 53) := ⟨⟨by decide +kernel, by decide +kernel⟩, List.mem_of_getElem? (i := 1048) (by decide +kernel), List.mem_of_getElem? (i := 1584) (by decide +kernel), List.mem_of_getElem? (i := 1585) (by decide +kernel)⟩
def lw_privs_5 : List (MethodName × Nat) := [(⟨"OpensLikeThatModel", "secondsTo", "(II)I"⟩, 53), (⟨"OpensLikeThatModel", "wrong", "(II)I"⟩, 53), (⟨"OpensLikeThatModel", "mayBe", "(II)I"⟩, 53), (⟨"OpensLikeThatModel", "lies", "(III)I"⟩, 53), (⟨"OpensLikeThatModel", "ran", "(I)V"⟩, 53), (⟨"OpensLikeThatModel", "folds", "(III)I"⟩, 53), (⟨"OpensLikeThatModel", "turns", "(III)I"⟩, 53), (⟨"OpensLikeThatModel", "tells", "(III)I"⟩, 53), (⟨"OpensLikeThatModel", "isRow", "(I)Z"⟩, 53)]
theorem lw_r5 : ∀ q ∈ lw_privs_5, lw_okq q := List.forall_mem_cons.mpr ⟨lw_p64, List.forall_mem_cons.mpr ⟨lw_p65, List.forall_mem_cons.mpr ⟨lw_p66, List.forall_mem_cons.mpr ⟨lw_p67, List.forall_mem_cons.mpr ⟨lw_p68, List.forall_mem_cons.mpr ⟨lw_p69, List.forall_mem_cons.mpr ⟨lw_p70, List.forall_mem_cons.mpr ⟨lw_p71, List.forall_mem_cons.mpr ⟨lw_p72, fun _ h => absurd h List.not_mem_nil⟩⟩⟩⟩⟩⟩⟩⟩⟩
def lw_privs : List (MethodName × Nat) := lw_privs_1 ++ (lw_privs_2 ++ (lw_privs_3 ++ (lw_privs_4 ++ (lw_privs_5))))
def lw_tbl : List Cond := k2_sels lw_privs ++ tables_1
theorem lw_privs_ok : ∀ q ∈ lw_privs, lw_okq q := by
  show ∀ q ∈ lw_privs_1 ++ (lw_privs_2 ++ (lw_privs_3 ++ (lw_privs_4 ++ (lw_privs_5)))), lw_okq q
  exact List.forall_mem_append.mpr ⟨lw_r1, List.forall_mem_append.mpr ⟨lw_r2, List.forall_mem_append.mpr ⟨lw_r3, List.forall_mem_append.mpr ⟨lw_r4, lw_r5⟩⟩⟩⟩
-- names: out of the program's print
def RX0 : String := "OpensLikeThat$Attendant"
def TX0 : u_T := fun k => match k with
  | 0 => ("OpensLikeThat$Attendant", "web", "LOpensLikeThat$Web;", true)
  | 1 => ("OpensLikeThat$Attendant", "shelves", "LOpensLikeThat$Shelves;", true)
  | 2 => ("OpensLikeThat$Attendant", "times", "[I", true)
  | 3 => ("OpensLikeThat$Attendant", "othersTimes", "[I", true)
  | _ => ("OpensLikeThat$Attendant", "chairs", "I", false)
def tyX0 : Nat → FieldType := fun k => match k with
  | 0 => .object "OpensLikeThat$Web"
  | 1 => .object "OpensLikeThat$Shelves"
  | 2 => .array .int
  | 3 => .array .int
  | _ => .int
abbrev wsX00 : List Cond := u_ws RX0 TX0 5
theorem nmX0 : ∀ a, a < 5 → ∀ b, b < 5 → a ≠ b → (TX0 a).2.1 ≠ (TX0 b).2.1 := by decide +kernel
theorem tyX0_ok : ∀ k, k < 5 → parseFieldDescriptor (TX0 k).2.2.1 = some (tyX0 k) := by decide +kernel
abbrev cX0_init : ByteArray := prog_2_method_1_code
def yX0_init : MethodName := ⟨RX0, "<init>", "(LOpensLikeThat$Web;LOpensLikeThat$Shelves;)V"⟩
abbrev cX0_look : ByteArray := prog_2_method_2_code
def yX0_look : MethodName := ⟨RX0, "look", "(I)V"⟩
abbrev cX0_chairsOn : ByteArray := prog_2_method_3_code
def yX0_chairsOn : MethodName := ⟨RX0, "chairsOn", "(I)I"⟩
abbrev cX0_rememberAsOther : ByteArray := prog_2_method_4_code
def yX0_rememberAsOther : MethodName := ⟨RX0, "rememberAsOther", "()V"⟩
abbrev cX0_left : ByteArray := prog_2_method_5_code
def yX0_left : MethodName := ⟨RX0, "left", "()I"⟩
abbrev cX0_total : ByteArray := prog_2_method_6_code
def yX0_total : MethodName := ⟨RX0, "total", "()I"⟩
abbrev cX0_openBy : ByteArray := prog_2_method_7_code
def yX0_openBy : MethodName := ⟨RX0, "openBy", "(I)I"⟩
abbrev cX0_shortestFirst : ByteArray := prog_2_method_8_code
def yX0_shortestFirst : MethodName := ⟨RX0, "shortestFirst", "()V"⟩
abbrev cX0_firstLate : ByteArray := prog_2_method_9_code
def yX0_firstLate : MethodName := ⟨RX0, "firstLate", "(I)I"⟩
abbrev cX0_totalOfTwo : ByteArray := prog_2_method_10_code
def yX0_totalOfTwo : MethodName := ⟨RX0, "totalOfTwo", "()I"⟩
def RX1 : String := "OpensLikeThat$Bodies"
def TX1 : u_T := fun k => match k with
  | 0 => ("OpensLikeThat$Bodies", "kinds", "[I", true)
  | 1 => ("OpensLikeThat$Bodies", "traced", "[I", true)
  | 2 => ("OpensLikeThat$Bodies", "actor", "I", false)
  | 3 => ("OpensLikeThat$Bodies", "size", "I", false)
  | _ => ("OpensLikeThat$Bodies", "ran", "I", false)
def tyX1 : Nat → FieldType := fun k => match k with
  | 0 => .array .int
  | 1 => .array .int
  | 2 => .int
  | 3 => .int
  | _ => .int
abbrev wsX10 : List Cond := u_ws RX1 TX1 5
theorem nmX1 : ∀ a, a < 5 → ∀ b, b < 5 → a ≠ b → (TX1 a).2.1 ≠ (TX1 b).2.1 := by decide +kernel
theorem tyX1_ok : ∀ k, k < 5 → parseFieldDescriptor (TX1 k).2.2.1 = some (tyX1 k) := by decide +kernel
abbrev cX1_init : ByteArray := prog_3_method_1_code
def yX1_init : MethodName := ⟨RX1, "<init>", "()V"⟩
abbrev cX1_isKind : ByteArray := prog_3_method_2_code
def yX1_isKind : MethodName := ⟨RX1, "isKind", "(I)Z"⟩
abbrev cX1_isUnder : ByteArray := prog_3_method_3_code
def yX1_isUnder : MethodName := ⟨RX1, "isUnder", "(II)Z"⟩
abbrev cX1_has : ByteArray := prog_3_method_4_code
def yX1_has : MethodName := ⟨RX1, "has", "(I)Z"⟩
abbrev cX1_kindOf : ByteArray := prog_3_method_5_code
def yX1_kindOf : MethodName := ⟨RX1, "kindOf", "(I)I"⟩
abbrev cX1_join : ByteArray := prog_3_method_6_code
def yX1_join : MethodName := ⟨RX1, "join", "(I)I"⟩
abbrev cX1_tracedAt : ByteArray := prog_3_method_7_code
def yX1_tracedAt : MethodName := ⟨RX1, "tracedAt", "(I)I"⟩
abbrev cX1_perform : ByteArray := prog_3_method_8_code
def yX1_perform : MethodName := ⟨RX1, "perform", "(III)I"⟩
abbrev cX1_run : ByteArray := prog_3_method_9_code
def yX1_run : MethodName := ⟨RX1, "run", "(IIII)I"⟩
abbrev cX1_runBody : ByteArray := prog_3_method_10_code
def yX1_runBody : MethodName := ⟨RX1, "runBody", "(IIII)I"⟩
def RX2 : String := "OpensLikeThat$Changes"
def TX2 : u_T := fun k => match k with
  | 0 => ("OpensLikeThat$Changes", "number", "[I", true)
  | 1 => ("OpensLikeThat$Changes", "what", "[I", true)
  | 2 => ("OpensLikeThat$Changes", "old", "[I", true)
  | 3 => ("OpensLikeThat$Changes", "fresh", "[I", true)
  | 4 => ("OpensLikeThat$Changes", "done", "I", false)
  | _ => ("OpensLikeThat$Changes", "all", "I", false)
def tyX2 : Nat → FieldType := fun k => match k with
  | 0 => .array .int
  | 1 => .array .int
  | 2 => .array .int
  | 3 => .array .int
  | 4 => .int
  | _ => .int
abbrev wsX20 : List Cond := u_ws RX2 TX2 6
theorem nmX2 : ∀ a, a < 6 → ∀ b, b < 6 → a ≠ b → (TX2 a).2.1 ≠ (TX2 b).2.1 := by decide +kernel
theorem tyX2_ok : ∀ k, k < 6 → parseFieldDescriptor (TX2 k).2.2.1 = some (tyX2 k) := by decide +kernel
abbrev cX2_init : ByteArray := prog_4_method_1_code
def yX2_init : MethodName := ⟨RX2, "<init>", "()V"⟩
abbrev cX2_came : ByteArray := prog_4_method_2_code
def yX2_came : MethodName := ⟨RX2, "came", "(IIII)V"⟩
abbrev cX2_stepBack : ByteArray := prog_4_method_3_code
def yX2_stepBack : MethodName := ⟨RX2, "stepBack", "()Z"⟩
abbrev cX2_stepOn : ByteArray := prog_4_method_4_code
def yX2_stepOn : MethodName := ⟨RX2, "stepOn", "()Z"⟩
abbrev cX2_forgetFirst : ByteArray := prog_4_method_5_code
def yX2_forgetFirst : MethodName := ⟨RX2, "forgetFirst", "()V"⟩
def RX3 : String := "OpensLikeThat$Deed"
def TX3 : u_T := fun k => match k with
  | 0 => ("OpensLikeThat$Deed", "told", "[I", true)
  | 1 => ("OpensLikeThat$Deed", "state", "I", false)
  | 2 => ("OpensLikeThat$Deed", "keptTold", "[I", true)
  | 3 => ("OpensLikeThat$Deed", "keptKnows", "[I", true)
  | 4 => ("OpensLikeThat$Deed", "keptDone", "[I", true)
  | 5 => ("OpensLikeThat$Deed", "keptState", "I", false)
  | _ => ("OpensLikeThat$Deed", "isKept", "Z", false)
def tyX3 : Nat → FieldType := fun k => match k with
  | 0 => .array .int
  | 1 => .int
  | 2 => .array .int
  | 3 => .array .int
  | 4 => .array .int
  | 5 => .int
  | _ => .boolean
abbrev wsX30 : List Cond := u_ws RX3 TX3 7
theorem nmX3 : ∀ a, a < 7 → ∀ b, b < 7 → a ≠ b → (TX3 a).2.1 ≠ (TX3 b).2.1 := by decide +kernel
theorem tyX3_ok : ∀ k, k < 7 → parseFieldDescriptor (TX3 k).2.2.1 = some (tyX3 k) := by decide +kernel
abbrev cX3_init : ByteArray := prog_5_method_1_code
def yX3_init : MethodName := ⟨RX3, "<init>", "()V"⟩
abbrev cX3_goTo : ByteArray := prog_5_method_2_code
def yX3_goTo : MethodName := ⟨RX3, "goTo", "(II)V"⟩
abbrev cX3_layInto : ByteArray := prog_5_method_3_code
def yX3_layInto : MethodName := ⟨RX3, "layInto", "(I)I"⟩
abbrev cX3_store : ByteArray := prog_5_method_4_code
def yX3_store : MethodName := ⟨RX3, "store", "(LOpensLikeThat$People;)I"⟩
abbrev cX3_restore : ByteArray := prog_5_method_5_code
def yX3_restore : MethodName := ⟨RX3, "restore", "(LOpensLikeThat$People;)I"⟩
def RX4 : String := "OpensLikeThat$Found"
def TX4 : u_T := fun k => match k with
  | 0 => ("OpensLikeThat$Found", "kit", "LOpensLikeThat$MoveList;", true)
  | 1 => ("OpensLikeThat$Found", "shelves", "LOpensLikeThat$Shelves;", true)
  | 2 => ("OpensLikeThat$Found", "last", "I", false)
  | 3 => ("OpensLikeThat$Found", "chairsAtEnds", "I", false)
  | _ => ("OpensLikeThat$Found", "chairsOnWay", "I", false)
def tyX4 : Nat → FieldType := fun k => match k with
  | 0 => .object "OpensLikeThat$MoveList"
  | 1 => .object "OpensLikeThat$Shelves"
  | 2 => .int
  | 3 => .int
  | _ => .int
abbrev wsX40 : List Cond := u_ws RX4 TX4 5
theorem nmX4 : ∀ a, a < 5 → ∀ b, b < 5 → a ≠ b → (TX4 a).2.1 ≠ (TX4 b).2.1 := by decide +kernel
theorem tyX4_ok : ∀ k, k < 5 → parseFieldDescriptor (TX4 k).2.2.1 = some (tyX4 k) := by decide +kernel
abbrev cX4_init : ByteArray := prog_6_method_1_code
def yX4_init : MethodName := ⟨RX4, "<init>", "(LOpensLikeThat$MoveList;LOpensLikeThat$Shelves;)V"⟩
abbrev cX4_firstRefused : ByteArray := prog_6_method_2_code
def yX4_firstRefused : MethodName := ⟨RX4, "firstRefused", "(II)I"⟩
abbrev cX4_draw : ByteArray := prog_6_method_3_code
def yX4_draw : MethodName := ⟨RX4, "draw", "(IIII)V"⟩
abbrev cX4_drawnFrom : ByteArray := prog_6_method_4_code
def yX4_drawnFrom : MethodName := ⟨RX4, "drawnFrom", "(II)I"⟩
def RX5 : String := "OpensLikeThat$Law"
def TX5 : u_T := fun k => match k with
  | 0 => ("OpensLikeThat$Law", "tape", "[I", true)
  | 1 => ("OpensLikeThat$Law", "stack", "[I", true)
  | 2 => ("OpensLikeThat$Law", "named", "[I", true)
  | 3 => ("OpensLikeThat$Law", "code", "[I", false)
  | 4 => ("OpensLikeThat$Law", "draft", "[I", false)
  | 5 => ("OpensLikeThat$Law", "codeSize", "I", false)
  | 6 => ("OpensLikeThat$Law", "draftSize", "I", false)
  | 7 => ("OpensLikeThat$Law", "place", "I", false)
  | 8 => ("OpensLikeThat$Law", "top", "I", false)
  | _ => ("OpensLikeThat$Law", "onTape", "I", false)
def tyX5 : Nat → FieldType := fun k => match k with
  | 0 => .array .int
  | 1 => .array .int
  | 2 => .array .int
  | 3 => .array .int
  | 4 => .array .int
  | 5 => .int
  | 6 => .int
  | 7 => .int
  | 8 => .int
  | _ => .int
abbrev wsX50 : List Cond := u_ws RX5 TX5 10
theorem nmX5 : ∀ a, a < 10 → ∀ b, b < 10 → a ≠ b → (TX5 a).2.1 ≠ (TX5 b).2.1 := by decide +kernel
theorem tyX5_ok : ∀ k, k < 10 → parseFieldDescriptor (TX5 k).2.2.1 = some (tyX5 k) := by decide +kernel
abbrev cX5_init : ByteArray := prog_7_method_1_code
def yX5_init : MethodName := ⟨RX5, "<init>", "()V"⟩
abbrev cX5_comes : ByteArray := prog_7_method_2_code
def yX5_comes : MethodName := ⟨RX5, "comes", "(I)I"⟩
abbrev cX5_become : ByteArray := prog_7_method_3_code
def yX5_become : MethodName := ⟨RX5, "become", "()I"⟩
abbrev cX5_secondsFor : ByteArray := prog_7_method_4_code
def yX5_secondsFor : MethodName := ⟨RX5, "secondsFor", "(IIIIII)I"⟩
abbrev cX5_readText : ByteArray := prog_7_method_5_code
def yX5_readText : MethodName := ⟨RX5, "readText", "()Z"⟩
abbrev cX5_readLine : ByteArray := prog_7_method_6_code
def yX5_readLine : MethodName := ⟨RX5, "readLine", "()Z"⟩
abbrev cX5_readLevel : ByteArray := prog_7_method_7_code
def yX5_readLevel : MethodName := ⟨RX5, "readLevel", "(II)Z"⟩
abbrev cX5_readOperand : ByteArray := prog_7_method_8_code
def yX5_readOperand : MethodName := ⟨RX5, "readOperand", "(I)Z"⟩
abbrev cX5_readNumber : ByteArray := prog_7_method_9_code
def yX5_readNumber : MethodName := ⟨RX5, "readNumber", "()V"⟩
abbrev cX5_ahead : ByteArray := prog_7_method_10_code
def yX5_ahead : MethodName := ⟨RX5, "ahead", "()I"⟩
abbrev cX5_write : ByteArray := prog_7_method_11_code
def yX5_write : MethodName := ⟨RX5, "write", "(I)V"⟩
abbrev cX5_nameOf : ByteArray := prog_7_method_12_code
def yX5_nameOf : MethodName := ⟨RX5, "nameOf", "(I)I"⟩
abbrev cX5_levelOf : ByteArray := prog_7_method_13_code
def yX5_levelOf : MethodName := ⟨RX5, "levelOf", "(I)I"⟩
abbrev cX5_workedOut : ByteArray := prog_7_method_14_code
def yX5_workedOut : MethodName := ⟨RX5, "workedOut", "()I"⟩
abbrev cX5_step : ByteArray := prog_7_method_15_code
def yX5_step : MethodName := ⟨RX5, "step", "(I)V"⟩
abbrev cX5_joined : ByteArray := prog_7_method_16_code
def yX5_joined : MethodName := ⟨RX5, "joined", "(III)I"⟩
abbrev cX5_push : ByteArray := prog_7_method_17_code
def yX5_push : MethodName := ⟨RX5, "push", "(I)V"⟩
abbrev cX5_pop : ByteArray := prog_7_method_18_code
def yX5_pop : MethodName := ⟨RX5, "pop", "()I"⟩
def RX6 : String := "OpensLikeThat$Lessons"
def TX6 : u_T := fun k => match k with
  | 0 => ("OpensLikeThat$Lessons", "web", "LOpensLikeThat$Web;", true)
  | 1 => ("OpensLikeThat$Lessons", "kit", "LOpensLikeThat$MoveList;", true)
  | 2 => ("OpensLikeThat$Lessons", "people", "LOpensLikeThat$People;", true)
  | 3 => ("OpensLikeThat$Lessons", "shelves", "LOpensLikeThat$Shelves;", true)
  | _ => ("OpensLikeThat$Lessons", "seen", "[I", true)
def tyX6 : Nat → FieldType := fun k => match k with
  | 0 => .object "OpensLikeThat$Web"
  | 1 => .object "OpensLikeThat$MoveList"
  | 2 => .object "OpensLikeThat$People"
  | 3 => .object "OpensLikeThat$Shelves"
  | _ => .array .int
abbrev wsX60 : List Cond := u_ws RX6 TX6 5
theorem nmX6 : ∀ a, a < 5 → ∀ b, b < 5 → a ≠ b → (TX6 a).2.1 ≠ (TX6 b).2.1 := by decide +kernel
theorem tyX6_ok : ∀ k, k < 5 → parseFieldDescriptor (TX6 k).2.2.1 = some (tyX6 k) := by decide +kernel
abbrev cX6_init : ByteArray := prog_8_method_1_code
def yX6_init : MethodName := ⟨RX6, "<init>", "(LOpensLikeThat$Web;LOpensLikeThat$MoveList;LOpensLikeThat$People;LOpensLikeThat$Shelves;)V"⟩
abbrev cX6_knownAfter : ByteArray := prog_8_method_2_code
def yX6_knownAfter : MethodName := ⟨RX6, "knownAfter", "(II)I"⟩
abbrev cX6_fewestShown : ByteArray := prog_8_method_3_code
def yX6_fewestShown : MethodName := ⟨RX6, "fewestShown", "(III)I"⟩
abbrev cX6_isSoon : ByteArray := prog_8_method_4_code
def yX6_isSoon : MethodName := ⟨RX6, "isSoon", "(III)Z"⟩
def RX7 : String := "OpensLikeThat$MoveList"
def TX7 : u_T := fun k => match k with
  | 0 => ("OpensLikeThat$MoveList", "what", "[I", true)
  | 1 => ("OpensLikeThat$MoveList", "by", "[I", true)
  | 2 => ("OpensLikeThat$MoveList", "from", "[I", true)
  | 3 => ("OpensLikeThat$MoveList", "needs", "[I", true)
  | 4 => ("OpensLikeThat$MoveList", "hard", "[I", true)
  | 5 => ("OpensLikeThat$MoveList", "charted", "[I", true)
  | _ => ("OpensLikeThat$MoveList", "size", "I", false)
def tyX7 : Nat → FieldType := fun k => match k with
  | 0 => .array .int
  | 1 => .array .int
  | 2 => .array .int
  | 3 => .array .int
  | 4 => .array .int
  | 5 => .array .int
  | _ => .int
abbrev wsX70 : List Cond := u_ws RX7 TX7 7
theorem nmX7 : ∀ a, a < 7 → ∀ b, b < 7 → a ≠ b → (TX7 a).2.1 ≠ (TX7 b).2.1 := by decide +kernel
theorem tyX7_ok : ∀ k, k < 7 → parseFieldDescriptor (TX7 k).2.2.1 = some (tyX7 k) := by decide +kernel
abbrev cX7_init : ByteArray := prog_9_method_1_code
def yX7_init : MethodName := ⟨RX7, "<init>", "()V"⟩
abbrev cX7_has : ByteArray := prog_9_method_2_code
def yX7_has : MethodName := ⟨RX7, "has", "(I)Z"⟩
abbrev cX7_join : ByteArray := prog_9_method_3_code
def yX7_join : MethodName := ⟨RX7, "join", "(IIIII)I"⟩
abbrev cX7_chart : ByteArray := prog_9_method_4_code
def yX7_chart : MethodName := ⟨RX7, "chart", "(I)V"⟩
abbrev cX7_after : ByteArray := prog_9_method_5_code
def yX7_after : MethodName := ⟨RX7, "after", "(II)I"⟩
abbrev cX7_endOf : ByteArray := prog_9_method_6_code
def yX7_endOf : MethodName := ⟨RX7, "endOf", "(II)I"⟩
def RX8 : String := "OpensLikeThat$People"
def TX8 : u_T := fun k => match k with
  | 0 => ("OpensLikeThat$People", "deft", "[I", true)
  | 1 => ("OpensLikeThat$People", "knows", "[I", true)
  | 2 => ("OpensLikeThat$People", "learns", "[I", true)
  | 3 => ("OpensLikeThat$People", "done", "[I", true)
  | _ => ("OpensLikeThat$People", "size", "I", false)
def tyX8 : Nat → FieldType := fun k => match k with
  | 0 => .array .int
  | 1 => .array .int
  | 2 => .array .int
  | 3 => .array .int
  | _ => .int
abbrev wsX80 : List Cond := u_ws RX8 TX8 5
theorem nmX8 : ∀ a, a < 5 → ∀ b, b < 5 → a ≠ b → (TX8 a).2.1 ≠ (TX8 b).2.1 := by decide +kernel
theorem tyX8_ok : ∀ k, k < 5 → parseFieldDescriptor (TX8 k).2.2.1 = some (tyX8 k) := by decide +kernel
abbrev cX8_init : ByteArray := prog_10_method_1_code
def yX8_init : MethodName := ⟨RX8, "<init>", "()V"⟩
abbrev cX8_has : ByteArray := prog_10_method_2_code
def yX8_has : MethodName := ⟨RX8, "has", "(I)Z"⟩
abbrev cX8_join : ByteArray := prog_10_method_3_code
def yX8_join : MethodName := ⟨RX8, "join", "(II)I"⟩
abbrev cX8_knownBy : ByteArray := prog_10_method_4_code
def yX8_knownBy : MethodName := ⟨RX8, "knownBy", "(I)I"⟩
abbrev cX8_hasDone : ByteArray := prog_10_method_5_code
def yX8_hasDone : MethodName := ⟨RX8, "hasDone", "(II)V"⟩
def RX9 : String := "OpensLikeThat$Shelves"
def TX9 : u_T := fun k => match k with
  | 0 => ("OpensLikeThat$Shelves", "rows", "[[J", true)
  | 1 => ("OpensLikeThat$Shelves", "held", "[I", true)
  | _ => ("OpensLikeThat$Shelves", "sorts", "[I", true)
def tyX9 : Nat → FieldType := fun k => match k with
  | 0 => .array (.array .long)
  | 1 => .array .int
  | _ => .array .int
abbrev wsX90 : List Cond := u_ws RX9 TX9 3
theorem nmX9 : ∀ a, a < 3 → ∀ b, b < 3 → a ≠ b → (TX9 a).2.1 ≠ (TX9 b).2.1 := by decide +kernel
theorem tyX9_ok : ∀ k, k < 3 → parseFieldDescriptor (TX9 k).2.2.1 = some (tyX9 k) := by decide +kernel
abbrev cX9_init : ByteArray := prog_11_method_1_code
def yX9_init : MethodName := ⟨RX9, "<init>", "()V"⟩
abbrev cX9_has : ByteArray := prog_11_method_2_code
def yX9_has : MethodName := ⟨RX9, "has", "(I)Z"⟩
abbrev cX9_isBare : ByteArray := prog_11_method_3_code
def yX9_isBare : MethodName := ⟨RX9, "isBare", "(I)Z"⟩
abbrev cX9_isFrame : ByteArray := prog_11_method_4_code
def yX9_isFrame : MethodName := ⟨RX9, "isFrame", "(I)Z"⟩
abbrev cX9_isBytes : ByteArray := prog_11_method_5_code
def yX9_isBytes : MethodName := ⟨RX9, "isBytes", "(I)Z"⟩
abbrev cX9_refusesBytes : ByteArray := prog_11_method_6_code
def yX9_refusesBytes : MethodName := ⟨RX9, "refusesBytes", "(I)I"⟩
abbrev cX9_refusesPlace : ByteArray := prog_11_method_7_code
def yX9_refusesPlace : MethodName := ⟨RX9, "refusesPlace", "(II)I"⟩
abbrev cX9_refusesShift : ByteArray := prog_11_method_8_code
def yX9_refusesShift : MethodName := ⟨RX9, "refusesShift", "(IIIII)I"⟩
abbrev cX9_isSpan : ByteArray := prog_11_method_9_code
def yX9_isSpan : MethodName := ⟨RX9, "isSpan", "(III)Z"⟩
abbrev cX9_hold : ByteArray := prog_11_method_10_code
def yX9_hold : MethodName := ⟨RX9, "hold", "(III)V"⟩
abbrev cX9_at : ByteArray := prog_11_method_11_code
def yX9_at : MethodName := ⟨RX9, "at", "(II)J"⟩
abbrev cX9_setAt : ByteArray := prog_11_method_12_code
def yX9_setAt : MethodName := ⟨RX9, "setAt", "(IIJ)V"⟩
abbrev cX9_cut : ByteArray := prog_11_method_13_code
def yX9_cut : MethodName := ⟨RX9, "cut", "(IJ)J"⟩
def RX10 : String := "OpensLikeThat$Web"
def TX10 : u_T := fun k => match k with
  | 0 => ("OpensLikeThat$Web", "law", "LOpensLikeThat$Law;", true)
  | 1 => ("OpensLikeThat$Web", "kit", "LOpensLikeThat$MoveList;", true)
  | 2 => ("OpensLikeThat$Web", "people", "LOpensLikeThat$People;", true)
  | 3 => ("OpensLikeThat$Web", "unknown", "[I", true)
  | 4 => ("OpensLikeThat$Web", "known", "[I", true)
  | 5 => ("OpensLikeThat$Web", "tieFrom", "[I", true)
  | 6 => ("OpensLikeThat$Web", "tieTo", "[I", true)
  | 7 => ("OpensLikeThat$Web", "tieMove", "[I", true)
  | 8 => ("OpensLikeThat$Web", "tieSeconds", "[I", true)
  | 9 => ("OpensLikeThat$Web", "far", "[I", true)
  | 10 => ("OpensLikeThat$Web", "many", "[I", true)
  | 11 => ("OpensLikeThat$Web", "wet", "[Z", true)
  | _ => ("OpensLikeThat$Web", "ties", "I", false)
def tyX10 : Nat → FieldType := fun k => match k with
  | 0 => .object "OpensLikeThat$Law"
  | 1 => .object "OpensLikeThat$MoveList"
  | 2 => .object "OpensLikeThat$People"
  | 3 => .array .int
  | 4 => .array .int
  | 5 => .array .int
  | 6 => .array .int
  | 7 => .array .int
  | 8 => .array .int
  | 9 => .array .int
  | 10 => .array .int
  | 11 => .array .boolean
  | _ => .int
abbrev wsX100 : List Cond := u_ws RX10 TX10 13
theorem nmX10 : ∀ a, a < 13 → ∀ b, b < 13 → a ≠ b → (TX10 a).2.1 ≠ (TX10 b).2.1 := by decide +kernel
theorem tyX10_ok : ∀ k, k < 13 → parseFieldDescriptor (TX10 k).2.2.1 = some (tyX10 k) := by decide +kernel
abbrev cX10_init : ByteArray := prog_12_method_1_code
def yX10_init : MethodName := ⟨RX10, "<init>", "(LOpensLikeThat$Law;LOpensLikeThat$MoveList;LOpensLikeThat$People;)V"⟩
abbrev cX10_seconds : ByteArray := prog_12_method_2_code
def yX10_seconds : MethodName := ⟨RX10, "seconds", "(III)I"⟩
abbrev cX10_secondsIf : ByteArray := prog_12_method_3_code
def yX10_secondsIf : MethodName := ⟨RX10, "secondsIf", "(IIII)I"⟩
abbrev cX10_weave : ByteArray := prog_12_method_4_code
def yX10_weave : MethodName := ⟨RX10, "weave", "(I)V"⟩
abbrev cX10_weigh : ByteArray := prog_12_method_5_code
def yX10_weigh : MethodName := ⟨RX10, "weigh", "(I)V"⟩
abbrev cX10_tie : ByteArray := prog_12_method_6_code
def yX10_tie : MethodName := ⟨RX10, "tie", "(I)V"⟩
abbrev cX10_measure : ByteArray := prog_12_method_7_code
def yX10_measure : MethodName := ⟨RX10, "measure", "(IZI)V"⟩
abbrev cX10_farFrom : ByteArray := prog_12_method_8_code
def yX10_farFrom : MethodName := ⟨RX10, "farFrom", "(I)I"⟩
abbrev cX10_firstMove : ByteArray := prog_12_method_9_code
def yX10_firstMove : MethodName := ⟨RX10, "firstMove", "(I)I"⟩
abbrev cX10_canCome : ByteArray := prog_12_method_10_code
def yX10_canCome : MethodName := ⟨RX10, "canCome", "()I"⟩
abbrev cX10_farthest : ByteArray := prog_12_method_11_code
def yX10_farthest : MethodName := ⟨RX10, "farthest", "()I"⟩
abbrev cX10_shortest : ByteArray := prog_12_method_12_code
def yX10_shortest : MethodName := ⟨RX10, "shortest", "(II)I"⟩
abbrev cX10_flood : ByteArray := prog_12_method_13_code
def yX10_flood : MethodName := ⟨RX10, "flood", "(IZ)V"⟩
abbrev cX10_flooded : ByteArray := prog_12_method_14_code
def yX10_flooded : MethodName := ⟨RX10, "flooded", "(Z)I"⟩
abbrev cX10_allComeBack : ByteArray := prog_12_method_15_code
def yX10_allComeBack : MethodName := ⟨RX10, "allComeBack", "()Z"⟩
def RX11 : String := "OpensLikeThat"
def TX11 : u_T := fun k => match k with
  | 0 => ("OpensLikeThat", "theLaw", "LOpensLikeThat$Law;", true)
  | 1 => ("OpensLikeThat", "kit", "LOpensLikeThat$MoveList;", true)
  | 2 => ("OpensLikeThat", "people", "LOpensLikeThat$People;", true)
  | 3 => ("OpensLikeThat", "web", "LOpensLikeThat$Web;", true)
  | 4 => ("OpensLikeThat", "lessons", "LOpensLikeThat$Lessons;", true)
  | 5 => ("OpensLikeThat", "attendant", "LOpensLikeThat$Attendant;", true)
  | 6 => ("OpensLikeThat", "found", "LOpensLikeThat$Found;", true)
  | 7 => ("OpensLikeThat", "deed", "LOpensLikeThat$Deed;", true)
  | 8 => ("OpensLikeThat", "changes", "LOpensLikeThat$Changes;", true)
  | 9 => ("OpensLikeThat", "shelves", "LOpensLikeThat$Shelves;", true)
  | _ => ("OpensLikeThat", "bodies", "LOpensLikeThat$Bodies;", true)
def tyX11 : Nat → FieldType := fun k => match k with
  | 0 => .object "OpensLikeThat$Law"
  | 1 => .object "OpensLikeThat$MoveList"
  | 2 => .object "OpensLikeThat$People"
  | 3 => .object "OpensLikeThat$Web"
  | 4 => .object "OpensLikeThat$Lessons"
  | 5 => .object "OpensLikeThat$Attendant"
  | 6 => .object "OpensLikeThat$Found"
  | 7 => .object "OpensLikeThat$Deed"
  | 8 => .object "OpensLikeThat$Changes"
  | 9 => .object "OpensLikeThat$Shelves"
  | _ => .object "OpensLikeThat$Bodies"
abbrev wsX110 : List Cond := u_ws RX11 TX11 11
theorem nmX11 : ∀ a, a < 11 → ∀ b, b < 11 → a ≠ b → (TX11 a).2.1 ≠ (TX11 b).2.1 := by decide +kernel
theorem tyX11_ok : ∀ k, k < 11 → parseFieldDescriptor (TX11 k).2.2.1 = some (tyX11 k) := by decide +kernel
abbrev cX11_init : ByteArray := prog_1_method_1_code
def yX11_init : MethodName := ⟨RX11, "<init>", "()V"⟩
abbrev cX11_move : ByteArray := prog_1_method_2_code
def yX11_move : MethodName := ⟨RX11, "move", "(II)I"⟩
abbrev cX11_moves : ByteArray := prog_1_method_3_code
def yX11_moves : MethodName := ⟨RX11, "moves", "(III)I"⟩
abbrev cX11_person : ByteArray := prog_1_method_4_code
def yX11_person : MethodName := ⟨RX11, "person", "(II)I"⟩
abbrev cX11_mend : ByteArray := prog_1_method_5_code
def yX11_mend : MethodName := ⟨RX11, "mend", "(III)I"⟩
abbrev cX11_of : ByteArray := prog_1_method_6_code
def yX11_of : MethodName := ⟨RX11, "of", "(II)I"⟩
abbrev cX11_feed : ByteArray := prog_1_method_7_code
def yX11_feed : MethodName := ⟨RX11, "feed", "(I)I"⟩
abbrev cX11_law : ByteArray := prog_1_method_8_code
def yX11_law : MethodName := ⟨RX11, "law", "()I"⟩
abbrev cX11_leads : ByteArray := prog_1_method_9_code
def yX11_leads : MethodName := ⟨RX11, "leads", "(II)I"⟩
abbrev cX11_takes : ByteArray := prog_1_method_10_code
def yX11_takes : MethodName := ⟨RX11, "takes", "(III)I"⟩
abbrev cX11_way : ByteArray := prog_1_method_11_code
def yX11_way : MethodName := ⟨RX11, "way", "(III)I"⟩
abbrev cX11_next : ByteArray := prog_1_method_12_code
def yX11_next : MethodName := ⟨RX11, "next", "(II)I"⟩
abbrev cX11_reach : ByteArray := prog_1_method_13_code
def yX11_reach : MethodName := ⟨RX11, "reach", "(II)I"⟩
abbrev cX11_worst : ByteArray := prog_1_method_14_code
def yX11_worst : MethodName := ⟨RX11, "worst", "(II)I"⟩
abbrev cX11_ways : ByteArray := prog_1_method_15_code
def yX11_ways : MethodName := ⟨RX11, "ways", "(II)I"⟩
abbrev cX11_backFrom : ByteArray := prog_1_method_16_code
def yX11_backFrom : MethodName := ⟨RX11, "backFrom", "(I)I"⟩
abbrev cX11_needed : ByteArray := prog_1_method_17_code
def yX11_needed : MethodName := ⟨RX11, "needed", "(I)I"⟩
abbrev cX11_oneWay : ByteArray := prog_1_method_18_code
def yX11_oneWay : MethodName := ⟨RX11, "oneWay", "(I)I"⟩
abbrev cX11_learn : ByteArray := prog_1_method_19_code
def yX11_learn : MethodName := ⟨RX11, "learn", "(II)I"⟩
abbrev cX11_show : ByteArray := prog_1_method_20_code
def yX11_show : MethodName := ⟨RX11, "show", "(III)I"⟩
abbrev cX11_opens : ByteArray := prog_1_method_21_code
def yX11_opens : MethodName := ⟨RX11, "opens", "(III)I"⟩
abbrev cX11_bestFirst : ByteArray := prog_1_method_22_code
def yX11_bestFirst : MethodName := ⟨RX11, "bestFirst", "(III)I"⟩
abbrev cX11_tide : ByteArray := prog_1_method_23_code
def yX11_tide : MethodName := ⟨RX11, "tide", "(III)I"⟩
abbrev cX11_two : ByteArray := prog_1_method_24_code
def yX11_two : MethodName := ⟨RX11, "two", "(II)I"⟩
abbrev cX11_judge : ByteArray := prog_1_method_25_code
def yX11_judge : MethodName := ⟨RX11, "judge", "(II)I"⟩
abbrev cX11_ends : ByteArray := prog_1_method_26_code
def yX11_ends : MethodName := ⟨RX11, "ends", "(II)I"⟩
abbrev cX11_who : ByteArray := prog_1_method_27_code
def yX11_who : MethodName := ⟨RX11, "who", "(II)I"⟩
abbrev cX11_begun : ByteArray := prog_1_method_28_code
def yX11_begun : MethodName := ⟨RX11, "begun", "(III)I"⟩
abbrev cX11_drawn : ByteArray := prog_1_method_29_code
def yX11_drawn : MethodName := ⟨RX11, "drawn", "(IIII)I"⟩
abbrev cX11_make : ByteArray := prog_1_method_30_code
def yX11_make : MethodName := ⟨RX11, "make", "(II)I"⟩
abbrev cX11_lay : ByteArray := prog_1_method_31_code
def yX11_lay : MethodName := ⟨RX11, "lay", "(I)I"⟩
abbrev cX11_led : ByteArray := prog_1_method_32_code
def yX11_led : MethodName := ⟨RX11, "led", "(I)I"⟩
abbrev cX11_image : ByteArray := prog_1_method_33_code
def yX11_image : MethodName := ⟨RX11, "image", "()I"⟩
abbrev cX11_back : ByteArray := prog_1_method_34_code
def yX11_back : MethodName := ⟨RX11, "back", "()I"⟩
abbrev cX11_undo : ByteArray := prog_1_method_35_code
def yX11_undo : MethodName := ⟨RX11, "undo", "()I"⟩
abbrev cX11_redo : ByteArray := prog_1_method_36_code
def yX11_redo : MethodName := ⟨RX11, "redo", "()I"⟩
abbrev cX11_body : ByteArray := prog_1_method_37_code
def yX11_body : MethodName := ⟨RX11, "body", "(I)I"⟩
abbrev cX11_act : ByteArray := prog_1_method_38_code
def yX11_act : MethodName := ⟨RX11, "act", "(III)I"⟩
abbrev cX11_trace : ByteArray := prog_1_method_39_code
def yX11_trace : MethodName := ⟨RX11, "trace", "(I)I"⟩
abbrev cX11_keep : ByteArray := prog_1_method_40_code
def yX11_keep : MethodName := ⟨RX11, "keep", "(II)I"⟩
abbrev cX11_row : ByteArray := prog_1_method_41_code
def yX11_row : MethodName := ⟨RX11, "row", "(III)I"⟩
abbrev cX11_put : ByteArray := prog_1_method_42_code
def yX11_put : MethodName := ⟨RX11, "put", "(IIJ)I"⟩
abbrev cX11_element : ByteArray := prog_1_method_43_code
def yX11_element : MethodName := ⟨RX11, "element", "(II)J"⟩
abbrev cX11_shift : ByteArray := prog_1_method_44_code
def yX11_shift : MethodName := ⟨RX11, "shift", "(IIIII)I"⟩
abbrev cX11_taken : ByteArray := prog_1_method_45_code
def yX11_taken : MethodName := ⟨RX11, "taken", "(II)I"⟩
abbrev cX11_count : ByteArray := prog_1_method_46_code
def yX11_count : MethodName := ⟨RX11, "count", "(I)I"⟩
abbrev cX11_isState : ByteArray := prog_1_method_47_code
def yX11_isState : MethodName := ⟨RX11, "isState", "(I)Z"⟩
abbrev cX11_isAim : ByteArray := prog_1_method_48_code
def yX11_isAim : MethodName := ⟨RX11, "isAim", "(I)Z"⟩
abbrev cX11_partOf : ByteArray := prog_1_method_49_code
def yX11_partOf : MethodName := ⟨RX11, "partOf", "(II)I"⟩
abbrev cX11_weightOf : ByteArray := prog_1_method_50_code
def yX11_weightOf : MethodName := ⟨RX11, "weightOf", "(I)I"⟩
abbrev cX11_isShut : ByteArray := prog_1_method_51_code
def yX11_isShut : MethodName := ⟨RX11, "isShut", "(I)Z"⟩
abbrev cX11_isChair : ByteArray := prog_1_method_52_code
def yX11_isChair : MethodName := ⟨RX11, "isChair", "(I)Z"⟩
abbrev cX11_meets : ByteArray := prog_1_method_53_code
def yX11_meets : MethodName := ⟨RX11, "meets", "(II)Z"⟩
abbrev cX11_isFrom : ByteArray := prog_1_method_54_code
def yX11_isFrom : MethodName := ⟨RX11, "isFrom", "(II)Z"⟩
abbrev cX11_isMove : ByteArray := prog_1_method_55_code
def yX11_isMove : MethodName := ⟨RX11, "isMove", "(IIIII)Z"⟩
abbrev cX11_isOneOrNobody : ByteArray := prog_1_method_56_code
def yX11_isOneOrNobody : MethodName := ⟨RX11, "isOneOrNobody", "(I)Z"⟩
abbrev cX11_isPs : ByteArray := prog_1_method_57_code
def yX11_isPs : MethodName := ⟨RX11, "isPs", "(I)Z"⟩
abbrev cX11_oneIn : ByteArray := prog_1_method_58_code
def yX11_oneIn : MethodName := ⟨RX11, "oneIn", "(I)I"⟩
abbrev cX11_stateIn : ByteArray := prog_1_method_59_code
def yX11_stateIn : MethodName := ⟨RX11, "stateIn", "(I)I"⟩
abbrev cX11_comesFromRow : ByteArray := prog_1_method_60_code
def yX11_comesFromRow : MethodName := ⟨RX11, "comesFromRow", "(II)Z"⟩
abbrev cX11_refusesOne : ByteArray := prog_1_method_61_code
def yX11_refusesOne : MethodName := ⟨RX11, "refusesOne", "(II)I"⟩
abbrev cX11_refusesFound : ByteArray := prog_1_method_62_code
def yX11_refusesFound : MethodName := ⟨RX11, "refusesFound", "(II)I"⟩
abbrev cX11_canMakeAll : ByteArray := prog_1_method_63_code
def yX11_canMakeAll : MethodName := ⟨RX11, "canMakeAll", "(III)Z"⟩
abbrev cX11_canMend : ByteArray := prog_1_method_64_code
def yX11_canMend : MethodName := ⟨RX11, "canMend", "(II)Z"⟩
abbrev cX11_fits : ByteArray := prog_1_method_65_code
def yX11_fits : MethodName := ⟨RX11, "fits", "(III)Z"⟩
abbrev cX11_numberAt : ByteArray := prog_1_method_66_code
def yX11_numberAt : MethodName := ⟨RX11, "numberAt", "(II)I"⟩
abbrev cX11_setNumber : ByteArray := prog_1_method_67_code
def yX11_setNumber : MethodName := ⟨RX11, "setNumber", "(III)V"⟩
def RX12 : String := "OpensLikeThatModel"
def TX12 : u_T := fun k => match k with
  | 0 => ("OpensLikeThatModel", "moves", "I", false)
  | 1 => ("OpensLikeThatModel", "whats", "[I", true)
  | 2 => ("OpensLikeThatModel", "bys", "[I", true)
  | 3 => ("OpensLikeThatModel", "froms", "[I", true)
  | 4 => ("OpensLikeThatModel", "needs", "[I", true)
  | 5 => ("OpensLikeThatModel", "hard", "[I", true)
  | 6 => ("OpensLikeThatModel", "people", "I", false)
  | 7 => ("OpensLikeThatModel", "deft", "[I", true)
  | 8 => ("OpensLikeThatModel", "knows", "[I", true)
  | 9 => ("OpensLikeThatModel", "learns", "[I", true)
  | 10 => ("OpensLikeThatModel", "often", "[I", true)
  | 11 => ("OpensLikeThatModel", "now", "I", false)
  | 12 => ("OpensLikeThatModel", "taped", "I", false)
  | 13 => ("OpensLikeThatModel", "tape", "[I", true)
  | 14 => ("OpensLikeThatModel", "isTold", "Z", false)
  | 15 => ("OpensLikeThatModel", "lines", "I", false)
  | 16 => ("OpensLikeThatModel", "asks", "[I", true)
  | 17 => ("OpensLikeThatModel", "says", "[I", true)
  | 18 => ("OpensLikeThatModel", "ends", "[I", true)
  | 19 => ("OpensLikeThatModel", "code", "[I", true)
  | 20 => ("OpensLikeThatModel", "at", "I", false)
  | 21 => ("OpensLikeThatModel", "open", "I", false)
  | 22 => ("OpensLikeThatModel", "coded", "I", false)
  | 23 => ("OpensLikeThatModel", "newLines", "I", false)
  | 24 => ("OpensLikeThatModel", "newAsks", "[I", true)
  | 25 => ("OpensLikeThatModel", "newSays", "[I", true)
  | 26 => ("OpensLikeThatModel", "newEnds", "[I", true)
  | 27 => ("OpensLikeThatModel", "newCode", "[I", true)
  | 28 => ("OpensLikeThatModel", "stack", "[I", true)
  | 29 => ("OpensLikeThatModel", "led", "[I", true)
  | 30 => ("OpensLikeThatModel", "imaged", "Z", false)
  | 31 => ("OpensLikeThatModel", "oldNow", "I", false)
  | 32 => ("OpensLikeThatModel", "oldPeople", "I", false)
  | 33 => ("OpensLikeThatModel", "oldKnows", "[I", true)
  | 34 => ("OpensLikeThatModel", "oldOften", "[I", true)
  | 35 => ("OpensLikeThatModel", "oldLed", "[I", true)
  | 36 => ("OpensLikeThatModel", "changes", "I", false)
  | 37 => ("OpensLikeThatModel", "done", "I", false)
  | 38 => ("OpensLikeThatModel", "changed", "[I", true)
  | 39 => ("OpensLikeThatModel", "bodies", "I", false)
  | 40 => ("OpensLikeThatModel", "kind", "[I", true)
  | 41 => ("OpensLikeThatModel", "traced", "I", false)
  | 42 => ("OpensLikeThatModel", "traces", "[I", true)
  | 43 => ("OpensLikeThatModel", "holding", "[I", true)
  | 44 => ("OpensLikeThatModel", "rowLength", "[I", true)
  | 45 => ("OpensLikeThatModel", "rowOf", "[J", true)
  | 46 => ("OpensLikeThatModel", "far", "[I", true)
  | 47 => ("OpensLikeThatModel", "many", "[I", true)
  | 48 => ("OpensLikeThatModel", "steps", "[I", true)
  | 49 => ("OpensLikeThatModel", "inRow", "I", false)
  | 50 => ("OpensLikeThatModel", "chairs", "[I", true)
  | 51 => ("OpensLikeThatModel", "seconds", "[I", true)
  | _ => ("OpensLikeThatModel", "ended", "I", false)
def tyX12 : Nat → FieldType := fun k => match k with
  | 0 => .int
  | 1 => .array .int
  | 2 => .array .int
  | 3 => .array .int
  | 4 => .array .int
  | 5 => .array .int
  | 6 => .int
  | 7 => .array .int
  | 8 => .array .int
  | 9 => .array .int
  | 10 => .array .int
  | 11 => .int
  | 12 => .int
  | 13 => .array .int
  | 14 => .boolean
  | 15 => .int
  | 16 => .array .int
  | 17 => .array .int
  | 18 => .array .int
  | 19 => .array .int
  | 20 => .int
  | 21 => .int
  | 22 => .int
  | 23 => .int
  | 24 => .array .int
  | 25 => .array .int
  | 26 => .array .int
  | 27 => .array .int
  | 28 => .array .int
  | 29 => .array .int
  | 30 => .boolean
  | 31 => .int
  | 32 => .int
  | 33 => .array .int
  | 34 => .array .int
  | 35 => .array .int
  | 36 => .int
  | 37 => .int
  | 38 => .array .int
  | 39 => .int
  | 40 => .array .int
  | 41 => .int
  | 42 => .array .int
  | 43 => .array .int
  | 44 => .array .int
  | 45 => .array .long
  | 46 => .array .int
  | 47 => .array .int
  | 48 => .array .int
  | 49 => .int
  | 50 => .array .int
  | 51 => .array .int
  | _ => .int
abbrev wsX120 : List Cond := u_ws RX12 TX12 53
theorem nmX12 : ∀ a, a < 53 → ∀ b, b < 53 → a ≠ b → (TX12 a).2.1 ≠ (TX12 b).2.1 := by decide +kernel
theorem tyX12_ok : ∀ k, k < 53 → parseFieldDescriptor (TX12 k).2.2.1 = some (tyX12 k) := by decide +kernel
abbrev cX12_init : ByteArray := prog_14_method_1_code
def yX12_init : MethodName := ⟨RX12, "<init>", "()V"⟩
abbrev cX12_within : ByteArray := prog_14_method_2_code
def yX12_within : MethodName := ⟨RX12, "within", "(III)Z"⟩
abbrev cX12_isMove : ByteArray := prog_14_method_3_code
def yX12_isMove : MethodName := ⟨RX12, "isMove", "(I)Z"⟩
abbrev cX12_isOne : ByteArray := prog_14_method_4_code
def yX12_isOne : MethodName := ⟨RX12, "isOne", "(I)Z"⟩
abbrev cX12_isAny : ByteArray := prog_14_method_5_code
def yX12_isAny : MethodName := ⟨RX12, "isAny", "(I)Z"⟩
abbrev cX12_isState : ByteArray := prog_14_method_6_code
def yX12_isState : MethodName := ⟨RX12, "isState", "(I)Z"⟩
abbrev cX12_isFrom : ByteArray := prog_14_method_7_code
def yX12_isFrom : MethodName := ⟨RX12, "isFrom", "(I)Z"⟩
abbrev cX12_isShelf : ByteArray := prog_14_method_8_code
def yX12_isShelf : MethodName := ⟨RX12, "isShelf", "(I)Z"⟩
abbrev cX12_isShut : ByteArray := prog_14_method_9_code
def yX12_isShut : MethodName := ⟨RX12, "isShut", "(I)Z"⟩
abbrev cX12_isChair : ByteArray := prog_14_method_10_code
def yX12_isChair : MethodName := ⟨RX12, "isChair", "(I)Z"⟩
abbrev cX12_isThere : ByteArray := prog_14_method_11_code
def yX12_isThere : MethodName := ⟨RX12, "isThere", "(II)Z"⟩
abbrev cX12_isSort : ByteArray := prog_14_method_12_code
def yX12_isSort : MethodName := ⟨RX12, "isSort", "(III)Z"⟩
abbrev cX12_newMove : ByteArray := prog_14_method_13_code
def yX12_newMove : MethodName := ⟨RX12, "newMove", "(IIIII)I"⟩
abbrev cX12_move : ByteArray := prog_14_method_14_code
def yX12_move : MethodName := ⟨RX12, "move", "(II)I"⟩
abbrev cX12_moves : ByteArray := prog_14_method_15_code
def yX12_moves : MethodName := ⟨RX12, "moves", "(III)I"⟩
abbrev cX12_person : ByteArray := prog_14_method_16_code
def yX12_person : MethodName := ⟨RX12, "person", "(II)I"⟩
abbrev cX12_isOf : ByteArray := prog_14_method_17_code
def yX12_isOf : MethodName := ⟨RX12, "isOf", "(II)Z"⟩
abbrev cX12_isFit : ByteArray := prog_14_method_18_code
def yX12_isFit : MethodName := ⟨RX12, "isFit", "(III)Z"⟩
abbrev cX12_get : ByteArray := prog_14_method_19_code
def yX12_get : MethodName := ⟨RX12, "get", "(II)I"⟩
abbrev cX12_becomes : ByteArray := prog_14_method_20_code
def yX12_becomes : MethodName := ⟨RX12, "becomes", "(III)V"⟩
abbrev cX12_mend : ByteArray := prog_14_method_21_code
def yX12_mend : MethodName := ⟨RX12, "mend", "(III)I"⟩
abbrev cX12_of : ByteArray := prog_14_method_22_code
def yX12_of : MethodName := ⟨RX12, "of", "(II)I"⟩
abbrev cX12_undo : ByteArray := prog_14_method_23_code
def yX12_undo : MethodName := ⟨RX12, "undo", "()I"⟩
abbrev cX12_redo : ByteArray := prog_14_method_24_code
def yX12_redo : MethodName := ⟨RX12, "redo", "()I"⟩
abbrev cX12_feed : ByteArray := prog_14_method_25_code
def yX12_feed : MethodName := ⟨RX12, "feed", "(I)I"⟩
abbrev cX12_sign : ByteArray := prog_14_method_26_code
def yX12_sign : MethodName := ⟨RX12, "sign", "()I"⟩
abbrev cX12_is : ByteArray := prog_14_method_27_code
def yX12_is : MethodName := ⟨RX12, "is", "(I)Z"⟩
abbrev cX12_codes : ByteArray := prog_14_method_28_code
def yX12_codes : MethodName := ⟨RX12, "codes", "(I)Z"⟩
abbrev cX12_isDigit : ByteArray := prog_14_method_29_code
def yX12_isDigit : MethodName := ⟨RX12, "isDigit", "()Z"⟩
abbrev cX12_nameOf : ByteArray := prog_14_method_30_code
def yX12_nameOf : MethodName := ⟨RX12, "nameOf", "(I)I"⟩
abbrev cX12_isO : ByteArray := prog_14_method_31_code
def yX12_isO : MethodName := ⟨RX12, "isO", "()Z"⟩
abbrev cX12_isP : ByteArray := prog_14_method_32_code
def yX12_isP : MethodName := ⟨RX12, "isP", "()Z"⟩
abbrev cX12_isS : ByteArray := prog_14_method_33_code
def yX12_isS : MethodName := ⟨RX12, "isS", "()Z"⟩
abbrev cX12_isB : ByteArray := prog_14_method_34_code
def yX12_isB : MethodName := ⟨RX12, "isB", "()Z"⟩
abbrev cX12_isA : ByteArray := prog_14_method_35_code
def yX12_isA : MethodName := ⟨RX12, "isA", "()Z"⟩
abbrev cX12_isE : ByteArray := prog_14_method_36_code
def yX12_isE : MethodName := ⟨RX12, "isE", "()Z"⟩
abbrev cX12_isLine : ByteArray := prog_14_method_37_code
def yX12_isLine : MethodName := ⟨RX12, "isLine", "()Z"⟩
abbrev cX12_law : ByteArray := prog_14_method_38_code
def yX12_law : MethodName := ⟨RX12, "law", "()I"⟩
abbrev cX12_both : ByteArray := prog_14_method_39_code
def yX12_both : MethodName := ⟨RX12, "both", "(III)I"⟩
abbrev cX12_worked : ByteArray := prog_14_method_40_code
def yX12_worked : MethodName := ⟨RX12, "worked", "(IIIII)I"⟩
abbrev cX12_secondsOf : ByteArray := prog_14_method_41_code
def yX12_secondsOf : MethodName := ⟨RX12, "secondsOf", "(III)I"⟩
abbrev cX12_valueOf : ByteArray := prog_14_method_42_code
def yX12_valueOf : MethodName := ⟨RX12, "valueOf", "(II)I"⟩
abbrev cX12_may : ByteArray := prog_14_method_43_code
def yX12_may : MethodName := ⟨RX12, "may", "(II)Z"⟩
abbrev cX12_leadsTo : ByteArray := prog_14_method_44_code
def yX12_leadsTo : MethodName := ⟨RX12, "leadsTo", "(II)I"⟩
abbrev cX12_leads : ByteArray := prog_14_method_45_code
def yX12_leads : MethodName := ⟨RX12, "leads", "(II)I"⟩
abbrev cX12_takes : ByteArray := prog_14_method_46_code
def yX12_takes : MethodName := ⟨RX12, "takes", "(III)I"⟩
abbrev cX12_step : ByteArray := prog_14_method_47_code
def yX12_step : MethodName := ⟨RX12, "step", "(IIII)I"⟩
abbrev cX12_steps : ByteArray := prog_14_method_48_code
def yX12_steps : MethodName := ⟨RX12, "steps", "(II)V"⟩
abbrev cX12_goes : ByteArray := prog_14_method_49_code
def yX12_goes : MethodName := ⟨RX12, "goes", "(IIIIZ)V"⟩
abbrev cX12_goes_ : ByteArray := prog_14_method_50_code
def yX12_goes_ : MethodName := ⟨RX12, "goes", "(III)V"⟩
abbrev cX12_least : ByteArray := prog_14_method_51_code
def yX12_least : MethodName := ⟨RX12, "least", "(I)I"⟩
abbrev cX12_way : ByteArray := prog_14_method_52_code
def yX12_way : MethodName := ⟨RX12, "way", "(III)I"⟩
abbrev cX12_next : ByteArray := prog_14_method_53_code
def yX12_next : MethodName := ⟨RX12, "next", "(II)I"⟩
abbrev cX12_reached : ByteArray := prog_14_method_54_code
def yX12_reached : MethodName := ⟨RX12, "reached", "()I"⟩
abbrev cX12_reach : ByteArray := prog_14_method_55_code
def yX12_reach : MethodName := ⟨RX12, "reach", "(II)I"⟩
abbrev cX12_chairsFrom : ByteArray := prog_14_method_56_code
def yX12_chairsFrom : MethodName := ⟨RX12, "chairsFrom", "(II)V"⟩
abbrev cX12_worst : ByteArray := prog_14_method_57_code
def yX12_worst : MethodName := ⟨RX12, "worst", "(II)I"⟩
abbrev cX12_ways : ByteArray := prog_14_method_58_code
def yX12_ways : MethodName := ⟨RX12, "ways", "(II)I"⟩
abbrev cX12_backFrom : ByteArray := prog_14_method_59_code
def yX12_backFrom : MethodName := ⟨RX12, "backFrom", "(I)I"⟩
abbrev cX12_needed : ByteArray := prog_14_method_60_code
def yX12_needed : MethodName := ⟨RX12, "needed", "(I)I"⟩
abbrev cX12_oneWay : ByteArray := prog_14_method_61_code
def yX12_oneWay : MethodName := ⟨RX12, "oneWay", "(I)I"⟩
abbrev cX12_noRow : ByteArray := prog_14_method_62_code
def yX12_noRow : MethodName := ⟨RX12, "noRow", "(I)I"⟩
abbrev cX12_told : ByteArray := prog_14_method_63_code
def yX12_told : MethodName := ⟨RX12, "told", "(II)I"⟩
abbrev cX12_learn : ByteArray := prog_14_method_64_code
def yX12_learn : MethodName := ⟨RX12, "learn", "(II)I"⟩
abbrev cX12_show : ByteArray := prog_14_method_65_code
def yX12_show : MethodName := ⟨RX12, "show", "(III)I"⟩
abbrev cX12_reads : ByteArray := prog_14_method_66_code
def yX12_reads : MethodName := ⟨RX12, "reads", "(II)V"⟩
abbrev cX12_secondsTo : ByteArray := prog_14_method_67_code
def yX12_secondsTo : MethodName := ⟨RX12, "secondsTo", "(II)I"⟩
abbrev cX12_opens : ByteArray := prog_14_method_68_code
def yX12_opens : MethodName := ⟨RX12, "opens", "(III)I"⟩
abbrev cX12_bestFirst : ByteArray := prog_14_method_69_code
def yX12_bestFirst : MethodName := ⟨RX12, "bestFirst", "(III)I"⟩
abbrev cX12_tide : ByteArray := prog_14_method_70_code
def yX12_tide : MethodName := ⟨RX12, "tide", "(III)I"⟩
abbrev cX12_two : ByteArray := prog_14_method_71_code
def yX12_two : MethodName := ⟨RX12, "two", "(II)I"⟩
abbrev cX12_wrong : ByteArray := prog_14_method_72_code
def yX12_wrong : MethodName := ⟨RX12, "wrong", "(II)I"⟩
abbrev cX12_judge : ByteArray := prog_14_method_73_code
def yX12_judge : MethodName := ⟨RX12, "judge", "(II)I"⟩
abbrev cX12_ends : ByteArray := prog_14_method_74_code
def yX12_ends : MethodName := ⟨RX12, "ends", "(II)I"⟩
abbrev cX12_who : ByteArray := prog_14_method_75_code
def yX12_who : MethodName := ⟨RX12, "who", "(II)I"⟩
abbrev cX12_begun : ByteArray := prog_14_method_76_code
def yX12_begun : MethodName := ⟨RX12, "begun", "(III)I"⟩
abbrev cX12_drawn : ByteArray := prog_14_method_77_code
def yX12_drawn : MethodName := ⟨RX12, "drawn", "(IIII)I"⟩
abbrev cX12_mayBe : ByteArray := prog_14_method_78_code
def yX12_mayBe : MethodName := ⟨RX12, "mayBe", "(II)I"⟩
abbrev cX12_make : ByteArray := prog_14_method_79_code
def yX12_make : MethodName := ⟨RX12, "make", "(II)I"⟩
abbrev cX12_lay : ByteArray := prog_14_method_80_code
def yX12_lay : MethodName := ⟨RX12, "lay", "(I)I"⟩
abbrev cX12_led : ByteArray := prog_14_method_81_code
def yX12_led : MethodName := ⟨RX12, "led", "(I)I"⟩
abbrev cX12_image : ByteArray := prog_14_method_82_code
def yX12_image : MethodName := ⟨RX12, "image", "()I"⟩
abbrev cX12_back : ByteArray := prog_14_method_83_code
def yX12_back : MethodName := ⟨RX12, "back", "()I"⟩
abbrev cX12_above : ByteArray := prog_14_method_84_code
def yX12_above : MethodName := ⟨RX12, "above", "(I)I"⟩
abbrev cX12_ran : ByteArray := prog_14_method_85_code
def yX12_ran : MethodName := ⟨RX12, "ran", "(I)V"⟩
abbrev cX12_lies : ByteArray := prog_14_method_86_code
def yX12_lies : MethodName := ⟨RX12, "lies", "(III)I"⟩
abbrev cX12_folds : ByteArray := prog_14_method_87_code
def yX12_folds : MethodName := ⟨RX12, "folds", "(III)I"⟩
abbrev cX12_turns : ByteArray := prog_14_method_88_code
def yX12_turns : MethodName := ⟨RX12, "turns", "(III)I"⟩
abbrev cX12_tells : ByteArray := prog_14_method_89_code
def yX12_tells : MethodName := ⟨RX12, "tells", "(III)I"⟩
abbrev cX12_body : ByteArray := prog_14_method_90_code
def yX12_body : MethodName := ⟨RX12, "body", "(I)I"⟩
abbrev cX12_act : ByteArray := prog_14_method_91_code
def yX12_act : MethodName := ⟨RX12, "act", "(III)I"⟩
abbrev cX12_trace : ByteArray := prog_14_method_92_code
def yX12_trace : MethodName := ⟨RX12, "trace", "(I)I"⟩
abbrev cX12_keep : ByteArray := prog_14_method_93_code
def yX12_keep : MethodName := ⟨RX12, "keep", "(II)I"⟩
abbrev cX12_row : ByteArray := prog_14_method_94_code
def yX12_row : MethodName := ⟨RX12, "row", "(III)I"⟩
abbrev cX12_isRow : ByteArray := prog_14_method_95_code
def yX12_isRow : MethodName := ⟨RX12, "isRow", "(I)Z"⟩
abbrev cX12_kept : ByteArray := prog_14_method_96_code
def yX12_kept : MethodName := ⟨RX12, "kept", "(IJ)J"⟩
abbrev cX12_put : ByteArray := prog_14_method_97_code
def yX12_put : MethodName := ⟨RX12, "put", "(IIJ)I"⟩
abbrev cX12_element : ByteArray := prog_14_method_98_code
def yX12_element : MethodName := ⟨RX12, "element", "(II)J"⟩
abbrev cX12_shift : ByteArray := prog_14_method_99_code
def yX12_shift : MethodName := ⟨RX12, "shift", "(IIIII)I"⟩
abbrev cX12_taken : ByteArray := prog_14_method_100_code
def yX12_taken : MethodName := ⟨RX12, "taken", "(II)I"⟩
abbrev cX12_count : ByteArray := prog_14_method_101_code
def yX12_count : MethodName := ⟨RX12, "count", "(I)I"⟩
def RJ6 : String := "java/lang/Integer"
abbrev cJ6_bitCount_0f7a4 : ByteArray := prog_15_method_49_code
def yJ6_bitCount_0f7a4 : MethodName := ⟨RJ6, "bitCount", "(I)I"⟩
def RJ9 : String := "java/lang/Math"
abbrev cJ9_max_7cf53 : ByteArray := prog_16_method_65_code
def yJ9_max_7cf53 : MethodName := ⟨RJ9, "max", "(II)I"⟩
abbrev cJ9_min_7cf53 : ByteArray := prog_16_method_69_code
def yJ9_min_7cf53 : MethodName := ⟨RJ9, "min", "(II)I"⟩
def RJ10 : String := "java/lang/System"
def RL : String := "OpensLikeThatLaw"
abbrev cL_law : ByteArray := code
def yL_law : MethodName := ⟨RL, "law", "([I)Z"⟩
abbrev vwCl : List vw_C := [(RX0, TX0, 5), (RX1, TX1, 5), (RX2, TX2, 6), (RX3, TX3, 7), (RX4, TX4, 5), (RX5, TX5, 10), (RX6, TX6, 5), (RX7, TX7, 7), (RX8, TX8, 5), (RX9, TX9, 3), (RX10, TX10, 13), (RX11, TX11, 11), (RX12, TX12, 53)]
