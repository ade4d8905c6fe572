section
-- ===== PART A: goes FIRST, ahead of the names: the tables' words, and 'selects' of the private methods out of them =====
/-- a private method of a class that the tables say can be made, by its rows of tables_1 -/
def lw_okq (q : MethodName × Nat) : Prop := (q.1.cls ≠ "java/lang/invoke/MethodHandle" ∧ q.1.cls ≠ "java/lang/invoke/VarHandle") ∧ Cond.instantiable q.1.cls q.2 ∈ tables_1 ∧ Cond.privateMethod q.1 ∈ tables_1 ∧ Cond.instanceMethod q.1 ∈ tables_1
theorem lw_p0 : lw_okq (⟨"BeckTalk$Reader", "skipBlanks", "()V"⟩, 5) := ⟨⟨by decide +kernel, by decide +kernel⟩, List.mem_of_getElem? (i := 22) (by decide +kernel), List.mem_of_getElem? (i := 271) (by decide +kernel), List.mem_of_getElem? (i := 272) (by decide +kernel)⟩
theorem lw_p1 : lw_okq (⟨"BeckTalk$Reader", "readClause", "(LBeckTalk$Dale;)V"⟩, 5) := ⟨⟨by decide +kernel, by decide +kernel⟩, List.mem_of_getElem? (i := 22) (by decide +kernel), List.mem_of_getElem? (i := 278) (by decide +kernel), List.mem_of_getElem? (i := 279) (by decide +kernel)⟩
theorem lw_p2 : lw_okq (⟨"BeckTalk$Reader", "readBecks", "(LBeckTalk$Dale;)V"⟩, 5) := ⟨⟨by decide +kernel, by decide +kernel⟩, List.mem_of_getElem? (i := 22) (by decide +kernel), List.mem_of_getElem? (i := 282) (by decide +kernel), List.mem_of_getElem? (i := 283) (by decide +kernel)⟩
theorem lw_p3 : lw_okq (⟨"BeckTalk$Reader", "readNumber", "(II)I"⟩, 5) := ⟨⟨by decide +kernel, by decide +kernel⟩, List.mem_of_getElem? (i := 22) (by decide +kernel), List.mem_of_getElem? (i := 286) (by decide +kernel), List.mem_of_getElem? (i := 287) (by decide +kernel)⟩
theorem lw_p4 : lw_okq (⟨"BeckTalk$Reader", "mark", "(II)V"⟩, 5) := ⟨⟨by decide +kernel, by decide +kernel⟩, List.mem_of_getElem? (i := 22) (by decide +kernel), List.mem_of_getElem? (i := 293) (by decide +kernel), List.mem_of_getElem? (i := 294) (by decide +kernel)⟩
theorem lw_p5 : lw_okq (⟨"BeckTalk$Reader", "readEnd", "()V"⟩, 5) := ⟨⟨by decide +kernel, by decide +kernel⟩, List.mem_of_getElem? (i := 22) (by decide +kernel), List.mem_of_getElem? (i := 297) (by decide +kernel), List.mem_of_getElem? (i := 298) (by decide +kernel)⟩
theorem lw_p6 : lw_okq (⟨"BeckTalk$Reader", "readFarm", "(LBeckTalk$Dale;)V"⟩, 5) := ⟨⟨by decide +kernel, by decide +kernel⟩, List.mem_of_getElem? (i := 22) (by decide +kernel), List.mem_of_getElem? (i := 306) (by decide +kernel), List.mem_of_getElem? (i := 307) (by decide +kernel)⟩
theorem lw_p7 : lw_okq (⟨"BeckTalk", "loudest", "()I"⟩, 12) := ⟨⟨by decide +kernel, by decide +kernel⟩, List.mem_of_getElem? (i := 14) (by decide +kernel), List.mem_of_getElem? (i := 323) (by decide +kernel), List.mem_of_getElem? (i := 324) (by decide +kernel)⟩
theorem lw_p8 : lw_okq (⟨"BeckTalk", "bottom", "()I"⟩, 12) := ⟨⟨by decide +kernel, by decide +kernel⟩, List.mem_of_getElem? (i := 14) (by decide +kernel), List.mem_of_getElem? (i := 328) (by decide +kernel), List.mem_of_getElem? (i := 329) (by decide +kernel)⟩
theorem lw_p9 : lw_okq (⟨"BeckTalk", "upOf", "(I)I"⟩, 12) := ⟨⟨by decide +kernel, by decide +kernel⟩, List.mem_of_getElem? (i := 14) (by decide +kernel), List.mem_of_getElem? (i := 332) (by decide +kernel), List.mem_of_getElem? (i := 333) (by decide +kernel)⟩
theorem lw_p10 : lw_okq (⟨"BeckTalk", "downOf", "(I)I"⟩, 12) := ⟨⟨by decide +kernel, by decide +kernel⟩, List.mem_of_getElem? (i := 14) (by decide +kernel), List.mem_of_getElem? (i := 336) (by decide +kernel), List.mem_of_getElem? (i := 337) (by decide +kernel)⟩
theorem lw_p11 : lw_okq (⟨"BeckTalk", "even", "()I"⟩, 12) := ⟨⟨by decide +kernel, by decide +kernel⟩, List.mem_of_getElem? (i := 14) (by decide +kernel), List.mem_of_getElem? (i := 354) (by decide +kernel), List.mem_of_getElem? (i := 355) (by decide +kernel)⟩
theorem lw_p12 : lw_okq (⟨"BeckTalk", "leavesAllAlone", "(I)Z"⟩, 12) := ⟨⟨by decide +kernel, by decide +kernel⟩, List.mem_of_getElem? (i := 14) (by decide +kernel), List.mem_of_getElem? (i := 358) (by decide +kernel), List.mem_of_getElem? (i := 359) (by decide +kernel)⟩
theorem lw_p13 : lw_okq (⟨"BeckTalk", "wordAt", "(III)I"⟩, 12) := ⟨⟨by decide +kernel, by decide +kernel⟩, List.mem_of_getElem? (i := 14) (by decide +kernel), List.mem_of_getElem? (i := 362) (by decide +kernel), List.mem_of_getElem? (i := 363) (by decide +kernel)⟩
theorem lw_p14 : lw_okq (⟨"BeckTalk", "longest", "()I"⟩, 12) := ⟨⟨by decide +kernel, by decide +kernel⟩, List.mem_of_getElem? (i := 14) (by decide +kernel), List.mem_of_getElem? (i := 374) (by decide +kernel), List.mem_of_getElem? (i := 375) (by decide +kernel)⟩
theorem lw_p15 : lw_okq (⟨"BeckTalk", "hoursTo", "(II)I"⟩, 12) := ⟨⟨by decide +kernel, by decide +kernel⟩, List.mem_of_getElem? (i := 14) (by decide +kernel), List.mem_of_getElem? (i := 378) (by decide +kernel), List.mem_of_getElem? (i := 379) (by decide +kernel)⟩
def lw_privs_1 : List (MethodName × Nat) := [(⟨"BeckTalk$Reader", "skipBlanks", "()V"⟩, 5), (⟨"BeckTalk$Reader", "readClause", "(LBeckTalk$Dale;)V"⟩, 5), (⟨"BeckTalk$Reader", "readBecks", "(LBeckTalk$Dale;)V"⟩, 5), (⟨"BeckTalk$Reader", "readNumber", "(II)I"⟩, 5), (⟨"BeckTalk$Reader", "mark", "(II)V"⟩, 5), (⟨"BeckTalk$Reader", "readEnd", "()V"⟩, 5), (⟨"BeckTalk$Reader", "readFarm", "(LBeckTalk$Dale;)V"⟩, 5), (⟨"BeckTalk", "loudest", "()I"⟩, 12), (⟨"BeckTalk", "bottom", "()I"⟩, 12), (⟨"BeckTalk", "upOf", "(I)I"⟩, 12), (⟨"BeckTalk", "downOf", "(I)I"⟩, 12), (⟨"BeckTalk", "even", "()I"⟩, 12), (⟨"BeckTalk", "leavesAllAlone", "(I)Z"⟩, 12), (⟨"BeckTalk", "wordAt", "(III)I"⟩, 12), (⟨"BeckTalk", "longest", "()I"⟩, 12), (⟨"BeckTalk", "hoursTo", "(II)I"⟩, 12)]
theorem lw_r1 : ∀ q ∈ lw_privs_1, lw_okq q := List.forall_mem_cons.mpr ⟨lw_p0, List.forall_mem_cons.mpr ⟨lw_p1, List.forall_mem_cons.mpr ⟨lw_p2, List.forall_mem_cons.mpr ⟨lw_p3, List.forall_mem_cons.mpr ⟨lw_p4, List.forall_mem_cons.mpr ⟨lw_p5, List.forall_mem_cons.mpr ⟨lw_p6, List.forall_mem_cons.mpr ⟨lw_p7, List.forall_mem_cons.mpr ⟨lw_p8, List.forall_mem_cons.mpr ⟨lw_p9, List.forall_mem_cons.mpr ⟨lw_p10, List.forall_mem_cons.mpr ⟨lw_p11, List.forall_mem_cons.mpr ⟨lw_p12, List.forall_mem_cons.mpr ⟨lw_p13, List.forall_mem_cons.mpr ⟨lw_p14, List.forall_mem_cons.mpr ⟨lw_p15, fun _ h => absurd h List.not_mem_nil⟩⟩⟩⟩⟩⟩⟩⟩⟩⟩⟩⟩⟩⟩⟩⟩
theorem lw_p16 : lw_okq (⟨"BeckTalk", "isFarm", "(I)Z"⟩, 12) := ⟨⟨by decide +kernel, by decide +kernel⟩, List.mem_of_getElem? (i := 14) (by decide +kernel), List.mem_of_getElem? (i := 391) (by decide +kernel), List.mem_of_getElem? (i := 392) (by decide +kernel)⟩
theorem lw_p17 : lw_okq (⟨"BeckTalk", "isTalk", "(I)Z"⟩, 12) := ⟨⟨by decide +kernel, by decide +kernel⟩, List.mem_of_getElem? (i := 14) (by decide +kernel), List.mem_of_getElem? (i := 400) (by decide +kernel), List.mem_of_getElem? (i := 401) (by decide +kernel)⟩
theorem lw_p18 : lw_okq (⟨"BeckTalk", "hoursRefused", "(I)I"⟩, 12) := ⟨⟨by decide +kernel, by decide +kernel⟩, List.mem_of_getElem? (i := 14) (by decide +kernel), List.mem_of_getElem? (i := 420) (by decide +kernel), List.mem_of_getElem? (i := 421) (by decide +kernel)⟩
theorem lw_p19 : lw_okq (⟨"BeckTalk$Past", "world", "(I)LBeckTalk$World;"⟩, 3) := ⟨⟨by decide +kernel, by decide +kernel⟩, List.mem_of_getElem? (i := 146) (by decide +kernel), List.mem_of_getElem? (i := 429) (by decide +kernel), List.mem_of_getElem? (i := 430) (by decide +kernel)⟩
theorem lw_p20 : lw_okq (⟨"BeckTalk$World", "carryAll", "(LBeckTalk$Dale;)V"⟩, 13) := ⟨⟨by decide +kernel, by decide +kernel⟩, List.mem_of_getElem? (i := 90) (by decide +kernel), List.mem_of_getElem? (i := 448) (by decide +kernel), List.mem_of_getElem? (i := 449) (by decide +kernel)⟩
theorem lw_p21 : lw_okq (⟨"BeckTalk$World", "hears", "(III)V"⟩, 13) := ⟨⟨by decide +kernel, by decide +kernel⟩, List.mem_of_getElem? (i := 90) (by decide +kernel), List.mem_of_getElem? (i := 454) (by decide +kernel), List.mem_of_getElem? (i := 455) (by decide +kernel)⟩
theorem lw_p22 : lw_okq (⟨"BeckTalk$World", "placeTalk", "(IIIII)V"⟩, 13) := ⟨⟨by decide +kernel, by decide +kernel⟩, List.mem_of_getElem? (i := 90) (by decide +kernel), List.mem_of_getElem? (i := 463) (by decide +kernel), List.mem_of_getElem? (i := 464) (by decide +kernel)⟩
theorem lw_p23 : lw_okq (⟨"BeckTalk", "isWord", "(I)Z"⟩, 12) := ⟨⟨by decide +kernel, by decide +kernel⟩, List.mem_of_getElem? (i := 14) (by decide +kernel), List.mem_of_getElem? (i := 472) (by decide +kernel), List.mem_of_getElem? (i := 473) (by decide +kernel)⟩
theorem lw_p24 : lw_okq (⟨"BeckTalk$World", "moveTalk", "(II)V"⟩, 13) := ⟨⟨by decide +kernel, by decide +kernel⟩, List.mem_of_getElem? (i := 90) (by decide +kernel), List.mem_of_getElem? (i := 504) (by decide +kernel), List.mem_of_getElem? (i := 505) (by decide +kernel)⟩
theorem lw_p25 : lw_okq (⟨"BeckTalk", "befall", "()V"⟩, 12) := ⟨⟨by decide +kernel, by decide +kernel⟩, List.mem_of_getElem? (i := 14) (by decide +kernel), List.mem_of_getElem? (i := 512) (by decide +kernel), List.mem_of_getElem? (i := 513) (by decide +kernel)⟩
theorem lw_p26 : lw_okq (⟨"BeckTalk", "draw", "(I)I"⟩, 12) := ⟨⟨by decide +kernel, by decide +kernel⟩, List.mem_of_getElem? (i := 14) (by decide +kernel), List.mem_of_getElem? (i := 516) (by decide +kernel), List.mem_of_getElem? (i := 517) (by decide +kernel)⟩
theorem lw_p27 : lw_okq (⟨"BeckTalk", "befallTalk", "()V"⟩, 12) := ⟨⟨by decide +kernel, by decide +kernel⟩, List.mem_of_getElem? (i := 14) (by decide +kernel), List.mem_of_getElem? (i := 524) (by decide +kernel), List.mem_of_getElem? (i := 525) (by decide +kernel)⟩
theorem lw_p28 : lw_okq (⟨"BeckTalk", "wordsFor", "(III)I"⟩, 12) := ⟨⟨by decide +kernel, by decide +kernel⟩, List.mem_of_getElem? (i := 14) (by decide +kernel), List.mem_of_getElem? (i := 557) (by decide +kernel), List.mem_of_getElem? (i := 558) (by decide +kernel)⟩
theorem lw_p29 : lw_okq (⟨"BeckTalk", "areFarms", "(I)Z"⟩, 12) := ⟨⟨by decide +kernel, by decide +kernel⟩, List.mem_of_getElem? (i := 14) (by decide +kernel), List.mem_of_getElem? (i := 569) (by decide +kernel), List.mem_of_getElem? (i := 570) (by decide +kernel)⟩
theorem lw_p30 : lw_okq (⟨"BeckTalk", "fewestDams", "(II)I"⟩, 12) := ⟨⟨by decide +kernel, by decide +kernel⟩, List.mem_of_getElem? (i := 14) (by decide +kernel), List.mem_of_getElem? (i := 577) (by decide +kernel), List.mem_of_getElem? (i := 578) (by decide +kernel)⟩
theorem lw_p31 : lw_okq (⟨"BeckTalk$Guess", "fits", "(II)Z"⟩, 4) := ⟨⟨by decide +kernel, by decide +kernel⟩, List.mem_of_getElem? (i := 166) (by decide +kernel), List.mem_of_getElem? (i := 617) (by decide +kernel), List.mem_of_getElem? (i := 618) (by decide +kernel)⟩
def lw_privs_2 : List (MethodName × Nat) := [(⟨"BeckTalk", "isFarm", "(I)Z"⟩, 12), (⟨"BeckTalk", "isTalk", "(I)Z"⟩, 12), (⟨"BeckTalk", "hoursRefused", "(I)I"⟩, 12), (⟨"BeckTalk$Past", "world", "(I)LBeckTalk$World;"⟩, 3), (⟨"BeckTalk$World", "carryAll", "(LBeckTalk$Dale;)V"⟩, 13), (⟨"BeckTalk$World", "hears", "(III)V"⟩, 13), (⟨"BeckTalk$World", "placeTalk", "(IIIII)V"⟩, 13), (⟨"BeckTalk", "isWord", "(I)Z"⟩, 12), (⟨"BeckTalk$World", "moveTalk", "(II)V"⟩, 13), (⟨"BeckTalk", "befall", "()V"⟩, 12), (⟨"BeckTalk", "draw", "(I)I"⟩, 12), (⟨"BeckTalk", "befallTalk", "()V"⟩, 12), (⟨"BeckTalk", "wordsFor", "(III)I"⟩, 12), (⟨"BeckTalk", "areFarms", "(I)Z"⟩, 12), (⟨"BeckTalk", "fewestDams", "(II)I"⟩, 12), (⟨"BeckTalk$Guess", "fits", "(II)Z"⟩, 4)]
theorem lw_r2 : ∀ q ∈ lw_privs_2, lw_okq q := List.forall_mem_cons.mpr ⟨lw_p16, List.forall_mem_cons.mpr ⟨lw_p17, List.forall_mem_cons.mpr ⟨lw_p18, List.forall_mem_cons.mpr ⟨lw_p19, List.forall_mem_cons.mpr ⟨lw_p20, List.forall_mem_cons.mpr ⟨lw_p21, List.forall_mem_cons.mpr ⟨lw_p22, List.forall_mem_cons.mpr ⟨lw_p23, List.forall_mem_cons.mpr ⟨lw_p24, List.forall_mem_cons.mpr ⟨lw_p25, List.forall_mem_cons.mpr ⟨lw_p26, List.forall_mem_cons.mpr ⟨lw_p27, List.forall_mem_cons.mpr ⟨lw_p28, List.forall_mem_cons.mpr ⟨lw_p29, List.forall_mem_cons.mpr ⟨lw_p30, List.forall_mem_cons.mpr ⟨lw_p31, fun _ h => absurd h List.not_mem_nil⟩⟩⟩⟩⟩⟩⟩⟩⟩⟩⟩⟩⟩⟩⟩⟩
theorem lw_p32 : lw_okq (⟨"BeckTalk$Guess", "greatestPart", "(II)I"⟩, 4) := ⟨⟨by decide +kernel, by decide +kernel⟩, List.mem_of_getElem? (i := 166) (by decide +kernel), List.mem_of_getElem? (i := 639) (by decide +kernel), List.mem_of_getElem? (i := 640) (by decide +kernel)⟩
theorem lw_p33 : lw_okq (⟨"BeckTalk", "image", "(I)LBeckTalk$World;"⟩, 12) := ⟨⟨by decide +kernel, by decide +kernel⟩, List.mem_of_getElem? (i := 14) (by decide +kernel), List.mem_of_getElem? (i := 677) (by decide +kernel), List.mem_of_getElem? (i := 678) (by decide +kernel)⟩
theorem lw_p34 : lw_okq (⟨"BeckTalkModel", "emptyAll", "()V"⟩, 36) := ⟨⟨by decide +kernel, by decide +kernel⟩, List.mem_of_getElem? (i := 685) (by decide +kernel), List.mem_of_getElem? (i := 691) (by decide +kernel), List.mem_of_getElem? (i := 692) (by decide +kernel)⟩
theorem lw_p35 : lw_okq (⟨"BeckTalkModel", "here", "()I"⟩, 36) := ⟨⟨by decide +kernel, by decide +kernel⟩, List.mem_of_getElem? (i := 685) (by decide +kernel), List.mem_of_getElem? (i := 819) (by decide +kernel), List.mem_of_getElem? (i := 820) (by decide +kernel)⟩
theorem lw_p36 : lw_okq (⟨"BeckTalkModel", "takeClause", "()I"⟩, 36) := ⟨⟨by decide +kernel, by decide +kernel⟩, List.mem_of_getElem? (i := 685) (by decide +kernel), List.mem_of_getElem? (i := 823) (by decide +kernel), List.mem_of_getElem? (i := 824) (by decide +kernel)⟩
theorem lw_p37 : lw_okq (⟨"BeckTalkModel", "fails", "(II)I"⟩, 36) := ⟨⟨by decide +kernel, by decide +kernel⟩, List.mem_of_getElem? (i := 685) (by decide +kernel), List.mem_of_getElem? (i := 827) (by decide +kernel), List.mem_of_getElem? (i := 828) (by decide +kernel)⟩
theorem lw_p38 : lw_okq (⟨"BeckTalkModel", "takeBeck", "()I"⟩, 36) := ⟨⟨by decide +kernel, by decide +kernel⟩, List.mem_of_getElem? (i := 685) (by decide +kernel), List.mem_of_getElem? (i := 831) (by decide +kernel), List.mem_of_getElem? (i := 832) (by decide +kernel)⟩
theorem lw_p39 : lw_okq (⟨"BeckTalkModel", "takeNumber", "(II)I"⟩, 36) := ⟨⟨by decide +kernel, by decide +kernel⟩, List.mem_of_getElem? (i := 685) (by decide +kernel), List.mem_of_getElem? (i := 835) (by decide +kernel), List.mem_of_getElem? (i := 836) (by decide +kernel)⟩
theorem lw_p40 : lw_okq (⟨"BeckTalkModel", "takeFarm", "()I"⟩, 36) := ⟨⟨by decide +kernel, by decide +kernel⟩, List.mem_of_getElem? (i := 685) (by decide +kernel), List.mem_of_getElem? (i := 841) (by decide +kernel), List.mem_of_getElem? (i := 842) (by decide +kernel)⟩
theorem lw_p41 : lw_okq (⟨"BeckTalkModel", "into", "([IIII)I"⟩, 36) := ⟨⟨by decide +kernel, by decide +kernel⟩, List.mem_of_getElem? (i := 685) (by decide +kernel), List.mem_of_getElem? (i := 845) (by decide +kernel), List.mem_of_getElem? (i := 846) (by decide +kernel)⟩
theorem lw_p42 : lw_okq (⟨"BeckTalkModel", "takeRead", "()V"⟩, 36) := ⟨⟨by decide +kernel, by decide +kernel⟩, List.mem_of_getElem? (i := 685) (by decide +kernel), List.mem_of_getElem? (i := 849) (by decide +kernel), List.mem_of_getElem? (i := 850) (by decide +kernel)⟩
theorem lw_p43 : lw_okq (⟨"BeckTalkModel", "loudest", "()I"⟩, 36) := ⟨⟨by decide +kernel, by decide +kernel⟩, List.mem_of_getElem? (i := 685) (by decide +kernel), List.mem_of_getElem? (i := 861) (by decide +kernel), List.mem_of_getElem? (i := 862) (by decide +kernel)⟩
theorem lw_p44 : lw_okq (⟨"BeckTalkModel", "bottom", "()I"⟩, 36) := ⟨⟨by decide +kernel, by decide +kernel⟩, List.mem_of_getElem? (i := 685) (by decide +kernel), List.mem_of_getElem? (i := 865) (by decide +kernel), List.mem_of_getElem? (i := 866) (by decide +kernel)⟩
theorem lw_p45 : lw_okq (⟨"BeckTalkModel", "upOf", "(I)I"⟩, 36) := ⟨⟨by decide +kernel, by decide +kernel⟩, List.mem_of_getElem? (i := 685) (by decide +kernel), List.mem_of_getElem? (i := 869) (by decide +kernel), List.mem_of_getElem? (i := 870) (by decide +kernel)⟩
theorem lw_p46 : lw_okq (⟨"BeckTalkModel", "downOf", "(I)I"⟩, 36) := ⟨⟨by decide +kernel, by decide +kernel⟩, List.mem_of_getElem? (i := 685) (by decide +kernel), List.mem_of_getElem? (i := 873) (by decide +kernel), List.mem_of_getElem? (i := 874) (by decide +kernel)⟩
theorem lw_p47 : lw_okq (⟨"BeckTalkModel", "stopsAt", "(I)Z"⟩, 36) := ⟨⟨by decide +kernel, by decide +kernel⟩, List.mem_of_getElem? (i := 685) (by decide +kernel), List.mem_of_getElem? (i := 877) (by decide +kernel), List.mem_of_getElem? (i := 878) (by decide +kernel)⟩
def lw_privs_3 : List (MethodName × Nat) := [(⟨"BeckTalk$Guess", "greatestPart", "(II)I"⟩, 4), (⟨"BeckTalk", "image", "(I)LBeckTalk$World;"⟩, 12), (⟨"BeckTalkModel", "emptyAll", "()V"⟩, 36), (⟨"BeckTalkModel", "here", "()I"⟩, 36), (⟨"BeckTalkModel", "takeClause", "()I"⟩, 36), (⟨"BeckTalkModel", "fails", "(II)I"⟩, 36), (⟨"BeckTalkModel", "takeBeck", "()I"⟩, 36), (⟨"BeckTalkModel", "takeNumber", "(II)I"⟩, 36), (⟨"BeckTalkModel", "takeFarm", "()I"⟩, 36), (⟨"BeckTalkModel", "into", "([IIII)I"⟩, 36), (⟨"BeckTalkModel", "takeRead", "()V"⟩, 36), (⟨"BeckTalkModel", "loudest", "()I"⟩, 36), (⟨"BeckTalkModel", "bottom", "()I"⟩, 36), (⟨"BeckTalkModel", "upOf", "(I)I"⟩, 36), (⟨"BeckTalkModel", "downOf", "(I)I"⟩, 36), (⟨"BeckTalkModel", "stopsAt", "(I)Z"⟩, 36)]
theorem lw_r3 : ∀ q ∈ lw_privs_3, lw_okq q := List.forall_mem_cons.mpr ⟨lw_p32, List.forall_mem_cons.mpr ⟨lw_p33, List.forall_mem_cons.mpr ⟨lw_p34, List.forall_mem_cons.mpr ⟨lw_p35, List.forall_mem_cons.mpr ⟨lw_p36, List.forall_mem_cons.mpr ⟨lw_p37, List.forall_mem_cons.mpr ⟨lw_p38, List.forall_mem_cons.mpr ⟨lw_p39, List.forall_mem_cons.mpr ⟨lw_p40, List.forall_mem_cons.mpr ⟨lw_p41, List.forall_mem_cons.mpr ⟨lw_p42, List.forall_mem_cons.mpr ⟨lw_p43, List.forall_mem_cons.mpr ⟨lw_p44, List.forall_mem_cons.mpr ⟨lw_p45, List.forall_mem_cons.mpr ⟨lw_p46, List.forall_mem_cons.mpr ⟨lw_p47, fun _ h => absurd h List.not_mem_nil⟩⟩⟩⟩⟩⟩⟩⟩⟩⟩⟩⟩⟩⟩⟩⟩
theorem lw_p48 : lw_okq (⟨"BeckTalkModel", "even", "()I"⟩, 36) := ⟨⟨by decide +kernel, by decide +kernel⟩, List.mem_of_getElem? (i := 685) (by decide +kernel), List.mem_of_getElem? (i := 887) (by decide +kernel), List.mem_of_getElem? (i := 888) (by decide +kernel)⟩
theorem lw_p49 : lw_okq (⟨"BeckTalkModel", "wordAt", "(III)I"⟩, 36) := ⟨⟨by decide +kernel, by decide +kernel⟩, List.mem_of_getElem? (i := 685) (by decide +kernel), List.mem_of_getElem? (i := 891) (by decide +kernel), List.mem_of_getElem? (i := 892) (by decide +kernel)⟩
theorem lw_p50 : lw_okq (⟨"BeckTalkModel", "overFall", "(II)I"⟩, 36) := ⟨⟨by decide +kernel, by decide +kernel⟩, List.mem_of_getElem? (i := 685) (by decide +kernel), List.mem_of_getElem? (i := 895) (by decide +kernel), List.mem_of_getElem? (i := 896) (by decide +kernel)⟩
theorem lw_p51 : lw_okq (⟨"BeckTalkModel", "garbleBy", "(III)I"⟩, 36) := ⟨⟨by decide +kernel, by decide +kernel⟩, List.mem_of_getElem? (i := 685) (by decide +kernel), List.mem_of_getElem? (i := 899) (by decide +kernel), List.mem_of_getElem? (i := 900) (by decide +kernel)⟩
theorem lw_p52 : lw_okq (⟨"BeckTalkModel", "longest", "()I"⟩, 36) := ⟨⟨by decide +kernel, by decide +kernel⟩, List.mem_of_getElem? (i := 685) (by decide +kernel), List.mem_of_getElem? (i := 903) (by decide +kernel), List.mem_of_getElem? (i := 904) (by decide +kernel)⟩
theorem lw_p53 : lw_okq (⟨"BeckTalkModel", "hoursTo", "(II)I"⟩, 36) := ⟨⟨by decide +kernel, by decide +kernel⟩, List.mem_of_getElem? (i := 685) (by decide +kernel), List.mem_of_getElem? (i := 907) (by decide +kernel), List.mem_of_getElem? (i := 908) (by decide +kernel)⟩
theorem lw_p54 : lw_okq (⟨"BeckTalkModel", "isFarm", "(I)Z"⟩, 36) := ⟨⟨by decide +kernel, by decide +kernel⟩, List.mem_of_getElem? (i := 685) (by decide +kernel), List.mem_of_getElem? (i := 915) (by decide +kernel), List.mem_of_getElem? (i := 916) (by decide +kernel)⟩
theorem lw_p55 : lw_okq (⟨"BeckTalkModel", "wordOf", "(I)I"⟩, 36) := ⟨⟨by decide +kernel, by decide +kernel⟩, List.mem_of_getElem? (i := 685) (by decide +kernel), List.mem_of_getElem? (i := 924) (by decide +kernel), List.mem_of_getElem? (i := 925) (by decide +kernel)⟩
theorem lw_p56 : lw_okq (⟨"BeckTalkModel", "goesFrom", "(I)I"⟩, 36) := ⟨⟨by decide +kernel, by decide +kernel⟩, List.mem_of_getElem? (i := 685) (by decide +kernel), List.mem_of_getElem? (i := 928) (by decide +kernel), List.mem_of_getElem? (i := 929) (by decide +kernel)⟩
theorem lw_p57 : lw_okq (⟨"BeckTalkModel", "toGo", "(I)I"⟩, 36) := ⟨⟨by decide +kernel, by decide +kernel⟩, List.mem_of_getElem? (i := 685) (by decide +kernel), List.mem_of_getElem? (i := 932) (by decide +kernel), List.mem_of_getElem? (i := 933) (by decide +kernel)⟩
theorem lw_p58 : lw_okq (⟨"BeckTalkModel", "saidAt", "(I)I"⟩, 36) := ⟨⟨by decide +kernel, by decide +kernel⟩, List.mem_of_getElem? (i := 685) (by decide +kernel), List.mem_of_getElem? (i := 936) (by decide +kernel), List.mem_of_getElem? (i := 937) (by decide +kernel)⟩
theorem lw_p59 : lw_okq (⟨"BeckTalkModel", "hoursRefused", "(I)I"⟩, 36) := ⟨⟨by decide +kernel, by decide +kernel⟩, List.mem_of_getElem? (i := 685) (by decide +kernel), List.mem_of_getElem? (i := 949) (by decide +kernel), List.mem_of_getElem? (i := 950) (by decide +kernel)⟩
theorem lw_p60 : lw_okq (⟨"BeckTalkModel", "remember", "()V"⟩, 36) := ⟨⟨by decide +kernel, by decide +kernel⟩, List.mem_of_getElem? (i := 685) (by decide +kernel), List.mem_of_getElem? (i := 955) (by decide +kernel), List.mem_of_getElem? (i := 956) (by decide +kernel)⟩
theorem lw_p61 : lw_okq (⟨"BeckTalkModel", "pass", "()V"⟩, 36) := ⟨⟨by decide +kernel, by decide +kernel⟩, List.mem_of_getElem? (i := 685) (by decide +kernel), List.mem_of_getElem? (i := 959) (by decide +kernel), List.mem_of_getElem? (i := 960) (by decide +kernel)⟩
theorem lw_p62 : lw_okq (⟨"BeckTalkModel", "goAll", "()V"⟩, 36) := ⟨⟨by decide +kernel, by decide +kernel⟩, List.mem_of_getElem? (i := 685) (by decide +kernel), List.mem_of_getElem? (i := 963) (by decide +kernel), List.mem_of_getElem? (i := 964) (by decide +kernel)⟩
theorem lw_p63 : lw_okq (⟨"BeckTalkModel", "go", "(I)Z"⟩, 36) := ⟨⟨by decide +kernel, by decide +kernel⟩, List.mem_of_getElem? (i := 685) (by decide +kernel), List.mem_of_getElem? (i := 967) (by decide +kernel), List.mem_of_getElem? (i := 968) (by decide +kernel)⟩
def lw_privs_4 : List (MethodName × Nat) := [(⟨"BeckTalkModel", "even", "()I"⟩, 36), (⟨"BeckTalkModel", "wordAt", "(III)I"⟩, 36), (⟨"BeckTalkModel", "overFall", "(II)I"⟩, 36), (⟨"BeckTalkModel", "garbleBy", "(III)I"⟩, 36), (⟨"BeckTalkModel", "longest", "()I"⟩, 36), (⟨"BeckTalkModel", "hoursTo", "(II)I"⟩, 36), (⟨"BeckTalkModel", "isFarm", "(I)Z"⟩, 36), (⟨"BeckTalkModel", "wordOf", "(I)I"⟩, 36), (⟨"BeckTalkModel", "goesFrom", "(I)I"⟩, 36), (⟨"BeckTalkModel", "toGo", "(I)I"⟩, 36), (⟨"BeckTalkModel", "saidAt", "(I)I"⟩, 36), (⟨"BeckTalkModel", "hoursRefused", "(I)I"⟩, 36), (⟨"BeckTalkModel", "remember", "()V"⟩, 36), (⟨"BeckTalkModel", "pass", "()V"⟩, 36), (⟨"BeckTalkModel", "goAll", "()V"⟩, 36), (⟨"BeckTalkModel", "go", "(I)Z"⟩, 36)]
theorem lw_r4 : ∀ q ∈ lw_privs_4, lw_okq q := List.forall_mem_cons.mpr ⟨lw_p48, List.forall_mem_cons.mpr ⟨lw_p49, List.forall_mem_cons.mpr ⟨lw_p50, List.forall_mem_cons.mpr ⟨lw_p51, List.forall_mem_cons.mpr ⟨lw_p52, List.forall_mem_cons.mpr ⟨lw_p53, List.forall_mem_cons.mpr ⟨lw_p54, List.forall_mem_cons.mpr ⟨lw_p55, List.forall_mem_cons.mpr ⟨lw_p56, List.forall_mem_cons.mpr ⟨lw_p57, List.forall_mem_cons.mpr ⟨lw_p58, List.forall_mem_cons.mpr ⟨lw_p59, List.forall_mem_cons.mpr ⟨lw_p60, List.forall_mem_cons.mpr ⟨lw_p61, List.forall_mem_cons.mpr ⟨lw_p62, List.forall_mem_cons.mpr ⟨lw_p63, fun _ h => absurd h List.not_mem_nil⟩⟩⟩⟩⟩⟩⟩⟩⟩⟩⟩⟩⟩⟩⟩⟩
theorem lw_p64 : lw_okq (⟨"BeckTalkModel", "hears", "(III)V"⟩, 36) := ⟨⟨by decide +kernel, by decide +kernel⟩, List.mem_of_getElem? (i := 685) (by decide +kernel), List.mem_of_getElem? (i := 974) (by decide +kernel), List.mem_of_getElem? (i := 975) (by decide +kernel)⟩
theorem lw_p65 : lw_okq (⟨"BeckTalkModel", "takeOff", "(I)V"⟩, 36) := ⟨⟨by decide +kernel, by decide +kernel⟩, List.mem_of_getElem? (i := 685) (by decide +kernel), List.mem_of_getElem? (i := 979) (by decide +kernel), List.mem_of_getElem? (i := 980) (by decide +kernel)⟩
theorem lw_p66 : lw_okq (⟨"BeckTalkModel", "isWord", "(I)Z"⟩, 36) := ⟨⟨by decide +kernel, by decide +kernel⟩, List.mem_of_getElem? (i := 685) (by decide +kernel), List.mem_of_getElem? (i := 987) (by decide +kernel), List.mem_of_getElem? (i := 988) (by decide +kernel)⟩
theorem lw_p67 : lw_okq (⟨"BeckTalkModel", "sayNow", "(II)V"⟩, 36) := ⟨⟨by decide +kernel, by decide +kernel⟩, List.mem_of_getElem? (i := 685) (by decide +kernel), List.mem_of_getElem? (i := 991) (by decide +kernel), List.mem_of_getElem? (i := 992) (by decide +kernel)⟩
theorem lw_p68 : lw_okq (⟨"BeckTalkModel", "chance", "()V"⟩, 36) := ⟨⟨by decide +kernel, by decide +kernel⟩, List.mem_of_getElem? (i := 685) (by decide +kernel), List.mem_of_getElem? (i := 1020) (by decide +kernel), List.mem_of_getElem? (i := 1021) (by decide +kernel)⟩
theorem lw_p69 : lw_okq (⟨"BeckTalkModel", "draw", "(I)I"⟩, 36) := ⟨⟨by decide +kernel, by decide +kernel⟩, List.mem_of_getElem? (i := 685) (by decide +kernel), List.mem_of_getElem? (i := 1024) (by decide +kernel), List.mem_of_getElem? (i := 1025) (by decide +kernel)⟩
theorem lw_p70 : lw_okq (⟨"BeckTalkModel", "wordsFor", "(III)I"⟩, 36) := ⟨⟨by decide +kernel, by decide +kernel⟩, List.mem_of_getElem? (i := 685) (by decide +kernel), List.mem_of_getElem? (i := 1056) (by decide +kernel), List.mem_of_getElem? (i := 1057) (by decide +kernel)⟩
theorem lw_p71 : lw_okq (⟨"BeckTalkModel", "isSet", "(I)Z"⟩, 36) := ⟨⟨by decide +kernel, by decide +kernel⟩, List.mem_of_getElem? (i := 685) (by decide +kernel), List.mem_of_getElem? (i := 1068) (by decide +kernel), List.mem_of_getElem? (i := 1069) (by decide +kernel)⟩
theorem lw_p72 : lw_okq (⟨"BeckTalkModel", "keepBefore", "()V"⟩, 36) := ⟨⟨by decide +kernel, by decide +kernel⟩, List.mem_of_getElem? (i := 685) (by decide +kernel), List.mem_of_getElem? (i := 1081) (by decide +kernel), List.mem_of_getElem? (i := 1082) (by decide +kernel)⟩
theorem lw_p73 : lw_okq (⟨"BeckTalkModel", "putBack", "()V"⟩, 36) := ⟨⟨by decide +kernel, by decide +kernel⟩, List.mem_of_getElem? (i := 685) (by decide +kernel), List.mem_of_getElem? (i := 1085) (by decide +kernel), List.mem_of_getElem? (i := 1086) (by decide +kernel)⟩
theorem lw_p74 : lw_okq (⟨"BeckTalkModel", "couldFall", "(I)Z"⟩, 36) := ⟨⟨by decide +kernel, by decide +kernel⟩, List.mem_of_getElem? (i := 685) (by decide +kernel), List.mem_of_getElem? (i := 1106) (by decide +kernel), List.mem_of_getElem? (i := 1107) (by decide +kernel)⟩
theorem lw_p75 : lw_okq (⟨"BeckTalkModel", "greatestPart", "(I)I"⟩, 36) := ⟨⟨by decide +kernel, by decide +kernel⟩, List.mem_of_getElem? (i := 685) (by decide +kernel), List.mem_of_getElem? (i := 1115) (by decide +kernel), List.mem_of_getElem? (i := 1116) (by decide +kernel)⟩
def lw_privs_5 : List (MethodName × Nat) := [(⟨"BeckTalkModel", "hears", "(III)V"⟩, 36), (⟨"BeckTalkModel", "takeOff", "(I)V"⟩, 36), (⟨"BeckTalkModel", "isWord", "(I)Z"⟩, 36), (⟨"BeckTalkModel", "sayNow", "(II)V"⟩, 36), (⟨"BeckTalkModel", "chance", "()V"⟩, 36), (⟨"BeckTalkModel", "draw", "(I)I"⟩, 36), (⟨"BeckTalkModel", "wordsFor", "(III)I"⟩, 36), (⟨"BeckTalkModel", "isSet", "(I)Z"⟩, 36), (⟨"BeckTalkModel", "keepBefore", "()V"⟩, 36), (⟨"BeckTalkModel", "putBack", "()V"⟩, 36), (⟨"BeckTalkModel", "couldFall", "(I)Z"⟩, 36), (⟨"BeckTalkModel", "greatestPart", "(I)I"⟩, 36)]
theorem lw_r5 : ∀ q ∈ lw_privs_5, lw_okq q := List.forall_mem_cons.mpr ⟨lw_p64, List.forall_mem_cons.mpr ⟨lw_p65, List.forall_mem_cons.mpr ⟨lw_p66, List.forall_mem_cons.mpr ⟨lw_p67, List.forall_mem_cons.mpr ⟨lw_p68, List.forall_mem_cons.mpr ⟨lw_p69, List.forall_mem_cons.mpr ⟨lw_p70, List.forall_mem_cons.mpr ⟨lw_p71, List.forall_mem_cons.mpr ⟨lw_p72, List.forall_mem_cons.mpr ⟨lw_p73, List.forall_mem_cons.mpr ⟨lw_p74, List.forall_mem_cons.mpr ⟨lw_p75, fun _ h => absurd h List.not_mem_nil⟩⟩⟩⟩⟩⟩⟩⟩⟩⟩⟩⟩
def lw_privs : List (MethodName × Nat) := lw_privs_1 ++ (lw_privs_2 ++ (lw_privs_3 ++ (lw_privs_4 ++ (lw_privs_5))))
def lw_tbl : List Cond := k2_sels lw_privs ++ tables_1
theorem lw_privs_ok : ∀ q ∈ lw_privs, lw_okq q := by
  show ∀ q ∈ lw_privs_1 ++ (lw_privs_2 ++ (lw_privs_3 ++ (lw_privs_4 ++ (lw_privs_5)))), lw_okq q
  exact List.forall_mem_append.mpr ⟨lw_r1, List.forall_mem_append.mpr ⟨lw_r2, List.forall_mem_append.mpr ⟨lw_r3, List.forall_mem_append.mpr ⟨lw_r4, lw_r5⟩⟩⟩⟩
end
section
/-! ===== BEGIN words of one list among another's, by their places ===== -/
theorem goodIn_r {big : List Cond} (ws : List Cond) (ps : List Nat) (hp : ws = ps.filterMap (fun i => big[i]?)) (h : ws.all goodWord = true) : GoodIn big ws := by
  intro w hw
  have h1 := List.all_eq_true.mp h w hw
  rw [hp] at hw
  obtain ⟨i, -, hi⟩ := List.mem_filterMap.mp hw
  have hm : w ∈ big := by first | exact List.mem_of_getElem? hi | exact List.getElem?_mem hi
  exact ⟨hm, good_of_word h1⟩
theorem goodIn_app {big a b : List Cond} (ha : GoodIn big a) (hb : GoodIn big b) : GoodIn big (a ++ b) := fun w h => (List.mem_append.mp h).elim (ha w) (hb w)
theorem goodIn_ca {big a b : List Cond} {c : Cond} (ha : GoodIn big (c :: a)) (hb : GoodIn big b) : GoodIn big (c :: (a ++ b)) := fun w h => (List.mem_cons.mp h).elim (fun e => ha w (List.mem_cons.mpr (Or.inl e))) (fun h => (List.mem_append.mp h).elim (fun h => ha w (List.mem_cons.mpr (Or.inr h))) (hb w))
theorem goodIn_sub {big ws : List Cond} (hm : ∀ w ∈ ws, w ∈ big) (h : ws.all goodWord = true) : GoodIn big ws := fun w hw => ⟨hm w hw, good_of_word (List.all_eq_true.mp h w hw)⟩
/-! ===== END ===== -/

/-! ===== BEGIN printed: names, fields, word lists, decode rows ===== -/
def RX0 : String := "BeckTalk$Book"
def TX0 : u_T := fun k => match k with
  | 0 => ("BeckTalk$Book", "farms", "[I", true)
  | 1 => ("BeckTalk$Book", "words", "[I", true)
  | _ => ("BeckTalk$Book", "count", "I", false)
def tyX0 : Nat → FieldType := fun k => match k with
  | 0 => .array .int
  | 1 => .array .int
  | _ => .int
abbrev wsX00 : List Cond := u_ws RX0 TX0 3
theorem nmX0 : ∀ a, a < 3 → ∀ b, b < 3 → a ≠ b → (TX0 a).2.1 ≠ (TX0 b).2.1 := by decide +kernel
theorem tyX0_ok : ∀ k, k < 3 → parseFieldDescriptor (TX0 k).2.2.1 = some (tyX0 k) := by decide +kernel
abbrev cX0_init : ByteArray := prog_2_method_1_code
def yX0_init : MethodName := ⟨RX0, "<init>", "()V"⟩
abbrev cX0_add : ByteArray := prog_2_method_2_code
def yX0_add : MethodName := ⟨RX0, "add", "(II)V"⟩
abbrev cX0_firstWrong : ByteArray := prog_2_method_3_code
def yX0_firstWrong : MethodName := ⟨RX0, "firstWrong", "([I)I"⟩
def RX1 : String := "BeckTalk$Dale"
def TX1 : u_T := fun k => match k with
  | 0 => ("BeckTalk$Dale", "words", "I", false)
  | 1 => ("BeckTalk$Dale", "flow", "I", false)
  | 2 => ("BeckTalk$Dale", "farms", "I", false)
  | 3 => ("BeckTalk$Dale", "next", "[I", true)
  | 4 => ("BeckTalk$Dale", "far", "[I", true)
  | 5 => ("BeckTalk$Dale", "sort", "[I", true)
  | _ => ("BeckTalk$Dale", "key", "[I", true)
def tyX1 : Nat → FieldType := fun k => match k with
  | 0 => .int
  | 1 => .int
  | 2 => .int
  | 3 => .array .int
  | 4 => .array .int
  | 5 => .array .int
  | _ => .array .int
abbrev wsX10 : List Cond := u_ws RX1 TX1 7
theorem nmX1 : ∀ a, a < 7 → ∀ b, b < 7 → a ≠ b → (TX1 a).2.1 ≠ (TX1 b).2.1 := by decide +kernel
theorem tyX1_ok : ∀ k, k < 7 → parseFieldDescriptor (TX1 k).2.2.1 = some (tyX1 k) := by decide +kernel
abbrev cX1_init : ByteArray := prog_3_method_1_code
def yX1_init : MethodName := ⟨RX1, "<init>", "()V"⟩
abbrev cX1_clear : ByteArray := prog_3_method_2_code
def yX1_clear : MethodName := ⟨RX1, "clear", "()V"⟩
abbrev cX1_copyFrom : ByteArray := prog_3_method_3_code
def yX1_copyFrom : MethodName := ⟨RX1, "copyFrom", "(LBeckTalk$Dale;)V"⟩
abbrev cX1_addFarm : ByteArray := prog_3_method_4_code
def yX1_addFarm : MethodName := ⟨RX1, "addFarm", "(IIII)V"⟩
abbrev cX1_toGoFrom : ByteArray := prog_3_method_5_code
def yX1_toGoFrom : MethodName := ⟨RX1, "toGoFrom", "(I)I"⟩
def RX2 : String := "BeckTalk$Guess"
def TX2 : u_T := fun k => match k with
  | 0 => ("BeckTalk$Guess", "before", "[I", true)
  | 1 => ("BeckTalk$Guess", "after", "[I", true)
  | 2 => ("BeckTalk$Guess", "parts", "[I", true)
  | _ => ("BeckTalk$Guess", "count", "I", false)
def tyX2 : Nat → FieldType := fun k => match k with
  | 0 => .array .int
  | 1 => .array .int
  | 2 => .array .int
  | _ => .int
abbrev wsX20 : List Cond := u_ws RX2 TX2 4
theorem nmX2 : ∀ a, a < 4 → ∀ b, b < 4 → a ≠ b → (TX2 a).2.1 ≠ (TX2 b).2.1 := by decide +kernel
theorem tyX2_ok : ∀ k, k < 4 → parseFieldDescriptor (TX2 k).2.2.1 = some (tyX2 k) := by decide +kernel
abbrev cX2_init : ByteArray := prog_4_method_1_code
def yX2_init : MethodName := ⟨RX2, "<init>", "()V"⟩
abbrev cX2_add : ByteArray := prog_4_method_2_code
def yX2_add : MethodName := ⟨RX2, "add", "(II)V"⟩
abbrev cX2_howMany : ByteArray := prog_4_method_3_code
def yX2_howMany : MethodName := ⟨RX2, "howMany", "(I)I"⟩
abbrev cX2_first : ByteArray := prog_4_method_4_code
def yX2_first : MethodName := ⟨RX2, "first", "(I)I"⟩
abbrev cX2_bestWord : ByteArray := prog_4_method_5_code
def yX2_bestWord : MethodName := ⟨RX2, "bestWord", "(I)I"⟩
abbrev cX2_greatestPart : ByteArray := prog_4_method_6_code
def yX2_greatestPart : MethodName := ⟨RX2, "greatestPart", "(II)I"⟩
abbrev cX2_fits : ByteArray := prog_4_method_7_code
def yX2_fits : MethodName := ⟨RX2, "fits", "(II)Z"⟩
abbrev cX2_isListed : ByteArray := prog_4_method_8_code
def yX2_isListed : MethodName := ⟨RX2, "isListed", "(III)Z"⟩
def RX3 : String := "BeckTalk$Past"
def TX3 : u_T := fun k => match k with
  | 0 => ("BeckTalk$Past", "worlds", "[LBeckTalk$World;", true)
  | 1 => ("BeckTalk$Past", "end", "I", false)
  | _ => ("BeckTalk$Past", "count", "I", false)
def tyX3 : Nat → FieldType := fun k => match k with
  | 0 => .array (.object "BeckTalk$World")
  | 1 => .int
  | _ => .int
abbrev wsX30 : List Cond := u_ws RX3 TX3 3
theorem nmX3 : ∀ a, a < 3 → ∀ b, b < 3 → a ≠ b → (TX3 a).2.1 ≠ (TX3 b).2.1 := by decide +kernel
theorem tyX3_ok : ∀ k, k < 3 → parseFieldDescriptor (TX3 k).2.2.1 = some (tyX3 k) := by decide +kernel
abbrev cX3_init : ByteArray := prog_5_method_1_code
def yX3_init : MethodName := ⟨RX3, "<init>", "()V"⟩
abbrev cX3_remember : ByteArray := prog_5_method_2_code
def yX3_remember : MethodName := ⟨RX3, "remember", "(LBeckTalk$World;)V"⟩
abbrev cX3_bringBack : ByteArray := prog_5_method_3_code
def yX3_bringBack : MethodName := ⟨RX3, "bringBack", "(LBeckTalk$World;)V"⟩
abbrev cX3_world : ByteArray := prog_5_method_4_code
def yX3_world : MethodName := ⟨RX3, "world", "(I)LBeckTalk$World;"⟩
def RX4 : String := "BeckTalk$Reader"
def TX4 : u_T := fun k => match k with
  | 0 => ("BeckTalk$Reader", "text", "[I", true)
  | 1 => ("BeckTalk$Reader", "length", "I", false)
  | 2 => ("BeckTalk$Reader", "at", "I", false)
  | 3 => ("BeckTalk$Reader", "fault", "I", false)
  | _ => ("BeckTalk$Reader", "faultAt", "I", false)
def tyX4 : Nat → FieldType := fun k => match k with
  | 0 => .array .int
  | 1 => .int
  | 2 => .int
  | 3 => .int
  | _ => .int
abbrev wsX40 : List Cond := u_ws RX4 TX4 5
theorem nmX4 : ∀ a, a < 5 → ∀ b, b < 5 → a ≠ b → (TX4 a).2.1 ≠ (TX4 b).2.1 := by decide +kernel
theorem tyX4_ok : ∀ k, k < 5 → parseFieldDescriptor (TX4 k).2.2.1 = some (tyX4 k) := by decide +kernel
abbrev cX4_init : ByteArray := prog_6_method_1_code
def yX4_init : MethodName := ⟨RX4, "<init>", "()V"⟩
abbrev cX4_readInto : ByteArray := prog_6_method_2_code
def yX4_readInto : MethodName := ⟨RX4, "readInto", "(LBeckTalk$Dale;)V"⟩
abbrev cX4_readClause : ByteArray := prog_6_method_3_code
def yX4_readClause : MethodName := ⟨RX4, "readClause", "(LBeckTalk$Dale;)V"⟩
abbrev cX4_readBecks : ByteArray := prog_6_method_4_code
def yX4_readBecks : MethodName := ⟨RX4, "readBecks", "(LBeckTalk$Dale;)V"⟩
abbrev cX4_readFarm : ByteArray := prog_6_method_5_code
def yX4_readFarm : MethodName := ⟨RX4, "readFarm", "(LBeckTalk$Dale;)V"⟩
abbrev cX4_readNumber : ByteArray := prog_6_method_6_code
def yX4_readNumber : MethodName := ⟨RX4, "readNumber", "(II)I"⟩
abbrev cX4_readEnd : ByteArray := prog_6_method_7_code
def yX4_readEnd : MethodName := ⟨RX4, "readEnd", "()V"⟩
abbrev cX4_skipBlanks : ByteArray := prog_6_method_8_code
def yX4_skipBlanks : MethodName := ⟨RX4, "skipBlanks", "()V"⟩
abbrev cX4_isFigure : ByteArray := prog_6_method_9_code
def yX4_isFigure : MethodName := ⟨RX4, "isFigure", "(I)Z"⟩
abbrev cX4_mark : ByteArray := prog_6_method_10_code
def yX4_mark : MethodName := ⟨RX4, "mark", "(II)V"⟩
def RX5 : String := "BeckTalk$World"
def TX5 : u_T := fun k => match k with
  | 0 => ("BeckTalk$World", "hours", "I", false)
  | 1 => ("BeckTalk$World", "flow", "I", false)
  | 2 => ("BeckTalk$World", "frost", "Z", false)
  | 3 => ("BeckTalk$World", "dammed", "I", false)
  | 4 => ("BeckTalk$World", "contradicted", "I", false)
  | 5 => ("BeckTalk$World", "talks", "I", false)
  | 6 => ("BeckTalk$World", "logCount", "I", false)
  | 7 => ("BeckTalk$World", "logEnd", "I", false)
  | 8 => ("BeckTalk$World", "talkCells", "[I", true)
  | 9 => ("BeckTalk$World", "logCells", "[I", true)
  | 10 => ("BeckTalk$World", "sort", "[I", true)
  | 11 => ("BeckTalk$World", "latest", "[I", true)
  | _ => ("BeckTalk$World", "heard", "[I", true)
def tyX5 : Nat → FieldType := fun k => match k with
  | 0 => .int
  | 1 => .int
  | 2 => .boolean
  | 3 => .int
  | 4 => .int
  | 5 => .int
  | 6 => .int
  | 7 => .int
  | 8 => .array .int
  | 9 => .array .int
  | 10 => .array .int
  | 11 => .array .int
  | _ => .array .int
abbrev wsX50 : List Cond := u_ws RX5 TX5 13
theorem nmX5 : ∀ a, a < 13 → ∀ b, b < 13 → a ≠ b → (TX5 a).2.1 ≠ (TX5 b).2.1 := by decide +kernel
theorem tyX5_ok : ∀ k, k < 13 → parseFieldDescriptor (TX5 k).2.2.1 = some (tyX5 k) := by decide +kernel
abbrev cX5_init : ByteArray := prog_7_method_1_code
def yX5_init : MethodName := ⟨RX5, "<init>", "()V"⟩
abbrev cX5_begin : ByteArray := prog_7_method_2_code
def yX5_begin : MethodName := ⟨RX5, "begin", "(LBeckTalk$Dale;)V"⟩
abbrev cX5_copyFrom : ByteArray := prog_7_method_3_code
def yX5_copyFrom : MethodName := ⟨RX5, "copyFrom", "(LBeckTalk$World;)V"⟩
abbrev cX5_ofTalk : ByteArray := prog_7_method_4_code
def yX5_ofTalk : MethodName := ⟨RX5, "ofTalk", "(II)I"⟩
abbrev cX5_ofLog : ByteArray := prog_7_method_5_code
def yX5_ofLog : MethodName := ⟨RX5, "ofLog", "(II)I"⟩
abbrev cX5_enterTalk : ByteArray := prog_7_method_6_code
def yX5_enterTalk : MethodName := ⟨RX5, "enterTalk", "(LBeckTalk$Dale;II)V"⟩
abbrev cX5_endTalk : ByteArray := prog_7_method_7_code
def yX5_endTalk : MethodName := ⟨RX5, "endTalk", "(I)V"⟩
abbrev cX5_leaveOnly : ByteArray := prog_7_method_8_code
def yX5_leaveOnly : MethodName := ⟨RX5, "leaveOnly", "(I)V"⟩
abbrev cX5_passHours : ByteArray := prog_7_method_9_code
def yX5_passHours : MethodName := ⟨RX5, "passHours", "(LBeckTalk$Dale;I)V"⟩
abbrev cX5_pass : ByteArray := prog_7_method_10_code
def yX5_pass : MethodName := ⟨RX5, "pass", "(LBeckTalk$Dale;)V"⟩
abbrev cX5_carryAll : ByteArray := prog_7_method_11_code
def yX5_carryAll : MethodName := ⟨RX5, "carryAll", "(LBeckTalk$Dale;)V"⟩
abbrev cX5_goesOnFrom : ByteArray := prog_7_method_12_code
def yX5_goesOnFrom : MethodName := ⟨RX5, "goesOnFrom", "(I)I"⟩
abbrev cX5_garbled : ByteArray := prog_7_method_13_code
def yX5_garbled : MethodName := ⟨RX5, "garbled", "(LBeckTalk$Dale;II)I"⟩
abbrev cX5_hears : ByteArray := prog_7_method_14_code
def yX5_hears : MethodName := ⟨RX5, "hears", "(III)V"⟩
abbrev cX5_placeTalk : ByteArray := prog_7_method_15_code
def yX5_placeTalk : MethodName := ⟨RX5, "placeTalk", "(IIIII)V"⟩
abbrev cX5_moveTalk : ByteArray := prog_7_method_16_code
def yX5_moveTalk : MethodName := ⟨RX5, "moveTalk", "(II)V"⟩
def RX6 : String := "BeckTalk"
def TX6 : u_T := fun k => match k with
  | 0 => ("BeckTalk", "reader", "LBeckTalk$Reader;", true)
  | 1 => ("BeckTalk", "land", "LBeckTalk$Dale;", true)
  | 2 => ("BeckTalk", "draft", "LBeckTalk$Dale;", true)
  | 3 => ("BeckTalk", "now", "LBeckTalk$World;", true)
  | 4 => ("BeckTalk", "ahead", "LBeckTalk$World;", true)
  | 5 => ("BeckTalk", "past", "LBeckTalk$Past;", true)
  | 6 => ("BeckTalk", "images", "[LBeckTalk$World;", true)
  | 7 => ("BeckTalk", "imageSeeds", "[I", true)
  | 8 => ("BeckTalk", "imagesKept", "I", false)
  | 9 => ("BeckTalk", "seedNow", "I", false)
  | 10 => ("BeckTalk", "guess", "LBeckTalk$Guess;", true)
  | _ => ("BeckTalk", "book", "LBeckTalk$Book;", true)
def tyX6 : Nat → FieldType := fun k => match k with
  | 0 => .object "BeckTalk$Reader"
  | 1 => .object "BeckTalk$Dale"
  | 2 => .object "BeckTalk$Dale"
  | 3 => .object "BeckTalk$World"
  | 4 => .object "BeckTalk$World"
  | 5 => .object "BeckTalk$Past"
  | 6 => .array (.object "BeckTalk$World")
  | 7 => .array .int
  | 8 => .int
  | 9 => .int
  | 10 => .object "BeckTalk$Guess"
  | _ => .object "BeckTalk$Book"
abbrev wsX60 : List Cond := u_ws RX6 TX6 12
theorem nmX6 : ∀ a, a < 12 → ∀ b, b < 12 → a ≠ b → (TX6 a).2.1 ≠ (TX6 b).2.1 := by decide +kernel
theorem tyX6_ok : ∀ k, k < 12 → parseFieldDescriptor (TX6 k).2.2.1 = some (tyX6 k) := by decide +kernel
abbrev cX6_init : ByteArray := prog_1_method_1_code
def yX6_init : MethodName := ⟨RX6, "<init>", "()V"⟩
abbrev cX6_feed : ByteArray := prog_1_method_2_code
def yX6_feed : MethodName := ⟨RX6, "feed", "(I)I"⟩
abbrev cX6_dale : ByteArray := prog_1_method_3_code
def yX6_dale : MethodName := ⟨RX6, "dale", "()I"⟩
abbrev cX6_fault : ByteArray := prog_1_method_4_code
def yX6_fault : MethodName := ⟨RX6, "fault", "()I"⟩
abbrev cX6_told : ByteArray := prog_1_method_5_code
def yX6_told : MethodName := ⟨RX6, "told", "(I)I"⟩
abbrev cX6_farm : ByteArray := prog_1_method_6_code
def yX6_farm : MethodName := ⟨RX6, "farm", "(II)I"⟩
abbrev cX6_talk : ByteArray := prog_1_method_7_code
def yX6_talk : MethodName := ⟨RX6, "talk", "(II)I"⟩
abbrev cX6_logged : ByteArray := prog_1_method_8_code
def yX6_logged : MethodName := ⟨RX6, "logged", "(II)I"⟩
abbrev cX6_hour : ByteArray := prog_1_method_9_code
def yX6_hour : MethodName := ⟨RX6, "hour", "(I)I"⟩
abbrev cX6_say : ByteArray := prog_1_method_10_code
def yX6_say : MethodName := ⟨RX6, "say", "(II)I"⟩
abbrev cX6_rain : ByteArray := prog_1_method_11_code
def yX6_rain : MethodName := ⟨RX6, "rain", "(I)I"⟩
abbrev cX6_frost : ByteArray := prog_1_method_12_code
def yX6_frost : MethodName := ⟨RX6, "frost", "(Z)I"⟩
abbrev cX6_dam : ByteArray := prog_1_method_13_code
def yX6_dam : MethodName := ⟨RX6, "dam", "(IZ)I"⟩
abbrev cX6_smooth : ByteArray := prog_1_method_14_code
def yX6_smooth : MethodName := ⟨RX6, "smooth", "(I)I"⟩
abbrev cX6_hush : ByteArray := prog_1_method_15_code
def yX6_hush : MethodName := ⟨RX6, "hush", "(I)I"⟩
abbrev cX6_drift : ByteArray := prog_1_method_16_code
def yX6_drift : MethodName := ⟨RX6, "drift", "(I)I"⟩
abbrev cX6_undo : ByteArray := prog_1_method_17_code
def yX6_undo : MethodName := ⟨RX6, "undo", "()I"⟩
abbrev cX6_down : ByteArray := prog_1_method_18_code
def yX6_down : MethodName := ⟨RX6, "down", "(I)I"⟩
abbrev cX6_up : ByteArray := prog_1_method_19_code
def yX6_up : MethodName := ⟨RX6, "up", "(I)I"⟩
abbrev cX6_becomes : ByteArray := prog_1_method_20_code
def yX6_becomes : MethodName := ⟨RX6, "becomes", "(III)I"⟩
abbrev cX6_takes : ByteArray := prog_1_method_21_code
def yX6_takes : MethodName := ⟨RX6, "takes", "(II)I"⟩
abbrev cX6_toSay : ByteArray := prog_1_method_22_code
def yX6_toSay : MethodName := ⟨RX6, "toSay", "(III)I"⟩
abbrev cX6_origin : ByteArray := prog_1_method_23_code
def yX6_origin : MethodName := ⟨RX6, "origin", "(III)I"⟩
abbrev cX6_privately : ByteArray := prog_1_method_24_code
def yX6_privately : MethodName := ⟨RX6, "privately", "(I)I"⟩
abbrev cX6_dams : ByteArray := prog_1_method_25_code
def yX6_dams : MethodName := ⟨RX6, "dams", "(II)I"⟩
abbrev cX6_willHear : ByteArray := prog_1_method_26_code
def yX6_willHear : MethodName := ⟨RX6, "willHear", "(III)I"⟩
abbrev cX6_where : ByteArray := prog_1_method_27_code
def yX6_where : MethodName := ⟨RX6, "where", "(III)I"⟩
abbrev cX6_dry : ByteArray := prog_1_method_28_code
def yX6_dry : MethodName := ⟨RX6, "dry", "(II)I"⟩
abbrev cX6_see : ByteArray := prog_1_method_29_code
def yX6_see : MethodName := ⟨RX6, "see", "(II)I"⟩
abbrev cX6_falls : ByteArray := prog_1_method_30_code
def yX6_falls : MethodName := ⟨RX6, "falls", "(I)I"⟩
abbrev cX6_tryNext : ByteArray := prog_1_method_31_code
def yX6_tryNext : MethodName := ⟨RX6, "tryNext", "()I"⟩
abbrev cX6_write : ByteArray := prog_1_method_32_code
def yX6_write : MethodName := ⟨RX6, "write", "(II)I"⟩
abbrev cX6_tear : ByteArray := prog_1_method_33_code
def yX6_tear : MethodName := ⟨RX6, "tear", "()I"⟩
abbrev cX6_judge : ByteArray := prog_1_method_34_code
def yX6_judge : MethodName := ⟨RX6, "judge", "()I"⟩
abbrev cX6_seed : ByteArray := prog_1_method_35_code
def yX6_seed : MethodName := ⟨RX6, "seed", "(I)I"⟩
abbrev cX6_keep : ByteArray := prog_1_method_36_code
def yX6_keep : MethodName := ⟨RX6, "keep", "(I)I"⟩
abbrev cX6_goBack : ByteArray := prog_1_method_37_code
def yX6_goBack : MethodName := ⟨RX6, "goBack", "(I)I"⟩
abbrev cX6_isFarm : ByteArray := prog_1_method_38_code
def yX6_isFarm : MethodName := ⟨RX6, "isFarm", "(I)Z"⟩
abbrev cX6_isWord : ByteArray := prog_1_method_39_code
def yX6_isWord : MethodName := ⟨RX6, "isWord", "(I)Z"⟩
abbrev cX6_isTalk : ByteArray := prog_1_method_40_code
def yX6_isTalk : MethodName := ⟨RX6, "isTalk", "(I)Z"⟩
abbrev cX6_areFarms : ByteArray := prog_1_method_41_code
def yX6_areFarms : MethodName := ⟨RX6, "areFarms", "(I)Z"⟩
abbrev cX6_image : ByteArray := prog_1_method_42_code
def yX6_image : MethodName := ⟨RX6, "image", "(I)LBeckTalk$World;"⟩
abbrev cX6_hoursRefused : ByteArray := prog_1_method_43_code
def yX6_hoursRefused : MethodName := ⟨RX6, "hoursRefused", "(I)I"⟩
abbrev cX6_downOf : ByteArray := prog_1_method_44_code
def yX6_downOf : MethodName := ⟨RX6, "downOf", "(I)I"⟩
abbrev cX6_upOf : ByteArray := prog_1_method_45_code
def yX6_upOf : MethodName := ⟨RX6, "upOf", "(I)I"⟩
abbrev cX6_wordAt : ByteArray := prog_1_method_46_code
def yX6_wordAt : MethodName := ⟨RX6, "wordAt", "(III)I"⟩
abbrev cX6_hoursTo : ByteArray := prog_1_method_47_code
def yX6_hoursTo : MethodName := ⟨RX6, "hoursTo", "(II)I"⟩
abbrev cX6_wordsFor : ByteArray := prog_1_method_48_code
def yX6_wordsFor : MethodName := ⟨RX6, "wordsFor", "(III)I"⟩
abbrev cX6_fewestDams : ByteArray := prog_1_method_49_code
def yX6_fewestDams : MethodName := ⟨RX6, "fewestDams", "(II)I"⟩
abbrev cX6_loudest : ByteArray := prog_1_method_50_code
def yX6_loudest : MethodName := ⟨RX6, "loudest", "()I"⟩
abbrev cX6_bottom : ByteArray := prog_1_method_51_code
def yX6_bottom : MethodName := ⟨RX6, "bottom", "()I"⟩
abbrev cX6_even : ByteArray := prog_1_method_52_code
def yX6_even : MethodName := ⟨RX6, "even", "()I"⟩
abbrev cX6_leavesAllAlone : ByteArray := prog_1_method_53_code
def yX6_leavesAllAlone : MethodName := ⟨RX6, "leavesAllAlone", "(I)Z"⟩
abbrev cX6_longest : ByteArray := prog_1_method_54_code
def yX6_longest : MethodName := ⟨RX6, "longest", "()I"⟩
abbrev cX6_draw : ByteArray := prog_1_method_55_code
def yX6_draw : MethodName := ⟨RX6, "draw", "(I)I"⟩
abbrev cX6_befall : ByteArray := prog_1_method_56_code
def yX6_befall : MethodName := ⟨RX6, "befall", "()V"⟩
abbrev cX6_befallTalk : ByteArray := prog_1_method_57_code
def yX6_befallTalk : MethodName := ⟨RX6, "befallTalk", "()V"⟩
abbrev cX6_cell : ByteArray := prog_1_method_58_code
def yX6_cell : MethodName := ⟨RX6, "cell", "([II)I"⟩
abbrev cX6_put : ByteArray := prog_1_method_59_code
def yX6_put : MethodName := ⟨RX6, "put", "([III)V"⟩
abbrev cX6_holds : ByteArray := prog_1_method_60_code
def yX6_holds : MethodName := ⟨RX6, "holds", "(II)Z"⟩
abbrev cX6_garbledOnce : ByteArray := prog_1_method_61_code
def yX6_garbledOnce : MethodName := ⟨RX6, "garbledOnce", "(IIII)I"⟩
def RX7 : String := "BeckTalkModel"
def TX7 : u_T := fun k => match k with
  | 0 => ("BeckTalkModel", "words", "I", false)
  | 1 => ("BeckTalkModel", "farms", "I", false)
  | 2 => ("BeckTalkModel", "flowTold", "I", false)
  | 3 => ("BeckTalkModel", "below", "[I", true)
  | 4 => ("BeckTalkModel", "far", "[I", true)
  | 5 => ("BeckTalkModel", "sortTold", "[I", true)
  | 6 => ("BeckTalkModel", "wordK", "[I", true)
  | 7 => ("BeckTalkModel", "now", "[I", true)
  | 8 => ("BeckTalkModel", "seed", "I", false)
  | 9 => ("BeckTalkModel", "text", "[I", true)
  | 10 => ("BeckTalkModel", "texted", "I", false)
  | 11 => ("BeckTalkModel", "faultPlace", "I", false)
  | 12 => ("BeckTalkModel", "at0", "I", false)
  | 13 => ("BeckTalkModel", "number", "I", false)
  | 14 => ("BeckTalkModel", "numberAt", "I", false)
  | 15 => ("BeckTalkModel", "readWords", "I", false)
  | 16 => ("BeckTalkModel", "readFlow", "I", false)
  | 17 => ("BeckTalkModel", "readFarms", "I", false)
  | 18 => ("BeckTalkModel", "readBelow", "[I", true)
  | 19 => ("BeckTalkModel", "readFar", "[I", true)
  | 20 => ("BeckTalkModel", "readSort", "[I", true)
  | 21 => ("BeckTalkModel", "readK", "[I", true)
  | 22 => ("BeckTalkModel", "heardNow", "[I", true)
  | 23 => ("BeckTalkModel", "isUnlike", "[Z", true)
  | 24 => ("BeckTalkModel", "undos", "I", false)
  | 25 => ("BeckTalkModel", "past", "[I", true)
  | 26 => ("BeckTalkModel", "before", "[I", true)
  | 27 => ("BeckTalkModel", "seen", "I", false)
  | 28 => ("BeckTalkModel", "seenOf", "[I", true)
  | 29 => ("BeckTalkModel", "seenIs", "[I", true)
  | 30 => ("BeckTalkModel", "counts", "[I", true)
  | 31 => ("BeckTalkModel", "booked", "I", false)
  | 32 => ("BeckTalkModel", "bookOf", "[I", true)
  | 33 => ("BeckTalkModel", "bookIs", "[I", true)
  | 34 => ("BeckTalkModel", "images", "[I", true)
  | _ => ("BeckTalkModel", "isKept", "[Z", true)
def tyX7 : Nat → FieldType := fun k => match k with
  | 0 => .int
  | 1 => .int
  | 2 => .int
  | 3 => .array .int
  | 4 => .array .int
  | 5 => .array .int
  | 6 => .array .int
  | 7 => .array .int
  | 8 => .int
  | 9 => .array .int
  | 10 => .int
  | 11 => .int
  | 12 => .int
  | 13 => .int
  | 14 => .int
  | 15 => .int
  | 16 => .int
  | 17 => .int
  | 18 => .array .int
  | 19 => .array .int
  | 20 => .array .int
  | 21 => .array .int
  | 22 => .array .int
  | 23 => .array .boolean
  | 24 => .int
  | 25 => .array .int
  | 26 => .array .int
  | 27 => .int
  | 28 => .array .int
  | 29 => .array .int
  | 30 => .array .int
  | 31 => .int
  | 32 => .array .int
  | 33 => .array .int
  | 34 => .array .int
  | _ => .array .boolean
abbrev wsX70 : List Cond := u_ws RX7 TX7 36
theorem nmX7 : ∀ a, a < 36 → ∀ b, b < 36 → a ≠ b → (TX7 a).2.1 ≠ (TX7 b).2.1 := by decide +kernel
theorem tyX7_ok : ∀ k, k < 36 → parseFieldDescriptor (TX7 k).2.2.1 = some (tyX7 k) := by decide +kernel
abbrev cX7_init : ByteArray := prog_9_method_1_code
def yX7_init : MethodName := ⟨RX7, "<init>", "()V"⟩
abbrev cX7_in : ByteArray := prog_9_method_3_code
def yX7_in : MethodName := ⟨RX7, "in", "(JJJ)Z"⟩
abbrev cX7_has : ByteArray := prog_9_method_4_code
def yX7_has : MethodName := ⟨RX7, "has", "(II)Z"⟩
abbrev cX7_bits : ByteArray := prog_9_method_5_code
def yX7_bits : MethodName := ⟨RX7, "bits", "(I)I"⟩
abbrev cX7_isFarm : ByteArray := prog_9_method_6_code
def yX7_isFarm : MethodName := ⟨RX7, "isFarm", "(I)Z"⟩
abbrev cX7_isWord : ByteArray := prog_9_method_7_code
def yX7_isWord : MethodName := ⟨RX7, "isWord", "(I)Z"⟩
abbrev cX7_emptyAll : ByteArray := prog_9_method_8_code
def yX7_emptyAll : MethodName := ⟨RX7, "emptyAll", "()V"⟩
abbrev cX7_feed : ByteArray := prog_9_method_9_code
def yX7_feed : MethodName := ⟨RX7, "feed", "(I)I"⟩
abbrev cX7_here : ByteArray := prog_9_method_10_code
def yX7_here : MethodName := ⟨RX7, "here", "()I"⟩
abbrev cX7_fails : ByteArray := prog_9_method_11_code
def yX7_fails : MethodName := ⟨RX7, "fails", "(II)I"⟩
abbrev cX7_takeNumber : ByteArray := prog_9_method_12_code
def yX7_takeNumber : MethodName := ⟨RX7, "takeNumber", "(II)I"⟩
abbrev cX7_into : ByteArray := prog_9_method_13_code
def yX7_into : MethodName := ⟨RX7, "into", "([IIII)I"⟩
abbrev cX7_takeBeck : ByteArray := prog_9_method_14_code
def yX7_takeBeck : MethodName := ⟨RX7, "takeBeck", "()I"⟩
abbrev cX7_takeFarm : ByteArray := prog_9_method_15_code
def yX7_takeFarm : MethodName := ⟨RX7, "takeFarm", "()I"⟩
abbrev cX7_takeClause : ByteArray := prog_9_method_16_code
def yX7_takeClause : MethodName := ⟨RX7, "takeClause", "()I"⟩
abbrev cX7_takeRead : ByteArray := prog_9_method_17_code
def yX7_takeRead : MethodName := ⟨RX7, "takeRead", "()V"⟩
abbrev cX7_dale : ByteArray := prog_9_method_18_code
def yX7_dale : MethodName := ⟨RX7, "dale", "()I"⟩
abbrev cX7_fault : ByteArray := prog_9_method_19_code
def yX7_fault : MethodName := ⟨RX7, "fault", "()I"⟩
abbrev cX7_garbleBy : ByteArray := prog_9_method_20_code
def yX7_garbleBy : MethodName := ⟨RX7, "garbleBy", "(III)I"⟩
abbrev cX7_overFall : ByteArray := prog_9_method_21_code
def yX7_overFall : MethodName := ⟨RX7, "overFall", "(II)I"⟩
abbrev cX7_stopsAt : ByteArray := prog_9_method_22_code
def yX7_stopsAt : MethodName := ⟨RX7, "stopsAt", "(I)Z"⟩
abbrev cX7_toGo : ByteArray := prog_9_method_23_code
def yX7_toGo : MethodName := ⟨RX7, "toGo", "(I)I"⟩
abbrev cX7_goesFrom : ByteArray := prog_9_method_24_code
def yX7_goesFrom : MethodName := ⟨RX7, "goesFrom", "(I)I"⟩
abbrev cX7_wordOf : ByteArray := prog_9_method_25_code
def yX7_wordOf : MethodName := ⟨RX7, "wordOf", "(I)I"⟩
abbrev cX7_saidAt : ByteArray := prog_9_method_26_code
def yX7_saidAt : MethodName := ⟨RX7, "saidAt", "(I)I"⟩
abbrev cX7_packed : ByteArray := prog_9_method_27_code
def yX7_packed : MethodName := ⟨RX7, "packed", "(IIII)I"⟩
abbrev cX7_takeOff : ByteArray := prog_9_method_28_code
def yX7_takeOff : MethodName := ⟨RX7, "takeOff", "(I)V"⟩
abbrev cX7_hears : ByteArray := prog_9_method_29_code
def yX7_hears : MethodName := ⟨RX7, "hears", "(III)V"⟩
abbrev cX7_go : ByteArray := prog_9_method_30_code
def yX7_go : MethodName := ⟨RX7, "go", "(I)Z"⟩
abbrev cX7_goAll : ByteArray := prog_9_method_31_code
def yX7_goAll : MethodName := ⟨RX7, "goAll", "()V"⟩
abbrev cX7_pass : ByteArray := prog_9_method_32_code
def yX7_pass : MethodName := ⟨RX7, "pass", "()V"⟩
abbrev cX7_downOf : ByteArray := prog_9_method_33_code
def yX7_downOf : MethodName := ⟨RX7, "downOf", "(I)I"⟩
abbrev cX7_upOf : ByteArray := prog_9_method_34_code
def yX7_upOf : MethodName := ⟨RX7, "upOf", "(I)I"⟩
abbrev cX7_wordAt : ByteArray := prog_9_method_35_code
def yX7_wordAt : MethodName := ⟨RX7, "wordAt", "(III)I"⟩
abbrev cX7_hoursTo : ByteArray := prog_9_method_36_code
def yX7_hoursTo : MethodName := ⟨RX7, "hoursTo", "(II)I"⟩
abbrev cX7_loudest : ByteArray := prog_9_method_37_code
def yX7_loudest : MethodName := ⟨RX7, "loudest", "()I"⟩
abbrev cX7_bottom : ByteArray := prog_9_method_38_code
def yX7_bottom : MethodName := ⟨RX7, "bottom", "()I"⟩
abbrev cX7_even : ByteArray := prog_9_method_39_code
def yX7_even : MethodName := ⟨RX7, "even", "()I"⟩
abbrev cX7_longest : ByteArray := prog_9_method_40_code
def yX7_longest : MethodName := ⟨RX7, "longest", "()I"⟩
abbrev cX7_told : ByteArray := prog_9_method_41_code
def yX7_told : MethodName := ⟨RX7, "told", "(I)I"⟩
abbrev cX7_farm : ByteArray := prog_9_method_42_code
def yX7_farm : MethodName := ⟨RX7, "farm", "(II)I"⟩
abbrev cX7_talk : ByteArray := prog_9_method_43_code
def yX7_talk : MethodName := ⟨RX7, "talk", "(II)I"⟩
abbrev cX7_logged : ByteArray := prog_9_method_44_code
def yX7_logged : MethodName := ⟨RX7, "logged", "(II)I"⟩
abbrev cX7_remember : ByteArray := prog_9_method_45_code
def yX7_remember : MethodName := ⟨RX7, "remember", "()V"⟩
abbrev cX7_hoursRefused : ByteArray := prog_9_method_46_code
def yX7_hoursRefused : MethodName := ⟨RX7, "hoursRefused", "(I)I"⟩
abbrev cX7_hour : ByteArray := prog_9_method_47_code
def yX7_hour : MethodName := ⟨RX7, "hour", "(I)I"⟩
abbrev cX7_sayNow : ByteArray := prog_9_method_48_code
def yX7_sayNow : MethodName := ⟨RX7, "sayNow", "(II)V"⟩
abbrev cX7_say : ByteArray := prog_9_method_49_code
def yX7_say : MethodName := ⟨RX7, "say", "(II)I"⟩
abbrev cX7_rain : ByteArray := prog_9_method_50_code
def yX7_rain : MethodName := ⟨RX7, "rain", "(I)I"⟩
abbrev cX7_frost : ByteArray := prog_9_method_51_code
def yX7_frost : MethodName := ⟨RX7, "frost", "(Z)I"⟩
abbrev cX7_dam : ByteArray := prog_9_method_52_code
def yX7_dam : MethodName := ⟨RX7, "dam", "(IZ)I"⟩
abbrev cX7_smooth : ByteArray := prog_9_method_53_code
def yX7_smooth : MethodName := ⟨RX7, "smooth", "(I)I"⟩
abbrev cX7_hush : ByteArray := prog_9_method_54_code
def yX7_hush : MethodName := ⟨RX7, "hush", "(I)I"⟩
abbrev cX7_draw : ByteArray := prog_9_method_55_code
def yX7_draw : MethodName := ⟨RX7, "draw", "(I)I"⟩
abbrev cX7_chance : ByteArray := prog_9_method_56_code
def yX7_chance : MethodName := ⟨RX7, "chance", "()V"⟩
abbrev cX7_drift : ByteArray := prog_9_method_57_code
def yX7_drift : MethodName := ⟨RX7, "drift", "(I)I"⟩
abbrev cX7_undo : ByteArray := prog_9_method_58_code
def yX7_undo : MethodName := ⟨RX7, "undo", "()I"⟩
abbrev cX7_down : ByteArray := prog_9_method_59_code
def yX7_down : MethodName := ⟨RX7, "down", "(I)I"⟩
abbrev cX7_up : ByteArray := prog_9_method_60_code
def yX7_up : MethodName := ⟨RX7, "up", "(I)I"⟩
abbrev cX7_becomes : ByteArray := prog_9_method_61_code
def yX7_becomes : MethodName := ⟨RX7, "becomes", "(III)I"⟩
abbrev cX7_takes : ByteArray := prog_9_method_62_code
def yX7_takes : MethodName := ⟨RX7, "takes", "(II)I"⟩
abbrev cX7_wordsFor : ByteArray := prog_9_method_63_code
def yX7_wordsFor : MethodName := ⟨RX7, "wordsFor", "(III)I"⟩
abbrev cX7_toSay : ByteArray := prog_9_method_64_code
def yX7_toSay : MethodName := ⟨RX7, "toSay", "(III)I"⟩
abbrev cX7_origin : ByteArray := prog_9_method_65_code
def yX7_origin : MethodName := ⟨RX7, "origin", "(III)I"⟩
abbrev cX7_isSet : ByteArray := prog_9_method_66_code
def yX7_isSet : MethodName := ⟨RX7, "isSet", "(I)Z"⟩
abbrev cX7_privately : ByteArray := prog_9_method_67_code
def yX7_privately : MethodName := ⟨RX7, "privately", "(I)I"⟩
abbrev cX7_dams : ByteArray := prog_9_method_68_code
def yX7_dams : MethodName := ⟨RX7, "dams", "(II)I"⟩
abbrev cX7_putBack : ByteArray := prog_9_method_69_code
def yX7_putBack : MethodName := ⟨RX7, "putBack", "()V"⟩
abbrev cX7_keepBefore : ByteArray := prog_9_method_70_code
def yX7_keepBefore : MethodName := ⟨RX7, "keepBefore", "()V"⟩
abbrev cX7_willHear : ByteArray := prog_9_method_71_code
def yX7_willHear : MethodName := ⟨RX7, "willHear", "(III)I"⟩
abbrev cX7_where : ByteArray := prog_9_method_72_code
def yX7_where : MethodName := ⟨RX7, "where", "(III)I"⟩
abbrev cX7_dry : ByteArray := prog_9_method_73_code
def yX7_dry : MethodName := ⟨RX7, "dry", "(II)I"⟩
abbrev cX7_see : ByteArray := prog_9_method_74_code
def yX7_see : MethodName := ⟨RX7, "see", "(II)I"⟩
abbrev cX7_couldFall : ByteArray := prog_9_method_75_code
def yX7_couldFall : MethodName := ⟨RX7, "couldFall", "(I)Z"⟩
abbrev cX7_falls : ByteArray := prog_9_method_76_code
def yX7_falls : MethodName := ⟨RX7, "falls", "(I)I"⟩
abbrev cX7_greatestPart : ByteArray := prog_9_method_77_code
def yX7_greatestPart : MethodName := ⟨RX7, "greatestPart", "(I)I"⟩
abbrev cX7_tryNext : ByteArray := prog_9_method_78_code
def yX7_tryNext : MethodName := ⟨RX7, "tryNext", "()I"⟩
abbrev cX7_write : ByteArray := prog_9_method_79_code
def yX7_write : MethodName := ⟨RX7, "write", "(II)I"⟩
abbrev cX7_tear : ByteArray := prog_9_method_80_code
def yX7_tear : MethodName := ⟨RX7, "tear", "()I"⟩
abbrev cX7_judge : ByteArray := prog_9_method_81_code
def yX7_judge : MethodName := ⟨RX7, "judge", "()I"⟩
abbrev cX7_seed : ByteArray := prog_9_method_82_code
def yX7_seed : MethodName := ⟨RX7, "seed", "(I)I"⟩
abbrev cX7_keep : ByteArray := prog_9_method_83_code
def yX7_keep : MethodName := ⟨RX7, "keep", "(I)I"⟩
abbrev cX7_goBack : ByteArray := prog_9_method_84_code
def yX7_goBack : MethodName := ⟨RX7, "goBack", "(I)I"⟩
def RJ6 : String := "java/lang/Integer"
def TJ6 : u_T := fun k => match k with
  | _ => ("", "", "", false)
def tyJ6 : Nat → FieldType := fun k => match k with
  | _ => .int
abbrev wsJ60 : List Cond := u_ws RJ6 TJ6 0
theorem nmJ6 : ∀ a, a < 0 → ∀ b, b < 0 → a ≠ b → (TJ6 a).2.1 ≠ (TJ6 b).2.1 := by decide +kernel
theorem tyJ6_ok : ∀ k, k < 0 → parseFieldDescriptor (TJ6 k).2.2.1 = some (tyJ6 k) := by decide +kernel
abbrev cJ6_bitCount_0f7a4 : ByteArray := prog_10_method_49_code
def yJ6_bitCount_0f7a4 : MethodName := ⟨RJ6, "bitCount", "(I)I"⟩
def RJ9 : String := "java/lang/Math"
def TJ9 : u_T := fun k => match k with
  | _ => ("", "", "", false)
def tyJ9 : Nat → FieldType := fun k => match k with
  | _ => .int
abbrev wsJ90 : List Cond := u_ws RJ9 TJ9 0
theorem nmJ9 : ∀ a, a < 0 → ∀ b, b < 0 → a ≠ b → (TJ9 a).2.1 ≠ (TJ9 b).2.1 := by decide +kernel
theorem tyJ9_ok : ∀ k, k < 0 → parseFieldDescriptor (TJ9 k).2.2.1 = some (tyJ9 k) := by decide +kernel
abbrev cJ9_max_7cf53 : ByteArray := prog_11_method_65_code
def yJ9_max_7cf53 : MethodName := ⟨RJ9, "max", "(II)I"⟩
abbrev cJ9_min_7cf53 : ByteArray := prog_11_method_69_code
def yJ9_min_7cf53 : MethodName := ⟨RJ9, "min", "(II)I"⟩
def RJ10 : String := "java/lang/System"
def TJ10 : u_T := fun k => match k with
  | _ => ("", "", "", false)
def tyJ10 : Nat → FieldType := fun k => match k with
  | _ => .int
abbrev wsJ100 : List Cond := u_ws RJ10 TJ10 0
theorem nmJ10 : ∀ a, a < 0 → ∀ b, b < 0 → a ≠ b → (TJ10 a).2.1 ≠ (TJ10 b).2.1 := by decide +kernel
theorem tyJ10_ok : ∀ k, k < 0 → parseFieldDescriptor (TJ10 k).2.2.1 = some (tyJ10 k) := by decide +kernel
def RJ7 : String := "java/util/Arrays"
def TJ7 : u_T := fun k => match k with
  | _ => ("", "", "", false)
def tyJ7 : Nat → FieldType := fun k => match k with
  | _ => .int
abbrev wsJ70 : List Cond := u_ws RJ7 TJ7 0
theorem nmJ7 : ∀ a, a < 0 → ∀ b, b < 0 → a ≠ b → (TJ7 a).2.1 ≠ (TJ7 b).2.1 := by decide +kernel
theorem tyJ7_ok : ∀ k, k < 0 → parseFieldDescriptor (TJ7 k).2.2.1 = some (tyJ7 k) := by decide +kernel
abbrev cJ7_fill_53178 : ByteArray := prog_13_method_103_code
def yJ7_fill_53178 : MethodName := ⟨RJ7, "fill", "([II)V"⟩
def RL : String := "BeckTalkLaw"
abbrev cL_law : ByteArray := code
def yL_law : MethodName := ⟨RL, "law", "([I)Z"⟩
abbrev vwCl : List vw_C := [(RX0, TX0, 3), (RX1, TX1, 7), (RX2, TX2, 4), (RX3, TX3, 3), (RX4, TX4, 5), (RX5, TX5, 13), (RX6, TX6, 12), (RX7, TX7, 36)]
end
section
theorem dX0_init_0 : decode cX0_init 0 = .ok (.aload_n 0, 1) := by decide +kernel
theorem dX0_init_1 : decode cX0_init 1 = .ok (.invokespecial 3, 3) := by decide +kernel
theorem dX0_init_4 : decode cX0_init 4 = .ok (.aload_n 0, 1) := by decide +kernel
theorem dX0_init_5 : decode cX0_init 5 = .ok (.bipush 15, 2) := by decide +kernel
theorem dX0_init_7 : decode cX0_init 7 = .ok (.newarray .int, 2) := by decide +kernel
theorem dX0_init_9 : decode cX0_init 9 = .ok (.putfield 9, 3) := by decide +kernel
theorem dX0_init_12 : decode cX0_init 12 = .ok (.aload_n 0, 1) := by decide +kernel
theorem dX0_init_13 : decode cX0_init 13 = .ok (.bipush 15, 2) := by decide +kernel
theorem dX0_init_15 : decode cX0_init 15 = .ok (.newarray .int, 2) := by decide +kernel
theorem dX0_init_17 : decode cX0_init 17 = .ok (.putfield 15, 3) := by decide +kernel
theorem dX0_init_20 : decode cX0_init 20 = .ok (.return_, 1) := by decide +kernel
theorem dX0_add_0 : decode cX0_add 0 = .ok (.aload_n 0, 1) := by decide +kernel
theorem dX0_add_1 : decode cX0_add 1 = .ok (.getfield 9, 3) := by decide +kernel
theorem dX0_add_4 : decode cX0_add 4 = .ok (.aload_n 0, 1) := by decide +kernel
theorem dX0_add_5 : decode cX0_add 5 = .ok (.getfield 18, 3) := by decide +kernel
theorem dX0_add_8 : decode cX0_add 8 = .ok (.iload_n 1, 1) := by decide +kernel
theorem dX0_add_9 : decode cX0_add 9 = .ok (.invokestatic 22, 3) := by decide +kernel
theorem dX0_add_12 : decode cX0_add 12 = .ok (.aload_n 0, 1) := by decide +kernel
theorem dX0_add_13 : decode cX0_add 13 = .ok (.getfield 15, 3) := by decide +kernel
theorem dX0_add_16 : decode cX0_add 16 = .ok (.aload_n 0, 1) := by decide +kernel
theorem dX0_add_17 : decode cX0_add 17 = .ok (.getfield 18, 3) := by decide +kernel
theorem dX0_add_20 : decode cX0_add 20 = .ok (.iload_n 2, 1) := by decide +kernel
theorem dX0_add_21 : decode cX0_add 21 = .ok (.invokestatic 22, 3) := by decide +kernel
theorem dX0_add_24 : decode cX0_add 24 = .ok (.aload_n 0, 1) := by decide +kernel
theorem dX0_add_25 : decode cX0_add 25 = .ok (.dup, 1) := by decide +kernel
theorem dX0_add_26 : decode cX0_add 26 = .ok (.getfield 18, 3) := by decide +kernel
theorem dX0_add_29 : decode cX0_add 29 = .ok (.iconst 1, 1) := by decide +kernel
theorem dX0_add_30 : decode cX0_add 30 = .ok (.iadd, 1) := by decide +kernel
theorem dX0_add_31 : decode cX0_add 31 = .ok (.putfield 18, 3) := by decide +kernel
theorem dX0_add_34 : decode cX0_add 34 = .ok (.return_, 1) := by decide +kernel
theorem dX0_firstWrong_0 : decode cX0_firstWrong 0 = .ok (.iconst 0, 1) := by decide +kernel
theorem dX0_firstWrong_1 : decode cX0_firstWrong 1 = .ok (.istore_n 2, 1) := by decide +kernel
theorem dX0_firstWrong_2 : decode cX0_firstWrong 2 = .ok (.iload_n 2, 1) := by decide +kernel
theorem dX0_firstWrong_3 : decode cX0_firstWrong 3 = .ok (.aload_n 0, 1) := by decide +kernel
theorem dX0_firstWrong_4 : decode cX0_firstWrong 4 = .ok (.getfield 18, 3) := by decide +kernel
theorem dX0_firstWrong_7 : decode cX0_firstWrong 7 = .ok (.if_icmp .ge 34, 3) := by decide +kernel
theorem dX0_firstWrong_10 : decode cX0_firstWrong 10 = .ok (.aload_n 1, 1) := by decide +kernel
theorem dX0_firstWrong_11 : decode cX0_firstWrong 11 = .ok (.aload_n 0, 1) := by decide +kernel
theorem dX0_firstWrong_12 : decode cX0_firstWrong 12 = .ok (.getfield 9, 3) := by decide +kernel
theorem dX0_firstWrong_15 : decode cX0_firstWrong 15 = .ok (.iload_n 2, 1) := by decide +kernel
theorem dX0_firstWrong_16 : decode cX0_firstWrong 16 = .ok (.invokestatic 26, 3) := by decide +kernel
theorem dX0_firstWrong_19 : decode cX0_firstWrong 19 = .ok (.invokestatic 26, 3) := by decide +kernel
theorem dX0_firstWrong_22 : decode cX0_firstWrong 22 = .ok (.aload_n 0, 1) := by decide +kernel
theorem dX0_firstWrong_23 : decode cX0_firstWrong 23 = .ok (.getfield 15, 3) := by decide +kernel
theorem dX0_firstWrong_26 : decode cX0_firstWrong 26 = .ok (.iload_n 2, 1) := by decide +kernel
theorem dX0_firstWrong_27 : decode cX0_firstWrong 27 = .ok (.invokestatic 26, 3) := by decide +kernel
theorem dX0_firstWrong_30 : decode cX0_firstWrong 30 = .ok (.if_icmp .eq 5, 3) := by decide +kernel
theorem dX0_firstWrong_33 : decode cX0_firstWrong 33 = .ok (.iload_n 2, 1) := by decide +kernel
theorem dX0_firstWrong_34 : decode cX0_firstWrong 34 = .ok (.ireturn, 1) := by decide +kernel
theorem dX0_firstWrong_35 : decode cX0_firstWrong 35 = .ok (.iinc 2 1, 3) := by decide +kernel
theorem dX0_firstWrong_38 : decode cX0_firstWrong 38 = .ok (.goto (-36), 3) := by decide +kernel
theorem dX0_firstWrong_41 : decode cX0_firstWrong 41 = .ok (.iconst (-1), 1) := by decide +kernel
theorem dX0_firstWrong_42 : decode cX0_firstWrong 42 = .ok (.ireturn, 1) := by decide +kernel
theorem dX1_init_0 : decode cX1_init 0 = .ok (.aload_n 0, 1) := by decide +kernel
theorem dX1_init_1 : decode cX1_init 1 = .ok (.invokespecial 3, 3) := by decide +kernel
theorem dX1_init_4 : decode cX1_init 4 = .ok (.aload_n 0, 1) := by decide +kernel
theorem dX1_init_5 : decode cX1_init 5 = .ok (.bipush 9, 2) := by decide +kernel
theorem dX1_init_7 : decode cX1_init 7 = .ok (.newarray .int, 2) := by decide +kernel
theorem dX1_init_9 : decode cX1_init 9 = .ok (.putfield 9, 3) := by decide +kernel
theorem dX1_init_12 : decode cX1_init 12 = .ok (.aload_n 0, 1) := by decide +kernel
theorem dX1_init_13 : decode cX1_init 13 = .ok (.bipush 9, 2) := by decide +kernel
theorem dX1_init_15 : decode cX1_init 15 = .ok (.newarray .int, 2) := by decide +kernel
theorem dX1_init_17 : decode cX1_init 17 = .ok (.putfield 15, 3) := by decide +kernel
theorem dX1_init_20 : decode cX1_init 20 = .ok (.aload_n 0, 1) := by decide +kernel
theorem dX1_init_21 : decode cX1_init 21 = .ok (.bipush 9, 2) := by decide +kernel
theorem dX1_init_23 : decode cX1_init 23 = .ok (.newarray .int, 2) := by decide +kernel
theorem dX1_init_25 : decode cX1_init 25 = .ok (.putfield 18, 3) := by decide +kernel
theorem dX1_init_28 : decode cX1_init 28 = .ok (.aload_n 0, 1) := by decide +kernel
theorem dX1_init_29 : decode cX1_init 29 = .ok (.bipush 9, 2) := by decide +kernel
theorem dX1_init_31 : decode cX1_init 31 = .ok (.newarray .int, 2) := by decide +kernel
theorem dX1_init_33 : decode cX1_init 33 = .ok (.putfield 21, 3) := by decide +kernel
theorem dX1_init_36 : decode cX1_init 36 = .ok (.return_, 1) := by decide +kernel
theorem dX1_clear_0 : decode cX1_clear 0 = .ok (.aload_n 0, 1) := by decide +kernel
theorem dX1_clear_1 : decode cX1_clear 1 = .ok (.iconst 0, 1) := by decide +kernel
theorem dX1_clear_2 : decode cX1_clear 2 = .ok (.putfield 24, 3) := by decide +kernel
theorem dX1_clear_5 : decode cX1_clear 5 = .ok (.aload_n 0, 1) := by decide +kernel
theorem dX1_clear_6 : decode cX1_clear 6 = .ok (.iconst 0, 1) := by decide +kernel
theorem dX1_clear_7 : decode cX1_clear 7 = .ok (.putfield 28, 3) := by decide +kernel
theorem dX1_clear_10 : decode cX1_clear 10 = .ok (.aload_n 0, 1) := by decide +kernel
theorem dX1_clear_11 : decode cX1_clear 11 = .ok (.iconst 0, 1) := by decide +kernel
theorem dX1_clear_12 : decode cX1_clear 12 = .ok (.putfield 31, 3) := by decide +kernel
theorem dX1_clear_15 : decode cX1_clear 15 = .ok (.return_, 1) := by decide +kernel
theorem dX1_copyFrom_0 : decode cX1_copyFrom 0 = .ok (.aload_n 0, 1) := by decide +kernel
theorem dX1_copyFrom_1 : decode cX1_copyFrom 1 = .ok (.aload_n 1, 1) := by decide +kernel
theorem dX1_copyFrom_2 : decode cX1_copyFrom 2 = .ok (.getfield 24, 3) := by decide +kernel
theorem dX1_copyFrom_5 : decode cX1_copyFrom 5 = .ok (.putfield 24, 3) := by decide +kernel
theorem dX1_copyFrom_8 : decode cX1_copyFrom 8 = .ok (.aload_n 0, 1) := by decide +kernel
theorem dX1_copyFrom_9 : decode cX1_copyFrom 9 = .ok (.aload_n 1, 1) := by decide +kernel
theorem dX1_copyFrom_10 : decode cX1_copyFrom 10 = .ok (.getfield 28, 3) := by decide +kernel
theorem dX1_copyFrom_13 : decode cX1_copyFrom 13 = .ok (.putfield 28, 3) := by decide +kernel
theorem dX1_copyFrom_16 : decode cX1_copyFrom 16 = .ok (.aload_n 0, 1) := by decide +kernel
theorem dX1_copyFrom_17 : decode cX1_copyFrom 17 = .ok (.aload_n 1, 1) := by decide +kernel
theorem dX1_copyFrom_18 : decode cX1_copyFrom 18 = .ok (.getfield 31, 3) := by decide +kernel
theorem dX1_copyFrom_21 : decode cX1_copyFrom 21 = .ok (.putfield 31, 3) := by decide +kernel
theorem dX1_copyFrom_24 : decode cX1_copyFrom 24 = .ok (.aload_n 1, 1) := by decide +kernel
theorem dX1_copyFrom_25 : decode cX1_copyFrom 25 = .ok (.getfield 9, 3) := by decide +kernel
theorem dX1_copyFrom_28 : decode cX1_copyFrom 28 = .ok (.iconst 0, 1) := by decide +kernel
theorem dX1_copyFrom_29 : decode cX1_copyFrom 29 = .ok (.aload_n 0, 1) := by decide +kernel
theorem dX1_copyFrom_30 : decode cX1_copyFrom 30 = .ok (.getfield 9, 3) := by decide +kernel
theorem dX1_copyFrom_33 : decode cX1_copyFrom 33 = .ok (.iconst 0, 1) := by decide +kernel
theorem dX1_copyFrom_34 : decode cX1_copyFrom 34 = .ok (.bipush 9, 2) := by decide +kernel
theorem dX1_copyFrom_36 : decode cX1_copyFrom 36 = .ok (.invokestatic 34, 3) := by decide +kernel
theorem dX1_copyFrom_39 : decode cX1_copyFrom 39 = .ok (.aload_n 1, 1) := by decide +kernel
theorem dX1_copyFrom_40 : decode cX1_copyFrom 40 = .ok (.getfield 15, 3) := by decide +kernel
theorem dX1_copyFrom_43 : decode cX1_copyFrom 43 = .ok (.iconst 0, 1) := by decide +kernel
theorem dX1_copyFrom_44 : decode cX1_copyFrom 44 = .ok (.aload_n 0, 1) := by decide +kernel
theorem dX1_copyFrom_45 : decode cX1_copyFrom 45 = .ok (.getfield 15, 3) := by decide +kernel
theorem dX1_copyFrom_48 : decode cX1_copyFrom 48 = .ok (.iconst 0, 1) := by decide +kernel
theorem dX1_copyFrom_49 : decode cX1_copyFrom 49 = .ok (.bipush 9, 2) := by decide +kernel
theorem dX1_copyFrom_51 : decode cX1_copyFrom 51 = .ok (.invokestatic 34, 3) := by decide +kernel
theorem dX1_copyFrom_54 : decode cX1_copyFrom 54 = .ok (.aload_n 1, 1) := by decide +kernel
theorem dX1_copyFrom_55 : decode cX1_copyFrom 55 = .ok (.getfield 18, 3) := by decide +kernel
theorem dX1_copyFrom_58 : decode cX1_copyFrom 58 = .ok (.iconst 0, 1) := by decide +kernel
theorem dX1_copyFrom_59 : decode cX1_copyFrom 59 = .ok (.aload_n 0, 1) := by decide +kernel
theorem dX1_copyFrom_60 : decode cX1_copyFrom 60 = .ok (.getfield 18, 3) := by decide +kernel
theorem dX1_copyFrom_63 : decode cX1_copyFrom 63 = .ok (.iconst 0, 1) := by decide +kernel
theorem dX1_copyFrom_64 : decode cX1_copyFrom 64 = .ok (.bipush 9, 2) := by decide +kernel
theorem dX1_copyFrom_66 : decode cX1_copyFrom 66 = .ok (.invokestatic 34, 3) := by decide +kernel
theorem dX1_copyFrom_69 : decode cX1_copyFrom 69 = .ok (.aload_n 1, 1) := by decide +kernel
theorem dX1_copyFrom_70 : decode cX1_copyFrom 70 = .ok (.getfield 21, 3) := by decide +kernel
theorem dX1_copyFrom_73 : decode cX1_copyFrom 73 = .ok (.iconst 0, 1) := by decide +kernel
theorem dX1_copyFrom_74 : decode cX1_copyFrom 74 = .ok (.aload_n 0, 1) := by decide +kernel
theorem dX1_copyFrom_75 : decode cX1_copyFrom 75 = .ok (.getfield 21, 3) := by decide +kernel
theorem dX1_copyFrom_78 : decode cX1_copyFrom 78 = .ok (.iconst 0, 1) := by decide +kernel
theorem dX1_copyFrom_79 : decode cX1_copyFrom 79 = .ok (.bipush 9, 2) := by decide +kernel
theorem dX1_copyFrom_81 : decode cX1_copyFrom 81 = .ok (.invokestatic 34, 3) := by decide +kernel
theorem dX1_copyFrom_84 : decode cX1_copyFrom 84 = .ok (.return_, 1) := by decide +kernel
theorem dX1_addFarm_0 : decode cX1_addFarm 0 = .ok (.aload_n 0, 1) := by decide +kernel
theorem dX1_addFarm_1 : decode cX1_addFarm 1 = .ok (.getfield 9, 3) := by decide +kernel
theorem dX1_addFarm_4 : decode cX1_addFarm 4 = .ok (.aload_n 0, 1) := by decide +kernel
theorem dX1_addFarm_5 : decode cX1_addFarm 5 = .ok (.getfield 31, 3) := by decide +kernel
theorem dX1_addFarm_8 : decode cX1_addFarm 8 = .ok (.iload_n 1, 1) := by decide +kernel
theorem dX1_addFarm_9 : decode cX1_addFarm 9 = .ok (.invokestatic 40, 3) := by decide +kernel
theorem dX1_addFarm_12 : decode cX1_addFarm 12 = .ok (.aload_n 0, 1) := by decide +kernel
theorem dX1_addFarm_13 : decode cX1_addFarm 13 = .ok (.getfield 15, 3) := by decide +kernel
theorem dX1_addFarm_16 : decode cX1_addFarm 16 = .ok (.aload_n 0, 1) := by decide +kernel
theorem dX1_addFarm_17 : decode cX1_addFarm 17 = .ok (.getfield 31, 3) := by decide +kernel
theorem dX1_addFarm_20 : decode cX1_addFarm 20 = .ok (.iload_n 2, 1) := by decide +kernel
theorem dX1_addFarm_21 : decode cX1_addFarm 21 = .ok (.invokestatic 40, 3) := by decide +kernel
theorem dX1_addFarm_24 : decode cX1_addFarm 24 = .ok (.aload_n 0, 1) := by decide +kernel
theorem dX1_addFarm_25 : decode cX1_addFarm 25 = .ok (.getfield 18, 3) := by decide +kernel
theorem dX1_addFarm_28 : decode cX1_addFarm 28 = .ok (.aload_n 0, 1) := by decide +kernel
theorem dX1_addFarm_29 : decode cX1_addFarm 29 = .ok (.getfield 31, 3) := by decide +kernel
theorem dX1_addFarm_32 : decode cX1_addFarm 32 = .ok (.iload_n 3, 1) := by decide +kernel
theorem dX1_addFarm_33 : decode cX1_addFarm 33 = .ok (.invokestatic 40, 3) := by decide +kernel
theorem dX1_addFarm_36 : decode cX1_addFarm 36 = .ok (.aload_n 0, 1) := by decide +kernel
theorem dX1_addFarm_37 : decode cX1_addFarm 37 = .ok (.getfield 21, 3) := by decide +kernel
theorem dX1_addFarm_40 : decode cX1_addFarm 40 = .ok (.aload_n 0, 1) := by decide +kernel
theorem dX1_addFarm_41 : decode cX1_addFarm 41 = .ok (.getfield 31, 3) := by decide +kernel
theorem dX1_addFarm_44 : decode cX1_addFarm 44 = .ok (.iload 4, 2) := by decide +kernel
theorem dX1_addFarm_46 : decode cX1_addFarm 46 = .ok (.invokestatic 40, 3) := by decide +kernel
theorem dX1_addFarm_49 : decode cX1_addFarm 49 = .ok (.aload_n 0, 1) := by decide +kernel
theorem dX1_addFarm_50 : decode cX1_addFarm 50 = .ok (.dup, 1) := by decide +kernel
theorem dX1_addFarm_51 : decode cX1_addFarm 51 = .ok (.getfield 31, 3) := by decide +kernel
theorem dX1_addFarm_54 : decode cX1_addFarm 54 = .ok (.iconst 1, 1) := by decide +kernel
theorem dX1_addFarm_55 : decode cX1_addFarm 55 = .ok (.iadd, 1) := by decide +kernel
theorem dX1_addFarm_56 : decode cX1_addFarm 56 = .ok (.putfield 31, 3) := by decide +kernel
theorem dX1_addFarm_59 : decode cX1_addFarm 59 = .ok (.return_, 1) := by decide +kernel
theorem dX1_toGoFrom_0 : decode cX1_toGoFrom 0 = .ok (.iconst 4, 1) := by decide +kernel
theorem dX1_toGoFrom_1 : decode cX1_toGoFrom 1 = .ok (.aload_n 0, 1) := by decide +kernel
theorem dX1_toGoFrom_2 : decode cX1_toGoFrom 2 = .ok (.getfield 15, 3) := by decide +kernel
theorem dX1_toGoFrom_5 : decode cX1_toGoFrom 5 = .ok (.iload_n 1, 1) := by decide +kernel
theorem dX1_toGoFrom_6 : decode cX1_toGoFrom 6 = .ok (.invokestatic 44, 3) := by decide +kernel
theorem dX1_toGoFrom_9 : decode cX1_toGoFrom 9 = .ok (.imul, 1) := by decide +kernel
theorem dX1_toGoFrom_10 : decode cX1_toGoFrom 10 = .ok (.ireturn, 1) := by decide +kernel
theorem dX2_init_0 : decode cX2_init 0 = .ok (.aload_n 0, 1) := by decide +kernel
theorem dX2_init_1 : decode cX2_init 1 = .ok (.invokespecial 3, 3) := by decide +kernel
theorem dX2_init_4 : decode cX2_init 4 = .ok (.aload_n 0, 1) := by decide +kernel
theorem dX2_init_5 : decode cX2_init 5 = .ok (.bipush 6, 2) := by decide +kernel
theorem dX2_init_7 : decode cX2_init 7 = .ok (.newarray .int, 2) := by decide +kernel
theorem dX2_init_9 : decode cX2_init 9 = .ok (.putfield 9, 3) := by decide +kernel
theorem dX2_init_12 : decode cX2_init 12 = .ok (.aload_n 0, 1) := by decide +kernel
theorem dX2_init_13 : decode cX2_init 13 = .ok (.bipush 6, 2) := by decide +kernel
theorem dX2_init_15 : decode cX2_init 15 = .ok (.newarray .int, 2) := by decide +kernel
theorem dX2_init_17 : decode cX2_init 17 = .ok (.putfield 15, 3) := by decide +kernel
theorem dX2_init_20 : decode cX2_init 20 = .ok (.aload_n 0, 1) := by decide +kernel
theorem dX2_init_21 : decode cX2_init 21 = .ok (.bipush 9, 2) := by decide +kernel
theorem dX2_init_23 : decode cX2_init 23 = .ok (.newarray .int, 2) := by decide +kernel
theorem dX2_init_25 : decode cX2_init 25 = .ok (.putfield 18, 3) := by decide +kernel
theorem dX2_init_28 : decode cX2_init 28 = .ok (.return_, 1) := by decide +kernel
theorem dX2_add_0 : decode cX2_add 0 = .ok (.aload_n 0, 1) := by decide +kernel
theorem dX2_add_1 : decode cX2_add 1 = .ok (.getfield 9, 3) := by decide +kernel
theorem dX2_add_4 : decode cX2_add 4 = .ok (.aload_n 0, 1) := by decide +kernel
theorem dX2_add_5 : decode cX2_add 5 = .ok (.getfield 21, 3) := by decide +kernel
theorem dX2_add_8 : decode cX2_add 8 = .ok (.iload_n 1, 1) := by decide +kernel
theorem dX2_add_9 : decode cX2_add 9 = .ok (.invokestatic 25, 3) := by decide +kernel
theorem dX2_add_12 : decode cX2_add 12 = .ok (.aload_n 0, 1) := by decide +kernel
theorem dX2_add_13 : decode cX2_add 13 = .ok (.getfield 15, 3) := by decide +kernel
theorem dX2_add_16 : decode cX2_add 16 = .ok (.aload_n 0, 1) := by decide +kernel
theorem dX2_add_17 : decode cX2_add 17 = .ok (.getfield 21, 3) := by decide +kernel
theorem dX2_add_20 : decode cX2_add 20 = .ok (.iload_n 2, 1) := by decide +kernel
theorem dX2_add_21 : decode cX2_add 21 = .ok (.invokestatic 25, 3) := by decide +kernel
theorem dX2_add_24 : decode cX2_add 24 = .ok (.aload_n 0, 1) := by decide +kernel
theorem dX2_add_25 : decode cX2_add 25 = .ok (.dup, 1) := by decide +kernel
theorem dX2_add_26 : decode cX2_add 26 = .ok (.getfield 21, 3) := by decide +kernel
theorem dX2_add_29 : decode cX2_add 29 = .ok (.iconst 1, 1) := by decide +kernel
theorem dX2_add_30 : decode cX2_add 30 = .ok (.iadd, 1) := by decide +kernel
theorem dX2_add_31 : decode cX2_add 31 = .ok (.putfield 21, 3) := by decide +kernel
theorem dX2_add_34 : decode cX2_add 34 = .ok (.return_, 1) := by decide +kernel
theorem dX2_howMany_0 : decode cX2_howMany 0 = .ok (.iconst 0, 1) := by decide +kernel
theorem dX2_howMany_1 : decode cX2_howMany 1 = .ok (.istore_n 2, 1) := by decide +kernel
theorem dX2_howMany_2 : decode cX2_howMany 2 = .ok (.iconst 0, 1) := by decide +kernel
theorem dX2_howMany_3 : decode cX2_howMany 3 = .ok (.istore_n 3, 1) := by decide +kernel
theorem dX2_howMany_4 : decode cX2_howMany 4 = .ok (.iload_n 3, 1) := by decide +kernel
theorem dX2_howMany_5 : decode cX2_howMany 5 = .ok (.bipush 50, 2) := by decide +kernel
theorem dX2_howMany_7 : decode cX2_howMany 7 = .ok (.if_icmp .ge 21, 3) := by decide +kernel
theorem dX2_howMany_10 : decode cX2_howMany 10 = .ok (.aload_n 0, 1) := by decide +kernel
theorem dX2_howMany_11 : decode cX2_howMany 11 = .ok (.iload_n 3, 1) := by decide +kernel
theorem dX2_howMany_12 : decode cX2_howMany 12 = .ok (.iload_n 1, 1) := by decide +kernel
theorem dX2_howMany_13 : decode cX2_howMany 13 = .ok (.invokevirtual 29, 3) := by decide +kernel
theorem dX2_howMany_16 : decode cX2_howMany 16 = .ok (.ifCond .eq 6, 3) := by decide +kernel
theorem dX2_howMany_19 : decode cX2_howMany 19 = .ok (.iinc 2 1, 3) := by decide +kernel
theorem dX2_howMany_22 : decode cX2_howMany 22 = .ok (.iinc 3 1, 3) := by decide +kernel
theorem dX2_howMany_25 : decode cX2_howMany 25 = .ok (.goto (-21), 3) := by decide +kernel
theorem dX2_howMany_28 : decode cX2_howMany 28 = .ok (.iload_n 2, 1) := by decide +kernel
theorem dX2_howMany_29 : decode cX2_howMany 29 = .ok (.ireturn, 1) := by decide +kernel
theorem dX2_first_0 : decode cX2_first 0 = .ok (.iconst 0, 1) := by decide +kernel
theorem dX2_first_1 : decode cX2_first 1 = .ok (.istore_n 2, 1) := by decide +kernel
theorem dX2_first_2 : decode cX2_first 2 = .ok (.iload_n 2, 1) := by decide +kernel
theorem dX2_first_3 : decode cX2_first 3 = .ok (.bipush 50, 2) := by decide +kernel
theorem dX2_first_5 : decode cX2_first 5 = .ok (.if_icmp .ge 20, 3) := by decide +kernel
theorem dX2_first_8 : decode cX2_first 8 = .ok (.aload_n 0, 1) := by decide +kernel
theorem dX2_first_9 : decode cX2_first 9 = .ok (.iload_n 2, 1) := by decide +kernel
theorem dX2_first_10 : decode cX2_first 10 = .ok (.iload_n 1, 1) := by decide +kernel
theorem dX2_first_11 : decode cX2_first 11 = .ok (.invokevirtual 29, 3) := by decide +kernel
theorem dX2_first_14 : decode cX2_first 14 = .ok (.ifCond .eq 5, 3) := by decide +kernel
theorem dX2_first_17 : decode cX2_first 17 = .ok (.iload_n 2, 1) := by decide +kernel
theorem dX2_first_18 : decode cX2_first 18 = .ok (.ireturn, 1) := by decide +kernel
theorem dX2_first_19 : decode cX2_first 19 = .ok (.iinc 2 1, 3) := by decide +kernel
theorem dX2_first_22 : decode cX2_first 22 = .ok (.goto (-20), 3) := by decide +kernel
theorem dX2_first_25 : decode cX2_first 25 = .ok (.iconst (-1), 1) := by decide +kernel
theorem dX2_first_26 : decode cX2_first 26 = .ok (.ireturn, 1) := by decide +kernel
theorem dX2_bestWord_0 : decode cX2_bestWord 0 = .ok (.aload_n 0, 1) := by decide +kernel
theorem dX2_bestWord_1 : decode cX2_bestWord 1 = .ok (.iload_n 1, 1) := by decide +kernel
theorem dX2_bestWord_2 : decode cX2_bestWord 2 = .ok (.invokevirtual 33, 3) := by decide +kernel
theorem dX2_bestWord_5 : decode cX2_bestWord 5 = .ok (.istore_n 2, 1) := by decide +kernel
theorem dX2_bestWord_6 : decode cX2_bestWord 6 = .ok (.iconst (-1), 1) := by decide +kernel
theorem dX2_bestWord_7 : decode cX2_bestWord 7 = .ok (.istore_n 3, 1) := by decide +kernel
theorem dX2_bestWord_8 : decode cX2_bestWord 8 = .ok (.iconst 0, 1) := by decide +kernel
theorem dX2_bestWord_9 : decode cX2_bestWord 9 = .ok (.istore 4, 2) := by decide +kernel
theorem dX2_bestWord_11 : decode cX2_bestWord 11 = .ok (.iload 4, 2) := by decide +kernel
theorem dX2_bestWord_13 : decode cX2_bestWord 13 = .ok (.iload_n 1, 1) := by decide +kernel
theorem dX2_bestWord_14 : decode cX2_bestWord 14 = .ok (.if_icmp .ge 30, 3) := by decide +kernel
theorem dX2_bestWord_17 : decode cX2_bestWord 17 = .ok (.aload_n 0, 1) := by decide +kernel
theorem dX2_bestWord_18 : decode cX2_bestWord 18 = .ok (.iload 4, 2) := by decide +kernel
theorem dX2_bestWord_20 : decode cX2_bestWord 20 = .ok (.iload_n 1, 1) := by decide +kernel
theorem dX2_bestWord_21 : decode cX2_bestWord 21 = .ok (.invokevirtual 37, 3) := by decide +kernel
theorem dX2_bestWord_24 : decode cX2_bestWord 24 = .ok (.istore 5, 2) := by decide +kernel
theorem dX2_bestWord_26 : decode cX2_bestWord 26 = .ok (.iload 5, 2) := by decide +kernel
theorem dX2_bestWord_28 : decode cX2_bestWord 28 = .ok (.iload_n 2, 1) := by decide +kernel
theorem dX2_bestWord_29 : decode cX2_bestWord 29 = .ok (.if_icmp .ge 9, 3) := by decide +kernel
theorem dX2_bestWord_32 : decode cX2_bestWord 32 = .ok (.iload 5, 2) := by decide +kernel
theorem dX2_bestWord_34 : decode cX2_bestWord 34 = .ok (.istore_n 2, 1) := by decide +kernel
theorem dX2_bestWord_35 : decode cX2_bestWord 35 = .ok (.iload 4, 2) := by decide +kernel
theorem dX2_bestWord_37 : decode cX2_bestWord 37 = .ok (.istore_n 3, 1) := by decide +kernel
theorem dX2_bestWord_38 : decode cX2_bestWord 38 = .ok (.iinc 4 1, 3) := by decide +kernel
theorem dX2_bestWord_41 : decode cX2_bestWord 41 = .ok (.goto (-30), 3) := by decide +kernel
theorem dX2_bestWord_44 : decode cX2_bestWord 44 = .ok (.iload_n 3, 1) := by decide +kernel
theorem dX2_bestWord_45 : decode cX2_bestWord 45 = .ok (.ireturn, 1) := by decide +kernel
theorem dX2_greatestPart_0 : decode cX2_greatestPart 0 = .ok (.aload_n 0, 1) := by decide +kernel
theorem dX2_greatestPart_1 : decode cX2_greatestPart 1 = .ok (.getfield 18, 3) := by decide +kernel
theorem dX2_greatestPart_4 : decode cX2_greatestPart 4 = .ok (.iconst 0, 1) := by decide +kernel
theorem dX2_greatestPart_5 : decode cX2_greatestPart 5 = .ok (.invokestatic 41, 3) := by decide +kernel
theorem dX2_greatestPart_8 : decode cX2_greatestPart 8 = .ok (.iconst 0, 1) := by decide +kernel
theorem dX2_greatestPart_9 : decode cX2_greatestPart 9 = .ok (.istore_n 3, 1) := by decide +kernel
theorem dX2_greatestPart_10 : decode cX2_greatestPart 10 = .ok (.iconst 0, 1) := by decide +kernel
theorem dX2_greatestPart_11 : decode cX2_greatestPart 11 = .ok (.istore 4, 2) := by decide +kernel
theorem dX2_greatestPart_13 : decode cX2_greatestPart 13 = .ok (.iload 4, 2) := by decide +kernel
theorem dX2_greatestPart_15 : decode cX2_greatestPart 15 = .ok (.bipush 50, 2) := by decide +kernel
theorem dX2_greatestPart_17 : decode cX2_greatestPart 17 = .ok (.if_icmp .ge 70, 3) := by decide +kernel
theorem dX2_greatestPart_20 : decode cX2_greatestPart 20 = .ok (.aload_n 0, 1) := by decide +kernel
theorem dX2_greatestPart_21 : decode cX2_greatestPart 21 = .ok (.iload 4, 2) := by decide +kernel
theorem dX2_greatestPart_23 : decode cX2_greatestPart 23 = .ok (.iload_n 2, 1) := by decide +kernel
theorem dX2_greatestPart_24 : decode cX2_greatestPart 24 = .ok (.invokevirtual 29, 3) := by decide +kernel
theorem dX2_greatestPart_27 : decode cX2_greatestPart 27 = .ok (.ifCond .eq 54, 3) := by decide +kernel
theorem dX2_greatestPart_30 : decode cX2_greatestPart 30 = .ok (.iload 4, 2) := by decide +kernel
theorem dX2_greatestPart_32 : decode cX2_greatestPart 32 = .ok (.bipush 10, 2) := by decide +kernel
theorem dX2_greatestPart_34 : decode cX2_greatestPart 34 = .ok (.idiv, 1) := by decide +kernel
theorem dX2_greatestPart_35 : decode cX2_greatestPart 35 = .ok (.iload 4, 2) := by decide +kernel
theorem dX2_greatestPart_37 : decode cX2_greatestPart 37 = .ok (.bipush 10, 2) := by decide +kernel
theorem dX2_greatestPart_39 : decode cX2_greatestPart 39 = .ok (.irem, 1) := by decide +kernel
theorem dX2_greatestPart_40 : decode cX2_greatestPart 40 = .ok (.iload_n 2, 1) := by decide +kernel
theorem dX2_greatestPart_41 : decode cX2_greatestPart 41 = .ok (.iload_n 1, 1) := by decide +kernel
theorem dX2_greatestPart_42 : decode cX2_greatestPart 42 = .ok (.invokestatic 47, 3) := by decide +kernel
theorem dX2_greatestPart_45 : decode cX2_greatestPart 45 = .ok (.istore 5, 2) := by decide +kernel
theorem dX2_greatestPart_47 : decode cX2_greatestPart 47 = .ok (.aload_n 0, 1) := by decide +kernel
theorem dX2_greatestPart_48 : decode cX2_greatestPart 48 = .ok (.getfield 18, 3) := by decide +kernel
theorem dX2_greatestPart_51 : decode cX2_greatestPart 51 = .ok (.iload 5, 2) := by decide +kernel
theorem dX2_greatestPart_53 : decode cX2_greatestPart 53 = .ok (.aload_n 0, 1) := by decide +kernel
theorem dX2_greatestPart_54 : decode cX2_greatestPart 54 = .ok (.getfield 18, 3) := by decide +kernel
theorem dX2_greatestPart_57 : decode cX2_greatestPart 57 = .ok (.iload 5, 2) := by decide +kernel
theorem dX2_greatestPart_59 : decode cX2_greatestPart 59 = .ok (.invokestatic 51, 3) := by decide +kernel
theorem dX2_greatestPart_62 : decode cX2_greatestPart 62 = .ok (.iconst 1, 1) := by decide +kernel
theorem dX2_greatestPart_63 : decode cX2_greatestPart 63 = .ok (.iadd, 1) := by decide +kernel
theorem dX2_greatestPart_64 : decode cX2_greatestPart 64 = .ok (.invokestatic 25, 3) := by decide +kernel
theorem dX2_greatestPart_67 : decode cX2_greatestPart 67 = .ok (.iload_n 3, 1) := by decide +kernel
theorem dX2_greatestPart_68 : decode cX2_greatestPart 68 = .ok (.aload_n 0, 1) := by decide +kernel
theorem dX2_greatestPart_69 : decode cX2_greatestPart 69 = .ok (.getfield 18, 3) := by decide +kernel
theorem dX2_greatestPart_72 : decode cX2_greatestPart 72 = .ok (.iload 5, 2) := by decide +kernel
theorem dX2_greatestPart_74 : decode cX2_greatestPart 74 = .ok (.invokestatic 51, 3) := by decide +kernel
theorem dX2_greatestPart_77 : decode cX2_greatestPart 77 = .ok (.invokestatic 55, 3) := by decide +kernel
theorem dX2_greatestPart_80 : decode cX2_greatestPart 80 = .ok (.istore_n 3, 1) := by decide +kernel
theorem dX2_greatestPart_81 : decode cX2_greatestPart 81 = .ok (.iinc 4 1, 3) := by decide +kernel
theorem dX2_greatestPart_84 : decode cX2_greatestPart 84 = .ok (.goto (-71), 3) := by decide +kernel
theorem dX2_greatestPart_87 : decode cX2_greatestPart 87 = .ok (.iload_n 3, 1) := by decide +kernel
theorem dX2_greatestPart_88 : decode cX2_greatestPart 88 = .ok (.ireturn, 1) := by decide +kernel
theorem dX2_fits_0 : decode cX2_fits 0 = .ok (.iload_n 1, 1) := by decide +kernel
theorem dX2_fits_1 : decode cX2_fits 1 = .ok (.bipush 10, 2) := by decide +kernel
theorem dX2_fits_3 : decode cX2_fits 3 = .ok (.idiv, 1) := by decide +kernel
theorem dX2_fits_4 : decode cX2_fits 4 = .ok (.istore_n 3, 1) := by decide +kernel
theorem dX2_fits_5 : decode cX2_fits 5 = .ok (.iload_n 1, 1) := by decide +kernel
theorem dX2_fits_6 : decode cX2_fits 6 = .ok (.bipush 10, 2) := by decide +kernel
theorem dX2_fits_8 : decode cX2_fits 8 = .ok (.irem, 1) := by decide +kernel
theorem dX2_fits_9 : decode cX2_fits 9 = .ok (.istore 4, 2) := by decide +kernel
theorem dX2_fits_11 : decode cX2_fits 11 = .ok (.iload_n 3, 1) := by decide +kernel
theorem dX2_fits_12 : decode cX2_fits 12 = .ok (.iload 4, 2) := by decide +kernel
theorem dX2_fits_14 : decode cX2_fits 14 = .ok (.iload_n 2, 1) := by decide +kernel
theorem dX2_fits_15 : decode cX2_fits 15 = .ok (.invokestatic 60, 3) := by decide +kernel
theorem dX2_fits_18 : decode cX2_fits 18 = .ok (.ifCond .ne 5, 3) := by decide +kernel
theorem dX2_fits_21 : decode cX2_fits 21 = .ok (.iconst 0, 1) := by decide +kernel
theorem dX2_fits_22 : decode cX2_fits 22 = .ok (.ireturn, 1) := by decide +kernel
theorem dX2_fits_23 : decode cX2_fits 23 = .ok (.iconst 0, 1) := by decide +kernel
theorem dX2_fits_24 : decode cX2_fits 24 = .ok (.istore 5, 2) := by decide +kernel
theorem dX2_fits_26 : decode cX2_fits 26 = .ok (.iload 5, 2) := by decide +kernel
theorem dX2_fits_28 : decode cX2_fits 28 = .ok (.aload_n 0, 1) := by decide +kernel
theorem dX2_fits_29 : decode cX2_fits 29 = .ok (.getfield 21, 3) := by decide +kernel
theorem dX2_fits_32 : decode cX2_fits 32 = .ok (.if_icmp .ge 39, 3) := by decide +kernel
theorem dX2_fits_35 : decode cX2_fits 35 = .ok (.iload_n 3, 1) := by decide +kernel
theorem dX2_fits_36 : decode cX2_fits 36 = .ok (.iload 4, 2) := by decide +kernel
theorem dX2_fits_38 : decode cX2_fits 38 = .ok (.iload_n 2, 1) := by decide +kernel
theorem dX2_fits_39 : decode cX2_fits 39 = .ok (.aload_n 0, 1) := by decide +kernel
theorem dX2_fits_40 : decode cX2_fits 40 = .ok (.getfield 9, 3) := by decide +kernel
theorem dX2_fits_43 : decode cX2_fits 43 = .ok (.iload 5, 2) := by decide +kernel
theorem dX2_fits_45 : decode cX2_fits 45 = .ok (.invokestatic 51, 3) := by decide +kernel
theorem dX2_fits_48 : decode cX2_fits 48 = .ok (.invokestatic 47, 3) := by decide +kernel
theorem dX2_fits_51 : decode cX2_fits 51 = .ok (.aload_n 0, 1) := by decide +kernel
theorem dX2_fits_52 : decode cX2_fits 52 = .ok (.getfield 15, 3) := by decide +kernel
theorem dX2_fits_55 : decode cX2_fits 55 = .ok (.iload 5, 2) := by decide +kernel
theorem dX2_fits_57 : decode cX2_fits 57 = .ok (.invokestatic 51, 3) := by decide +kernel
theorem dX2_fits_60 : decode cX2_fits 60 = .ok (.if_icmp .eq 5, 3) := by decide +kernel
theorem dX2_fits_63 : decode cX2_fits 63 = .ok (.iconst 0, 1) := by decide +kernel
theorem dX2_fits_64 : decode cX2_fits 64 = .ok (.ireturn, 1) := by decide +kernel
theorem dX2_fits_65 : decode cX2_fits 65 = .ok (.iinc 5 1, 3) := by decide +kernel
theorem dX2_fits_68 : decode cX2_fits 68 = .ok (.goto (-42), 3) := by decide +kernel
theorem dX2_fits_71 : decode cX2_fits 71 = .ok (.iconst 1, 1) := by decide +kernel
theorem dX2_fits_72 : decode cX2_fits 72 = .ok (.ireturn, 1) := by decide +kernel
theorem dX2_isListed_0 : decode cX2_isListed 0 = .ok (.iload_n 0, 1) := by decide +kernel
theorem dX2_isListed_1 : decode cX2_isListed 1 = .ok (.tableswitch 60 1 4 #[31, 47, 60, 31], 31) := by decide +kernel
theorem dX2_isListed_32 : decode cX2_isListed 32 = .ok (.iload_n 1, 1) := by decide +kernel
theorem dX2_isListed_33 : decode cX2_isListed 33 = .ok (.iconst 1, 1) := by decide +kernel
theorem dX2_isListed_34 : decode cX2_isListed 34 = .ok (.if_icmp .lt 12, 3) := by decide +kernel
theorem dX2_isListed_37 : decode cX2_isListed 37 = .ok (.iload_n 1, 1) := by decide +kernel
theorem dX2_isListed_38 : decode cX2_isListed 38 = .ok (.iload_n 2, 1) := by decide +kernel
theorem dX2_isListed_39 : decode cX2_isListed 39 = .ok (.if_icmp .ge 7, 3) := by decide +kernel
theorem dX2_isListed_42 : decode cX2_isListed 42 = .ok (.iconst 1, 1) := by decide +kernel
theorem dX2_isListed_43 : decode cX2_isListed 43 = .ok (.goto 4, 3) := by decide +kernel
theorem dX2_isListed_46 : decode cX2_isListed 46 = .ok (.iconst 0, 1) := by decide +kernel
theorem dX2_isListed_47 : decode cX2_isListed 47 = .ok (.ireturn, 1) := by decide +kernel
theorem dX2_isListed_48 : decode cX2_isListed 48 = .ok (.iload_n 1, 1) := by decide +kernel
theorem dX2_isListed_49 : decode cX2_isListed 49 = .ok (.iload_n 2, 1) := by decide +kernel
theorem dX2_isListed_50 : decode cX2_isListed 50 = .ok (.iconst 1, 1) := by decide +kernel
theorem dX2_isListed_51 : decode cX2_isListed 51 = .ok (.isub, 1) := by decide +kernel
theorem dX2_isListed_52 : decode cX2_isListed 52 = .ok (.if_icmp .ge 7, 3) := by decide +kernel
theorem dX2_isListed_55 : decode cX2_isListed 55 = .ok (.iconst 1, 1) := by decide +kernel
theorem dX2_isListed_56 : decode cX2_isListed 56 = .ok (.goto 4, 3) := by decide +kernel
theorem dX2_isListed_59 : decode cX2_isListed 59 = .ok (.iconst 0, 1) := by decide +kernel
theorem dX2_isListed_60 : decode cX2_isListed 60 = .ok (.ireturn, 1) := by decide +kernel
theorem dX2_isListed_61 : decode cX2_isListed 61 = .ok (.iload_n 1, 1) := by decide +kernel
theorem dX2_isListed_62 : decode cX2_isListed 62 = .ok (.ifCond .ne 11, 3) := by decide +kernel
theorem dX2_isListed_65 : decode cX2_isListed 65 = .ok (.iload_n 2, 1) := by decide +kernel
theorem dX2_isListed_66 : decode cX2_isListed 66 = .ok (.ifCond .le 7, 3) := by decide +kernel
theorem dX2_isListed_69 : decode cX2_isListed 69 = .ok (.iconst 1, 1) := by decide +kernel
theorem dX2_isListed_70 : decode cX2_isListed 70 = .ok (.goto 4, 3) := by decide +kernel
theorem dX2_isListed_73 : decode cX2_isListed 73 = .ok (.iconst 0, 1) := by decide +kernel
theorem dX2_isListed_74 : decode cX2_isListed 74 = .ok (.ireturn, 1) := by decide +kernel
theorem dX3_init_0 : decode cX3_init 0 = .ok (.aload_n 0, 1) := by decide +kernel
theorem dX3_init_1 : decode cX3_init 1 = .ok (.invokespecial 3, 3) := by decide +kernel
theorem dX3_init_4 : decode cX3_init 4 = .ok (.aload_n 0, 1) := by decide +kernel
theorem dX3_init_5 : decode cX3_init 5 = .ok (.bipush 16, 2) := by decide +kernel
theorem dX3_init_7 : decode cX3_init 7 = .ok (.anewarray 9, 3) := by decide +kernel
theorem dX3_init_10 : decode cX3_init 10 = .ok (.putfield 11, 3) := by decide +kernel
theorem dX3_init_13 : decode cX3_init 13 = .ok (.iconst 0, 1) := by decide +kernel
theorem dX3_init_14 : decode cX3_init 14 = .ok (.istore_n 1, 1) := by decide +kernel
theorem dX3_init_15 : decode cX3_init 15 = .ok (.iload_n 1, 1) := by decide +kernel
theorem dX3_init_16 : decode cX3_init 16 = .ok (.aload_n 0, 1) := by decide +kernel
theorem dX3_init_17 : decode cX3_init 17 = .ok (.getfield 11, 3) := by decide +kernel
theorem dX3_init_20 : decode cX3_init 20 = .ok (.arraylength, 1) := by decide +kernel
theorem dX3_init_21 : decode cX3_init 21 = .ok (.if_icmp .ge 22, 3) := by decide +kernel
theorem dX3_init_24 : decode cX3_init 24 = .ok (.aload_n 0, 1) := by decide +kernel
theorem dX3_init_25 : decode cX3_init 25 = .ok (.getfield 11, 3) := by decide +kernel
theorem dX3_init_28 : decode cX3_init 28 = .ok (.iload_n 1, 1) := by decide +kernel
theorem dX3_init_29 : decode cX3_init 29 = .ok (.new 9, 3) := by decide +kernel
theorem dX3_init_32 : decode cX3_init 32 = .ok (.dup, 1) := by decide +kernel
theorem dX3_init_33 : decode cX3_init 33 = .ok (.invokespecial 17, 3) := by decide +kernel
theorem dX3_init_36 : decode cX3_init 36 = .ok (.aastore, 1) := by decide +kernel
theorem dX3_init_37 : decode cX3_init 37 = .ok (.iinc 1 1, 3) := by decide +kernel
theorem dX3_init_40 : decode cX3_init 40 = .ok (.goto (-25), 3) := by decide +kernel
theorem dX3_init_43 : decode cX3_init 43 = .ok (.return_, 1) := by decide +kernel
theorem dX3_remember_0 : decode cX3_remember 0 = .ok (.aload_n 0, 1) := by decide +kernel
theorem dX3_remember_1 : decode cX3_remember 1 = .ok (.aload_n 0, 1) := by decide +kernel
theorem dX3_remember_2 : decode cX3_remember 2 = .ok (.getfield 18, 3) := by decide +kernel
theorem dX3_remember_5 : decode cX3_remember 5 = .ok (.invokevirtual 22, 3) := by decide +kernel
theorem dX3_remember_8 : decode cX3_remember 8 = .ok (.astore_n 2, 1) := by decide +kernel
theorem dX3_remember_9 : decode cX3_remember 9 = .ok (.aload_n 2, 1) := by decide +kernel
theorem dX3_remember_10 : decode cX3_remember 10 = .ok (.ifnull 36, 3) := by decide +kernel
theorem dX3_remember_13 : decode cX3_remember 13 = .ok (.aload_n 2, 1) := by decide +kernel
theorem dX3_remember_14 : decode cX3_remember 14 = .ok (.aload_n 1, 1) := by decide +kernel
theorem dX3_remember_15 : decode cX3_remember 15 = .ok (.invokevirtual 26, 3) := by decide +kernel
theorem dX3_remember_18 : decode cX3_remember 18 = .ok (.aload_n 0, 1) := by decide +kernel
theorem dX3_remember_19 : decode cX3_remember 19 = .ok (.aload_n 0, 1) := by decide +kernel
theorem dX3_remember_20 : decode cX3_remember 20 = .ok (.getfield 18, 3) := by decide +kernel
theorem dX3_remember_23 : decode cX3_remember 23 = .ok (.iconst 1, 1) := by decide +kernel
theorem dX3_remember_24 : decode cX3_remember 24 = .ok (.iadd, 1) := by decide +kernel
theorem dX3_remember_25 : decode cX3_remember 25 = .ok (.bipush 16, 2) := by decide +kernel
theorem dX3_remember_27 : decode cX3_remember 27 = .ok (.irem, 1) := by decide +kernel
theorem dX3_remember_28 : decode cX3_remember 28 = .ok (.putfield 18, 3) := by decide +kernel
theorem dX3_remember_31 : decode cX3_remember 31 = .ok (.aload_n 0, 1) := by decide +kernel
theorem dX3_remember_32 : decode cX3_remember 32 = .ok (.bipush 16, 2) := by decide +kernel
theorem dX3_remember_34 : decode cX3_remember 34 = .ok (.aload_n 0, 1) := by decide +kernel
theorem dX3_remember_35 : decode cX3_remember 35 = .ok (.getfield 30, 3) := by decide +kernel
theorem dX3_remember_38 : decode cX3_remember 38 = .ok (.iconst 1, 1) := by decide +kernel
theorem dX3_remember_39 : decode cX3_remember 39 = .ok (.iadd, 1) := by decide +kernel
theorem dX3_remember_40 : decode cX3_remember 40 = .ok (.invokestatic 33, 3) := by decide +kernel
theorem dX3_remember_43 : decode cX3_remember 43 = .ok (.putfield 30, 3) := by decide +kernel
theorem dX3_remember_46 : decode cX3_remember 46 = .ok (.return_, 1) := by decide +kernel
theorem dX3_bringBack_0 : decode cX3_bringBack 0 = .ok (.aload_n 0, 1) := by decide +kernel
theorem dX3_bringBack_1 : decode cX3_bringBack 1 = .ok (.getfield 18, 3) := by decide +kernel
theorem dX3_bringBack_4 : decode cX3_bringBack 4 = .ok (.bipush 16, 2) := by decide +kernel
theorem dX3_bringBack_6 : decode cX3_bringBack 6 = .ok (.iadd, 1) := by decide +kernel
theorem dX3_bringBack_7 : decode cX3_bringBack 7 = .ok (.iconst 1, 1) := by decide +kernel
theorem dX3_bringBack_8 : decode cX3_bringBack 8 = .ok (.isub, 1) := by decide +kernel
theorem dX3_bringBack_9 : decode cX3_bringBack 9 = .ok (.bipush 16, 2) := by decide +kernel
theorem dX3_bringBack_11 : decode cX3_bringBack 11 = .ok (.irem, 1) := by decide +kernel
theorem dX3_bringBack_12 : decode cX3_bringBack 12 = .ok (.istore_n 2, 1) := by decide +kernel
theorem dX3_bringBack_13 : decode cX3_bringBack 13 = .ok (.aload_n 0, 1) := by decide +kernel
theorem dX3_bringBack_14 : decode cX3_bringBack 14 = .ok (.iload_n 2, 1) := by decide +kernel
theorem dX3_bringBack_15 : decode cX3_bringBack 15 = .ok (.invokevirtual 22, 3) := by decide +kernel
theorem dX3_bringBack_18 : decode cX3_bringBack 18 = .ok (.astore_n 3, 1) := by decide +kernel
theorem dX3_bringBack_19 : decode cX3_bringBack 19 = .ok (.aload_n 3, 1) := by decide +kernel
theorem dX3_bringBack_20 : decode cX3_bringBack 20 = .ok (.ifnull 30, 3) := by decide +kernel
theorem dX3_bringBack_23 : decode cX3_bringBack 23 = .ok (.aload_n 0, 1) := by decide +kernel
theorem dX3_bringBack_24 : decode cX3_bringBack 24 = .ok (.getfield 30, 3) := by decide +kernel
theorem dX3_bringBack_27 : decode cX3_bringBack 27 = .ok (.ifCond .le 23, 3) := by decide +kernel
theorem dX3_bringBack_30 : decode cX3_bringBack 30 = .ok (.aload_n 1, 1) := by decide +kernel
theorem dX3_bringBack_31 : decode cX3_bringBack 31 = .ok (.aload_n 3, 1) := by decide +kernel
theorem dX3_bringBack_32 : decode cX3_bringBack 32 = .ok (.invokevirtual 26, 3) := by decide +kernel
theorem dX3_bringBack_35 : decode cX3_bringBack 35 = .ok (.aload_n 0, 1) := by decide +kernel
theorem dX3_bringBack_36 : decode cX3_bringBack 36 = .ok (.iload_n 2, 1) := by decide +kernel
theorem dX3_bringBack_37 : decode cX3_bringBack 37 = .ok (.putfield 18, 3) := by decide +kernel
theorem dX3_bringBack_40 : decode cX3_bringBack 40 = .ok (.aload_n 0, 1) := by decide +kernel
theorem dX3_bringBack_41 : decode cX3_bringBack 41 = .ok (.dup, 1) := by decide +kernel
theorem dX3_bringBack_42 : decode cX3_bringBack 42 = .ok (.getfield 30, 3) := by decide +kernel
theorem dX3_bringBack_45 : decode cX3_bringBack 45 = .ok (.iconst 1, 1) := by decide +kernel
theorem dX3_bringBack_46 : decode cX3_bringBack 46 = .ok (.isub, 1) := by decide +kernel
theorem dX3_bringBack_47 : decode cX3_bringBack 47 = .ok (.putfield 30, 3) := by decide +kernel
theorem dX3_bringBack_50 : decode cX3_bringBack 50 = .ok (.return_, 1) := by decide +kernel
theorem dX3_world_0 : decode cX3_world 0 = .ok (.iload_n 1, 1) := by decide +kernel
theorem dX3_world_1 : decode cX3_world 1 = .ok (.ifCond .lt 21, 3) := by decide +kernel
theorem dX3_world_4 : decode cX3_world 4 = .ok (.iload_n 1, 1) := by decide +kernel
theorem dX3_world_5 : decode cX3_world 5 = .ok (.aload_n 0, 1) := by decide +kernel
theorem dX3_world_6 : decode cX3_world 6 = .ok (.getfield 11, 3) := by decide +kernel
theorem dX3_world_9 : decode cX3_world 9 = .ok (.arraylength, 1) := by decide +kernel
theorem dX3_world_10 : decode cX3_world 10 = .ok (.if_icmp .ge 12, 3) := by decide +kernel
theorem dX3_world_13 : decode cX3_world 13 = .ok (.aload_n 0, 1) := by decide +kernel
theorem dX3_world_14 : decode cX3_world 14 = .ok (.getfield 11, 3) := by decide +kernel
theorem dX3_world_17 : decode cX3_world 17 = .ok (.iload_n 1, 1) := by decide +kernel
theorem dX3_world_18 : decode cX3_world 18 = .ok (.aaload, 1) := by decide +kernel
theorem dX3_world_19 : decode cX3_world 19 = .ok (.goto 4, 3) := by decide +kernel
theorem dX3_world_22 : decode cX3_world 22 = .ok (.aconst_null, 1) := by decide +kernel
theorem dX3_world_23 : decode cX3_world 23 = .ok (.areturn, 1) := by decide +kernel
theorem dX4_init_0 : decode cX4_init 0 = .ok (.aload_n 0, 1) := by decide +kernel
theorem dX4_init_1 : decode cX4_init 1 = .ok (.invokespecial 3, 3) := by decide +kernel
theorem dX4_init_4 : decode cX4_init 4 = .ok (.aload_n 0, 1) := by decide +kernel
theorem dX4_init_5 : decode cX4_init 5 = .ok (.sipush 240, 3) := by decide +kernel
theorem dX4_init_8 : decode cX4_init 8 = .ok (.newarray .int, 2) := by decide +kernel
theorem dX4_init_10 : decode cX4_init 10 = .ok (.putfield 9, 3) := by decide +kernel
theorem dX4_init_13 : decode cX4_init 13 = .ok (.aload_n 0, 1) := by decide +kernel
theorem dX4_init_14 : decode cX4_init 14 = .ok (.iconst (-1), 1) := by decide +kernel
theorem dX4_init_15 : decode cX4_init 15 = .ok (.putfield 15, 3) := by decide +kernel
theorem dX4_init_18 : decode cX4_init 18 = .ok (.return_, 1) := by decide +kernel
theorem dX4_readInto_0 : decode cX4_readInto 0 = .ok (.aload_n 1, 1) := by decide +kernel
theorem dX4_readInto_1 : decode cX4_readInto 1 = .ok (.invokevirtual 19, 3) := by decide +kernel
theorem dX4_readInto_4 : decode cX4_readInto 4 = .ok (.aload_n 0, 1) := by decide +kernel
theorem dX4_readInto_5 : decode cX4_readInto 5 = .ok (.iconst 0, 1) := by decide +kernel
theorem dX4_readInto_6 : decode cX4_readInto 6 = .ok (.putfield 24, 3) := by decide +kernel
theorem dX4_readInto_9 : decode cX4_readInto 9 = .ok (.aload_n 0, 1) := by decide +kernel
theorem dX4_readInto_10 : decode cX4_readInto 10 = .ok (.iconst 0, 1) := by decide +kernel
theorem dX4_readInto_11 : decode cX4_readInto 11 = .ok (.putfield 27, 3) := by decide +kernel
theorem dX4_readInto_14 : decode cX4_readInto 14 = .ok (.aload_n 0, 1) := by decide +kernel
theorem dX4_readInto_15 : decode cX4_readInto 15 = .ok (.iconst (-1), 1) := by decide +kernel
theorem dX4_readInto_16 : decode cX4_readInto 16 = .ok (.putfield 15, 3) := by decide +kernel
theorem dX4_readInto_19 : decode cX4_readInto 19 = .ok (.aload_n 0, 1) := by decide +kernel
theorem dX4_readInto_20 : decode cX4_readInto 20 = .ok (.invokevirtual 30, 3) := by decide +kernel
theorem dX4_readInto_23 : decode cX4_readInto 23 = .ok (.iconst 0, 1) := by decide +kernel
theorem dX4_readInto_24 : decode cX4_readInto 24 = .ok (.istore_n 2, 1) := by decide +kernel
theorem dX4_readInto_25 : decode cX4_readInto 25 = .ok (.iload_n 2, 1) := by decide +kernel
theorem dX4_readInto_26 : decode cX4_readInto 26 = .ok (.sipush 240, 3) := by decide +kernel
theorem dX4_readInto_29 : decode cX4_readInto 29 = .ok (.if_icmp .ge 36, 3) := by decide +kernel
theorem dX4_readInto_32 : decode cX4_readInto 32 = .ok (.aload_n 0, 1) := by decide +kernel
theorem dX4_readInto_33 : decode cX4_readInto 33 = .ok (.getfield 24, 3) := by decide +kernel
theorem dX4_readInto_36 : decode cX4_readInto 36 = .ok (.aload_n 0, 1) := by decide +kernel
theorem dX4_readInto_37 : decode cX4_readInto 37 = .ok (.getfield 33, 3) := by decide +kernel
theorem dX4_readInto_40 : decode cX4_readInto 40 = .ok (.if_icmp .ge 25, 3) := by decide +kernel
theorem dX4_readInto_43 : decode cX4_readInto 43 = .ok (.aload_n 0, 1) := by decide +kernel
theorem dX4_readInto_44 : decode cX4_readInto 44 = .ok (.getfield 27, 3) := by decide +kernel
theorem dX4_readInto_47 : decode cX4_readInto 47 = .ok (.ifCond .ne 18, 3) := by decide +kernel
theorem dX4_readInto_50 : decode cX4_readInto 50 = .ok (.aload_n 0, 1) := by decide +kernel
theorem dX4_readInto_51 : decode cX4_readInto 51 = .ok (.aload_n 1, 1) := by decide +kernel
theorem dX4_readInto_52 : decode cX4_readInto 52 = .ok (.invokevirtual 36, 3) := by decide +kernel
theorem dX4_readInto_55 : decode cX4_readInto 55 = .ok (.aload_n 0, 1) := by decide +kernel
theorem dX4_readInto_56 : decode cX4_readInto 56 = .ok (.invokevirtual 30, 3) := by decide +kernel
theorem dX4_readInto_59 : decode cX4_readInto 59 = .ok (.iinc 2 1, 3) := by decide +kernel
theorem dX4_readInto_62 : decode cX4_readInto 62 = .ok (.goto (-37), 3) := by decide +kernel
theorem dX4_readInto_65 : decode cX4_readInto 65 = .ok (.return_, 1) := by decide +kernel
theorem dX4_readClause_0 : decode cX4_readClause 0 = .ok (.aload_n 0, 1) := by decide +kernel
theorem dX4_readClause_1 : decode cX4_readClause 1 = .ok (.getfield 9, 3) := by decide +kernel
theorem dX4_readClause_4 : decode cX4_readClause 4 = .ok (.aload_n 0, 1) := by decide +kernel
theorem dX4_readClause_5 : decode cX4_readClause 5 = .ok (.getfield 24, 3) := by decide +kernel
theorem dX4_readClause_8 : decode cX4_readClause 8 = .ok (.invokestatic 40, 3) := by decide +kernel
theorem dX4_readClause_11 : decode cX4_readClause 11 = .ok (.istore_n 2, 1) := by decide +kernel
theorem dX4_readClause_12 : decode cX4_readClause 12 = .ok (.aload_n 1, 1) := by decide +kernel
theorem dX4_readClause_13 : decode cX4_readClause 13 = .ok (.getfield 44, 3) := by decide +kernel
theorem dX4_readClause_16 : decode cX4_readClause 16 = .ok (.ifCond .ne 7, 3) := by decide +kernel
theorem dX4_readClause_19 : decode cX4_readClause 19 = .ok (.iconst 1, 1) := by decide +kernel
theorem dX4_readClause_20 : decode cX4_readClause 20 = .ok (.goto 4, 3) := by decide +kernel
theorem dX4_readClause_23 : decode cX4_readClause 23 = .ok (.iconst 0, 1) := by decide +kernel
theorem dX4_readClause_24 : decode cX4_readClause 24 = .ok (.istore_n 3, 1) := by decide +kernel
theorem dX4_readClause_25 : decode cX4_readClause 25 = .ok (.iload_n 2, 1) := by decide +kernel
theorem dX4_readClause_26 : decode cX4_readClause 26 = .ok (.bipush 98, 2) := by decide +kernel
theorem dX4_readClause_28 : decode cX4_readClause 28 = .ok (.if_icmp .ne 25, 3) := by decide +kernel
theorem dX4_readClause_31 : decode cX4_readClause 31 = .ok (.iload_n 3, 1) := by decide +kernel
theorem dX4_readClause_32 : decode cX4_readClause 32 = .ok (.ifCond .eq 21, 3) := by decide +kernel
theorem dX4_readClause_35 : decode cX4_readClause 35 = .ok (.aload_n 0, 1) := by decide +kernel
theorem dX4_readClause_36 : decode cX4_readClause 36 = .ok (.dup, 1) := by decide +kernel
theorem dX4_readClause_37 : decode cX4_readClause 37 = .ok (.getfield 24, 3) := by decide +kernel
theorem dX4_readClause_40 : decode cX4_readClause 40 = .ok (.iconst 1, 1) := by decide +kernel
theorem dX4_readClause_41 : decode cX4_readClause 41 = .ok (.iadd, 1) := by decide +kernel
theorem dX4_readClause_42 : decode cX4_readClause 42 = .ok (.putfield 24, 3) := by decide +kernel
theorem dX4_readClause_45 : decode cX4_readClause 45 = .ok (.aload_n 0, 1) := by decide +kernel
theorem dX4_readClause_46 : decode cX4_readClause 46 = .ok (.aload_n 1, 1) := by decide +kernel
theorem dX4_readClause_47 : decode cX4_readClause 47 = .ok (.invokevirtual 47, 3) := by decide +kernel
theorem dX4_readClause_50 : decode cX4_readClause 50 = .ok (.goto 73, 3) := by decide +kernel
theorem dX4_readClause_53 : decode cX4_readClause 53 = .ok (.iload_n 2, 1) := by decide +kernel
theorem dX4_readClause_54 : decode cX4_readClause 54 = .ok (.bipush 98, 2) := by decide +kernel
theorem dX4_readClause_56 : decode cX4_readClause 56 = .ok (.if_icmp .eq 18, 3) := by decide +kernel
theorem dX4_readClause_59 : decode cX4_readClause 59 = .ok (.iload_n 2, 1) := by decide +kernel
theorem dX4_readClause_60 : decode cX4_readClause 60 = .ok (.bipush 102, 2) := by decide +kernel
theorem dX4_readClause_62 : decode cX4_readClause 62 = .ok (.if_icmp .ne 24, 3) := by decide +kernel
theorem dX4_readClause_65 : decode cX4_readClause 65 = .ok (.aload_n 1, 1) := by decide +kernel
theorem dX4_readClause_66 : decode cX4_readClause 66 = .ok (.getfield 44, 3) := by decide +kernel
theorem dX4_readClause_69 : decode cX4_readClause 69 = .ok (.bipush 9, 2) := by decide +kernel
theorem dX4_readClause_71 : decode cX4_readClause 71 = .ok (.if_icmp .lt 15, 3) := by decide +kernel
theorem dX4_readClause_74 : decode cX4_readClause 74 = .ok (.aload_n 0, 1) := by decide +kernel
theorem dX4_readClause_75 : decode cX4_readClause 75 = .ok (.iconst 3, 1) := by decide +kernel
theorem dX4_readClause_76 : decode cX4_readClause 76 = .ok (.aload_n 0, 1) := by decide +kernel
theorem dX4_readClause_77 : decode cX4_readClause 77 = .ok (.getfield 24, 3) := by decide +kernel
theorem dX4_readClause_80 : decode cX4_readClause 80 = .ok (.invokevirtual 50, 3) := by decide +kernel
theorem dX4_readClause_83 : decode cX4_readClause 83 = .ok (.goto 40, 3) := by decide +kernel
theorem dX4_readClause_86 : decode cX4_readClause 86 = .ok (.iload_n 2, 1) := by decide +kernel
theorem dX4_readClause_87 : decode cX4_readClause 87 = .ok (.bipush 102, 2) := by decide +kernel
theorem dX4_readClause_89 : decode cX4_readClause 89 = .ok (.if_icmp .ne 25, 3) := by decide +kernel
theorem dX4_readClause_92 : decode cX4_readClause 92 = .ok (.iload_n 3, 1) := by decide +kernel
theorem dX4_readClause_93 : decode cX4_readClause 93 = .ok (.ifCond .ne 21, 3) := by decide +kernel
theorem dX4_readClause_96 : decode cX4_readClause 96 = .ok (.aload_n 0, 1) := by decide +kernel
theorem dX4_readClause_97 : decode cX4_readClause 97 = .ok (.dup, 1) := by decide +kernel
theorem dX4_readClause_98 : decode cX4_readClause 98 = .ok (.getfield 24, 3) := by decide +kernel
theorem dX4_readClause_101 : decode cX4_readClause 101 = .ok (.iconst 1, 1) := by decide +kernel
theorem dX4_readClause_102 : decode cX4_readClause 102 = .ok (.iadd, 1) := by decide +kernel
theorem dX4_readClause_103 : decode cX4_readClause 103 = .ok (.putfield 24, 3) := by decide +kernel
theorem dX4_readClause_106 : decode cX4_readClause 106 = .ok (.aload_n 0, 1) := by decide +kernel
theorem dX4_readClause_107 : decode cX4_readClause 107 = .ok (.aload_n 1, 1) := by decide +kernel
theorem dX4_readClause_108 : decode cX4_readClause 108 = .ok (.invokevirtual 54, 3) := by decide +kernel
theorem dX4_readClause_111 : decode cX4_readClause 111 = .ok (.goto 12, 3) := by decide +kernel
theorem dX4_readClause_114 : decode cX4_readClause 114 = .ok (.aload_n 0, 1) := by decide +kernel
theorem dX4_readClause_115 : decode cX4_readClause 115 = .ok (.iconst 1, 1) := by decide +kernel
theorem dX4_readClause_116 : decode cX4_readClause 116 = .ok (.aload_n 0, 1) := by decide +kernel
theorem dX4_readClause_117 : decode cX4_readClause 117 = .ok (.getfield 24, 3) := by decide +kernel
theorem dX4_readClause_120 : decode cX4_readClause 120 = .ok (.invokevirtual 50, 3) := by decide +kernel
theorem dX4_readClause_123 : decode cX4_readClause 123 = .ok (.return_, 1) := by decide +kernel
theorem dX4_readBecks_0 : decode cX4_readBecks 0 = .ok (.aload_n 0, 1) := by decide +kernel
theorem dX4_readBecks_1 : decode cX4_readBecks 1 = .ok (.iconst 2, 1) := by decide +kernel
theorem dX4_readBecks_2 : decode cX4_readBecks 2 = .ok (.bipush 9, 2) := by decide +kernel
theorem dX4_readBecks_4 : decode cX4_readBecks 4 = .ok (.invokevirtual 57, 3) := by decide +kernel
theorem dX4_readBecks_7 : decode cX4_readBecks 7 = .ok (.istore_n 2, 1) := by decide +kernel
theorem dX4_readBecks_8 : decode cX4_readBecks 8 = .ok (.aload_n 0, 1) := by decide +kernel
theorem dX4_readBecks_9 : decode cX4_readBecks 9 = .ok (.iconst 0, 1) := by decide +kernel
theorem dX4_readBecks_10 : decode cX4_readBecks 10 = .ok (.bipush 9, 2) := by decide +kernel
theorem dX4_readBecks_12 : decode cX4_readBecks 12 = .ok (.invokevirtual 57, 3) := by decide +kernel
theorem dX4_readBecks_15 : decode cX4_readBecks 15 = .ok (.istore_n 3, 1) := by decide +kernel
theorem dX4_readBecks_16 : decode cX4_readBecks 16 = .ok (.aload_n 0, 1) := by decide +kernel
theorem dX4_readBecks_17 : decode cX4_readBecks 17 = .ok (.invokevirtual 61, 3) := by decide +kernel
theorem dX4_readBecks_20 : decode cX4_readBecks 20 = .ok (.aload_n 0, 1) := by decide +kernel
theorem dX4_readBecks_21 : decode cX4_readBecks 21 = .ok (.getfield 27, 3) := by decide +kernel
theorem dX4_readBecks_24 : decode cX4_readBecks 24 = .ok (.ifCond .ne 21, 3) := by decide +kernel
theorem dX4_readBecks_27 : decode cX4_readBecks 27 = .ok (.aload_n 1, 1) := by decide +kernel
theorem dX4_readBecks_28 : decode cX4_readBecks 28 = .ok (.iload_n 2, 1) := by decide +kernel
theorem dX4_readBecks_29 : decode cX4_readBecks 29 = .ok (.putfield 64, 3) := by decide +kernel
theorem dX4_readBecks_32 : decode cX4_readBecks 32 = .ok (.aload_n 1, 1) := by decide +kernel
theorem dX4_readBecks_33 : decode cX4_readBecks 33 = .ok (.iload_n 3, 1) := by decide +kernel
theorem dX4_readBecks_34 : decode cX4_readBecks 34 = .ok (.putfield 67, 3) := by decide +kernel
theorem dX4_readBecks_37 : decode cX4_readBecks 37 = .ok (.aload_n 1, 1) := by decide +kernel
theorem dX4_readBecks_38 : decode cX4_readBecks 38 = .ok (.iconst 0, 1) := by decide +kernel
theorem dX4_readBecks_39 : decode cX4_readBecks 39 = .ok (.iconst 0, 1) := by decide +kernel
theorem dX4_readBecks_40 : decode cX4_readBecks 40 = .ok (.iconst 0, 1) := by decide +kernel
theorem dX4_readBecks_41 : decode cX4_readBecks 41 = .ok (.iconst 0, 1) := by decide +kernel
theorem dX4_readBecks_42 : decode cX4_readBecks 42 = .ok (.invokevirtual 70, 3) := by decide +kernel
theorem dX4_readBecks_45 : decode cX4_readBecks 45 = .ok (.return_, 1) := by decide +kernel
theorem dX4_readFarm_0 : decode cX4_readFarm 0 = .ok (.aload_n 0, 1) := by decide +kernel
theorem dX4_readFarm_1 : decode cX4_readFarm 1 = .ok (.iconst 0, 1) := by decide +kernel
theorem dX4_readFarm_2 : decode cX4_readFarm 2 = .ok (.aload_n 1, 1) := by decide +kernel
theorem dX4_readFarm_3 : decode cX4_readFarm 3 = .ok (.getfield 44, 3) := by decide +kernel
theorem dX4_readFarm_6 : decode cX4_readFarm 6 = .ok (.iconst 1, 1) := by decide +kernel
theorem dX4_readFarm_7 : decode cX4_readFarm 7 = .ok (.isub, 1) := by decide +kernel
theorem dX4_readFarm_8 : decode cX4_readFarm 8 = .ok (.invokevirtual 57, 3) := by decide +kernel
theorem dX4_readFarm_11 : decode cX4_readFarm 11 = .ok (.istore_n 2, 1) := by decide +kernel
theorem dX4_readFarm_12 : decode cX4_readFarm 12 = .ok (.aload_n 0, 1) := by decide +kernel
theorem dX4_readFarm_13 : decode cX4_readFarm 13 = .ok (.iconst 1, 1) := by decide +kernel
theorem dX4_readFarm_14 : decode cX4_readFarm 14 = .ok (.bipush 9, 2) := by decide +kernel
theorem dX4_readFarm_16 : decode cX4_readFarm 16 = .ok (.invokevirtual 57, 3) := by decide +kernel
theorem dX4_readFarm_19 : decode cX4_readFarm 19 = .ok (.istore_n 3, 1) := by decide +kernel
theorem dX4_readFarm_20 : decode cX4_readFarm 20 = .ok (.aload_n 0, 1) := by decide +kernel
theorem dX4_readFarm_21 : decode cX4_readFarm 21 = .ok (.iconst 0, 1) := by decide +kernel
theorem dX4_readFarm_22 : decode cX4_readFarm 22 = .ok (.iconst 4, 1) := by decide +kernel
theorem dX4_readFarm_23 : decode cX4_readFarm 23 = .ok (.invokevirtual 57, 3) := by decide +kernel
theorem dX4_readFarm_26 : decode cX4_readFarm 26 = .ok (.istore 4, 2) := by decide +kernel
theorem dX4_readFarm_28 : decode cX4_readFarm 28 = .ok (.aload_n 0, 1) := by decide +kernel
theorem dX4_readFarm_29 : decode cX4_readFarm 29 = .ok (.iconst 0, 1) := by decide +kernel
theorem dX4_readFarm_30 : decode cX4_readFarm 30 = .ok (.aload_n 1, 1) := by decide +kernel
theorem dX4_readFarm_31 : decode cX4_readFarm 31 = .ok (.getfield 64, 3) := by decide +kernel
theorem dX4_readFarm_34 : decode cX4_readFarm 34 = .ok (.iconst 1, 1) := by decide +kernel
theorem dX4_readFarm_35 : decode cX4_readFarm 35 = .ok (.isub, 1) := by decide +kernel
theorem dX4_readFarm_36 : decode cX4_readFarm 36 = .ok (.invokevirtual 57, 3) := by decide +kernel
theorem dX4_readFarm_39 : decode cX4_readFarm 39 = .ok (.istore 5, 2) := by decide +kernel
theorem dX4_readFarm_41 : decode cX4_readFarm 41 = .ok (.aload_n 0, 1) := by decide +kernel
theorem dX4_readFarm_42 : decode cX4_readFarm 42 = .ok (.invokevirtual 61, 3) := by decide +kernel
theorem dX4_readFarm_45 : decode cX4_readFarm 45 = .ok (.aload_n 0, 1) := by decide +kernel
theorem dX4_readFarm_46 : decode cX4_readFarm 46 = .ok (.getfield 27, 3) := by decide +kernel
theorem dX4_readFarm_49 : decode cX4_readFarm 49 = .ok (.ifCond .ne 13, 3) := by decide +kernel
theorem dX4_readFarm_52 : decode cX4_readFarm 52 = .ok (.aload_n 1, 1) := by decide +kernel
theorem dX4_readFarm_53 : decode cX4_readFarm 53 = .ok (.iload_n 2, 1) := by decide +kernel
theorem dX4_readFarm_54 : decode cX4_readFarm 54 = .ok (.iload_n 3, 1) := by decide +kernel
theorem dX4_readFarm_55 : decode cX4_readFarm 55 = .ok (.iload 4, 2) := by decide +kernel
theorem dX4_readFarm_57 : decode cX4_readFarm 57 = .ok (.iload 5, 2) := by decide +kernel
theorem dX4_readFarm_59 : decode cX4_readFarm 59 = .ok (.invokevirtual 70, 3) := by decide +kernel
theorem dX4_readFarm_62 : decode cX4_readFarm 62 = .ok (.return_, 1) := by decide +kernel
theorem dX4_readNumber_0 : decode cX4_readNumber 0 = .ok (.aload_n 0, 1) := by decide +kernel
theorem dX4_readNumber_1 : decode cX4_readNumber 1 = .ok (.invokevirtual 30, 3) := by decide +kernel
theorem dX4_readNumber_4 : decode cX4_readNumber 4 = .ok (.aload_n 0, 1) := by decide +kernel
theorem dX4_readNumber_5 : decode cX4_readNumber 5 = .ok (.getfield 24, 3) := by decide +kernel
theorem dX4_readNumber_8 : decode cX4_readNumber 8 = .ok (.istore_n 3, 1) := by decide +kernel
theorem dX4_readNumber_9 : decode cX4_readNumber 9 = .ok (.iconst 0, 1) := by decide +kernel
theorem dX4_readNumber_10 : decode cX4_readNumber 10 = .ok (.istore 4, 2) := by decide +kernel
theorem dX4_readNumber_12 : decode cX4_readNumber 12 = .ok (.iload_n 3, 1) := by decide +kernel
theorem dX4_readNumber_13 : decode cX4_readNumber 13 = .ok (.istore 5, 2) := by decide +kernel
theorem dX4_readNumber_15 : decode cX4_readNumber 15 = .ok (.iload 5, 2) := by decide +kernel
theorem dX4_readNumber_17 : decode cX4_readNumber 17 = .ok (.aload_n 0, 1) := by decide +kernel
theorem dX4_readNumber_18 : decode cX4_readNumber 18 = .ok (.getfield 33, 3) := by decide +kernel
theorem dX4_readNumber_21 : decode cX4_readNumber 21 = .ok (.if_icmp .ge 69, 3) := by decide +kernel
theorem dX4_readNumber_24 : decode cX4_readNumber 24 = .ok (.aload_n 0, 1) := by decide +kernel
theorem dX4_readNumber_25 : decode cX4_readNumber 25 = .ok (.getfield 9, 3) := by decide +kernel
theorem dX4_readNumber_28 : decode cX4_readNumber 28 = .ok (.iload 5, 2) := by decide +kernel
theorem dX4_readNumber_30 : decode cX4_readNumber 30 = .ok (.invokestatic 40, 3) := by decide +kernel
theorem dX4_readNumber_33 : decode cX4_readNumber 33 = .ok (.invokestatic 74, 3) := by decide +kernel
theorem dX4_readNumber_36 : decode cX4_readNumber 36 = .ok (.ifCond .eq 54, 3) := by decide +kernel
theorem dX4_readNumber_39 : decode cX4_readNumber 39 = .ok (.aload_n 0, 1) := by decide +kernel
theorem dX4_readNumber_40 : decode cX4_readNumber 40 = .ok (.getfield 24, 3) := by decide +kernel
theorem dX4_readNumber_43 : decode cX4_readNumber 43 = .ok (.iload_n 3, 1) := by decide +kernel
theorem dX4_readNumber_44 : decode cX4_readNumber 44 = .ok (.isub, 1) := by decide +kernel
theorem dX4_readNumber_45 : decode cX4_readNumber 45 = .ok (.iconst 3, 1) := by decide +kernel
theorem dX4_readNumber_46 : decode cX4_readNumber 46 = .ok (.if_icmp .ge 24, 3) := by decide +kernel
theorem dX4_readNumber_49 : decode cX4_readNumber 49 = .ok (.bipush 10, 2) := by decide +kernel
theorem dX4_readNumber_51 : decode cX4_readNumber 51 = .ok (.iload 4, 2) := by decide +kernel
theorem dX4_readNumber_53 : decode cX4_readNumber 53 = .ok (.imul, 1) := by decide +kernel
theorem dX4_readNumber_54 : decode cX4_readNumber 54 = .ok (.aload_n 0, 1) := by decide +kernel
theorem dX4_readNumber_55 : decode cX4_readNumber 55 = .ok (.getfield 9, 3) := by decide +kernel
theorem dX4_readNumber_58 : decode cX4_readNumber 58 = .ok (.iload 5, 2) := by decide +kernel
theorem dX4_readNumber_60 : decode cX4_readNumber 60 = .ok (.invokestatic 40, 3) := by decide +kernel
theorem dX4_readNumber_63 : decode cX4_readNumber 63 = .ok (.iadd, 1) := by decide +kernel
theorem dX4_readNumber_64 : decode cX4_readNumber 64 = .ok (.bipush 48, 2) := by decide +kernel
theorem dX4_readNumber_66 : decode cX4_readNumber 66 = .ok (.isub, 1) := by decide +kernel
theorem dX4_readNumber_67 : decode cX4_readNumber 67 = .ok (.goto 5, 3) := by decide +kernel
theorem dX4_readNumber_70 : decode cX4_readNumber 70 = .ok (.iload 4, 2) := by decide +kernel
theorem dX4_readNumber_72 : decode cX4_readNumber 72 = .ok (.istore 4, 2) := by decide +kernel
theorem dX4_readNumber_74 : decode cX4_readNumber 74 = .ok (.aload_n 0, 1) := by decide +kernel
theorem dX4_readNumber_75 : decode cX4_readNumber 75 = .ok (.dup, 1) := by decide +kernel
theorem dX4_readNumber_76 : decode cX4_readNumber 76 = .ok (.getfield 24, 3) := by decide +kernel
theorem dX4_readNumber_79 : decode cX4_readNumber 79 = .ok (.iconst 1, 1) := by decide +kernel
theorem dX4_readNumber_80 : decode cX4_readNumber 80 = .ok (.iadd, 1) := by decide +kernel
theorem dX4_readNumber_81 : decode cX4_readNumber 81 = .ok (.putfield 24, 3) := by decide +kernel
theorem dX4_readNumber_84 : decode cX4_readNumber 84 = .ok (.iinc 5 1, 3) := by decide +kernel
theorem dX4_readNumber_87 : decode cX4_readNumber 87 = .ok (.goto (-72), 3) := by decide +kernel
theorem dX4_readNumber_90 : decode cX4_readNumber 90 = .ok (.aload_n 0, 1) := by decide +kernel
theorem dX4_readNumber_91 : decode cX4_readNumber 91 = .ok (.getfield 24, 3) := by decide +kernel
theorem dX4_readNumber_94 : decode cX4_readNumber 94 = .ok (.iload_n 3, 1) := by decide +kernel
theorem dX4_readNumber_95 : decode cX4_readNumber 95 = .ok (.if_icmp .ne 12, 3) := by decide +kernel
theorem dX4_readNumber_98 : decode cX4_readNumber 98 = .ok (.aload_n 0, 1) := by decide +kernel
theorem dX4_readNumber_99 : decode cX4_readNumber 99 = .ok (.iconst 1, 1) := by decide +kernel
theorem dX4_readNumber_100 : decode cX4_readNumber 100 = .ok (.iload_n 3, 1) := by decide +kernel
theorem dX4_readNumber_101 : decode cX4_readNumber 101 = .ok (.invokevirtual 50, 3) := by decide +kernel
theorem dX4_readNumber_104 : decode cX4_readNumber 104 = .ok (.goto 31, 3) := by decide +kernel
theorem dX4_readNumber_107 : decode cX4_readNumber 107 = .ok (.aload_n 0, 1) := by decide +kernel
theorem dX4_readNumber_108 : decode cX4_readNumber 108 = .ok (.getfield 24, 3) := by decide +kernel
theorem dX4_readNumber_111 : decode cX4_readNumber 111 = .ok (.iload_n 3, 1) := by decide +kernel
theorem dX4_readNumber_112 : decode cX4_readNumber 112 = .ok (.isub, 1) := by decide +kernel
theorem dX4_readNumber_113 : decode cX4_readNumber 113 = .ok (.iconst 3, 1) := by decide +kernel
theorem dX4_readNumber_114 : decode cX4_readNumber 114 = .ok (.if_icmp .gt 15, 3) := by decide +kernel
theorem dX4_readNumber_117 : decode cX4_readNumber 117 = .ok (.iload 4, 2) := by decide +kernel
theorem dX4_readNumber_119 : decode cX4_readNumber 119 = .ok (.iload_n 1, 1) := by decide +kernel
theorem dX4_readNumber_120 : decode cX4_readNumber 120 = .ok (.if_icmp .lt 9, 3) := by decide +kernel
theorem dX4_readNumber_123 : decode cX4_readNumber 123 = .ok (.iload 4, 2) := by decide +kernel
theorem dX4_readNumber_125 : decode cX4_readNumber 125 = .ok (.iload_n 2, 1) := by decide +kernel
theorem dX4_readNumber_126 : decode cX4_readNumber 126 = .ok (.if_icmp .le 9, 3) := by decide +kernel
theorem dX4_readNumber_129 : decode cX4_readNumber 129 = .ok (.aload_n 0, 1) := by decide +kernel
theorem dX4_readNumber_130 : decode cX4_readNumber 130 = .ok (.iconst 2, 1) := by decide +kernel
theorem dX4_readNumber_131 : decode cX4_readNumber 131 = .ok (.iload_n 3, 1) := by decide +kernel
theorem dX4_readNumber_132 : decode cX4_readNumber 132 = .ok (.invokevirtual 50, 3) := by decide +kernel
theorem dX4_readNumber_135 : decode cX4_readNumber 135 = .ok (.iload 4, 2) := by decide +kernel
theorem dX4_readNumber_137 : decode cX4_readNumber 137 = .ok (.ireturn, 1) := by decide +kernel
theorem dX4_readEnd_0 : decode cX4_readEnd 0 = .ok (.aload_n 0, 1) := by decide +kernel
theorem dX4_readEnd_1 : decode cX4_readEnd 1 = .ok (.invokevirtual 30, 3) := by decide +kernel
theorem dX4_readEnd_4 : decode cX4_readEnd 4 = .ok (.aload_n 0, 1) := by decide +kernel
theorem dX4_readEnd_5 : decode cX4_readEnd 5 = .ok (.getfield 24, 3) := by decide +kernel
theorem dX4_readEnd_8 : decode cX4_readEnd 8 = .ok (.aload_n 0, 1) := by decide +kernel
theorem dX4_readEnd_9 : decode cX4_readEnd 9 = .ok (.getfield 33, 3) := by decide +kernel
theorem dX4_readEnd_12 : decode cX4_readEnd 12 = .ok (.if_icmp .ge 32, 3) := by decide +kernel
theorem dX4_readEnd_15 : decode cX4_readEnd 15 = .ok (.aload_n 0, 1) := by decide +kernel
theorem dX4_readEnd_16 : decode cX4_readEnd 16 = .ok (.getfield 9, 3) := by decide +kernel
theorem dX4_readEnd_19 : decode cX4_readEnd 19 = .ok (.aload_n 0, 1) := by decide +kernel
theorem dX4_readEnd_20 : decode cX4_readEnd 20 = .ok (.getfield 24, 3) := by decide +kernel
theorem dX4_readEnd_23 : decode cX4_readEnd 23 = .ok (.invokestatic 40, 3) := by decide +kernel
theorem dX4_readEnd_26 : decode cX4_readEnd 26 = .ok (.bipush 59, 2) := by decide +kernel
theorem dX4_readEnd_28 : decode cX4_readEnd 28 = .ok (.if_icmp .ne 16, 3) := by decide +kernel
theorem dX4_readEnd_31 : decode cX4_readEnd 31 = .ok (.aload_n 0, 1) := by decide +kernel
theorem dX4_readEnd_32 : decode cX4_readEnd 32 = .ok (.dup, 1) := by decide +kernel
theorem dX4_readEnd_33 : decode cX4_readEnd 33 = .ok (.getfield 24, 3) := by decide +kernel
theorem dX4_readEnd_36 : decode cX4_readEnd 36 = .ok (.iconst 1, 1) := by decide +kernel
theorem dX4_readEnd_37 : decode cX4_readEnd 37 = .ok (.iadd, 1) := by decide +kernel
theorem dX4_readEnd_38 : decode cX4_readEnd 38 = .ok (.putfield 24, 3) := by decide +kernel
theorem dX4_readEnd_41 : decode cX4_readEnd 41 = .ok (.goto 12, 3) := by decide +kernel
theorem dX4_readEnd_44 : decode cX4_readEnd 44 = .ok (.aload_n 0, 1) := by decide +kernel
theorem dX4_readEnd_45 : decode cX4_readEnd 45 = .ok (.iconst 1, 1) := by decide +kernel
theorem dX4_readEnd_46 : decode cX4_readEnd 46 = .ok (.aload_n 0, 1) := by decide +kernel
theorem dX4_readEnd_47 : decode cX4_readEnd 47 = .ok (.getfield 24, 3) := by decide +kernel
theorem dX4_readEnd_50 : decode cX4_readEnd 50 = .ok (.invokevirtual 50, 3) := by decide +kernel
theorem dX4_readEnd_53 : decode cX4_readEnd 53 = .ok (.return_, 1) := by decide +kernel
theorem dX4_skipBlanks_0 : decode cX4_skipBlanks 0 = .ok (.aload_n 0, 1) := by decide +kernel
theorem dX4_skipBlanks_1 : decode cX4_skipBlanks 1 = .ok (.getfield 24, 3) := by decide +kernel
theorem dX4_skipBlanks_4 : decode cX4_skipBlanks 4 = .ok (.istore_n 1, 1) := by decide +kernel
theorem dX4_skipBlanks_5 : decode cX4_skipBlanks 5 = .ok (.iload_n 1, 1) := by decide +kernel
theorem dX4_skipBlanks_6 : decode cX4_skipBlanks 6 = .ok (.aload_n 0, 1) := by decide +kernel
theorem dX4_skipBlanks_7 : decode cX4_skipBlanks 7 = .ok (.getfield 33, 3) := by decide +kernel
theorem dX4_skipBlanks_10 : decode cX4_skipBlanks 10 = .ok (.if_icmp .ge 32, 3) := by decide +kernel
theorem dX4_skipBlanks_13 : decode cX4_skipBlanks 13 = .ok (.aload_n 0, 1) := by decide +kernel
theorem dX4_skipBlanks_14 : decode cX4_skipBlanks 14 = .ok (.getfield 9, 3) := by decide +kernel
theorem dX4_skipBlanks_17 : decode cX4_skipBlanks 17 = .ok (.iload_n 1, 1) := by decide +kernel
theorem dX4_skipBlanks_18 : decode cX4_skipBlanks 18 = .ok (.invokestatic 40, 3) := by decide +kernel
theorem dX4_skipBlanks_21 : decode cX4_skipBlanks 21 = .ok (.bipush 32, 2) := by decide +kernel
theorem dX4_skipBlanks_23 : decode cX4_skipBlanks 23 = .ok (.if_icmp .ne 19, 3) := by decide +kernel
theorem dX4_skipBlanks_26 : decode cX4_skipBlanks 26 = .ok (.aload_n 0, 1) := by decide +kernel
theorem dX4_skipBlanks_27 : decode cX4_skipBlanks 27 = .ok (.dup, 1) := by decide +kernel
theorem dX4_skipBlanks_28 : decode cX4_skipBlanks 28 = .ok (.getfield 24, 3) := by decide +kernel
theorem dX4_skipBlanks_31 : decode cX4_skipBlanks 31 = .ok (.iconst 1, 1) := by decide +kernel
theorem dX4_skipBlanks_32 : decode cX4_skipBlanks 32 = .ok (.iadd, 1) := by decide +kernel
theorem dX4_skipBlanks_33 : decode cX4_skipBlanks 33 = .ok (.putfield 24, 3) := by decide +kernel
theorem dX4_skipBlanks_36 : decode cX4_skipBlanks 36 = .ok (.iinc 1 1, 3) := by decide +kernel
theorem dX4_skipBlanks_39 : decode cX4_skipBlanks 39 = .ok (.goto (-34), 3) := by decide +kernel
theorem dX4_skipBlanks_42 : decode cX4_skipBlanks 42 = .ok (.return_, 1) := by decide +kernel
theorem dX4_isFigure_0 : decode cX4_isFigure 0 = .ok (.iload_n 0, 1) := by decide +kernel
theorem dX4_isFigure_1 : decode cX4_isFigure 1 = .ok (.bipush 48, 2) := by decide +kernel
theorem dX4_isFigure_3 : decode cX4_isFigure 3 = .ok (.if_icmp .lt 13, 3) := by decide +kernel
theorem dX4_isFigure_6 : decode cX4_isFigure 6 = .ok (.iload_n 0, 1) := by decide +kernel
theorem dX4_isFigure_7 : decode cX4_isFigure 7 = .ok (.bipush 57, 2) := by decide +kernel
theorem dX4_isFigure_9 : decode cX4_isFigure 9 = .ok (.if_icmp .gt 7, 3) := by decide +kernel
theorem dX4_isFigure_12 : decode cX4_isFigure 12 = .ok (.iconst 1, 1) := by decide +kernel
theorem dX4_isFigure_13 : decode cX4_isFigure 13 = .ok (.goto 4, 3) := by decide +kernel
theorem dX4_isFigure_16 : decode cX4_isFigure 16 = .ok (.iconst 0, 1) := by decide +kernel
theorem dX4_isFigure_17 : decode cX4_isFigure 17 = .ok (.ireturn, 1) := by decide +kernel
theorem dX4_mark_0 : decode cX4_mark 0 = .ok (.aload_n 0, 1) := by decide +kernel
theorem dX4_mark_1 : decode cX4_mark 1 = .ok (.getfield 27, 3) := by decide +kernel
theorem dX4_mark_4 : decode cX4_mark 4 = .ok (.ifCond .ne 13, 3) := by decide +kernel
theorem dX4_mark_7 : decode cX4_mark 7 = .ok (.aload_n 0, 1) := by decide +kernel
theorem dX4_mark_8 : decode cX4_mark 8 = .ok (.iload_n 1, 1) := by decide +kernel
theorem dX4_mark_9 : decode cX4_mark 9 = .ok (.putfield 27, 3) := by decide +kernel
theorem dX4_mark_12 : decode cX4_mark 12 = .ok (.aload_n 0, 1) := by decide +kernel
theorem dX4_mark_13 : decode cX4_mark 13 = .ok (.iload_n 2, 1) := by decide +kernel
theorem dX4_mark_14 : decode cX4_mark 14 = .ok (.putfield 15, 3) := by decide +kernel
theorem dX4_mark_17 : decode cX4_mark 17 = .ok (.return_, 1) := by decide +kernel
theorem dX5_init_0 : decode cX5_init 0 = .ok (.aload_n 0, 1) := by decide +kernel
theorem dX5_init_1 : decode cX5_init 1 = .ok (.invokespecial 3, 3) := by decide +kernel
theorem dX5_init_4 : decode cX5_init 4 = .ok (.aload_n 0, 1) := by decide +kernel
theorem dX5_init_5 : decode cX5_init 5 = .ok (.bipush 48, 2) := by decide +kernel
theorem dX5_init_7 : decode cX5_init 7 = .ok (.newarray .int, 2) := by decide +kernel
theorem dX5_init_9 : decode cX5_init 9 = .ok (.putfield 9, 3) := by decide +kernel
theorem dX5_init_12 : decode cX5_init 12 = .ok (.aload_n 0, 1) := by decide +kernel
theorem dX5_init_13 : decode cX5_init 13 = .ok (.bipush 80, 2) := by decide +kernel
theorem dX5_init_15 : decode cX5_init 15 = .ok (.newarray .int, 2) := by decide +kernel
theorem dX5_init_17 : decode cX5_init 17 = .ok (.putfield 15, 3) := by decide +kernel
theorem dX5_init_20 : decode cX5_init 20 = .ok (.aload_n 0, 1) := by decide +kernel
theorem dX5_init_21 : decode cX5_init 21 = .ok (.bipush 9, 2) := by decide +kernel
theorem dX5_init_23 : decode cX5_init 23 = .ok (.newarray .int, 2) := by decide +kernel
theorem dX5_init_25 : decode cX5_init 25 = .ok (.putfield 18, 3) := by decide +kernel
theorem dX5_init_28 : decode cX5_init 28 = .ok (.aload_n 0, 1) := by decide +kernel
theorem dX5_init_29 : decode cX5_init 29 = .ok (.bipush 9, 2) := by decide +kernel
theorem dX5_init_31 : decode cX5_init 31 = .ok (.newarray .int, 2) := by decide +kernel
theorem dX5_init_33 : decode cX5_init 33 = .ok (.putfield 21, 3) := by decide +kernel
theorem dX5_init_36 : decode cX5_init 36 = .ok (.aload_n 0, 1) := by decide +kernel
theorem dX5_init_37 : decode cX5_init 37 = .ok (.bipush 9, 2) := by decide +kernel
theorem dX5_init_39 : decode cX5_init 39 = .ok (.newarray .int, 2) := by decide +kernel
theorem dX5_init_41 : decode cX5_init 41 = .ok (.putfield 24, 3) := by decide +kernel
theorem dX5_init_44 : decode cX5_init 44 = .ok (.return_, 1) := by decide +kernel
theorem dX5_begin_0 : decode cX5_begin 0 = .ok (.aload_n 0, 1) := by decide +kernel
theorem dX5_begin_1 : decode cX5_begin 1 = .ok (.iconst 0, 1) := by decide +kernel
theorem dX5_begin_2 : decode cX5_begin 2 = .ok (.putfield 27, 3) := by decide +kernel
theorem dX5_begin_5 : decode cX5_begin 5 = .ok (.aload_n 0, 1) := by decide +kernel
theorem dX5_begin_6 : decode cX5_begin 6 = .ok (.aload_n 1, 1) := by decide +kernel
theorem dX5_begin_7 : decode cX5_begin 7 = .ok (.getfield 31, 3) := by decide +kernel
theorem dX5_begin_10 : decode cX5_begin 10 = .ok (.putfield 36, 3) := by decide +kernel
theorem dX5_begin_13 : decode cX5_begin 13 = .ok (.aload_n 0, 1) := by decide +kernel
theorem dX5_begin_14 : decode cX5_begin 14 = .ok (.iconst 0, 1) := by decide +kernel
theorem dX5_begin_15 : decode cX5_begin 15 = .ok (.putfield 37, 3) := by decide +kernel
theorem dX5_begin_18 : decode cX5_begin 18 = .ok (.aload_n 0, 1) := by decide +kernel
theorem dX5_begin_19 : decode cX5_begin 19 = .ok (.iconst 0, 1) := by decide +kernel
theorem dX5_begin_20 : decode cX5_begin 20 = .ok (.putfield 41, 3) := by decide +kernel
theorem dX5_begin_23 : decode cX5_begin 23 = .ok (.aload_n 0, 1) := by decide +kernel
theorem dX5_begin_24 : decode cX5_begin 24 = .ok (.iconst 0, 1) := by decide +kernel
theorem dX5_begin_25 : decode cX5_begin 25 = .ok (.putfield 44, 3) := by decide +kernel
theorem dX5_begin_28 : decode cX5_begin 28 = .ok (.aload_n 0, 1) := by decide +kernel
theorem dX5_begin_29 : decode cX5_begin 29 = .ok (.iconst 0, 1) := by decide +kernel
theorem dX5_begin_30 : decode cX5_begin 30 = .ok (.putfield 47, 3) := by decide +kernel
theorem dX5_begin_33 : decode cX5_begin 33 = .ok (.aload_n 0, 1) := by decide +kernel
theorem dX5_begin_34 : decode cX5_begin 34 = .ok (.iconst 0, 1) := by decide +kernel
theorem dX5_begin_35 : decode cX5_begin 35 = .ok (.putfield 50, 3) := by decide +kernel
theorem dX5_begin_38 : decode cX5_begin 38 = .ok (.aload_n 0, 1) := by decide +kernel
theorem dX5_begin_39 : decode cX5_begin 39 = .ok (.iconst 0, 1) := by decide +kernel
theorem dX5_begin_40 : decode cX5_begin 40 = .ok (.putfield 53, 3) := by decide +kernel
theorem dX5_begin_43 : decode cX5_begin 43 = .ok (.aload_n 1, 1) := by decide +kernel
theorem dX5_begin_44 : decode cX5_begin 44 = .ok (.getfield 56, 3) := by decide +kernel
theorem dX5_begin_47 : decode cX5_begin 47 = .ok (.iconst 0, 1) := by decide +kernel
theorem dX5_begin_48 : decode cX5_begin 48 = .ok (.aload_n 0, 1) := by decide +kernel
theorem dX5_begin_49 : decode cX5_begin 49 = .ok (.getfield 18, 3) := by decide +kernel
theorem dX5_begin_52 : decode cX5_begin 52 = .ok (.iconst 0, 1) := by decide +kernel
theorem dX5_begin_53 : decode cX5_begin 53 = .ok (.bipush 9, 2) := by decide +kernel
theorem dX5_begin_55 : decode cX5_begin 55 = .ok (.invokestatic 57, 3) := by decide +kernel
theorem dX5_begin_58 : decode cX5_begin 58 = .ok (.aload_n 0, 1) := by decide +kernel
theorem dX5_begin_59 : decode cX5_begin 59 = .ok (.getfield 21, 3) := by decide +kernel
theorem dX5_begin_62 : decode cX5_begin 62 = .ok (.iconst (-1), 1) := by decide +kernel
theorem dX5_begin_63 : decode cX5_begin 63 = .ok (.invokestatic 63, 3) := by decide +kernel
theorem dX5_begin_66 : decode cX5_begin 66 = .ok (.aload_n 0, 1) := by decide +kernel
theorem dX5_begin_67 : decode cX5_begin 67 = .ok (.getfield 24, 3) := by decide +kernel
theorem dX5_begin_70 : decode cX5_begin 70 = .ok (.iconst 0, 1) := by decide +kernel
theorem dX5_begin_71 : decode cX5_begin 71 = .ok (.invokestatic 63, 3) := by decide +kernel
theorem dX5_begin_74 : decode cX5_begin 74 = .ok (.return_, 1) := by decide +kernel
theorem dX5_copyFrom_0 : decode cX5_copyFrom 0 = .ok (.aload_n 0, 1) := by decide +kernel
theorem dX5_copyFrom_1 : decode cX5_copyFrom 1 = .ok (.aload_n 1, 1) := by decide +kernel
theorem dX5_copyFrom_2 : decode cX5_copyFrom 2 = .ok (.getfield 27, 3) := by decide +kernel
theorem dX5_copyFrom_5 : decode cX5_copyFrom 5 = .ok (.putfield 27, 3) := by decide +kernel
theorem dX5_copyFrom_8 : decode cX5_copyFrom 8 = .ok (.aload_n 0, 1) := by decide +kernel
theorem dX5_copyFrom_9 : decode cX5_copyFrom 9 = .ok (.aload_n 1, 1) := by decide +kernel
theorem dX5_copyFrom_10 : decode cX5_copyFrom 10 = .ok (.getfield 36, 3) := by decide +kernel
theorem dX5_copyFrom_13 : decode cX5_copyFrom 13 = .ok (.putfield 36, 3) := by decide +kernel
theorem dX5_copyFrom_16 : decode cX5_copyFrom 16 = .ok (.aload_n 0, 1) := by decide +kernel
theorem dX5_copyFrom_17 : decode cX5_copyFrom 17 = .ok (.aload_n 1, 1) := by decide +kernel
theorem dX5_copyFrom_18 : decode cX5_copyFrom 18 = .ok (.getfield 37, 3) := by decide +kernel
theorem dX5_copyFrom_21 : decode cX5_copyFrom 21 = .ok (.putfield 37, 3) := by decide +kernel
theorem dX5_copyFrom_24 : decode cX5_copyFrom 24 = .ok (.aload_n 0, 1) := by decide +kernel
theorem dX5_copyFrom_25 : decode cX5_copyFrom 25 = .ok (.aload_n 1, 1) := by decide +kernel
theorem dX5_copyFrom_26 : decode cX5_copyFrom 26 = .ok (.getfield 41, 3) := by decide +kernel
theorem dX5_copyFrom_29 : decode cX5_copyFrom 29 = .ok (.putfield 41, 3) := by decide +kernel
theorem dX5_copyFrom_32 : decode cX5_copyFrom 32 = .ok (.aload_n 0, 1) := by decide +kernel
theorem dX5_copyFrom_33 : decode cX5_copyFrom 33 = .ok (.aload_n 1, 1) := by decide +kernel
theorem dX5_copyFrom_34 : decode cX5_copyFrom 34 = .ok (.getfield 44, 3) := by decide +kernel
theorem dX5_copyFrom_37 : decode cX5_copyFrom 37 = .ok (.putfield 44, 3) := by decide +kernel
theorem dX5_copyFrom_40 : decode cX5_copyFrom 40 = .ok (.aload_n 0, 1) := by decide +kernel
theorem dX5_copyFrom_41 : decode cX5_copyFrom 41 = .ok (.aload_n 1, 1) := by decide +kernel
theorem dX5_copyFrom_42 : decode cX5_copyFrom 42 = .ok (.getfield 47, 3) := by decide +kernel
theorem dX5_copyFrom_45 : decode cX5_copyFrom 45 = .ok (.putfield 47, 3) := by decide +kernel
theorem dX5_copyFrom_48 : decode cX5_copyFrom 48 = .ok (.aload_n 0, 1) := by decide +kernel
theorem dX5_copyFrom_49 : decode cX5_copyFrom 49 = .ok (.aload_n 1, 1) := by decide +kernel
theorem dX5_copyFrom_50 : decode cX5_copyFrom 50 = .ok (.getfield 50, 3) := by decide +kernel
theorem dX5_copyFrom_53 : decode cX5_copyFrom 53 = .ok (.putfield 50, 3) := by decide +kernel
theorem dX5_copyFrom_56 : decode cX5_copyFrom 56 = .ok (.aload_n 0, 1) := by decide +kernel
theorem dX5_copyFrom_57 : decode cX5_copyFrom 57 = .ok (.aload_n 1, 1) := by decide +kernel
theorem dX5_copyFrom_58 : decode cX5_copyFrom 58 = .ok (.getfield 53, 3) := by decide +kernel
theorem dX5_copyFrom_61 : decode cX5_copyFrom 61 = .ok (.putfield 53, 3) := by decide +kernel
theorem dX5_copyFrom_64 : decode cX5_copyFrom 64 = .ok (.aload_n 1, 1) := by decide +kernel
theorem dX5_copyFrom_65 : decode cX5_copyFrom 65 = .ok (.getfield 9, 3) := by decide +kernel
theorem dX5_copyFrom_68 : decode cX5_copyFrom 68 = .ok (.iconst 0, 1) := by decide +kernel
theorem dX5_copyFrom_69 : decode cX5_copyFrom 69 = .ok (.aload_n 0, 1) := by decide +kernel
theorem dX5_copyFrom_70 : decode cX5_copyFrom 70 = .ok (.getfield 9, 3) := by decide +kernel
theorem dX5_copyFrom_73 : decode cX5_copyFrom 73 = .ok (.iconst 0, 1) := by decide +kernel
theorem dX5_copyFrom_74 : decode cX5_copyFrom 74 = .ok (.bipush 48, 2) := by decide +kernel
theorem dX5_copyFrom_76 : decode cX5_copyFrom 76 = .ok (.invokestatic 57, 3) := by decide +kernel
theorem dX5_copyFrom_79 : decode cX5_copyFrom 79 = .ok (.aload_n 1, 1) := by decide +kernel
theorem dX5_copyFrom_80 : decode cX5_copyFrom 80 = .ok (.getfield 15, 3) := by decide +kernel
theorem dX5_copyFrom_83 : decode cX5_copyFrom 83 = .ok (.iconst 0, 1) := by decide +kernel
theorem dX5_copyFrom_84 : decode cX5_copyFrom 84 = .ok (.aload_n 0, 1) := by decide +kernel
theorem dX5_copyFrom_85 : decode cX5_copyFrom 85 = .ok (.getfield 15, 3) := by decide +kernel
theorem dX5_copyFrom_88 : decode cX5_copyFrom 88 = .ok (.iconst 0, 1) := by decide +kernel
theorem dX5_copyFrom_89 : decode cX5_copyFrom 89 = .ok (.bipush 80, 2) := by decide +kernel
theorem dX5_copyFrom_91 : decode cX5_copyFrom 91 = .ok (.invokestatic 57, 3) := by decide +kernel
theorem dX5_copyFrom_94 : decode cX5_copyFrom 94 = .ok (.aload_n 1, 1) := by decide +kernel
theorem dX5_copyFrom_95 : decode cX5_copyFrom 95 = .ok (.getfield 18, 3) := by decide +kernel
theorem dX5_copyFrom_98 : decode cX5_copyFrom 98 = .ok (.iconst 0, 1) := by decide +kernel
theorem dX5_copyFrom_99 : decode cX5_copyFrom 99 = .ok (.aload_n 0, 1) := by decide +kernel
theorem dX5_copyFrom_100 : decode cX5_copyFrom 100 = .ok (.getfield 18, 3) := by decide +kernel
theorem dX5_copyFrom_103 : decode cX5_copyFrom 103 = .ok (.iconst 0, 1) := by decide +kernel
theorem dX5_copyFrom_104 : decode cX5_copyFrom 104 = .ok (.bipush 9, 2) := by decide +kernel
theorem dX5_copyFrom_106 : decode cX5_copyFrom 106 = .ok (.invokestatic 57, 3) := by decide +kernel
theorem dX5_copyFrom_109 : decode cX5_copyFrom 109 = .ok (.aload_n 1, 1) := by decide +kernel
theorem dX5_copyFrom_110 : decode cX5_copyFrom 110 = .ok (.getfield 21, 3) := by decide +kernel
theorem dX5_copyFrom_113 : decode cX5_copyFrom 113 = .ok (.iconst 0, 1) := by decide +kernel
theorem dX5_copyFrom_114 : decode cX5_copyFrom 114 = .ok (.aload_n 0, 1) := by decide +kernel
theorem dX5_copyFrom_115 : decode cX5_copyFrom 115 = .ok (.getfield 21, 3) := by decide +kernel
theorem dX5_copyFrom_118 : decode cX5_copyFrom 118 = .ok (.iconst 0, 1) := by decide +kernel
theorem dX5_copyFrom_119 : decode cX5_copyFrom 119 = .ok (.bipush 9, 2) := by decide +kernel
theorem dX5_copyFrom_121 : decode cX5_copyFrom 121 = .ok (.invokestatic 57, 3) := by decide +kernel
theorem dX5_copyFrom_124 : decode cX5_copyFrom 124 = .ok (.aload_n 1, 1) := by decide +kernel
theorem dX5_copyFrom_125 : decode cX5_copyFrom 125 = .ok (.getfield 24, 3) := by decide +kernel
theorem dX5_copyFrom_128 : decode cX5_copyFrom 128 = .ok (.iconst 0, 1) := by decide +kernel
theorem dX5_copyFrom_129 : decode cX5_copyFrom 129 = .ok (.aload_n 0, 1) := by decide +kernel
theorem dX5_copyFrom_130 : decode cX5_copyFrom 130 = .ok (.getfield 24, 3) := by decide +kernel
theorem dX5_copyFrom_133 : decode cX5_copyFrom 133 = .ok (.iconst 0, 1) := by decide +kernel
theorem dX5_copyFrom_134 : decode cX5_copyFrom 134 = .ok (.bipush 9, 2) := by decide +kernel
theorem dX5_copyFrom_136 : decode cX5_copyFrom 136 = .ok (.invokestatic 57, 3) := by decide +kernel
theorem dX5_copyFrom_139 : decode cX5_copyFrom 139 = .ok (.return_, 1) := by decide +kernel
theorem dX5_ofTalk_0 : decode cX5_ofTalk 0 = .ok (.aload_n 0, 1) := by decide +kernel
theorem dX5_ofTalk_1 : decode cX5_ofTalk 1 = .ok (.getfield 9, 3) := by decide +kernel
theorem dX5_ofTalk_4 : decode cX5_ofTalk 4 = .ok (.iconst 4, 1) := by decide +kernel
theorem dX5_ofTalk_5 : decode cX5_ofTalk 5 = .ok (.iload_n 1, 1) := by decide +kernel
theorem dX5_ofTalk_6 : decode cX5_ofTalk 6 = .ok (.imul, 1) := by decide +kernel
theorem dX5_ofTalk_7 : decode cX5_ofTalk 7 = .ok (.iload_n 2, 1) := by decide +kernel
theorem dX5_ofTalk_8 : decode cX5_ofTalk 8 = .ok (.iadd, 1) := by decide +kernel
theorem dX5_ofTalk_9 : decode cX5_ofTalk 9 = .ok (.invokestatic 69, 3) := by decide +kernel
theorem dX5_ofTalk_12 : decode cX5_ofTalk 12 = .ok (.ireturn, 1) := by decide +kernel
theorem dX5_ofLog_0 : decode cX5_ofLog 0 = .ok (.aload_n 0, 1) := by decide +kernel
theorem dX5_ofLog_1 : decode cX5_ofLog 1 = .ok (.getfield 53, 3) := by decide +kernel
theorem dX5_ofLog_4 : decode cX5_ofLog 4 = .ok (.iconst 1, 1) := by decide +kernel
theorem dX5_ofLog_5 : decode cX5_ofLog 5 = .ok (.isub, 1) := by decide +kernel
theorem dX5_ofLog_6 : decode cX5_ofLog 6 = .ok (.iload_n 1, 1) := by decide +kernel
theorem dX5_ofLog_7 : decode cX5_ofLog 7 = .ok (.isub, 1) := by decide +kernel
theorem dX5_ofLog_8 : decode cX5_ofLog 8 = .ok (.bipush 40, 2) := by decide +kernel
theorem dX5_ofLog_10 : decode cX5_ofLog 10 = .ok (.iadd, 1) := by decide +kernel
theorem dX5_ofLog_11 : decode cX5_ofLog 11 = .ok (.bipush 20, 2) := by decide +kernel
theorem dX5_ofLog_13 : decode cX5_ofLog 13 = .ok (.irem, 1) := by decide +kernel
theorem dX5_ofLog_14 : decode cX5_ofLog 14 = .ok (.istore_n 3, 1) := by decide +kernel
theorem dX5_ofLog_15 : decode cX5_ofLog 15 = .ok (.aload_n 0, 1) := by decide +kernel
theorem dX5_ofLog_16 : decode cX5_ofLog 16 = .ok (.getfield 15, 3) := by decide +kernel
theorem dX5_ofLog_19 : decode cX5_ofLog 19 = .ok (.iconst 4, 1) := by decide +kernel
theorem dX5_ofLog_20 : decode cX5_ofLog 20 = .ok (.iload_n 3, 1) := by decide +kernel
theorem dX5_ofLog_21 : decode cX5_ofLog 21 = .ok (.imul, 1) := by decide +kernel
theorem dX5_ofLog_22 : decode cX5_ofLog 22 = .ok (.iload_n 2, 1) := by decide +kernel
theorem dX5_ofLog_23 : decode cX5_ofLog 23 = .ok (.iadd, 1) := by decide +kernel
theorem dX5_ofLog_24 : decode cX5_ofLog 24 = .ok (.invokestatic 69, 3) := by decide +kernel
theorem dX5_ofLog_27 : decode cX5_ofLog 27 = .ok (.ireturn, 1) := by decide +kernel
theorem dX5_enterTalk_0 : decode cX5_enterTalk 0 = .ok (.aload_n 0, 1) := by decide +kernel
theorem dX5_enterTalk_1 : decode cX5_enterTalk 1 = .ok (.aload_n 0, 1) := by decide +kernel
theorem dX5_enterTalk_2 : decode cX5_enterTalk 2 = .ok (.getfield 47, 3) := by decide +kernel
theorem dX5_enterTalk_5 : decode cX5_enterTalk 5 = .ok (.iload_n 3, 1) := by decide +kernel
theorem dX5_enterTalk_6 : decode cX5_enterTalk 6 = .ok (.iload_n 2, 1) := by decide +kernel
theorem dX5_enterTalk_7 : decode cX5_enterTalk 7 = .ok (.aload_n 1, 1) := by decide +kernel
theorem dX5_enterTalk_8 : decode cX5_enterTalk 8 = .ok (.iload_n 2, 1) := by decide +kernel
theorem dX5_enterTalk_9 : decode cX5_enterTalk 9 = .ok (.invokevirtual 73, 3) := by decide +kernel
theorem dX5_enterTalk_12 : decode cX5_enterTalk 12 = .ok (.iload_n 2, 1) := by decide +kernel
theorem dX5_enterTalk_13 : decode cX5_enterTalk 13 = .ok (.invokevirtual 77, 3) := by decide +kernel
theorem dX5_enterTalk_16 : decode cX5_enterTalk 16 = .ok (.aload_n 0, 1) := by decide +kernel
theorem dX5_enterTalk_17 : decode cX5_enterTalk 17 = .ok (.dup, 1) := by decide +kernel
theorem dX5_enterTalk_18 : decode cX5_enterTalk 18 = .ok (.getfield 47, 3) := by decide +kernel
theorem dX5_enterTalk_21 : decode cX5_enterTalk 21 = .ok (.iconst 1, 1) := by decide +kernel
theorem dX5_enterTalk_22 : decode cX5_enterTalk 22 = .ok (.iadd, 1) := by decide +kernel
theorem dX5_enterTalk_23 : decode cX5_enterTalk 23 = .ok (.putfield 47, 3) := by decide +kernel
theorem dX5_enterTalk_26 : decode cX5_enterTalk 26 = .ok (.return_, 1) := by decide +kernel
theorem dX5_endTalk_0 : decode cX5_endTalk 0 = .ok (.iload_n 1, 1) := by decide +kernel
theorem dX5_endTalk_1 : decode cX5_endTalk 1 = .ok (.iconst 1, 1) := by decide +kernel
theorem dX5_endTalk_2 : decode cX5_endTalk 2 = .ok (.iadd, 1) := by decide +kernel
theorem dX5_endTalk_3 : decode cX5_endTalk 3 = .ok (.istore_n 2, 1) := by decide +kernel
theorem dX5_endTalk_4 : decode cX5_endTalk 4 = .ok (.iload_n 2, 1) := by decide +kernel
theorem dX5_endTalk_5 : decode cX5_endTalk 5 = .ok (.aload_n 0, 1) := by decide +kernel
theorem dX5_endTalk_6 : decode cX5_endTalk 6 = .ok (.getfield 47, 3) := by decide +kernel
theorem dX5_endTalk_9 : decode cX5_endTalk 9 = .ok (.if_icmp .ge 17, 3) := by decide +kernel
theorem dX5_endTalk_12 : decode cX5_endTalk 12 = .ok (.aload_n 0, 1) := by decide +kernel
theorem dX5_endTalk_13 : decode cX5_endTalk 13 = .ok (.iload_n 2, 1) := by decide +kernel
theorem dX5_endTalk_14 : decode cX5_endTalk 14 = .ok (.iload_n 2, 1) := by decide +kernel
theorem dX5_endTalk_15 : decode cX5_endTalk 15 = .ok (.iconst 1, 1) := by decide +kernel
theorem dX5_endTalk_16 : decode cX5_endTalk 16 = .ok (.isub, 1) := by decide +kernel
theorem dX5_endTalk_17 : decode cX5_endTalk 17 = .ok (.invokevirtual 81, 3) := by decide +kernel
theorem dX5_endTalk_20 : decode cX5_endTalk 20 = .ok (.iinc 2 1, 3) := by decide +kernel
theorem dX5_endTalk_23 : decode cX5_endTalk 23 = .ok (.goto (-19), 3) := by decide +kernel
theorem dX5_endTalk_26 : decode cX5_endTalk 26 = .ok (.aload_n 0, 1) := by decide +kernel
theorem dX5_endTalk_27 : decode cX5_endTalk 27 = .ok (.dup, 1) := by decide +kernel
theorem dX5_endTalk_28 : decode cX5_endTalk 28 = .ok (.getfield 47, 3) := by decide +kernel
theorem dX5_endTalk_31 : decode cX5_endTalk 31 = .ok (.iconst 1, 1) := by decide +kernel
theorem dX5_endTalk_32 : decode cX5_endTalk 32 = .ok (.isub, 1) := by decide +kernel
theorem dX5_endTalk_33 : decode cX5_endTalk 33 = .ok (.putfield 47, 3) := by decide +kernel
theorem dX5_endTalk_36 : decode cX5_endTalk 36 = .ok (.return_, 1) := by decide +kernel
theorem dX5_leaveOnly_0 : decode cX5_leaveOnly 0 = .ok (.aload_n 0, 1) := by decide +kernel
theorem dX5_leaveOnly_1 : decode cX5_leaveOnly 1 = .ok (.iload_n 1, 1) := by decide +kernel
theorem dX5_leaveOnly_2 : decode cX5_leaveOnly 2 = .ok (.iconst 0, 1) := by decide +kernel
theorem dX5_leaveOnly_3 : decode cX5_leaveOnly 3 = .ok (.invokevirtual 81, 3) := by decide +kernel
theorem dX5_leaveOnly_6 : decode cX5_leaveOnly 6 = .ok (.aload_n 0, 1) := by decide +kernel
theorem dX5_leaveOnly_7 : decode cX5_leaveOnly 7 = .ok (.iconst 1, 1) := by decide +kernel
theorem dX5_leaveOnly_8 : decode cX5_leaveOnly 8 = .ok (.putfield 47, 3) := by decide +kernel
theorem dX5_leaveOnly_11 : decode cX5_leaveOnly 11 = .ok (.return_, 1) := by decide +kernel
theorem dX5_passHours_0 : decode cX5_passHours 0 = .ok (.iconst 0, 1) := by decide +kernel
theorem dX5_passHours_1 : decode cX5_passHours 1 = .ok (.istore_n 3, 1) := by decide +kernel
theorem dX5_passHours_2 : decode cX5_passHours 2 = .ok (.iload_n 3, 1) := by decide +kernel
theorem dX5_passHours_3 : decode cX5_passHours 3 = .ok (.iload_n 2, 1) := by decide +kernel
theorem dX5_passHours_4 : decode cX5_passHours 4 = .ok (.if_icmp .ge 14, 3) := by decide +kernel
theorem dX5_passHours_7 : decode cX5_passHours 7 = .ok (.aload_n 0, 1) := by decide +kernel
theorem dX5_passHours_8 : decode cX5_passHours 8 = .ok (.aload_n 1, 1) := by decide +kernel
theorem dX5_passHours_9 : decode cX5_passHours 9 = .ok (.invokevirtual 85, 3) := by decide +kernel
theorem dX5_passHours_12 : decode cX5_passHours 12 = .ok (.iinc 3 1, 3) := by decide +kernel
theorem dX5_passHours_15 : decode cX5_passHours 15 = .ok (.goto (-13), 3) := by decide +kernel
theorem dX5_passHours_18 : decode cX5_passHours 18 = .ok (.return_, 1) := by decide +kernel
theorem dX5_pass_0 : decode cX5_pass 0 = .ok (.aload_n 0, 1) := by decide +kernel
theorem dX5_pass_1 : decode cX5_pass 1 = .ok (.getfield 37, 3) := by decide +kernel
theorem dX5_pass_4 : decode cX5_pass 4 = .ok (.ifCond .ne 16, 3) := by decide +kernel
theorem dX5_pass_7 : decode cX5_pass 7 = .ok (.aload_n 0, 1) := by decide +kernel
theorem dX5_pass_8 : decode cX5_pass 8 = .ok (.getfield 36, 3) := by decide +kernel
theorem dX5_pass_11 : decode cX5_pass 11 = .ok (.iconst 1, 1) := by decide +kernel
theorem dX5_pass_12 : decode cX5_pass 12 = .ok (.if_icmp .lt 8, 3) := by decide +kernel
theorem dX5_pass_15 : decode cX5_pass 15 = .ok (.aload_n 0, 1) := by decide +kernel
theorem dX5_pass_16 : decode cX5_pass 16 = .ok (.aload_n 1, 1) := by decide +kernel
theorem dX5_pass_17 : decode cX5_pass 17 = .ok (.invokevirtual 89, 3) := by decide +kernel
theorem dX5_pass_20 : decode cX5_pass 20 = .ok (.aload_n 0, 1) := by decide +kernel
theorem dX5_pass_21 : decode cX5_pass 21 = .ok (.getfield 27, 3) := by decide +kernel
theorem dX5_pass_24 : decode cX5_pass 24 = .ok (.bipush 6, 2) := by decide +kernel
theorem dX5_pass_26 : decode cX5_pass 26 = .ok (.irem, 1) := by decide +kernel
theorem dX5_pass_27 : decode cX5_pass 27 = .ok (.iconst 5, 1) := by decide +kernel
theorem dX5_pass_28 : decode cX5_pass 28 = .ok (.if_icmp .ne 20, 3) := by decide +kernel
theorem dX5_pass_31 : decode cX5_pass 31 = .ok (.aload_n 0, 1) := by decide +kernel
theorem dX5_pass_32 : decode cX5_pass 32 = .ok (.getfield 36, 3) := by decide +kernel
theorem dX5_pass_35 : decode cX5_pass 35 = .ok (.ifCond .le 13, 3) := by decide +kernel
theorem dX5_pass_38 : decode cX5_pass 38 = .ok (.aload_n 0, 1) := by decide +kernel
theorem dX5_pass_39 : decode cX5_pass 39 = .ok (.dup, 1) := by decide +kernel
theorem dX5_pass_40 : decode cX5_pass 40 = .ok (.getfield 36, 3) := by decide +kernel
theorem dX5_pass_43 : decode cX5_pass 43 = .ok (.iconst 1, 1) := by decide +kernel
theorem dX5_pass_44 : decode cX5_pass 44 = .ok (.isub, 1) := by decide +kernel
theorem dX5_pass_45 : decode cX5_pass 45 = .ok (.putfield 36, 3) := by decide +kernel
theorem dX5_pass_48 : decode cX5_pass 48 = .ok (.aload_n 0, 1) := by decide +kernel
theorem dX5_pass_49 : decode cX5_pass 49 = .ok (.dup, 1) := by decide +kernel
theorem dX5_pass_50 : decode cX5_pass 50 = .ok (.getfield 27, 3) := by decide +kernel
theorem dX5_pass_53 : decode cX5_pass 53 = .ok (.iconst 1, 1) := by decide +kernel
theorem dX5_pass_54 : decode cX5_pass 54 = .ok (.iadd, 1) := by decide +kernel
theorem dX5_pass_55 : decode cX5_pass 55 = .ok (.putfield 27, 3) := by decide +kernel
theorem dX5_pass_58 : decode cX5_pass 58 = .ok (.return_, 1) := by decide +kernel
theorem dX5_carryAll_0 : decode cX5_carryAll 0 = .ok (.iconst 0, 1) := by decide +kernel
theorem dX5_carryAll_1 : decode cX5_carryAll 1 = .ok (.istore_n 2, 1) := by decide +kernel
theorem dX5_carryAll_2 : decode cX5_carryAll 2 = .ok (.iconst 0, 1) := by decide +kernel
theorem dX5_carryAll_3 : decode cX5_carryAll 3 = .ok (.istore_n 3, 1) := by decide +kernel
theorem dX5_carryAll_4 : decode cX5_carryAll 4 = .ok (.iconst 0, 1) := by decide +kernel
theorem dX5_carryAll_5 : decode cX5_carryAll 5 = .ok (.istore 4, 2) := by decide +kernel
theorem dX5_carryAll_7 : decode cX5_carryAll 7 = .ok (.iconst 0, 1) := by decide +kernel
theorem dX5_carryAll_8 : decode cX5_carryAll 8 = .ok (.istore 5, 2) := by decide +kernel
theorem dX5_carryAll_10 : decode cX5_carryAll 10 = .ok (.iload 5, 2) := by decide +kernel
theorem dX5_carryAll_12 : decode cX5_carryAll 12 = .ok (.aload_n 0, 1) := by decide +kernel
theorem dX5_carryAll_13 : decode cX5_carryAll 13 = .ok (.getfield 47, 3) := by decide +kernel
theorem dX5_carryAll_16 : decode cX5_carryAll 16 = .ok (.if_icmp .ge 162, 3) := by decide +kernel
theorem dX5_carryAll_19 : decode cX5_carryAll 19 = .ok (.aload_n 0, 1) := by decide +kernel
theorem dX5_carryAll_20 : decode cX5_carryAll 20 = .ok (.iload 5, 2) := by decide +kernel
theorem dX5_carryAll_22 : decode cX5_carryAll 22 = .ok (.iconst 1, 1) := by decide +kernel
theorem dX5_carryAll_23 : decode cX5_carryAll 23 = .ok (.invokevirtual 92, 3) := by decide +kernel
theorem dX5_carryAll_26 : decode cX5_carryAll 26 = .ok (.istore 6, 2) := by decide +kernel
theorem dX5_carryAll_28 : decode cX5_carryAll 28 = .ok (.aload_n 0, 1) := by decide +kernel
theorem dX5_carryAll_29 : decode cX5_carryAll 29 = .ok (.iload 5, 2) := by decide +kernel
theorem dX5_carryAll_31 : decode cX5_carryAll 31 = .ok (.iconst 3, 1) := by decide +kernel
theorem dX5_carryAll_32 : decode cX5_carryAll 32 = .ok (.invokevirtual 92, 3) := by decide +kernel
theorem dX5_carryAll_35 : decode cX5_carryAll 35 = .ok (.istore 7, 2) := by decide +kernel
theorem dX5_carryAll_37 : decode cX5_carryAll 37 = .ok (.aload_n 0, 1) := by decide +kernel
theorem dX5_carryAll_38 : decode cX5_carryAll 38 = .ok (.iload 5, 2) := by decide +kernel
theorem dX5_carryAll_40 : decode cX5_carryAll 40 = .ok (.iconst 0, 1) := by decide +kernel
theorem dX5_carryAll_41 : decode cX5_carryAll 41 = .ok (.invokevirtual 92, 3) := by decide +kernel
theorem dX5_carryAll_44 : decode cX5_carryAll 44 = .ok (.istore 8, 2) := by decide +kernel
theorem dX5_carryAll_46 : decode cX5_carryAll 46 = .ok (.aload_n 0, 1) := by decide +kernel
theorem dX5_carryAll_47 : decode cX5_carryAll 47 = .ok (.iload 5, 2) := by decide +kernel
theorem dX5_carryAll_49 : decode cX5_carryAll 49 = .ok (.iconst 2, 1) := by decide +kernel
theorem dX5_carryAll_50 : decode cX5_carryAll 50 = .ok (.invokevirtual 92, 3) := by decide +kernel
theorem dX5_carryAll_53 : decode cX5_carryAll 53 = .ok (.aload_n 0, 1) := by decide +kernel
theorem dX5_carryAll_54 : decode cX5_carryAll 54 = .ok (.getfield 36, 3) := by decide +kernel
theorem dX5_carryAll_57 : decode cX5_carryAll 57 = .ok (.isub, 1) := by decide +kernel
theorem dX5_carryAll_58 : decode cX5_carryAll 58 = .ok (.istore 9, 2) := by decide +kernel
theorem dX5_carryAll_60 : decode cX5_carryAll 60 = .ok (.iload 9, 2) := by decide +kernel
theorem dX5_carryAll_62 : decode cX5_carryAll 62 = .ok (.ifCond .gt 88, 3) := by decide +kernel
theorem dX5_carryAll_65 : decode cX5_carryAll 65 = .ok (.aload_n 1, 1) := by decide +kernel
theorem dX5_carryAll_66 : decode cX5_carryAll 66 = .ok (.getfield 96, 3) := by decide +kernel
theorem dX5_carryAll_69 : decode cX5_carryAll 69 = .ok (.iload 6, 2) := by decide +kernel
theorem dX5_carryAll_71 : decode cX5_carryAll 71 = .ok (.invokestatic 69, 3) := by decide +kernel
theorem dX5_carryAll_74 : decode cX5_carryAll 74 = .ok (.istore 10, 2) := by decide +kernel
theorem dX5_carryAll_76 : decode cX5_carryAll 76 = .ok (.aload_n 0, 1) := by decide +kernel
theorem dX5_carryAll_77 : decode cX5_carryAll 77 = .ok (.aload_n 1, 1) := by decide +kernel
theorem dX5_carryAll_78 : decode cX5_carryAll 78 = .ok (.iload 6, 2) := by decide +kernel
theorem dX5_carryAll_80 : decode cX5_carryAll 80 = .ok (.iload 8, 2) := by decide +kernel
theorem dX5_carryAll_82 : decode cX5_carryAll 82 = .ok (.invokevirtual 99, 3) := by decide +kernel
theorem dX5_carryAll_85 : decode cX5_carryAll 85 = .ok (.istore 8, 2) := by decide +kernel
theorem dX5_carryAll_87 : decode cX5_carryAll 87 = .ok (.iload_n 2, 1) := by decide +kernel
theorem dX5_carryAll_88 : decode cX5_carryAll 88 = .ok (.iload 10, 2) := by decide +kernel
theorem dX5_carryAll_90 : decode cX5_carryAll 90 = .ok (.invokestatic 103, 3) := by decide +kernel
theorem dX5_carryAll_93 : decode cX5_carryAll 93 = .ok (.ifCond .eq 24, 3) := by decide +kernel
theorem dX5_carryAll_96 : decode cX5_carryAll 96 = .ok (.aload_n 0, 1) := by decide +kernel
theorem dX5_carryAll_97 : decode cX5_carryAll 97 = .ok (.getfield 21, 3) := by decide +kernel
theorem dX5_carryAll_100 : decode cX5_carryAll 100 = .ok (.iload 10, 2) := by decide +kernel
theorem dX5_carryAll_102 : decode cX5_carryAll 102 = .ok (.invokestatic 69, 3) := by decide +kernel
theorem dX5_carryAll_105 : decode cX5_carryAll 105 = .ok (.iload 8, 2) := by decide +kernel
theorem dX5_carryAll_107 : decode cX5_carryAll 107 = .ok (.if_icmp .eq 10, 3) := by decide +kernel
theorem dX5_carryAll_110 : decode cX5_carryAll 110 = .ok (.iload_n 3, 1) := by decide +kernel
theorem dX5_carryAll_111 : decode cX5_carryAll 111 = .ok (.iconst 1, 1) := by decide +kernel
theorem dX5_carryAll_112 : decode cX5_carryAll 112 = .ok (.iload 10, 2) := by decide +kernel
theorem dX5_carryAll_114 : decode cX5_carryAll 114 = .ok (.ishl, 1) := by decide +kernel
theorem dX5_carryAll_115 : decode cX5_carryAll 115 = .ok (.ior, 1) := by decide +kernel
theorem dX5_carryAll_116 : decode cX5_carryAll 116 = .ok (.istore_n 3, 1) := by decide +kernel
theorem dX5_carryAll_117 : decode cX5_carryAll 117 = .ok (.iload_n 2, 1) := by decide +kernel
theorem dX5_carryAll_118 : decode cX5_carryAll 118 = .ok (.iconst 1, 1) := by decide +kernel
theorem dX5_carryAll_119 : decode cX5_carryAll 119 = .ok (.iload 10, 2) := by decide +kernel
theorem dX5_carryAll_121 : decode cX5_carryAll 121 = .ok (.ishl, 1) := by decide +kernel
theorem dX5_carryAll_122 : decode cX5_carryAll 122 = .ok (.ior, 1) := by decide +kernel
theorem dX5_carryAll_123 : decode cX5_carryAll 123 = .ok (.istore_n 2, 1) := by decide +kernel
theorem dX5_carryAll_124 : decode cX5_carryAll 124 = .ok (.aload_n 0, 1) := by decide +kernel
theorem dX5_carryAll_125 : decode cX5_carryAll 125 = .ok (.iload 10, 2) := by decide +kernel
theorem dX5_carryAll_127 : decode cX5_carryAll 127 = .ok (.iload 8, 2) := by decide +kernel
theorem dX5_carryAll_129 : decode cX5_carryAll 129 = .ok (.iload 7, 2) := by decide +kernel
theorem dX5_carryAll_131 : decode cX5_carryAll 131 = .ok (.invokevirtual 107, 3) := by decide +kernel
theorem dX5_carryAll_134 : decode cX5_carryAll 134 = .ok (.aload_n 0, 1) := by decide +kernel
theorem dX5_carryAll_135 : decode cX5_carryAll 135 = .ok (.iload 10, 2) := by decide +kernel
theorem dX5_carryAll_137 : decode cX5_carryAll 137 = .ok (.invokevirtual 111, 3) := by decide +kernel
theorem dX5_carryAll_140 : decode cX5_carryAll 140 = .ok (.istore 6, 2) := by decide +kernel
theorem dX5_carryAll_142 : decode cX5_carryAll 142 = .ok (.aload_n 1, 1) := by decide +kernel
theorem dX5_carryAll_143 : decode cX5_carryAll 143 = .ok (.iload 6, 2) := by decide +kernel
theorem dX5_carryAll_145 : decode cX5_carryAll 145 = .ok (.invokevirtual 73, 3) := by decide +kernel
theorem dX5_carryAll_148 : decode cX5_carryAll 148 = .ok (.istore 9, 2) := by decide +kernel
theorem dX5_carryAll_150 : decode cX5_carryAll 150 = .ok (.iload 6, 2) := by decide +kernel
theorem dX5_carryAll_152 : decode cX5_carryAll 152 = .ok (.ifCond .eq 20, 3) := by decide +kernel
theorem dX5_carryAll_155 : decode cX5_carryAll 155 = .ok (.aload_n 0, 1) := by decide +kernel
theorem dX5_carryAll_156 : decode cX5_carryAll 156 = .ok (.iload 4, 2) := by decide +kernel
theorem dX5_carryAll_158 : decode cX5_carryAll 158 = .ok (.iload 8, 2) := by decide +kernel
theorem dX5_carryAll_160 : decode cX5_carryAll 160 = .ok (.iload 6, 2) := by decide +kernel
theorem dX5_carryAll_162 : decode cX5_carryAll 162 = .ok (.iload 9, 2) := by decide +kernel
theorem dX5_carryAll_164 : decode cX5_carryAll 164 = .ok (.iload 7, 2) := by decide +kernel
theorem dX5_carryAll_166 : decode cX5_carryAll 166 = .ok (.invokevirtual 77, 3) := by decide +kernel
theorem dX5_carryAll_169 : decode cX5_carryAll 169 = .ok (.iinc 4 1, 3) := by decide +kernel
theorem dX5_carryAll_172 : decode cX5_carryAll 172 = .ok (.iinc 5 1, 3) := by decide +kernel
theorem dX5_carryAll_175 : decode cX5_carryAll 175 = .ok (.goto (-165), 3) := by decide +kernel
theorem dX5_carryAll_178 : decode cX5_carryAll 178 = .ok (.aload_n 0, 1) := by decide +kernel
theorem dX5_carryAll_179 : decode cX5_carryAll 179 = .ok (.iload 4, 2) := by decide +kernel
theorem dX5_carryAll_181 : decode cX5_carryAll 181 = .ok (.putfield 47, 3) := by decide +kernel
theorem dX5_carryAll_184 : decode cX5_carryAll 184 = .ok (.aload_n 0, 1) := by decide +kernel
theorem dX5_carryAll_185 : decode cX5_carryAll 185 = .ok (.ldc 114, 2) := by decide +kernel
theorem dX5_carryAll_187 : decode cX5_carryAll 187 = .ok (.aload_n 0, 1) := by decide +kernel
theorem dX5_carryAll_188 : decode cX5_carryAll 188 = .ok (.getfield 44, 3) := by decide +kernel
theorem dX5_carryAll_191 : decode cX5_carryAll 191 = .ok (.iload_n 3, 1) := by decide +kernel
theorem dX5_carryAll_192 : decode cX5_carryAll 192 = .ok (.invokestatic 115, 3) := by decide +kernel
theorem dX5_carryAll_195 : decode cX5_carryAll 195 = .ok (.iadd, 1) := by decide +kernel
theorem dX5_carryAll_196 : decode cX5_carryAll 196 = .ok (.invokestatic 120, 3) := by decide +kernel
theorem dX5_carryAll_199 : decode cX5_carryAll 199 = .ok (.putfield 44, 3) := by decide +kernel
theorem dX5_carryAll_202 : decode cX5_carryAll 202 = .ok (.return_, 1) := by decide +kernel
theorem dX5_goesOnFrom_0 : decode cX5_goesOnFrom 0 = .ok (.aload_n 0, 1) := by decide +kernel
theorem dX5_goesOnFrom_1 : decode cX5_goesOnFrom 1 = .ok (.getfield 41, 3) := by decide +kernel
theorem dX5_goesOnFrom_4 : decode cX5_goesOnFrom 4 = .ok (.iload_n 1, 1) := by decide +kernel
theorem dX5_goesOnFrom_5 : decode cX5_goesOnFrom 5 = .ok (.invokestatic 103, 3) := by decide +kernel
theorem dX5_goesOnFrom_8 : decode cX5_goesOnFrom 8 = .ok (.ifCond .eq 7, 3) := by decide +kernel
theorem dX5_goesOnFrom_11 : decode cX5_goesOnFrom 11 = .ok (.iconst 0, 1) := by decide +kernel
theorem dX5_goesOnFrom_12 : decode cX5_goesOnFrom 12 = .ok (.goto 4, 3) := by decide +kernel
theorem dX5_goesOnFrom_15 : decode cX5_goesOnFrom 15 = .ok (.iload_n 1, 1) := by decide +kernel
theorem dX5_goesOnFrom_16 : decode cX5_goesOnFrom 16 = .ok (.ireturn, 1) := by decide +kernel
theorem dX5_garbled_0 : decode cX5_garbled 0 = .ok (.aload_n 0, 1) := by decide +kernel
theorem dX5_garbled_1 : decode cX5_garbled 1 = .ok (.getfield 18, 3) := by decide +kernel
theorem dX5_garbled_4 : decode cX5_garbled 4 = .ok (.iload_n 2, 1) := by decide +kernel
theorem dX5_garbled_5 : decode cX5_garbled 5 = .ok (.invokestatic 69, 3) := by decide +kernel
theorem dX5_garbled_8 : decode cX5_garbled 8 = .ok (.istore 4, 2) := by decide +kernel
theorem dX5_garbled_10 : decode cX5_garbled 10 = .ok (.aload_n 1, 1) := by decide +kernel
theorem dX5_garbled_11 : decode cX5_garbled 11 = .ok (.getfield 125, 3) := by decide +kernel
theorem dX5_garbled_14 : decode cX5_garbled 14 = .ok (.iload_n 2, 1) := by decide +kernel
theorem dX5_garbled_15 : decode cX5_garbled 15 = .ok (.invokestatic 69, 3) := by decide +kernel
theorem dX5_garbled_18 : decode cX5_garbled 18 = .ok (.istore 5, 2) := by decide +kernel
theorem dX5_garbled_20 : decode cX5_garbled 20 = .ok (.iload 4, 2) := by decide +kernel
theorem dX5_garbled_22 : decode cX5_garbled 22 = .ok (.iload 5, 2) := by decide +kernel
theorem dX5_garbled_24 : decode cX5_garbled 24 = .ok (.aload_n 1, 1) := by decide +kernel
theorem dX5_garbled_25 : decode cX5_garbled 25 = .ok (.getfield 128, 3) := by decide +kernel
theorem dX5_garbled_28 : decode cX5_garbled 28 = .ok (.iload_n 3, 1) := by decide +kernel
theorem dX5_garbled_29 : decode cX5_garbled 29 = .ok (.invokestatic 131, 3) := by decide +kernel
theorem dX5_garbled_32 : decode cX5_garbled 32 = .ok (.istore 6, 2) := by decide +kernel
theorem dX5_garbled_34 : decode cX5_garbled 34 = .ok (.aload_n 0, 1) := by decide +kernel
theorem dX5_garbled_35 : decode cX5_garbled 35 = .ok (.getfield 36, 3) := by decide +kernel
theorem dX5_garbled_38 : decode cX5_garbled 38 = .ok (.bipush 7, 2) := by decide +kernel
theorem dX5_garbled_40 : decode cX5_garbled 40 = .ok (.if_icmp .lt 19, 3) := by decide +kernel
theorem dX5_garbled_43 : decode cX5_garbled 43 = .ok (.iload 4, 2) := by decide +kernel
theorem dX5_garbled_45 : decode cX5_garbled 45 = .ok (.iload 5, 2) := by decide +kernel
theorem dX5_garbled_47 : decode cX5_garbled 47 = .ok (.aload_n 1, 1) := by decide +kernel
theorem dX5_garbled_48 : decode cX5_garbled 48 = .ok (.getfield 128, 3) := by decide +kernel
theorem dX5_garbled_51 : decode cX5_garbled 51 = .ok (.iload 6, 2) := by decide +kernel
theorem dX5_garbled_53 : decode cX5_garbled 53 = .ok (.invokestatic 131, 3) := by decide +kernel
theorem dX5_garbled_56 : decode cX5_garbled 56 = .ok (.goto 5, 3) := by decide +kernel
theorem dX5_garbled_59 : decode cX5_garbled 59 = .ok (.iload 6, 2) := by decide +kernel
theorem dX5_garbled_61 : decode cX5_garbled 61 = .ok (.ireturn, 1) := by decide +kernel
theorem dX5_hears_0 : decode cX5_hears 0 = .ok (.aload_n 0, 1) := by decide +kernel
theorem dX5_hears_1 : decode cX5_hears 1 = .ok (.getfield 21, 3) := by decide +kernel
theorem dX5_hears_4 : decode cX5_hears 4 = .ok (.iload_n 1, 1) := by decide +kernel
theorem dX5_hears_5 : decode cX5_hears 5 = .ok (.iload_n 2, 1) := by decide +kernel
theorem dX5_hears_6 : decode cX5_hears 6 = .ok (.invokestatic 135, 3) := by decide +kernel
theorem dX5_hears_9 : decode cX5_hears 9 = .ok (.aload_n 0, 1) := by decide +kernel
theorem dX5_hears_10 : decode cX5_hears 10 = .ok (.getfield 24, 3) := by decide +kernel
theorem dX5_hears_13 : decode cX5_hears 13 = .ok (.iload_n 1, 1) := by decide +kernel
theorem dX5_hears_14 : decode cX5_hears 14 = .ok (.ldc 114, 2) := by decide +kernel
theorem dX5_hears_16 : decode cX5_hears 16 = .ok (.aload_n 0, 1) := by decide +kernel
theorem dX5_hears_17 : decode cX5_hears 17 = .ok (.getfield 24, 3) := by decide +kernel
theorem dX5_hears_20 : decode cX5_hears 20 = .ok (.iload_n 1, 1) := by decide +kernel
theorem dX5_hears_21 : decode cX5_hears 21 = .ok (.invokestatic 69, 3) := by decide +kernel
theorem dX5_hears_24 : decode cX5_hears 24 = .ok (.iconst 1, 1) := by decide +kernel
theorem dX5_hears_25 : decode cX5_hears 25 = .ok (.iadd, 1) := by decide +kernel
theorem dX5_hears_26 : decode cX5_hears 26 = .ok (.invokestatic 120, 3) := by decide +kernel
theorem dX5_hears_29 : decode cX5_hears 29 = .ok (.invokestatic 135, 3) := by decide +kernel
theorem dX5_hears_32 : decode cX5_hears 32 = .ok (.iconst 4, 1) := by decide +kernel
theorem dX5_hears_33 : decode cX5_hears 33 = .ok (.aload_n 0, 1) := by decide +kernel
theorem dX5_hears_34 : decode cX5_hears 34 = .ok (.getfield 53, 3) := by decide +kernel
theorem dX5_hears_37 : decode cX5_hears 37 = .ok (.imul, 1) := by decide +kernel
theorem dX5_hears_38 : decode cX5_hears 38 = .ok (.istore 4, 2) := by decide +kernel
theorem dX5_hears_40 : decode cX5_hears 40 = .ok (.aload_n 0, 1) := by decide +kernel
theorem dX5_hears_41 : decode cX5_hears 41 = .ok (.getfield 15, 3) := by decide +kernel
theorem dX5_hears_44 : decode cX5_hears 44 = .ok (.iload 4, 2) := by decide +kernel
theorem dX5_hears_46 : decode cX5_hears 46 = .ok (.iconst 0, 1) := by decide +kernel
theorem dX5_hears_47 : decode cX5_hears 47 = .ok (.iadd, 1) := by decide +kernel
theorem dX5_hears_48 : decode cX5_hears 48 = .ok (.iload_n 1, 1) := by decide +kernel
theorem dX5_hears_49 : decode cX5_hears 49 = .ok (.invokestatic 135, 3) := by decide +kernel
theorem dX5_hears_52 : decode cX5_hears 52 = .ok (.aload_n 0, 1) := by decide +kernel
theorem dX5_hears_53 : decode cX5_hears 53 = .ok (.getfield 15, 3) := by decide +kernel
theorem dX5_hears_56 : decode cX5_hears 56 = .ok (.iload 4, 2) := by decide +kernel
theorem dX5_hears_58 : decode cX5_hears 58 = .ok (.iconst 1, 1) := by decide +kernel
theorem dX5_hears_59 : decode cX5_hears 59 = .ok (.iadd, 1) := by decide +kernel
theorem dX5_hears_60 : decode cX5_hears 60 = .ok (.iload_n 2, 1) := by decide +kernel
theorem dX5_hears_61 : decode cX5_hears 61 = .ok (.invokestatic 135, 3) := by decide +kernel
theorem dX5_hears_64 : decode cX5_hears 64 = .ok (.aload_n 0, 1) := by decide +kernel
theorem dX5_hears_65 : decode cX5_hears 65 = .ok (.getfield 15, 3) := by decide +kernel
theorem dX5_hears_68 : decode cX5_hears 68 = .ok (.iload 4, 2) := by decide +kernel
theorem dX5_hears_70 : decode cX5_hears 70 = .ok (.iconst 2, 1) := by decide +kernel
theorem dX5_hears_71 : decode cX5_hears 71 = .ok (.iadd, 1) := by decide +kernel
theorem dX5_hears_72 : decode cX5_hears 72 = .ok (.aload_n 0, 1) := by decide +kernel
theorem dX5_hears_73 : decode cX5_hears 73 = .ok (.getfield 27, 3) := by decide +kernel
theorem dX5_hears_76 : decode cX5_hears 76 = .ok (.invokestatic 135, 3) := by decide +kernel
theorem dX5_hears_79 : decode cX5_hears 79 = .ok (.aload_n 0, 1) := by decide +kernel
theorem dX5_hears_80 : decode cX5_hears 80 = .ok (.getfield 15, 3) := by decide +kernel
theorem dX5_hears_83 : decode cX5_hears 83 = .ok (.iload 4, 2) := by decide +kernel
theorem dX5_hears_85 : decode cX5_hears 85 = .ok (.iconst 3, 1) := by decide +kernel
theorem dX5_hears_86 : decode cX5_hears 86 = .ok (.iadd, 1) := by decide +kernel
theorem dX5_hears_87 : decode cX5_hears 87 = .ok (.iload_n 3, 1) := by decide +kernel
theorem dX5_hears_88 : decode cX5_hears 88 = .ok (.invokestatic 135, 3) := by decide +kernel
theorem dX5_hears_91 : decode cX5_hears 91 = .ok (.aload_n 0, 1) := by decide +kernel
theorem dX5_hears_92 : decode cX5_hears 92 = .ok (.aload_n 0, 1) := by decide +kernel
theorem dX5_hears_93 : decode cX5_hears 93 = .ok (.getfield 53, 3) := by decide +kernel
theorem dX5_hears_96 : decode cX5_hears 96 = .ok (.iconst 1, 1) := by decide +kernel
theorem dX5_hears_97 : decode cX5_hears 97 = .ok (.iadd, 1) := by decide +kernel
theorem dX5_hears_98 : decode cX5_hears 98 = .ok (.bipush 20, 2) := by decide +kernel
theorem dX5_hears_100 : decode cX5_hears 100 = .ok (.irem, 1) := by decide +kernel
theorem dX5_hears_101 : decode cX5_hears 101 = .ok (.putfield 53, 3) := by decide +kernel
theorem dX5_hears_104 : decode cX5_hears 104 = .ok (.aload_n 0, 1) := by decide +kernel
theorem dX5_hears_105 : decode cX5_hears 105 = .ok (.bipush 20, 2) := by decide +kernel
theorem dX5_hears_107 : decode cX5_hears 107 = .ok (.aload_n 0, 1) := by decide +kernel
theorem dX5_hears_108 : decode cX5_hears 108 = .ok (.getfield 50, 3) := by decide +kernel
theorem dX5_hears_111 : decode cX5_hears 111 = .ok (.iconst 1, 1) := by decide +kernel
theorem dX5_hears_112 : decode cX5_hears 112 = .ok (.iadd, 1) := by decide +kernel
theorem dX5_hears_113 : decode cX5_hears 113 = .ok (.invokestatic 120, 3) := by decide +kernel
theorem dX5_hears_116 : decode cX5_hears 116 = .ok (.putfield 50, 3) := by decide +kernel
theorem dX5_hears_119 : decode cX5_hears 119 = .ok (.return_, 1) := by decide +kernel
theorem dX5_placeTalk_0 : decode cX5_placeTalk 0 = .ok (.iconst 4, 1) := by decide +kernel
theorem dX5_placeTalk_1 : decode cX5_placeTalk 1 = .ok (.iload_n 1, 1) := by decide +kernel
theorem dX5_placeTalk_2 : decode cX5_placeTalk 2 = .ok (.imul, 1) := by decide +kernel
theorem dX5_placeTalk_3 : decode cX5_placeTalk 3 = .ok (.istore 6, 2) := by decide +kernel
theorem dX5_placeTalk_5 : decode cX5_placeTalk 5 = .ok (.aload_n 0, 1) := by decide +kernel
theorem dX5_placeTalk_6 : decode cX5_placeTalk 6 = .ok (.getfield 9, 3) := by decide +kernel
theorem dX5_placeTalk_9 : decode cX5_placeTalk 9 = .ok (.iload 6, 2) := by decide +kernel
theorem dX5_placeTalk_11 : decode cX5_placeTalk 11 = .ok (.iconst 0, 1) := by decide +kernel
theorem dX5_placeTalk_12 : decode cX5_placeTalk 12 = .ok (.iadd, 1) := by decide +kernel
theorem dX5_placeTalk_13 : decode cX5_placeTalk 13 = .ok (.iload_n 2, 1) := by decide +kernel
theorem dX5_placeTalk_14 : decode cX5_placeTalk 14 = .ok (.invokestatic 135, 3) := by decide +kernel
theorem dX5_placeTalk_17 : decode cX5_placeTalk 17 = .ok (.aload_n 0, 1) := by decide +kernel
theorem dX5_placeTalk_18 : decode cX5_placeTalk 18 = .ok (.getfield 9, 3) := by decide +kernel
theorem dX5_placeTalk_21 : decode cX5_placeTalk 21 = .ok (.iload 6, 2) := by decide +kernel
theorem dX5_placeTalk_23 : decode cX5_placeTalk 23 = .ok (.iconst 1, 1) := by decide +kernel
theorem dX5_placeTalk_24 : decode cX5_placeTalk 24 = .ok (.iadd, 1) := by decide +kernel
theorem dX5_placeTalk_25 : decode cX5_placeTalk 25 = .ok (.iload_n 3, 1) := by decide +kernel
theorem dX5_placeTalk_26 : decode cX5_placeTalk 26 = .ok (.invokestatic 135, 3) := by decide +kernel
theorem dX5_placeTalk_29 : decode cX5_placeTalk 29 = .ok (.aload_n 0, 1) := by decide +kernel
theorem dX5_placeTalk_30 : decode cX5_placeTalk 30 = .ok (.getfield 9, 3) := by decide +kernel
theorem dX5_placeTalk_33 : decode cX5_placeTalk 33 = .ok (.iload 6, 2) := by decide +kernel
theorem dX5_placeTalk_35 : decode cX5_placeTalk 35 = .ok (.iconst 2, 1) := by decide +kernel
theorem dX5_placeTalk_36 : decode cX5_placeTalk 36 = .ok (.iadd, 1) := by decide +kernel
theorem dX5_placeTalk_37 : decode cX5_placeTalk 37 = .ok (.iload 4, 2) := by decide +kernel
theorem dX5_placeTalk_39 : decode cX5_placeTalk 39 = .ok (.invokestatic 135, 3) := by decide +kernel
theorem dX5_placeTalk_42 : decode cX5_placeTalk 42 = .ok (.aload_n 0, 1) := by decide +kernel
theorem dX5_placeTalk_43 : decode cX5_placeTalk 43 = .ok (.getfield 9, 3) := by decide +kernel
theorem dX5_placeTalk_46 : decode cX5_placeTalk 46 = .ok (.iload 6, 2) := by decide +kernel
theorem dX5_placeTalk_48 : decode cX5_placeTalk 48 = .ok (.iconst 3, 1) := by decide +kernel
theorem dX5_placeTalk_49 : decode cX5_placeTalk 49 = .ok (.iadd, 1) := by decide +kernel
theorem dX5_placeTalk_50 : decode cX5_placeTalk 50 = .ok (.iload 5, 2) := by decide +kernel
theorem dX5_placeTalk_52 : decode cX5_placeTalk 52 = .ok (.invokestatic 135, 3) := by decide +kernel
theorem dX5_placeTalk_55 : decode cX5_placeTalk 55 = .ok (.return_, 1) := by decide +kernel
theorem dX5_moveTalk_0 : decode cX5_moveTalk 0 = .ok (.aload_n 0, 1) := by decide +kernel
theorem dX5_moveTalk_1 : decode cX5_moveTalk 1 = .ok (.iload_n 2, 1) := by decide +kernel
theorem dX5_moveTalk_2 : decode cX5_moveTalk 2 = .ok (.aload_n 0, 1) := by decide +kernel
theorem dX5_moveTalk_3 : decode cX5_moveTalk 3 = .ok (.iload_n 1, 1) := by decide +kernel
theorem dX5_moveTalk_4 : decode cX5_moveTalk 4 = .ok (.iconst 0, 1) := by decide +kernel
theorem dX5_moveTalk_5 : decode cX5_moveTalk 5 = .ok (.invokevirtual 92, 3) := by decide +kernel
theorem dX5_moveTalk_8 : decode cX5_moveTalk 8 = .ok (.aload_n 0, 1) := by decide +kernel
theorem dX5_moveTalk_9 : decode cX5_moveTalk 9 = .ok (.iload_n 1, 1) := by decide +kernel
theorem dX5_moveTalk_10 : decode cX5_moveTalk 10 = .ok (.iconst 1, 1) := by decide +kernel
theorem dX5_moveTalk_11 : decode cX5_moveTalk 11 = .ok (.invokevirtual 92, 3) := by decide +kernel
theorem dX5_moveTalk_14 : decode cX5_moveTalk 14 = .ok (.aload_n 0, 1) := by decide +kernel
theorem dX5_moveTalk_15 : decode cX5_moveTalk 15 = .ok (.iload_n 1, 1) := by decide +kernel
theorem dX5_moveTalk_16 : decode cX5_moveTalk 16 = .ok (.iconst 2, 1) := by decide +kernel
theorem dX5_moveTalk_17 : decode cX5_moveTalk 17 = .ok (.invokevirtual 92, 3) := by decide +kernel
theorem dX5_moveTalk_20 : decode cX5_moveTalk 20 = .ok (.aload_n 0, 1) := by decide +kernel
theorem dX5_moveTalk_21 : decode cX5_moveTalk 21 = .ok (.iload_n 1, 1) := by decide +kernel
theorem dX5_moveTalk_22 : decode cX5_moveTalk 22 = .ok (.iconst 3, 1) := by decide +kernel
theorem dX5_moveTalk_23 : decode cX5_moveTalk 23 = .ok (.invokevirtual 92, 3) := by decide +kernel
theorem dX5_moveTalk_26 : decode cX5_moveTalk 26 = .ok (.invokevirtual 77, 3) := by decide +kernel
theorem dX5_moveTalk_29 : decode cX5_moveTalk 29 = .ok (.return_, 1) := by decide +kernel
theorem dJ6_bitCount_0f7a4_0 : decode cJ6_bitCount_0f7a4 0 = .ok (.iload_n 0, 1) := by decide +kernel
theorem dJ6_bitCount_0f7a4_1 : decode cJ6_bitCount_0f7a4 1 = .ok (.iload_n 0, 1) := by decide +kernel
theorem dJ6_bitCount_0f7a4_2 : decode cJ6_bitCount_0f7a4 2 = .ok (.iconst 1, 1) := by decide +kernel
theorem dJ6_bitCount_0f7a4_3 : decode cJ6_bitCount_0f7a4 3 = .ok (.iushr, 1) := by decide +kernel
theorem dJ6_bitCount_0f7a4_4 : decode cJ6_bitCount_0f7a4 4 = .ok (.ldc_w 265, 3) := by decide +kernel
theorem dJ6_bitCount_0f7a4_7 : decode cJ6_bitCount_0f7a4 7 = .ok (.iand, 1) := by decide +kernel
theorem dJ6_bitCount_0f7a4_8 : decode cJ6_bitCount_0f7a4 8 = .ok (.isub, 1) := by decide +kernel
theorem dJ6_bitCount_0f7a4_9 : decode cJ6_bitCount_0f7a4 9 = .ok (.istore_n 0, 1) := by decide +kernel
theorem dJ6_bitCount_0f7a4_10 : decode cJ6_bitCount_0f7a4 10 = .ok (.iload_n 0, 1) := by decide +kernel
theorem dJ6_bitCount_0f7a4_11 : decode cJ6_bitCount_0f7a4 11 = .ok (.ldc_w 266, 3) := by decide +kernel
theorem dJ6_bitCount_0f7a4_14 : decode cJ6_bitCount_0f7a4 14 = .ok (.iand, 1) := by decide +kernel
theorem dJ6_bitCount_0f7a4_15 : decode cJ6_bitCount_0f7a4 15 = .ok (.iload_n 0, 1) := by decide +kernel
theorem dJ6_bitCount_0f7a4_16 : decode cJ6_bitCount_0f7a4 16 = .ok (.iconst 2, 1) := by decide +kernel
theorem dJ6_bitCount_0f7a4_17 : decode cJ6_bitCount_0f7a4 17 = .ok (.iushr, 1) := by decide +kernel
theorem dJ6_bitCount_0f7a4_18 : decode cJ6_bitCount_0f7a4 18 = .ok (.ldc_w 266, 3) := by decide +kernel
theorem dJ6_bitCount_0f7a4_21 : decode cJ6_bitCount_0f7a4 21 = .ok (.iand, 1) := by decide +kernel
theorem dJ6_bitCount_0f7a4_22 : decode cJ6_bitCount_0f7a4 22 = .ok (.iadd, 1) := by decide +kernel
theorem dJ6_bitCount_0f7a4_23 : decode cJ6_bitCount_0f7a4 23 = .ok (.istore_n 0, 1) := by decide +kernel
theorem dJ6_bitCount_0f7a4_24 : decode cJ6_bitCount_0f7a4 24 = .ok (.iload_n 0, 1) := by decide +kernel
theorem dJ6_bitCount_0f7a4_25 : decode cJ6_bitCount_0f7a4 25 = .ok (.iload_n 0, 1) := by decide +kernel
theorem dJ6_bitCount_0f7a4_26 : decode cJ6_bitCount_0f7a4 26 = .ok (.iconst 4, 1) := by decide +kernel
theorem dJ6_bitCount_0f7a4_27 : decode cJ6_bitCount_0f7a4 27 = .ok (.iushr, 1) := by decide +kernel
theorem dJ6_bitCount_0f7a4_28 : decode cJ6_bitCount_0f7a4 28 = .ok (.iadd, 1) := by decide +kernel
theorem dJ6_bitCount_0f7a4_29 : decode cJ6_bitCount_0f7a4 29 = .ok (.ldc_w 267, 3) := by decide +kernel
theorem dJ6_bitCount_0f7a4_32 : decode cJ6_bitCount_0f7a4 32 = .ok (.iand, 1) := by decide +kernel
theorem dJ6_bitCount_0f7a4_33 : decode cJ6_bitCount_0f7a4 33 = .ok (.istore_n 0, 1) := by decide +kernel
theorem dJ6_bitCount_0f7a4_34 : decode cJ6_bitCount_0f7a4 34 = .ok (.iload_n 0, 1) := by decide +kernel
theorem dJ6_bitCount_0f7a4_35 : decode cJ6_bitCount_0f7a4 35 = .ok (.iload_n 0, 1) := by decide +kernel
theorem dJ6_bitCount_0f7a4_36 : decode cJ6_bitCount_0f7a4 36 = .ok (.bipush 8, 2) := by decide +kernel
theorem dJ6_bitCount_0f7a4_38 : decode cJ6_bitCount_0f7a4 38 = .ok (.iushr, 1) := by decide +kernel
theorem dJ6_bitCount_0f7a4_39 : decode cJ6_bitCount_0f7a4 39 = .ok (.iadd, 1) := by decide +kernel
theorem dJ6_bitCount_0f7a4_40 : decode cJ6_bitCount_0f7a4 40 = .ok (.istore_n 0, 1) := by decide +kernel
theorem dJ6_bitCount_0f7a4_41 : decode cJ6_bitCount_0f7a4 41 = .ok (.iload_n 0, 1) := by decide +kernel
theorem dJ6_bitCount_0f7a4_42 : decode cJ6_bitCount_0f7a4 42 = .ok (.iload_n 0, 1) := by decide +kernel
theorem dJ6_bitCount_0f7a4_43 : decode cJ6_bitCount_0f7a4 43 = .ok (.bipush 16, 2) := by decide +kernel
theorem dJ6_bitCount_0f7a4_45 : decode cJ6_bitCount_0f7a4 45 = .ok (.iushr, 1) := by decide +kernel
theorem dJ6_bitCount_0f7a4_46 : decode cJ6_bitCount_0f7a4 46 = .ok (.iadd, 1) := by decide +kernel
theorem dJ6_bitCount_0f7a4_47 : decode cJ6_bitCount_0f7a4 47 = .ok (.istore_n 0, 1) := by decide +kernel
theorem dJ6_bitCount_0f7a4_48 : decode cJ6_bitCount_0f7a4 48 = .ok (.iload_n 0, 1) := by decide +kernel
theorem dJ6_bitCount_0f7a4_49 : decode cJ6_bitCount_0f7a4 49 = .ok (.bipush 63, 2) := by decide +kernel
theorem dJ6_bitCount_0f7a4_51 : decode cJ6_bitCount_0f7a4 51 = .ok (.iand, 1) := by decide +kernel
theorem dJ6_bitCount_0f7a4_52 : decode cJ6_bitCount_0f7a4 52 = .ok (.ireturn, 1) := by decide +kernel
theorem dJ9_max_7cf53_0 : decode cJ9_max_7cf53 0 = .ok (.iload_n 0, 1) := by decide +kernel
theorem dJ9_max_7cf53_1 : decode cJ9_max_7cf53 1 = .ok (.iload_n 1, 1) := by decide +kernel
theorem dJ9_max_7cf53_2 : decode cJ9_max_7cf53 2 = .ok (.if_icmp .lt 7, 3) := by decide +kernel
theorem dJ9_max_7cf53_5 : decode cJ9_max_7cf53 5 = .ok (.iload_n 0, 1) := by decide +kernel
theorem dJ9_max_7cf53_6 : decode cJ9_max_7cf53 6 = .ok (.goto 4, 3) := by decide +kernel
theorem dJ9_max_7cf53_9 : decode cJ9_max_7cf53 9 = .ok (.iload_n 1, 1) := by decide +kernel
theorem dJ9_max_7cf53_10 : decode cJ9_max_7cf53 10 = .ok (.ireturn, 1) := by decide +kernel
theorem dJ9_min_7cf53_0 : decode cJ9_min_7cf53 0 = .ok (.iload_n 0, 1) := by decide +kernel
theorem dJ9_min_7cf53_1 : decode cJ9_min_7cf53 1 = .ok (.iload_n 1, 1) := by decide +kernel
theorem dJ9_min_7cf53_2 : decode cJ9_min_7cf53 2 = .ok (.if_icmp .gt 7, 3) := by decide +kernel
theorem dJ9_min_7cf53_5 : decode cJ9_min_7cf53 5 = .ok (.iload_n 0, 1) := by decide +kernel
theorem dJ9_min_7cf53_6 : decode cJ9_min_7cf53 6 = .ok (.goto 4, 3) := by decide +kernel
theorem dJ9_min_7cf53_9 : decode cJ9_min_7cf53 9 = .ok (.iload_n 1, 1) := by decide +kernel
theorem dJ9_min_7cf53_10 : decode cJ9_min_7cf53 10 = .ok (.ireturn, 1) := by decide +kernel
theorem dJ7_fill_53178_0 : decode cJ7_fill_53178 0 = .ok (.iconst 0, 1) := by decide +kernel
theorem dJ7_fill_53178_1 : decode cJ7_fill_53178 1 = .ok (.istore_n 2, 1) := by decide +kernel
theorem dJ7_fill_53178_2 : decode cJ7_fill_53178 2 = .ok (.aload_n 0, 1) := by decide +kernel
theorem dJ7_fill_53178_3 : decode cJ7_fill_53178 3 = .ok (.arraylength, 1) := by decide +kernel
theorem dJ7_fill_53178_4 : decode cJ7_fill_53178 4 = .ok (.istore_n 3, 1) := by decide +kernel
theorem dJ7_fill_53178_5 : decode cJ7_fill_53178 5 = .ok (.iload_n 2, 1) := by decide +kernel
theorem dJ7_fill_53178_6 : decode cJ7_fill_53178 6 = .ok (.iload_n 3, 1) := by decide +kernel
theorem dJ7_fill_53178_7 : decode cJ7_fill_53178 7 = .ok (.if_icmp .ge 13, 3) := by decide +kernel
theorem dJ7_fill_53178_10 : decode cJ7_fill_53178 10 = .ok (.aload_n 0, 1) := by decide +kernel
theorem dJ7_fill_53178_11 : decode cJ7_fill_53178 11 = .ok (.iload_n 2, 1) := by decide +kernel
theorem dJ7_fill_53178_12 : decode cJ7_fill_53178 12 = .ok (.iload_n 1, 1) := by decide +kernel
theorem dJ7_fill_53178_13 : decode cJ7_fill_53178 13 = .ok (.iastore, 1) := by decide +kernel
theorem dJ7_fill_53178_14 : decode cJ7_fill_53178 14 = .ok (.iinc 2 1, 3) := by decide +kernel
theorem dJ7_fill_53178_17 : decode cJ7_fill_53178 17 = .ok (.goto (-12), 3) := by decide +kernel
theorem dJ7_fill_53178_20 : decode cJ7_fill_53178 20 = .ok (.return_, 1) := by decide +kernel
theorem dX6_init_0 : decode cX6_init 0 = .ok (.aload_n 0, 1) := by decide +kernel
theorem dX6_init_1 : decode cX6_init 1 = .ok (.invokespecial 1, 3) := by decide +kernel
theorem dX6_init_4 : decode cX6_init 4 = .ok (.aload_n 0, 1) := by decide +kernel
theorem dX6_init_5 : decode cX6_init 5 = .ok (.new 7, 3) := by decide +kernel
theorem dX6_init_8 : decode cX6_init 8 = .ok (.dup, 1) := by decide +kernel
theorem dX6_init_9 : decode cX6_init 9 = .ok (.invokespecial 9, 3) := by decide +kernel
theorem dX6_init_12 : decode cX6_init 12 = .ok (.putfield 10, 3) := by decide +kernel
theorem dX6_init_15 : decode cX6_init 15 = .ok (.aload_n 0, 1) := by decide +kernel
theorem dX6_init_16 : decode cX6_init 16 = .ok (.new 16, 3) := by decide +kernel
theorem dX6_init_19 : decode cX6_init 19 = .ok (.dup, 1) := by decide +kernel
theorem dX6_init_20 : decode cX6_init 20 = .ok (.invokespecial 18, 3) := by decide +kernel
theorem dX6_init_23 : decode cX6_init 23 = .ok (.putfield 19, 3) := by decide +kernel
theorem dX6_init_26 : decode cX6_init 26 = .ok (.aload_n 0, 1) := by decide +kernel
theorem dX6_init_27 : decode cX6_init 27 = .ok (.new 16, 3) := by decide +kernel
theorem dX6_init_30 : decode cX6_init 30 = .ok (.dup, 1) := by decide +kernel
theorem dX6_init_31 : decode cX6_init 31 = .ok (.invokespecial 18, 3) := by decide +kernel
theorem dX6_init_34 : decode cX6_init 34 = .ok (.putfield 23, 3) := by decide +kernel
theorem dX6_init_37 : decode cX6_init 37 = .ok (.aload_n 0, 1) := by decide +kernel
theorem dX6_init_38 : decode cX6_init 38 = .ok (.new 26, 3) := by decide +kernel
theorem dX6_init_41 : decode cX6_init 41 = .ok (.dup, 1) := by decide +kernel
theorem dX6_init_42 : decode cX6_init 42 = .ok (.invokespecial 28, 3) := by decide +kernel
theorem dX6_init_45 : decode cX6_init 45 = .ok (.putfield 29, 3) := by decide +kernel
theorem dX6_init_48 : decode cX6_init 48 = .ok (.aload_n 0, 1) := by decide +kernel
theorem dX6_init_49 : decode cX6_init 49 = .ok (.new 26, 3) := by decide +kernel
theorem dX6_init_52 : decode cX6_init 52 = .ok (.dup, 1) := by decide +kernel
theorem dX6_init_53 : decode cX6_init 53 = .ok (.invokespecial 28, 3) := by decide +kernel
theorem dX6_init_56 : decode cX6_init 56 = .ok (.putfield 33, 3) := by decide +kernel
theorem dX6_init_59 : decode cX6_init 59 = .ok (.aload_n 0, 1) := by decide +kernel
theorem dX6_init_60 : decode cX6_init 60 = .ok (.new 36, 3) := by decide +kernel
theorem dX6_init_63 : decode cX6_init 63 = .ok (.dup, 1) := by decide +kernel
theorem dX6_init_64 : decode cX6_init 64 = .ok (.invokespecial 38, 3) := by decide +kernel
theorem dX6_init_67 : decode cX6_init 67 = .ok (.putfield 39, 3) := by decide +kernel
theorem dX6_init_70 : decode cX6_init 70 = .ok (.aload_n 0, 1) := by decide +kernel
theorem dX6_init_71 : decode cX6_init 71 = .ok (.iconst 2, 1) := by decide +kernel
theorem dX6_init_72 : decode cX6_init 72 = .ok (.anewarray 26, 3) := by decide +kernel
theorem dX6_init_75 : decode cX6_init 75 = .ok (.putfield 43, 3) := by decide +kernel
theorem dX6_init_78 : decode cX6_init 78 = .ok (.iconst 0, 1) := by decide +kernel
theorem dX6_init_79 : decode cX6_init 79 = .ok (.istore_n 1, 1) := by decide +kernel
theorem dX6_init_80 : decode cX6_init 80 = .ok (.iload_n 1, 1) := by decide +kernel
theorem dX6_init_81 : decode cX6_init 81 = .ok (.aload_n 0, 1) := by decide +kernel
theorem dX6_init_82 : decode cX6_init 82 = .ok (.getfield 43, 3) := by decide +kernel
theorem dX6_init_85 : decode cX6_init 85 = .ok (.arraylength, 1) := by decide +kernel
theorem dX6_init_86 : decode cX6_init 86 = .ok (.if_icmp .ge 22, 3) := by decide +kernel
theorem dX6_init_89 : decode cX6_init 89 = .ok (.aload_n 0, 1) := by decide +kernel
theorem dX6_init_90 : decode cX6_init 90 = .ok (.getfield 43, 3) := by decide +kernel
theorem dX6_init_93 : decode cX6_init 93 = .ok (.iload_n 1, 1) := by decide +kernel
theorem dX6_init_94 : decode cX6_init 94 = .ok (.new 26, 3) := by decide +kernel
theorem dX6_init_97 : decode cX6_init 97 = .ok (.dup, 1) := by decide +kernel
theorem dX6_init_98 : decode cX6_init 98 = .ok (.invokespecial 28, 3) := by decide +kernel
theorem dX6_init_101 : decode cX6_init 101 = .ok (.aastore, 1) := by decide +kernel
theorem dX6_init_102 : decode cX6_init 102 = .ok (.iinc 1 1, 3) := by decide +kernel
theorem dX6_init_105 : decode cX6_init 105 = .ok (.goto (-25), 3) := by decide +kernel
theorem dX6_init_108 : decode cX6_init 108 = .ok (.aload_n 0, 1) := by decide +kernel
theorem dX6_init_109 : decode cX6_init 109 = .ok (.iconst 2, 1) := by decide +kernel
theorem dX6_init_110 : decode cX6_init 110 = .ok (.newarray .int, 2) := by decide +kernel
theorem dX6_init_112 : decode cX6_init 112 = .ok (.putfield 47, 3) := by decide +kernel
theorem dX6_init_115 : decode cX6_init 115 = .ok (.aload_n 0, 1) := by decide +kernel
theorem dX6_init_116 : decode cX6_init 116 = .ok (.new 51, 3) := by decide +kernel
theorem dX6_init_119 : decode cX6_init 119 = .ok (.dup, 1) := by decide +kernel
theorem dX6_init_120 : decode cX6_init 120 = .ok (.invokespecial 53, 3) := by decide +kernel
theorem dX6_init_123 : decode cX6_init 123 = .ok (.putfield 54, 3) := by decide +kernel
theorem dX6_init_126 : decode cX6_init 126 = .ok (.aload_n 0, 1) := by decide +kernel
theorem dX6_init_127 : decode cX6_init 127 = .ok (.new 58, 3) := by decide +kernel
theorem dX6_init_130 : decode cX6_init 130 = .ok (.dup, 1) := by decide +kernel
theorem dX6_init_131 : decode cX6_init 131 = .ok (.invokespecial 60, 3) := by decide +kernel
theorem dX6_init_134 : decode cX6_init 134 = .ok (.putfield 61, 3) := by decide +kernel
theorem dX6_init_137 : decode cX6_init 137 = .ok (.aload_n 0, 1) := by decide +kernel
theorem dX6_init_138 : decode cX6_init 138 = .ok (.getfield 29, 3) := by decide +kernel
theorem dX6_init_141 : decode cX6_init 141 = .ok (.aload_n 0, 1) := by decide +kernel
theorem dX6_init_142 : decode cX6_init 142 = .ok (.getfield 19, 3) := by decide +kernel
theorem dX6_init_145 : decode cX6_init 145 = .ok (.invokevirtual 65, 3) := by decide +kernel
theorem dX6_init_148 : decode cX6_init 148 = .ok (.return_, 1) := by decide +kernel
theorem dX6_feed_0 : decode cX6_feed 0 = .ok (.iload_n 1, 1) := by decide +kernel
theorem dX6_feed_1 : decode cX6_feed 1 = .ok (.ifCond .lt 10, 3) := by decide +kernel
theorem dX6_feed_4 : decode cX6_feed 4 = .ok (.iload_n 1, 1) := by decide +kernel
theorem dX6_feed_5 : decode cX6_feed 5 = .ok (.sipush 255, 3) := by decide +kernel
theorem dX6_feed_8 : decode cX6_feed 8 = .ok (.if_icmp .le 6, 3) := by decide +kernel
theorem dX6_feed_11 : decode cX6_feed 11 = .ok (.ldc 69, 2) := by decide +kernel
theorem dX6_feed_13 : decode cX6_feed 13 = .ok (.ireturn, 1) := by decide +kernel
theorem dX6_feed_14 : decode cX6_feed 14 = .ok (.aload_n 0, 1) := by decide +kernel
theorem dX6_feed_15 : decode cX6_feed 15 = .ok (.getfield 10, 3) := by decide +kernel
theorem dX6_feed_18 : decode cX6_feed 18 = .ok (.getfield 70, 3) := by decide +kernel
theorem dX6_feed_21 : decode cX6_feed 21 = .ok (.sipush 240, 3) := by decide +kernel
theorem dX6_feed_24 : decode cX6_feed 24 = .ok (.if_icmp .lt 6, 3) := by decide +kernel
theorem dX6_feed_27 : decode cX6_feed 27 = .ok (.ldc 74, 2) := by decide +kernel
theorem dX6_feed_29 : decode cX6_feed 29 = .ok (.ireturn, 1) := by decide +kernel
theorem dX6_feed_30 : decode cX6_feed 30 = .ok (.aload_n 0, 1) := by decide +kernel
theorem dX6_feed_31 : decode cX6_feed 31 = .ok (.getfield 10, 3) := by decide +kernel
theorem dX6_feed_34 : decode cX6_feed 34 = .ok (.getfield 75, 3) := by decide +kernel
theorem dX6_feed_37 : decode cX6_feed 37 = .ok (.aload_n 0, 1) := by decide +kernel
theorem dX6_feed_38 : decode cX6_feed 38 = .ok (.getfield 10, 3) := by decide +kernel
theorem dX6_feed_41 : decode cX6_feed 41 = .ok (.getfield 70, 3) := by decide +kernel
theorem dX6_feed_44 : decode cX6_feed 44 = .ok (.iload_n 1, 1) := by decide +kernel
theorem dX6_feed_45 : decode cX6_feed 45 = .ok (.invokestatic 78, 3) := by decide +kernel
theorem dX6_feed_48 : decode cX6_feed 48 = .ok (.aload_n 0, 1) := by decide +kernel
theorem dX6_feed_49 : decode cX6_feed 49 = .ok (.getfield 10, 3) := by decide +kernel
theorem dX6_feed_52 : decode cX6_feed 52 = .ok (.dup, 1) := by decide +kernel
theorem dX6_feed_53 : decode cX6_feed 53 = .ok (.getfield 70, 3) := by decide +kernel
theorem dX6_feed_56 : decode cX6_feed 56 = .ok (.iconst 1, 1) := by decide +kernel
theorem dX6_feed_57 : decode cX6_feed 57 = .ok (.iadd, 1) := by decide +kernel
theorem dX6_feed_58 : decode cX6_feed 58 = .ok (.putfield 70, 3) := by decide +kernel
theorem dX6_feed_61 : decode cX6_feed 61 = .ok (.aload_n 0, 1) := by decide +kernel
theorem dX6_feed_62 : decode cX6_feed 62 = .ok (.getfield 10, 3) := by decide +kernel
theorem dX6_feed_65 : decode cX6_feed 65 = .ok (.getfield 70, 3) := by decide +kernel
theorem dX6_feed_68 : decode cX6_feed 68 = .ok (.ireturn, 1) := by decide +kernel
theorem dX6_dale_0 : decode cX6_dale 0 = .ok (.aload_n 0, 1) := by decide +kernel
theorem dX6_dale_1 : decode cX6_dale 1 = .ok (.getfield 10, 3) := by decide +kernel
theorem dX6_dale_4 : decode cX6_dale 4 = .ok (.aload_n 0, 1) := by decide +kernel
theorem dX6_dale_5 : decode cX6_dale 5 = .ok (.getfield 23, 3) := by decide +kernel
theorem dX6_dale_8 : decode cX6_dale 8 = .ok (.invokevirtual 82, 3) := by decide +kernel
theorem dX6_dale_11 : decode cX6_dale 11 = .ok (.aload_n 0, 1) := by decide +kernel
theorem dX6_dale_12 : decode cX6_dale 12 = .ok (.getfield 10, 3) := by decide +kernel
theorem dX6_dale_15 : decode cX6_dale 15 = .ok (.iconst 0, 1) := by decide +kernel
theorem dX6_dale_16 : decode cX6_dale 16 = .ok (.putfield 70, 3) := by decide +kernel
theorem dX6_dale_19 : decode cX6_dale 19 = .ok (.aload_n 0, 1) := by decide +kernel
theorem dX6_dale_20 : decode cX6_dale 20 = .ok (.getfield 10, 3) := by decide +kernel
theorem dX6_dale_23 : decode cX6_dale 23 = .ok (.getfield 85, 3) := by decide +kernel
theorem dX6_dale_26 : decode cX6_dale 26 = .ok (.ifCond .eq 14, 3) := by decide +kernel
theorem dX6_dale_29 : decode cX6_dale 29 = .ok (.bipush (-10), 2) := by decide +kernel
theorem dX6_dale_31 : decode cX6_dale 31 = .ok (.aload_n 0, 1) := by decide +kernel
theorem dX6_dale_32 : decode cX6_dale 32 = .ok (.getfield 10, 3) := by decide +kernel
theorem dX6_dale_35 : decode cX6_dale 35 = .ok (.getfield 85, 3) := by decide +kernel
theorem dX6_dale_38 : decode cX6_dale 38 = .ok (.isub, 1) := by decide +kernel
theorem dX6_dale_39 : decode cX6_dale 39 = .ok (.ireturn, 1) := by decide +kernel
theorem dX6_dale_40 : decode cX6_dale 40 = .ok (.aload_n 0, 1) := by decide +kernel
theorem dX6_dale_41 : decode cX6_dale 41 = .ok (.getfield 19, 3) := by decide +kernel
theorem dX6_dale_44 : decode cX6_dale 44 = .ok (.aload_n 0, 1) := by decide +kernel
theorem dX6_dale_45 : decode cX6_dale 45 = .ok (.getfield 23, 3) := by decide +kernel
theorem dX6_dale_48 : decode cX6_dale 48 = .ok (.invokevirtual 88, 3) := by decide +kernel
theorem dX6_dale_51 : decode cX6_dale 51 = .ok (.aload_n 0, 1) := by decide +kernel
theorem dX6_dale_52 : decode cX6_dale 52 = .ok (.getfield 29, 3) := by decide +kernel
theorem dX6_dale_55 : decode cX6_dale 55 = .ok (.aload_n 0, 1) := by decide +kernel
theorem dX6_dale_56 : decode cX6_dale 56 = .ok (.getfield 19, 3) := by decide +kernel
theorem dX6_dale_59 : decode cX6_dale 59 = .ok (.invokevirtual 65, 3) := by decide +kernel
theorem dX6_dale_62 : decode cX6_dale 62 = .ok (.aload_n 0, 1) := by decide +kernel
theorem dX6_dale_63 : decode cX6_dale 63 = .ok (.getfield 54, 3) := by decide +kernel
theorem dX6_dale_66 : decode cX6_dale 66 = .ok (.iconst 0, 1) := by decide +kernel
theorem dX6_dale_67 : decode cX6_dale 67 = .ok (.putfield 91, 3) := by decide +kernel
theorem dX6_dale_70 : decode cX6_dale 70 = .ok (.aload_n 0, 1) := by decide +kernel
theorem dX6_dale_71 : decode cX6_dale 71 = .ok (.getfield 61, 3) := by decide +kernel
theorem dX6_dale_74 : decode cX6_dale 74 = .ok (.iconst 0, 1) := by decide +kernel
theorem dX6_dale_75 : decode cX6_dale 75 = .ok (.putfield 94, 3) := by decide +kernel
theorem dX6_dale_78 : decode cX6_dale 78 = .ok (.aload_n 0, 1) := by decide +kernel
theorem dX6_dale_79 : decode cX6_dale 79 = .ok (.iconst 0, 1) := by decide +kernel
theorem dX6_dale_80 : decode cX6_dale 80 = .ok (.putfield 95, 3) := by decide +kernel
theorem dX6_dale_83 : decode cX6_dale 83 = .ok (.aload_n 0, 1) := by decide +kernel
theorem dX6_dale_84 : decode cX6_dale 84 = .ok (.getfield 39, 3) := by decide +kernel
theorem dX6_dale_87 : decode cX6_dale 87 = .ok (.iconst 0, 1) := by decide +kernel
theorem dX6_dale_88 : decode cX6_dale 88 = .ok (.putfield 98, 3) := by decide +kernel
theorem dX6_dale_91 : decode cX6_dale 91 = .ok (.aload_n 0, 1) := by decide +kernel
theorem dX6_dale_92 : decode cX6_dale 92 = .ok (.getfield 19, 3) := by decide +kernel
theorem dX6_dale_95 : decode cX6_dale 95 = .ok (.getfield 99, 3) := by decide +kernel
theorem dX6_dale_98 : decode cX6_dale 98 = .ok (.ireturn, 1) := by decide +kernel
theorem dX6_fault_0 : decode cX6_fault 0 = .ok (.aload_n 0, 1) := by decide +kernel
theorem dX6_fault_1 : decode cX6_fault 1 = .ok (.getfield 10, 3) := by decide +kernel
theorem dX6_fault_4 : decode cX6_fault 4 = .ok (.getfield 102, 3) := by decide +kernel
theorem dX6_fault_7 : decode cX6_fault 7 = .ok (.ireturn, 1) := by decide +kernel
theorem dX6_told_0 : decode cX6_told 0 = .ok (.iload_n 1, 1) := by decide +kernel
theorem dX6_told_1 : decode cX6_told 1 = .ok (.tableswitch 215 0 16 #[83, 91, 99, 107, 115, 123, 139, 147, 155, 163, 168, 173, 178, 183, 191, 199, 207], 83) := by decide +kernel
theorem dX6_told_84 : decode cX6_told 84 = .ok (.aload_n 0, 1) := by decide +kernel
theorem dX6_told_85 : decode cX6_told 85 = .ok (.getfield 19, 3) := by decide +kernel
theorem dX6_told_88 : decode cX6_told 88 = .ok (.getfield 105, 3) := by decide +kernel
theorem dX6_told_91 : decode cX6_told 91 = .ok (.ireturn, 1) := by decide +kernel
theorem dX6_told_92 : decode cX6_told 92 = .ok (.aload_n 0, 1) := by decide +kernel
theorem dX6_told_93 : decode cX6_told 93 = .ok (.getfield 19, 3) := by decide +kernel
theorem dX6_told_96 : decode cX6_told 96 = .ok (.getfield 99, 3) := by decide +kernel
theorem dX6_told_99 : decode cX6_told 99 = .ok (.ireturn, 1) := by decide +kernel
theorem dX6_told_100 : decode cX6_told 100 = .ok (.aload_n 0, 1) := by decide +kernel
theorem dX6_told_101 : decode cX6_told 101 = .ok (.getfield 10, 3) := by decide +kernel
theorem dX6_told_104 : decode cX6_told 104 = .ok (.getfield 70, 3) := by decide +kernel
theorem dX6_told_107 : decode cX6_told 107 = .ok (.ireturn, 1) := by decide +kernel
theorem dX6_told_108 : decode cX6_told 108 = .ok (.aload_n 0, 1) := by decide +kernel
theorem dX6_told_109 : decode cX6_told 109 = .ok (.getfield 29, 3) := by decide +kernel
theorem dX6_told_112 : decode cX6_told 112 = .ok (.getfield 108, 3) := by decide +kernel
theorem dX6_told_115 : decode cX6_told 115 = .ok (.ireturn, 1) := by decide +kernel
theorem dX6_told_116 : decode cX6_told 116 = .ok (.aload_n 0, 1) := by decide +kernel
theorem dX6_told_117 : decode cX6_told 117 = .ok (.getfield 29, 3) := by decide +kernel
theorem dX6_told_120 : decode cX6_told 120 = .ok (.getfield 111, 3) := by decide +kernel
theorem dX6_told_123 : decode cX6_told 123 = .ok (.ireturn, 1) := by decide +kernel
theorem dX6_told_124 : decode cX6_told 124 = .ok (.aload_n 0, 1) := by decide +kernel
theorem dX6_told_125 : decode cX6_told 125 = .ok (.getfield 29, 3) := by decide +kernel
theorem dX6_told_128 : decode cX6_told 128 = .ok (.getfield 114, 3) := by decide +kernel
theorem dX6_told_131 : decode cX6_told 131 = .ok (.ifCond .eq 7, 3) := by decide +kernel
theorem dX6_told_134 : decode cX6_told 134 = .ok (.iconst 1, 1) := by decide +kernel
theorem dX6_told_135 : decode cX6_told 135 = .ok (.goto 4, 3) := by decide +kernel
theorem dX6_told_138 : decode cX6_told 138 = .ok (.iconst 0, 1) := by decide +kernel
theorem dX6_told_139 : decode cX6_told 139 = .ok (.ireturn, 1) := by decide +kernel
theorem dX6_told_140 : decode cX6_told 140 = .ok (.aload_n 0, 1) := by decide +kernel
theorem dX6_told_141 : decode cX6_told 141 = .ok (.getfield 29, 3) := by decide +kernel
theorem dX6_told_144 : decode cX6_told 144 = .ok (.getfield 118, 3) := by decide +kernel
theorem dX6_told_147 : decode cX6_told 147 = .ok (.ireturn, 1) := by decide +kernel
theorem dX6_told_148 : decode cX6_told 148 = .ok (.aload_n 0, 1) := by decide +kernel
theorem dX6_told_149 : decode cX6_told 149 = .ok (.getfield 29, 3) := by decide +kernel
theorem dX6_told_152 : decode cX6_told 152 = .ok (.getfield 121, 3) := by decide +kernel
theorem dX6_told_155 : decode cX6_told 155 = .ok (.ireturn, 1) := by decide +kernel
theorem dX6_told_156 : decode cX6_told 156 = .ok (.aload_n 0, 1) := by decide +kernel
theorem dX6_told_157 : decode cX6_told 157 = .ok (.getfield 29, 3) := by decide +kernel
theorem dX6_told_160 : decode cX6_told 160 = .ok (.getfield 124, 3) := by decide +kernel
theorem dX6_told_163 : decode cX6_told 163 = .ok (.ireturn, 1) := by decide +kernel
theorem dX6_told_164 : decode cX6_told 164 = .ok (.aload_n 0, 1) := by decide +kernel
theorem dX6_told_165 : decode cX6_told 165 = .ok (.invokevirtual 127, 3) := by decide +kernel
theorem dX6_told_168 : decode cX6_told 168 = .ok (.ireturn, 1) := by decide +kernel
theorem dX6_told_169 : decode cX6_told 169 = .ok (.aload_n 0, 1) := by decide +kernel
theorem dX6_told_170 : decode cX6_told 170 = .ok (.invokevirtual 131, 3) := by decide +kernel
theorem dX6_told_173 : decode cX6_told 173 = .ok (.ireturn, 1) := by decide +kernel
theorem dX6_told_174 : decode cX6_told 174 = .ok (.aload_n 0, 1) := by decide +kernel
theorem dX6_told_175 : decode cX6_told 175 = .ok (.invokevirtual 134, 3) := by decide +kernel
theorem dX6_told_178 : decode cX6_told 178 = .ok (.ireturn, 1) := by decide +kernel
theorem dX6_told_179 : decode cX6_told 179 = .ok (.aload_n 0, 1) := by decide +kernel
theorem dX6_told_180 : decode cX6_told 180 = .ok (.invokevirtual 137, 3) := by decide +kernel
theorem dX6_told_183 : decode cX6_told 183 = .ok (.ireturn, 1) := by decide +kernel
theorem dX6_told_184 : decode cX6_told 184 = .ok (.aload_n 0, 1) := by decide +kernel
theorem dX6_told_185 : decode cX6_told 185 = .ok (.getfield 29, 3) := by decide +kernel
theorem dX6_told_188 : decode cX6_told 188 = .ok (.getfield 140, 3) := by decide +kernel
theorem dX6_told_191 : decode cX6_told 191 = .ok (.ireturn, 1) := by decide +kernel
theorem dX6_told_192 : decode cX6_told 192 = .ok (.aload_n 0, 1) := by decide +kernel
theorem dX6_told_193 : decode cX6_told 193 = .ok (.getfield 54, 3) := by decide +kernel
theorem dX6_told_196 : decode cX6_told 196 = .ok (.getfield 91, 3) := by decide +kernel
theorem dX6_told_199 : decode cX6_told 199 = .ok (.ireturn, 1) := by decide +kernel
theorem dX6_told_200 : decode cX6_told 200 = .ok (.aload_n 0, 1) := by decide +kernel
theorem dX6_told_201 : decode cX6_told 201 = .ok (.getfield 61, 3) := by decide +kernel
theorem dX6_told_204 : decode cX6_told 204 = .ok (.getfield 94, 3) := by decide +kernel
theorem dX6_told_207 : decode cX6_told 207 = .ok (.ireturn, 1) := by decide +kernel
theorem dX6_told_208 : decode cX6_told 208 = .ok (.aload_n 0, 1) := by decide +kernel
theorem dX6_told_209 : decode cX6_told 209 = .ok (.getfield 39, 3) := by decide +kernel
theorem dX6_told_212 : decode cX6_told 212 = .ok (.getfield 98, 3) := by decide +kernel
theorem dX6_told_215 : decode cX6_told 215 = .ok (.ireturn, 1) := by decide +kernel
theorem dX6_told_216 : decode cX6_told 216 = .ok (.ldc 69, 2) := by decide +kernel
theorem dX6_told_218 : decode cX6_told 218 = .ok (.ireturn, 1) := by decide +kernel
theorem dX6_farm_0 : decode cX6_farm 0 = .ok (.aload_n 0, 1) := by decide +kernel
theorem dX6_farm_1 : decode cX6_farm 1 = .ok (.iload_n 1, 1) := by decide +kernel
theorem dX6_farm_2 : decode cX6_farm 2 = .ok (.invokevirtual 143, 3) := by decide +kernel
theorem dX6_farm_5 : decode cX6_farm 5 = .ok (.ifCond .ne 6, 3) := by decide +kernel
theorem dX6_farm_8 : decode cX6_farm 8 = .ok (.ldc 147, 2) := by decide +kernel
theorem dX6_farm_10 : decode cX6_farm 10 = .ok (.ireturn, 1) := by decide +kernel
theorem dX6_farm_11 : decode cX6_farm 11 = .ok (.iload_n 2, 1) := by decide +kernel
theorem dX6_farm_12 : decode cX6_farm 12 = .ok (.tableswitch 120 0 5 #[40, 60, 72, 84, 96, 108], 40) := by decide +kernel
theorem dX6_farm_52 : decode cX6_farm 52 = .ok (.iload_n 1, 1) := by decide +kernel
theorem dX6_farm_53 : decode cX6_farm 53 = .ok (.ifCond .ne 7, 3) := by decide +kernel
theorem dX6_farm_56 : decode cX6_farm 56 = .ok (.iconst (-1), 1) := by decide +kernel
theorem dX6_farm_57 : decode cX6_farm 57 = .ok (.goto 14, 3) := by decide +kernel
theorem dX6_farm_60 : decode cX6_farm 60 = .ok (.aload_n 0, 1) := by decide +kernel
theorem dX6_farm_61 : decode cX6_farm 61 = .ok (.getfield 19, 3) := by decide +kernel
theorem dX6_farm_64 : decode cX6_farm 64 = .ok (.getfield 148, 3) := by decide +kernel
theorem dX6_farm_67 : decode cX6_farm 67 = .ok (.iload_n 1, 1) := by decide +kernel
theorem dX6_farm_68 : decode cX6_farm 68 = .ok (.invokestatic 151, 3) := by decide +kernel
theorem dX6_farm_71 : decode cX6_farm 71 = .ok (.ireturn, 1) := by decide +kernel
theorem dX6_farm_72 : decode cX6_farm 72 = .ok (.aload_n 0, 1) := by decide +kernel
theorem dX6_farm_73 : decode cX6_farm 73 = .ok (.getfield 19, 3) := by decide +kernel
theorem dX6_farm_76 : decode cX6_farm 76 = .ok (.getfield 155, 3) := by decide +kernel
theorem dX6_farm_79 : decode cX6_farm 79 = .ok (.iload_n 1, 1) := by decide +kernel
theorem dX6_farm_80 : decode cX6_farm 80 = .ok (.invokestatic 151, 3) := by decide +kernel
theorem dX6_farm_83 : decode cX6_farm 83 = .ok (.ireturn, 1) := by decide +kernel
theorem dX6_farm_84 : decode cX6_farm 84 = .ok (.aload_n 0, 1) := by decide +kernel
theorem dX6_farm_85 : decode cX6_farm 85 = .ok (.getfield 29, 3) := by decide +kernel
theorem dX6_farm_88 : decode cX6_farm 88 = .ok (.getfield 158, 3) := by decide +kernel
theorem dX6_farm_91 : decode cX6_farm 91 = .ok (.iload_n 1, 1) := by decide +kernel
theorem dX6_farm_92 : decode cX6_farm 92 = .ok (.invokestatic 151, 3) := by decide +kernel
theorem dX6_farm_95 : decode cX6_farm 95 = .ok (.ireturn, 1) := by decide +kernel
theorem dX6_farm_96 : decode cX6_farm 96 = .ok (.aload_n 0, 1) := by decide +kernel
theorem dX6_farm_97 : decode cX6_farm 97 = .ok (.getfield 19, 3) := by decide +kernel
theorem dX6_farm_100 : decode cX6_farm 100 = .ok (.getfield 161, 3) := by decide +kernel
theorem dX6_farm_103 : decode cX6_farm 103 = .ok (.iload_n 1, 1) := by decide +kernel
theorem dX6_farm_104 : decode cX6_farm 104 = .ok (.invokestatic 151, 3) := by decide +kernel
theorem dX6_farm_107 : decode cX6_farm 107 = .ok (.ireturn, 1) := by decide +kernel
theorem dX6_farm_108 : decode cX6_farm 108 = .ok (.aload_n 0, 1) := by decide +kernel
theorem dX6_farm_109 : decode cX6_farm 109 = .ok (.getfield 29, 3) := by decide +kernel
theorem dX6_farm_112 : decode cX6_farm 112 = .ok (.getfield 164, 3) := by decide +kernel
theorem dX6_farm_115 : decode cX6_farm 115 = .ok (.iload_n 1, 1) := by decide +kernel
theorem dX6_farm_116 : decode cX6_farm 116 = .ok (.invokestatic 151, 3) := by decide +kernel
theorem dX6_farm_119 : decode cX6_farm 119 = .ok (.ireturn, 1) := by decide +kernel
theorem dX6_farm_120 : decode cX6_farm 120 = .ok (.aload_n 0, 1) := by decide +kernel
theorem dX6_farm_121 : decode cX6_farm 121 = .ok (.getfield 29, 3) := by decide +kernel
theorem dX6_farm_124 : decode cX6_farm 124 = .ok (.getfield 167, 3) := by decide +kernel
theorem dX6_farm_127 : decode cX6_farm 127 = .ok (.iload_n 1, 1) := by decide +kernel
theorem dX6_farm_128 : decode cX6_farm 128 = .ok (.invokestatic 151, 3) := by decide +kernel
theorem dX6_farm_131 : decode cX6_farm 131 = .ok (.ireturn, 1) := by decide +kernel
theorem dX6_farm_132 : decode cX6_farm 132 = .ok (.ldc 69, 2) := by decide +kernel
theorem dX6_farm_134 : decode cX6_farm 134 = .ok (.ireturn, 1) := by decide +kernel
theorem dX6_talk_0 : decode cX6_talk 0 = .ok (.aload_n 0, 1) := by decide +kernel
theorem dX6_talk_1 : decode cX6_talk 1 = .ok (.iload_n 1, 1) := by decide +kernel
theorem dX6_talk_2 : decode cX6_talk 2 = .ok (.invokevirtual 170, 3) := by decide +kernel
theorem dX6_talk_5 : decode cX6_talk 5 = .ok (.ifCond .ne 6, 3) := by decide +kernel
theorem dX6_talk_8 : decode cX6_talk 8 = .ok (.ldc 147, 2) := by decide +kernel
theorem dX6_talk_10 : decode cX6_talk 10 = .ok (.ireturn, 1) := by decide +kernel
theorem dX6_talk_11 : decode cX6_talk 11 = .ok (.iload_n 2, 1) := by decide +kernel
theorem dX6_talk_12 : decode cX6_talk 12 = .ok (.ifCond .lt 8, 3) := by decide +kernel
theorem dX6_talk_15 : decode cX6_talk 15 = .ok (.iload_n 2, 1) := by decide +kernel
theorem dX6_talk_16 : decode cX6_talk 16 = .ok (.iconst 4, 1) := by decide +kernel
theorem dX6_talk_17 : decode cX6_talk 17 = .ok (.if_icmp .lt 6, 3) := by decide +kernel
theorem dX6_talk_20 : decode cX6_talk 20 = .ok (.ldc 69, 2) := by decide +kernel
theorem dX6_talk_22 : decode cX6_talk 22 = .ok (.ireturn, 1) := by decide +kernel
theorem dX6_talk_23 : decode cX6_talk 23 = .ok (.aload_n 0, 1) := by decide +kernel
theorem dX6_talk_24 : decode cX6_talk 24 = .ok (.getfield 29, 3) := by decide +kernel
theorem dX6_talk_27 : decode cX6_talk 27 = .ok (.iload_n 1, 1) := by decide +kernel
theorem dX6_talk_28 : decode cX6_talk 28 = .ok (.iload_n 2, 1) := by decide +kernel
theorem dX6_talk_29 : decode cX6_talk 29 = .ok (.invokevirtual 173, 3) := by decide +kernel
theorem dX6_talk_32 : decode cX6_talk 32 = .ok (.ireturn, 1) := by decide +kernel
theorem dX6_logged_0 : decode cX6_logged 0 = .ok (.iload_n 2, 1) := by decide +kernel
theorem dX6_logged_1 : decode cX6_logged 1 = .ok (.ifCond .lt 8, 3) := by decide +kernel
theorem dX6_logged_4 : decode cX6_logged 4 = .ok (.iload_n 2, 1) := by decide +kernel
theorem dX6_logged_5 : decode cX6_logged 5 = .ok (.iconst 4, 1) := by decide +kernel
theorem dX6_logged_6 : decode cX6_logged 6 = .ok (.if_icmp .lt 6, 3) := by decide +kernel
theorem dX6_logged_9 : decode cX6_logged 9 = .ok (.ldc 69, 2) := by decide +kernel
theorem dX6_logged_11 : decode cX6_logged 11 = .ok (.ireturn, 1) := by decide +kernel
theorem dX6_logged_12 : decode cX6_logged 12 = .ok (.iload_n 1, 1) := by decide +kernel
theorem dX6_logged_13 : decode cX6_logged 13 = .ok (.ifCond .lt 14, 3) := by decide +kernel
theorem dX6_logged_16 : decode cX6_logged 16 = .ok (.iload_n 1, 1) := by decide +kernel
theorem dX6_logged_17 : decode cX6_logged 17 = .ok (.aload_n 0, 1) := by decide +kernel
theorem dX6_logged_18 : decode cX6_logged 18 = .ok (.getfield 29, 3) := by decide +kernel
theorem dX6_logged_21 : decode cX6_logged 21 = .ok (.getfield 140, 3) := by decide +kernel
theorem dX6_logged_24 : decode cX6_logged 24 = .ok (.if_icmp .lt 5, 3) := by decide +kernel
theorem dX6_logged_27 : decode cX6_logged 27 = .ok (.iconst (-1), 1) := by decide +kernel
theorem dX6_logged_28 : decode cX6_logged 28 = .ok (.ireturn, 1) := by decide +kernel
theorem dX6_logged_29 : decode cX6_logged 29 = .ok (.aload_n 0, 1) := by decide +kernel
theorem dX6_logged_30 : decode cX6_logged 30 = .ok (.getfield 29, 3) := by decide +kernel
theorem dX6_logged_33 : decode cX6_logged 33 = .ok (.iload_n 1, 1) := by decide +kernel
theorem dX6_logged_34 : decode cX6_logged 34 = .ok (.iload_n 2, 1) := by decide +kernel
theorem dX6_logged_35 : decode cX6_logged 35 = .ok (.invokevirtual 177, 3) := by decide +kernel
theorem dX6_logged_38 : decode cX6_logged 38 = .ok (.ireturn, 1) := by decide +kernel
theorem dX6_hour_0 : decode cX6_hour 0 = .ok (.aload_n 0, 1) := by decide +kernel
theorem dX6_hour_1 : decode cX6_hour 1 = .ok (.iload_n 1, 1) := by decide +kernel
theorem dX6_hour_2 : decode cX6_hour 2 = .ok (.invokevirtual 180, 3) := by decide +kernel
theorem dX6_hour_5 : decode cX6_hour 5 = .ok (.istore_n 2, 1) := by decide +kernel
theorem dX6_hour_6 : decode cX6_hour 6 = .ok (.iload_n 2, 1) := by decide +kernel
theorem dX6_hour_7 : decode cX6_hour 7 = .ok (.ifCond .eq 5, 3) := by decide +kernel
theorem dX6_hour_10 : decode cX6_hour 10 = .ok (.iload_n 2, 1) := by decide +kernel
theorem dX6_hour_11 : decode cX6_hour 11 = .ok (.ireturn, 1) := by decide +kernel
theorem dX6_hour_12 : decode cX6_hour 12 = .ok (.aload_n 0, 1) := by decide +kernel
theorem dX6_hour_13 : decode cX6_hour 13 = .ok (.getfield 39, 3) := by decide +kernel
theorem dX6_hour_16 : decode cX6_hour 16 = .ok (.aload_n 0, 1) := by decide +kernel
theorem dX6_hour_17 : decode cX6_hour 17 = .ok (.getfield 29, 3) := by decide +kernel
theorem dX6_hour_20 : decode cX6_hour 20 = .ok (.invokevirtual 184, 3) := by decide +kernel
theorem dX6_hour_23 : decode cX6_hour 23 = .ok (.aload_n 0, 1) := by decide +kernel
theorem dX6_hour_24 : decode cX6_hour 24 = .ok (.getfield 29, 3) := by decide +kernel
theorem dX6_hour_27 : decode cX6_hour 27 = .ok (.aload_n 0, 1) := by decide +kernel
theorem dX6_hour_28 : decode cX6_hour 28 = .ok (.getfield 19, 3) := by decide +kernel
theorem dX6_hour_31 : decode cX6_hour 31 = .ok (.iload_n 1, 1) := by decide +kernel
theorem dX6_hour_32 : decode cX6_hour 32 = .ok (.invokevirtual 188, 3) := by decide +kernel
theorem dX6_hour_35 : decode cX6_hour 35 = .ok (.aload_n 0, 1) := by decide +kernel
theorem dX6_hour_36 : decode cX6_hour 36 = .ok (.getfield 29, 3) := by decide +kernel
theorem dX6_hour_39 : decode cX6_hour 39 = .ok (.getfield 121, 3) := by decide +kernel
theorem dX6_hour_42 : decode cX6_hour 42 = .ok (.ireturn, 1) := by decide +kernel
theorem dX6_say_0 : decode cX6_say 0 = .ok (.aload_n 0, 1) := by decide +kernel
theorem dX6_say_1 : decode cX6_say 1 = .ok (.iload_n 1, 1) := by decide +kernel
theorem dX6_say_2 : decode cX6_say 2 = .ok (.invokevirtual 143, 3) := by decide +kernel
theorem dX6_say_5 : decode cX6_say 5 = .ok (.ifCond .eq 11, 3) := by decide +kernel
theorem dX6_say_8 : decode cX6_say 8 = .ok (.aload_n 0, 1) := by decide +kernel
theorem dX6_say_9 : decode cX6_say 9 = .ok (.iload_n 2, 1) := by decide +kernel
theorem dX6_say_10 : decode cX6_say 10 = .ok (.invokevirtual 192, 3) := by decide +kernel
theorem dX6_say_13 : decode cX6_say 13 = .ok (.ifCond .ne 6, 3) := by decide +kernel
theorem dX6_say_16 : decode cX6_say 16 = .ok (.ldc 147, 2) := by decide +kernel
theorem dX6_say_18 : decode cX6_say 18 = .ok (.ireturn, 1) := by decide +kernel
theorem dX6_say_19 : decode cX6_say 19 = .ok (.iload_n 1, 1) := by decide +kernel
theorem dX6_say_20 : decode cX6_say 20 = .ok (.ifCond .ne 6, 3) := by decide +kernel
theorem dX6_say_23 : decode cX6_say 23 = .ok (.ldc 195, 2) := by decide +kernel
theorem dX6_say_25 : decode cX6_say 25 = .ok (.ireturn, 1) := by decide +kernel
theorem dX6_say_26 : decode cX6_say 26 = .ok (.aload_n 0, 1) := by decide +kernel
theorem dX6_say_27 : decode cX6_say 27 = .ok (.getfield 29, 3) := by decide +kernel
theorem dX6_say_30 : decode cX6_say 30 = .ok (.getfield 121, 3) := by decide +kernel
theorem dX6_say_33 : decode cX6_say 33 = .ok (.bipush 12, 2) := by decide +kernel
theorem dX6_say_35 : decode cX6_say 35 = .ok (.if_icmp .lt 6, 3) := by decide +kernel
theorem dX6_say_38 : decode cX6_say 38 = .ok (.ldc 74, 2) := by decide +kernel
theorem dX6_say_40 : decode cX6_say 40 = .ok (.ireturn, 1) := by decide +kernel
theorem dX6_say_41 : decode cX6_say 41 = .ok (.aload_n 0, 1) := by decide +kernel
theorem dX6_say_42 : decode cX6_say 42 = .ok (.getfield 39, 3) := by decide +kernel
theorem dX6_say_45 : decode cX6_say 45 = .ok (.aload_n 0, 1) := by decide +kernel
theorem dX6_say_46 : decode cX6_say 46 = .ok (.getfield 29, 3) := by decide +kernel
theorem dX6_say_49 : decode cX6_say 49 = .ok (.invokevirtual 184, 3) := by decide +kernel
theorem dX6_say_52 : decode cX6_say 52 = .ok (.aload_n 0, 1) := by decide +kernel
theorem dX6_say_53 : decode cX6_say 53 = .ok (.getfield 29, 3) := by decide +kernel
theorem dX6_say_56 : decode cX6_say 56 = .ok (.aload_n 0, 1) := by decide +kernel
theorem dX6_say_57 : decode cX6_say 57 = .ok (.getfield 19, 3) := by decide +kernel
theorem dX6_say_60 : decode cX6_say 60 = .ok (.iload_n 1, 1) := by decide +kernel
theorem dX6_say_61 : decode cX6_say 61 = .ok (.iload_n 2, 1) := by decide +kernel
theorem dX6_say_62 : decode cX6_say 62 = .ok (.invokevirtual 196, 3) := by decide +kernel
theorem dX6_say_65 : decode cX6_say 65 = .ok (.aload_n 0, 1) := by decide +kernel
theorem dX6_say_66 : decode cX6_say 66 = .ok (.getfield 29, 3) := by decide +kernel
theorem dX6_say_69 : decode cX6_say 69 = .ok (.getfield 121, 3) := by decide +kernel
theorem dX6_say_72 : decode cX6_say 72 = .ok (.ireturn, 1) := by decide +kernel
theorem dX6_rain_0 : decode cX6_rain 0 = .ok (.iload_n 1, 1) := by decide +kernel
theorem dX6_rain_1 : decode cX6_rain 1 = .ok (.ifCond .lt 9, 3) := by decide +kernel
theorem dX6_rain_4 : decode cX6_rain 4 = .ok (.iload_n 1, 1) := by decide +kernel
theorem dX6_rain_5 : decode cX6_rain 5 = .ok (.bipush 9, 2) := by decide +kernel
theorem dX6_rain_7 : decode cX6_rain 7 = .ok (.if_icmp .le 6, 3) := by decide +kernel
theorem dX6_rain_10 : decode cX6_rain 10 = .ok (.ldc 69, 2) := by decide +kernel
theorem dX6_rain_12 : decode cX6_rain 12 = .ok (.ireturn, 1) := by decide +kernel
theorem dX6_rain_13 : decode cX6_rain 13 = .ok (.aload_n 0, 1) := by decide +kernel
theorem dX6_rain_14 : decode cX6_rain 14 = .ok (.getfield 19, 3) := by decide +kernel
theorem dX6_rain_17 : decode cX6_rain 17 = .ok (.getfield 99, 3) := by decide +kernel
theorem dX6_rain_20 : decode cX6_rain 20 = .ok (.ifCond .ne 6, 3) := by decide +kernel
theorem dX6_rain_23 : decode cX6_rain 23 = .ok (.ldc 195, 2) := by decide +kernel
theorem dX6_rain_25 : decode cX6_rain 25 = .ok (.ireturn, 1) := by decide +kernel
theorem dX6_rain_26 : decode cX6_rain 26 = .ok (.aload_n 0, 1) := by decide +kernel
theorem dX6_rain_27 : decode cX6_rain 27 = .ok (.getfield 39, 3) := by decide +kernel
theorem dX6_rain_30 : decode cX6_rain 30 = .ok (.aload_n 0, 1) := by decide +kernel
theorem dX6_rain_31 : decode cX6_rain 31 = .ok (.getfield 29, 3) := by decide +kernel
theorem dX6_rain_34 : decode cX6_rain 34 = .ok (.invokevirtual 184, 3) := by decide +kernel
theorem dX6_rain_37 : decode cX6_rain 37 = .ok (.aload_n 0, 1) := by decide +kernel
theorem dX6_rain_38 : decode cX6_rain 38 = .ok (.getfield 29, 3) := by decide +kernel
theorem dX6_rain_41 : decode cX6_rain 41 = .ok (.getfield 111, 3) := by decide +kernel
theorem dX6_rain_44 : decode cX6_rain 44 = .ok (.istore_n 2, 1) := by decide +kernel
theorem dX6_rain_45 : decode cX6_rain 45 = .ok (.aload_n 0, 1) := by decide +kernel
theorem dX6_rain_46 : decode cX6_rain 46 = .ok (.getfield 29, 3) := by decide +kernel
theorem dX6_rain_49 : decode cX6_rain 49 = .ok (.iload_n 1, 1) := by decide +kernel
theorem dX6_rain_50 : decode cX6_rain 50 = .ok (.putfield 111, 3) := by decide +kernel
theorem dX6_rain_53 : decode cX6_rain 53 = .ok (.iload_n 2, 1) := by decide +kernel
theorem dX6_rain_54 : decode cX6_rain 54 = .ok (.ireturn, 1) := by decide +kernel
theorem dX6_frost_0 : decode cX6_frost 0 = .ok (.aload_n 0, 1) := by decide +kernel
theorem dX6_frost_1 : decode cX6_frost 1 = .ok (.getfield 19, 3) := by decide +kernel
theorem dX6_frost_4 : decode cX6_frost 4 = .ok (.getfield 99, 3) := by decide +kernel
theorem dX6_frost_7 : decode cX6_frost 7 = .ok (.ifCond .ne 6, 3) := by decide +kernel
theorem dX6_frost_10 : decode cX6_frost 10 = .ok (.ldc 195, 2) := by decide +kernel
theorem dX6_frost_12 : decode cX6_frost 12 = .ok (.ireturn, 1) := by decide +kernel
theorem dX6_frost_13 : decode cX6_frost 13 = .ok (.aload_n 0, 1) := by decide +kernel
theorem dX6_frost_14 : decode cX6_frost 14 = .ok (.getfield 39, 3) := by decide +kernel
theorem dX6_frost_17 : decode cX6_frost 17 = .ok (.aload_n 0, 1) := by decide +kernel
theorem dX6_frost_18 : decode cX6_frost 18 = .ok (.getfield 29, 3) := by decide +kernel
theorem dX6_frost_21 : decode cX6_frost 21 = .ok (.invokevirtual 184, 3) := by decide +kernel
theorem dX6_frost_24 : decode cX6_frost 24 = .ok (.aload_n 0, 1) := by decide +kernel
theorem dX6_frost_25 : decode cX6_frost 25 = .ok (.getfield 29, 3) := by decide +kernel
theorem dX6_frost_28 : decode cX6_frost 28 = .ok (.getfield 114, 3) := by decide +kernel
theorem dX6_frost_31 : decode cX6_frost 31 = .ok (.ifCond .eq 7, 3) := by decide +kernel
theorem dX6_frost_34 : decode cX6_frost 34 = .ok (.iconst 1, 1) := by decide +kernel
theorem dX6_frost_35 : decode cX6_frost 35 = .ok (.goto 4, 3) := by decide +kernel
theorem dX6_frost_38 : decode cX6_frost 38 = .ok (.iconst 0, 1) := by decide +kernel
theorem dX6_frost_39 : decode cX6_frost 39 = .ok (.istore_n 2, 1) := by decide +kernel
theorem dX6_frost_40 : decode cX6_frost 40 = .ok (.aload_n 0, 1) := by decide +kernel
theorem dX6_frost_41 : decode cX6_frost 41 = .ok (.getfield 29, 3) := by decide +kernel
theorem dX6_frost_44 : decode cX6_frost 44 = .ok (.iload_n 1, 1) := by decide +kernel
theorem dX6_frost_45 : decode cX6_frost 45 = .ok (.putfield 114, 3) := by decide +kernel
theorem dX6_frost_48 : decode cX6_frost 48 = .ok (.iload_n 2, 1) := by decide +kernel
theorem dX6_frost_49 : decode cX6_frost 49 = .ok (.ireturn, 1) := by decide +kernel
theorem dX6_dam_0 : decode cX6_dam 0 = .ok (.aload_n 0, 1) := by decide +kernel
theorem dX6_dam_1 : decode cX6_dam 1 = .ok (.iload_n 1, 1) := by decide +kernel
theorem dX6_dam_2 : decode cX6_dam 2 = .ok (.invokevirtual 143, 3) := by decide +kernel
theorem dX6_dam_5 : decode cX6_dam 5 = .ok (.ifCond .ne 6, 3) := by decide +kernel
theorem dX6_dam_8 : decode cX6_dam 8 = .ok (.ldc 147, 2) := by decide +kernel
theorem dX6_dam_10 : decode cX6_dam 10 = .ok (.ireturn, 1) := by decide +kernel
theorem dX6_dam_11 : decode cX6_dam 11 = .ok (.iload_n 1, 1) := by decide +kernel
theorem dX6_dam_12 : decode cX6_dam 12 = .ok (.ifCond .ne 6, 3) := by decide +kernel
theorem dX6_dam_15 : decode cX6_dam 15 = .ok (.ldc 195, 2) := by decide +kernel
theorem dX6_dam_17 : decode cX6_dam 17 = .ok (.ireturn, 1) := by decide +kernel
theorem dX6_dam_18 : decode cX6_dam 18 = .ok (.aload_n 0, 1) := by decide +kernel
theorem dX6_dam_19 : decode cX6_dam 19 = .ok (.getfield 39, 3) := by decide +kernel
theorem dX6_dam_22 : decode cX6_dam 22 = .ok (.aload_n 0, 1) := by decide +kernel
theorem dX6_dam_23 : decode cX6_dam 23 = .ok (.getfield 29, 3) := by decide +kernel
theorem dX6_dam_26 : decode cX6_dam 26 = .ok (.invokevirtual 184, 3) := by decide +kernel
theorem dX6_dam_29 : decode cX6_dam 29 = .ok (.aload_n 0, 1) := by decide +kernel
theorem dX6_dam_30 : decode cX6_dam 30 = .ok (.getfield 29, 3) := by decide +kernel
theorem dX6_dam_33 : decode cX6_dam 33 = .ok (.getfield 118, 3) := by decide +kernel
theorem dX6_dam_36 : decode cX6_dam 36 = .ok (.iload_n 1, 1) := by decide +kernel
theorem dX6_dam_37 : decode cX6_dam 37 = .ok (.invokestatic 200, 3) := by decide +kernel
theorem dX6_dam_40 : decode cX6_dam 40 = .ok (.ifCond .eq 7, 3) := by decide +kernel
theorem dX6_dam_43 : decode cX6_dam 43 = .ok (.iconst 1, 1) := by decide +kernel
theorem dX6_dam_44 : decode cX6_dam 44 = .ok (.goto 4, 3) := by decide +kernel
theorem dX6_dam_47 : decode cX6_dam 47 = .ok (.iconst 0, 1) := by decide +kernel
theorem dX6_dam_48 : decode cX6_dam 48 = .ok (.istore_n 3, 1) := by decide +kernel
theorem dX6_dam_49 : decode cX6_dam 49 = .ok (.aload_n 0, 1) := by decide +kernel
theorem dX6_dam_50 : decode cX6_dam 50 = .ok (.getfield 29, 3) := by decide +kernel
theorem dX6_dam_53 : decode cX6_dam 53 = .ok (.iload_n 2, 1) := by decide +kernel
theorem dX6_dam_54 : decode cX6_dam 54 = .ok (.ifCond .eq 17, 3) := by decide +kernel
theorem dX6_dam_57 : decode cX6_dam 57 = .ok (.aload_n 0, 1) := by decide +kernel
theorem dX6_dam_58 : decode cX6_dam 58 = .ok (.getfield 29, 3) := by decide +kernel
theorem dX6_dam_61 : decode cX6_dam 61 = .ok (.getfield 118, 3) := by decide +kernel
theorem dX6_dam_64 : decode cX6_dam 64 = .ok (.iconst 1, 1) := by decide +kernel
theorem dX6_dam_65 : decode cX6_dam 65 = .ok (.iload_n 1, 1) := by decide +kernel
theorem dX6_dam_66 : decode cX6_dam 66 = .ok (.ishl, 1) := by decide +kernel
theorem dX6_dam_67 : decode cX6_dam 67 = .ok (.ior, 1) := by decide +kernel
theorem dX6_dam_68 : decode cX6_dam 68 = .ok (.goto 16, 3) := by decide +kernel
theorem dX6_dam_71 : decode cX6_dam 71 = .ok (.aload_n 0, 1) := by decide +kernel
theorem dX6_dam_72 : decode cX6_dam 72 = .ok (.getfield 29, 3) := by decide +kernel
theorem dX6_dam_75 : decode cX6_dam 75 = .ok (.getfield 118, 3) := by decide +kernel
theorem dX6_dam_78 : decode cX6_dam 78 = .ok (.iconst 1, 1) := by decide +kernel
theorem dX6_dam_79 : decode cX6_dam 79 = .ok (.iload_n 1, 1) := by decide +kernel
theorem dX6_dam_80 : decode cX6_dam 80 = .ok (.ishl, 1) := by decide +kernel
theorem dX6_dam_81 : decode cX6_dam 81 = .ok (.iconst (-1), 1) := by decide +kernel
theorem dX6_dam_82 : decode cX6_dam 82 = .ok (.ixor, 1) := by decide +kernel
theorem dX6_dam_83 : decode cX6_dam 83 = .ok (.iand, 1) := by decide +kernel
theorem dX6_dam_84 : decode cX6_dam 84 = .ok (.putfield 118, 3) := by decide +kernel
theorem dX6_dam_87 : decode cX6_dam 87 = .ok (.iload_n 3, 1) := by decide +kernel
theorem dX6_dam_88 : decode cX6_dam 88 = .ok (.ireturn, 1) := by decide +kernel
theorem dX6_smooth_0 : decode cX6_smooth 0 = .ok (.aload_n 0, 1) := by decide +kernel
theorem dX6_smooth_1 : decode cX6_smooth 1 = .ok (.iload_n 1, 1) := by decide +kernel
theorem dX6_smooth_2 : decode cX6_smooth 2 = .ok (.invokevirtual 143, 3) := by decide +kernel
theorem dX6_smooth_5 : decode cX6_smooth 5 = .ok (.ifCond .ne 6, 3) := by decide +kernel
theorem dX6_smooth_8 : decode cX6_smooth 8 = .ok (.ldc 147, 2) := by decide +kernel
theorem dX6_smooth_10 : decode cX6_smooth 10 = .ok (.ireturn, 1) := by decide +kernel
theorem dX6_smooth_11 : decode cX6_smooth 11 = .ok (.iload_n 1, 1) := by decide +kernel
theorem dX6_smooth_12 : decode cX6_smooth 12 = .ok (.ifCond .ne 6, 3) := by decide +kernel
theorem dX6_smooth_15 : decode cX6_smooth 15 = .ok (.ldc 195, 2) := by decide +kernel
theorem dX6_smooth_17 : decode cX6_smooth 17 = .ok (.ireturn, 1) := by decide +kernel
theorem dX6_smooth_18 : decode cX6_smooth 18 = .ok (.aload_n 0, 1) := by decide +kernel
theorem dX6_smooth_19 : decode cX6_smooth 19 = .ok (.getfield 39, 3) := by decide +kernel
theorem dX6_smooth_22 : decode cX6_smooth 22 = .ok (.aload_n 0, 1) := by decide +kernel
theorem dX6_smooth_23 : decode cX6_smooth 23 = .ok (.getfield 29, 3) := by decide +kernel
theorem dX6_smooth_26 : decode cX6_smooth 26 = .ok (.invokevirtual 184, 3) := by decide +kernel
theorem dX6_smooth_29 : decode cX6_smooth 29 = .ok (.aload_n 0, 1) := by decide +kernel
theorem dX6_smooth_30 : decode cX6_smooth 30 = .ok (.getfield 29, 3) := by decide +kernel
theorem dX6_smooth_33 : decode cX6_smooth 33 = .ok (.getfield 158, 3) := by decide +kernel
theorem dX6_smooth_36 : decode cX6_smooth 36 = .ok (.iload_n 1, 1) := by decide +kernel
theorem dX6_smooth_37 : decode cX6_smooth 37 = .ok (.invokestatic 151, 3) := by decide +kernel
theorem dX6_smooth_40 : decode cX6_smooth 40 = .ok (.istore_n 2, 1) := by decide +kernel
theorem dX6_smooth_41 : decode cX6_smooth 41 = .ok (.aload_n 0, 1) := by decide +kernel
theorem dX6_smooth_42 : decode cX6_smooth 42 = .ok (.getfield 29, 3) := by decide +kernel
theorem dX6_smooth_45 : decode cX6_smooth 45 = .ok (.getfield 158, 3) := by decide +kernel
theorem dX6_smooth_48 : decode cX6_smooth 48 = .ok (.iload_n 1, 1) := by decide +kernel
theorem dX6_smooth_49 : decode cX6_smooth 49 = .ok (.iconst 0, 1) := by decide +kernel
theorem dX6_smooth_50 : decode cX6_smooth 50 = .ok (.invokestatic 78, 3) := by decide +kernel
theorem dX6_smooth_53 : decode cX6_smooth 53 = .ok (.iload_n 2, 1) := by decide +kernel
theorem dX6_smooth_54 : decode cX6_smooth 54 = .ok (.ireturn, 1) := by decide +kernel
theorem dX6_hush_0 : decode cX6_hush 0 = .ok (.aload_n 0, 1) := by decide +kernel
theorem dX6_hush_1 : decode cX6_hush 1 = .ok (.iload_n 1, 1) := by decide +kernel
theorem dX6_hush_2 : decode cX6_hush 2 = .ok (.invokevirtual 170, 3) := by decide +kernel
theorem dX6_hush_5 : decode cX6_hush 5 = .ok (.ifCond .ne 6, 3) := by decide +kernel
theorem dX6_hush_8 : decode cX6_hush 8 = .ok (.ldc 147, 2) := by decide +kernel
theorem dX6_hush_10 : decode cX6_hush 10 = .ok (.ireturn, 1) := by decide +kernel
theorem dX6_hush_11 : decode cX6_hush 11 = .ok (.aload_n 0, 1) := by decide +kernel
theorem dX6_hush_12 : decode cX6_hush 12 = .ok (.getfield 39, 3) := by decide +kernel
theorem dX6_hush_15 : decode cX6_hush 15 = .ok (.aload_n 0, 1) := by decide +kernel
theorem dX6_hush_16 : decode cX6_hush 16 = .ok (.getfield 29, 3) := by decide +kernel
theorem dX6_hush_19 : decode cX6_hush 19 = .ok (.invokevirtual 184, 3) := by decide +kernel
theorem dX6_hush_22 : decode cX6_hush 22 = .ok (.aload_n 0, 1) := by decide +kernel
theorem dX6_hush_23 : decode cX6_hush 23 = .ok (.getfield 29, 3) := by decide +kernel
theorem dX6_hush_26 : decode cX6_hush 26 = .ok (.iload_n 1, 1) := by decide +kernel
theorem dX6_hush_27 : decode cX6_hush 27 = .ok (.invokevirtual 204, 3) := by decide +kernel
theorem dX6_hush_30 : decode cX6_hush 30 = .ok (.aload_n 0, 1) := by decide +kernel
theorem dX6_hush_31 : decode cX6_hush 31 = .ok (.getfield 29, 3) := by decide +kernel
theorem dX6_hush_34 : decode cX6_hush 34 = .ok (.getfield 121, 3) := by decide +kernel
theorem dX6_hush_37 : decode cX6_hush 37 = .ok (.ireturn, 1) := by decide +kernel
theorem dX6_drift_0 : decode cX6_drift 0 = .ok (.aload_n 0, 1) := by decide +kernel
theorem dX6_drift_1 : decode cX6_drift 1 = .ok (.iload_n 1, 1) := by decide +kernel
theorem dX6_drift_2 : decode cX6_drift 2 = .ok (.invokevirtual 180, 3) := by decide +kernel
theorem dX6_drift_5 : decode cX6_drift 5 = .ok (.istore_n 2, 1) := by decide +kernel
theorem dX6_drift_6 : decode cX6_drift 6 = .ok (.iload_n 2, 1) := by decide +kernel
theorem dX6_drift_7 : decode cX6_drift 7 = .ok (.ifCond .eq 5, 3) := by decide +kernel
theorem dX6_drift_10 : decode cX6_drift 10 = .ok (.iload_n 2, 1) := by decide +kernel
theorem dX6_drift_11 : decode cX6_drift 11 = .ok (.ireturn, 1) := by decide +kernel
theorem dX6_drift_12 : decode cX6_drift 12 = .ok (.aload_n 0, 1) := by decide +kernel
theorem dX6_drift_13 : decode cX6_drift 13 = .ok (.getfield 39, 3) := by decide +kernel
theorem dX6_drift_16 : decode cX6_drift 16 = .ok (.aload_n 0, 1) := by decide +kernel
theorem dX6_drift_17 : decode cX6_drift 17 = .ok (.getfield 29, 3) := by decide +kernel
theorem dX6_drift_20 : decode cX6_drift 20 = .ok (.invokevirtual 184, 3) := by decide +kernel
theorem dX6_drift_23 : decode cX6_drift 23 = .ok (.iconst 0, 1) := by decide +kernel
theorem dX6_drift_24 : decode cX6_drift 24 = .ok (.istore_n 3, 1) := by decide +kernel
theorem dX6_drift_25 : decode cX6_drift 25 = .ok (.iload_n 3, 1) := by decide +kernel
theorem dX6_drift_26 : decode cX6_drift 26 = .ok (.iload_n 1, 1) := by decide +kernel
theorem dX6_drift_27 : decode cX6_drift 27 = .ok (.if_icmp .ge 24, 3) := by decide +kernel
theorem dX6_drift_30 : decode cX6_drift 30 = .ok (.aload_n 0, 1) := by decide +kernel
theorem dX6_drift_31 : decode cX6_drift 31 = .ok (.invokevirtual 208, 3) := by decide +kernel
theorem dX6_drift_34 : decode cX6_drift 34 = .ok (.aload_n 0, 1) := by decide +kernel
theorem dX6_drift_35 : decode cX6_drift 35 = .ok (.getfield 29, 3) := by decide +kernel
theorem dX6_drift_38 : decode cX6_drift 38 = .ok (.aload_n 0, 1) := by decide +kernel
theorem dX6_drift_39 : decode cX6_drift 39 = .ok (.getfield 19, 3) := by decide +kernel
theorem dX6_drift_42 : decode cX6_drift 42 = .ok (.invokevirtual 211, 3) := by decide +kernel
theorem dX6_drift_45 : decode cX6_drift 45 = .ok (.iinc 3 1, 3) := by decide +kernel
theorem dX6_drift_48 : decode cX6_drift 48 = .ok (.goto (-23), 3) := by decide +kernel
theorem dX6_drift_51 : decode cX6_drift 51 = .ok (.aload_n 0, 1) := by decide +kernel
theorem dX6_drift_52 : decode cX6_drift 52 = .ok (.getfield 29, 3) := by decide +kernel
theorem dX6_drift_55 : decode cX6_drift 55 = .ok (.getfield 121, 3) := by decide +kernel
theorem dX6_drift_58 : decode cX6_drift 58 = .ok (.ireturn, 1) := by decide +kernel
theorem dX6_undo_0 : decode cX6_undo 0 = .ok (.aload_n 0, 1) := by decide +kernel
theorem dX6_undo_1 : decode cX6_undo 1 = .ok (.getfield 39, 3) := by decide +kernel
theorem dX6_undo_4 : decode cX6_undo 4 = .ok (.getfield 98, 3) := by decide +kernel
theorem dX6_undo_7 : decode cX6_undo 7 = .ok (.ifCond .ne 6, 3) := by decide +kernel
theorem dX6_undo_10 : decode cX6_undo 10 = .ok (.ldc 195, 2) := by decide +kernel
theorem dX6_undo_12 : decode cX6_undo 12 = .ok (.ireturn, 1) := by decide +kernel
theorem dX6_undo_13 : decode cX6_undo 13 = .ok (.aload_n 0, 1) := by decide +kernel
theorem dX6_undo_14 : decode cX6_undo 14 = .ok (.getfield 39, 3) := by decide +kernel
theorem dX6_undo_17 : decode cX6_undo 17 = .ok (.aload_n 0, 1) := by decide +kernel
theorem dX6_undo_18 : decode cX6_undo 18 = .ok (.getfield 29, 3) := by decide +kernel
theorem dX6_undo_21 : decode cX6_undo 21 = .ok (.invokevirtual 214, 3) := by decide +kernel
theorem dX6_undo_24 : decode cX6_undo 24 = .ok (.aload_n 0, 1) := by decide +kernel
theorem dX6_undo_25 : decode cX6_undo 25 = .ok (.getfield 39, 3) := by decide +kernel
theorem dX6_undo_28 : decode cX6_undo 28 = .ok (.getfield 98, 3) := by decide +kernel
theorem dX6_undo_31 : decode cX6_undo 31 = .ok (.ireturn, 1) := by decide +kernel
theorem dX6_down_0 : decode cX6_down 0 = .ok (.aload_n 0, 1) := by decide +kernel
theorem dX6_down_1 : decode cX6_down 1 = .ok (.iload_n 1, 1) := by decide +kernel
theorem dX6_down_2 : decode cX6_down 2 = .ok (.invokevirtual 143, 3) := by decide +kernel
theorem dX6_down_5 : decode cX6_down 5 = .ok (.ifCond .eq 11, 3) := by decide +kernel
theorem dX6_down_8 : decode cX6_down 8 = .ok (.aload_n 0, 1) := by decide +kernel
theorem dX6_down_9 : decode cX6_down 9 = .ok (.iload_n 1, 1) := by decide +kernel
theorem dX6_down_10 : decode cX6_down 10 = .ok (.invokevirtual 217, 3) := by decide +kernel
theorem dX6_down_13 : decode cX6_down 13 = .ok (.goto 5, 3) := by decide +kernel
theorem dX6_down_16 : decode cX6_down 16 = .ok (.ldc 147, 2) := by decide +kernel
theorem dX6_down_18 : decode cX6_down 18 = .ok (.ireturn, 1) := by decide +kernel
theorem dX6_up_0 : decode cX6_up 0 = .ok (.aload_n 0, 1) := by decide +kernel
theorem dX6_up_1 : decode cX6_up 1 = .ok (.iload_n 1, 1) := by decide +kernel
theorem dX6_up_2 : decode cX6_up 2 = .ok (.invokevirtual 143, 3) := by decide +kernel
theorem dX6_up_5 : decode cX6_up 5 = .ok (.ifCond .eq 11, 3) := by decide +kernel
theorem dX6_up_8 : decode cX6_up 8 = .ok (.aload_n 0, 1) := by decide +kernel
theorem dX6_up_9 : decode cX6_up 9 = .ok (.iload_n 1, 1) := by decide +kernel
theorem dX6_up_10 : decode cX6_up 10 = .ok (.invokevirtual 220, 3) := by decide +kernel
theorem dX6_up_13 : decode cX6_up 13 = .ok (.goto 5, 3) := by decide +kernel
theorem dX6_up_16 : decode cX6_up 16 = .ok (.ldc 147, 2) := by decide +kernel
theorem dX6_up_18 : decode cX6_up 18 = .ok (.ireturn, 1) := by decide +kernel
theorem dX6_becomes_0 : decode cX6_becomes 0 = .ok (.aload_n 0, 1) := by decide +kernel
theorem dX6_becomes_1 : decode cX6_becomes 1 = .ok (.iload_n 1, 1) := by decide +kernel
theorem dX6_becomes_2 : decode cX6_becomes 2 = .ok (.invokevirtual 143, 3) := by decide +kernel
theorem dX6_becomes_5 : decode cX6_becomes 5 = .ok (.ifCond .eq 19, 3) := by decide +kernel
theorem dX6_becomes_8 : decode cX6_becomes 8 = .ok (.aload_n 0, 1) := by decide +kernel
theorem dX6_becomes_9 : decode cX6_becomes 9 = .ok (.iload_n 2, 1) := by decide +kernel
theorem dX6_becomes_10 : decode cX6_becomes 10 = .ok (.invokevirtual 143, 3) := by decide +kernel
theorem dX6_becomes_13 : decode cX6_becomes 13 = .ok (.ifCond .eq 11, 3) := by decide +kernel
theorem dX6_becomes_16 : decode cX6_becomes 16 = .ok (.aload_n 0, 1) := by decide +kernel
theorem dX6_becomes_17 : decode cX6_becomes 17 = .ok (.iload_n 3, 1) := by decide +kernel
theorem dX6_becomes_18 : decode cX6_becomes 18 = .ok (.invokevirtual 192, 3) := by decide +kernel
theorem dX6_becomes_21 : decode cX6_becomes 21 = .ok (.ifCond .ne 6, 3) := by decide +kernel
theorem dX6_becomes_24 : decode cX6_becomes 24 = .ok (.ldc 147, 2) := by decide +kernel
theorem dX6_becomes_26 : decode cX6_becomes 26 = .ok (.ireturn, 1) := by decide +kernel
theorem dX6_becomes_27 : decode cX6_becomes 27 = .ok (.aload_n 0, 1) := by decide +kernel
theorem dX6_becomes_28 : decode cX6_becomes 28 = .ok (.iload_n 1, 1) := by decide +kernel
theorem dX6_becomes_29 : decode cX6_becomes 29 = .ok (.iload_n 2, 1) := by decide +kernel
theorem dX6_becomes_30 : decode cX6_becomes 30 = .ok (.iload_n 3, 1) := by decide +kernel
theorem dX6_becomes_31 : decode cX6_becomes 31 = .ok (.invokevirtual 223, 3) := by decide +kernel
theorem dX6_becomes_34 : decode cX6_becomes 34 = .ok (.ireturn, 1) := by decide +kernel
theorem dX6_takes_0 : decode cX6_takes 0 = .ok (.aload_n 0, 1) := by decide +kernel
theorem dX6_takes_1 : decode cX6_takes 1 = .ok (.iload_n 1, 1) := by decide +kernel
theorem dX6_takes_2 : decode cX6_takes 2 = .ok (.invokevirtual 143, 3) := by decide +kernel
theorem dX6_takes_5 : decode cX6_takes 5 = .ok (.ifCond .eq 11, 3) := by decide +kernel
theorem dX6_takes_8 : decode cX6_takes 8 = .ok (.aload_n 0, 1) := by decide +kernel
theorem dX6_takes_9 : decode cX6_takes 9 = .ok (.iload_n 2, 1) := by decide +kernel
theorem dX6_takes_10 : decode cX6_takes 10 = .ok (.invokevirtual 143, 3) := by decide +kernel
theorem dX6_takes_13 : decode cX6_takes 13 = .ok (.ifCond .ne 6, 3) := by decide +kernel
theorem dX6_takes_16 : decode cX6_takes 16 = .ok (.ldc 147, 2) := by decide +kernel
theorem dX6_takes_18 : decode cX6_takes 18 = .ok (.ireturn, 1) := by decide +kernel
theorem dX6_takes_19 : decode cX6_takes 19 = .ok (.aload_n 0, 1) := by decide +kernel
theorem dX6_takes_20 : decode cX6_takes 20 = .ok (.iload_n 1, 1) := by decide +kernel
theorem dX6_takes_21 : decode cX6_takes 21 = .ok (.iload_n 2, 1) := by decide +kernel
theorem dX6_takes_22 : decode cX6_takes 22 = .ok (.invokevirtual 227, 3) := by decide +kernel
theorem dX6_takes_25 : decode cX6_takes 25 = .ok (.ireturn, 1) := by decide +kernel
theorem dX6_toSay_0 : decode cX6_toSay 0 = .ok (.aload_n 0, 1) := by decide +kernel
theorem dX6_toSay_1 : decode cX6_toSay 1 = .ok (.iload_n 1, 1) := by decide +kernel
theorem dX6_toSay_2 : decode cX6_toSay 2 = .ok (.invokevirtual 143, 3) := by decide +kernel
theorem dX6_toSay_5 : decode cX6_toSay 5 = .ok (.ifCond .eq 19, 3) := by decide +kernel
theorem dX6_toSay_8 : decode cX6_toSay 8 = .ok (.aload_n 0, 1) := by decide +kernel
theorem dX6_toSay_9 : decode cX6_toSay 9 = .ok (.iload_n 2, 1) := by decide +kernel
theorem dX6_toSay_10 : decode cX6_toSay 10 = .ok (.invokevirtual 143, 3) := by decide +kernel
theorem dX6_toSay_13 : decode cX6_toSay 13 = .ok (.ifCond .eq 11, 3) := by decide +kernel
theorem dX6_toSay_16 : decode cX6_toSay 16 = .ok (.aload_n 0, 1) := by decide +kernel
theorem dX6_toSay_17 : decode cX6_toSay 17 = .ok (.iload_n 3, 1) := by decide +kernel
theorem dX6_toSay_18 : decode cX6_toSay 18 = .ok (.invokevirtual 192, 3) := by decide +kernel
theorem dX6_toSay_21 : decode cX6_toSay 21 = .ok (.ifCond .ne 6, 3) := by decide +kernel
theorem dX6_toSay_24 : decode cX6_toSay 24 = .ok (.ldc 147, 2) := by decide +kernel
theorem dX6_toSay_26 : decode cX6_toSay 26 = .ok (.ireturn, 1) := by decide +kernel
theorem dX6_toSay_27 : decode cX6_toSay 27 = .ok (.aload_n 0, 1) := by decide +kernel
theorem dX6_toSay_28 : decode cX6_toSay 28 = .ok (.iload_n 1, 1) := by decide +kernel
theorem dX6_toSay_29 : decode cX6_toSay 29 = .ok (.iload_n 2, 1) := by decide +kernel
theorem dX6_toSay_30 : decode cX6_toSay 30 = .ok (.iload_n 3, 1) := by decide +kernel
theorem dX6_toSay_31 : decode cX6_toSay 31 = .ok (.invokevirtual 230, 3) := by decide +kernel
theorem dX6_toSay_34 : decode cX6_toSay 34 = .ok (.ireturn, 1) := by decide +kernel
theorem dX6_origin_0 : decode cX6_origin 0 = .ok (.aload_n 0, 1) := by decide +kernel
theorem dX6_origin_1 : decode cX6_origin 1 = .ok (.iload_n 1, 1) := by decide +kernel
theorem dX6_origin_2 : decode cX6_origin 2 = .ok (.invokevirtual 143, 3) := by decide +kernel
theorem dX6_origin_5 : decode cX6_origin 5 = .ok (.ifCond .eq 24, 3) := by decide +kernel
theorem dX6_origin_8 : decode cX6_origin 8 = .ok (.aload_n 0, 1) := by decide +kernel
theorem dX6_origin_9 : decode cX6_origin 9 = .ok (.iload_n 2, 1) := by decide +kernel
theorem dX6_origin_10 : decode cX6_origin 10 = .ok (.invokevirtual 192, 3) := by decide +kernel
theorem dX6_origin_13 : decode cX6_origin 13 = .ok (.ifCond .eq 16, 3) := by decide +kernel
theorem dX6_origin_16 : decode cX6_origin 16 = .ok (.iload_n 3, 1) := by decide +kernel
theorem dX6_origin_17 : decode cX6_origin 17 = .ok (.iconst (-1), 1) := by decide +kernel
theorem dX6_origin_18 : decode cX6_origin 18 = .ok (.if_icmp .eq 14, 3) := by decide +kernel
theorem dX6_origin_21 : decode cX6_origin 21 = .ok (.aload_n 0, 1) := by decide +kernel
theorem dX6_origin_22 : decode cX6_origin 22 = .ok (.iload_n 3, 1) := by decide +kernel
theorem dX6_origin_23 : decode cX6_origin 23 = .ok (.invokevirtual 143, 3) := by decide +kernel
theorem dX6_origin_26 : decode cX6_origin 26 = .ok (.ifCond .ne 6, 3) := by decide +kernel
theorem dX6_origin_29 : decode cX6_origin 29 = .ok (.ldc 147, 2) := by decide +kernel
theorem dX6_origin_31 : decode cX6_origin 31 = .ok (.ireturn, 1) := by decide +kernel
theorem dX6_origin_32 : decode cX6_origin 32 = .ok (.iload_n 3, 1) := by decide +kernel
theorem dX6_origin_33 : decode cX6_origin 33 = .ok (.iconst (-1), 1) := by decide +kernel
theorem dX6_origin_34 : decode cX6_origin 34 = .ok (.if_icmp .eq 11, 3) := by decide +kernel
theorem dX6_origin_37 : decode cX6_origin 37 = .ok (.aload_n 0, 1) := by decide +kernel
theorem dX6_origin_38 : decode cX6_origin 38 = .ok (.iload_n 3, 1) := by decide +kernel
theorem dX6_origin_39 : decode cX6_origin 39 = .ok (.iload_n 1, 1) := by decide +kernel
theorem dX6_origin_40 : decode cX6_origin 40 = .ok (.iload_n 2, 1) := by decide +kernel
theorem dX6_origin_41 : decode cX6_origin 41 = .ok (.invokevirtual 230, 3) := by decide +kernel
theorem dX6_origin_44 : decode cX6_origin 44 = .ok (.ireturn, 1) := by decide +kernel
theorem dX6_origin_45 : decode cX6_origin 45 = .ok (.iconst 0, 1) := by decide +kernel
theorem dX6_origin_46 : decode cX6_origin 46 = .ok (.istore 4, 2) := by decide +kernel
theorem dX6_origin_48 : decode cX6_origin 48 = .ok (.iconst 0, 1) := by decide +kernel
theorem dX6_origin_49 : decode cX6_origin 49 = .ok (.istore 5, 2) := by decide +kernel
theorem dX6_origin_51 : decode cX6_origin 51 = .ok (.iload 5, 2) := by decide +kernel
theorem dX6_origin_53 : decode cX6_origin 53 = .ok (.aload_n 0, 1) := by decide +kernel
theorem dX6_origin_54 : decode cX6_origin 54 = .ok (.getfield 19, 3) := by decide +kernel
theorem dX6_origin_57 : decode cX6_origin 57 = .ok (.getfield 99, 3) := by decide +kernel
theorem dX6_origin_60 : decode cX6_origin 60 = .ok (.if_icmp .ge 25, 3) := by decide +kernel
theorem dX6_origin_63 : decode cX6_origin 63 = .ok (.iload 4, 2) := by decide +kernel
theorem dX6_origin_65 : decode cX6_origin 65 = .ok (.aload_n 0, 1) := by decide +kernel
theorem dX6_origin_66 : decode cX6_origin 66 = .ok (.iload 5, 2) := by decide +kernel
theorem dX6_origin_68 : decode cX6_origin 68 = .ok (.iload_n 1, 1) := by decide +kernel
theorem dX6_origin_69 : decode cX6_origin 69 = .ok (.iload_n 2, 1) := by decide +kernel
theorem dX6_origin_70 : decode cX6_origin 70 = .ok (.invokevirtual 230, 3) := by decide +kernel
theorem dX6_origin_73 : decode cX6_origin 73 = .ok (.invokestatic 233, 3) := by decide +kernel
theorem dX6_origin_76 : decode cX6_origin 76 = .ok (.iadd, 1) := by decide +kernel
theorem dX6_origin_77 : decode cX6_origin 77 = .ok (.istore 4, 2) := by decide +kernel
theorem dX6_origin_79 : decode cX6_origin 79 = .ok (.iinc 5 1, 3) := by decide +kernel
theorem dX6_origin_82 : decode cX6_origin 82 = .ok (.goto (-31), 3) := by decide +kernel
theorem dX6_origin_85 : decode cX6_origin 85 = .ok (.iload 4, 2) := by decide +kernel
theorem dX6_origin_87 : decode cX6_origin 87 = .ok (.ireturn, 1) := by decide +kernel
theorem dX6_privately_0 : decode cX6_privately 0 = .ok (.aload_n 0, 1) := by decide +kernel
theorem dX6_privately_1 : decode cX6_privately 1 = .ok (.iload_n 1, 1) := by decide +kernel
theorem dX6_privately_2 : decode cX6_privately 2 = .ok (.invokevirtual 238, 3) := by decide +kernel
theorem dX6_privately_5 : decode cX6_privately 5 = .ok (.ifCond .ne 6, 3) := by decide +kernel
theorem dX6_privately_8 : decode cX6_privately 8 = .ok (.ldc 147, 2) := by decide +kernel
theorem dX6_privately_10 : decode cX6_privately 10 = .ok (.ireturn, 1) := by decide +kernel
theorem dX6_privately_11 : decode cX6_privately 11 = .ok (.iconst 0, 1) := by decide +kernel
theorem dX6_privately_12 : decode cX6_privately 12 = .ok (.istore_n 2, 1) := by decide +kernel
theorem dX6_privately_13 : decode cX6_privately 13 = .ok (.iconst 1, 1) := by decide +kernel
theorem dX6_privately_14 : decode cX6_privately 14 = .ok (.istore_n 3, 1) := by decide +kernel
theorem dX6_privately_15 : decode cX6_privately 15 = .ok (.iload_n 3, 1) := by decide +kernel
theorem dX6_privately_16 : decode cX6_privately 16 = .ok (.aload_n 0, 1) := by decide +kernel
theorem dX6_privately_17 : decode cX6_privately 17 = .ok (.getfield 19, 3) := by decide +kernel
theorem dX6_privately_20 : decode cX6_privately 20 = .ok (.getfield 99, 3) := by decide +kernel
theorem dX6_privately_23 : decode cX6_privately 23 = .ok (.if_icmp .ge 25, 3) := by decide +kernel
theorem dX6_privately_26 : decode cX6_privately 26 = .ok (.aload_n 0, 1) := by decide +kernel
theorem dX6_privately_27 : decode cX6_privately 27 = .ok (.iload_n 3, 1) := by decide +kernel
theorem dX6_privately_28 : decode cX6_privately 28 = .ok (.invokevirtual 217, 3) := by decide +kernel
theorem dX6_privately_31 : decode cX6_privately 31 = .ok (.iload_n 1, 1) := by decide +kernel
theorem dX6_privately_32 : decode cX6_privately 32 = .ok (.iand, 1) := by decide +kernel
theorem dX6_privately_33 : decode cX6_privately 33 = .ok (.ifCond .ne 9, 3) := by decide +kernel
theorem dX6_privately_36 : decode cX6_privately 36 = .ok (.iload_n 2, 1) := by decide +kernel
theorem dX6_privately_37 : decode cX6_privately 37 = .ok (.iconst 1, 1) := by decide +kernel
theorem dX6_privately_38 : decode cX6_privately 38 = .ok (.iload_n 3, 1) := by decide +kernel
theorem dX6_privately_39 : decode cX6_privately 39 = .ok (.ishl, 1) := by decide +kernel
theorem dX6_privately_40 : decode cX6_privately 40 = .ok (.ior, 1) := by decide +kernel
theorem dX6_privately_41 : decode cX6_privately 41 = .ok (.istore_n 2, 1) := by decide +kernel
theorem dX6_privately_42 : decode cX6_privately 42 = .ok (.iinc 3 1, 3) := by decide +kernel
theorem dX6_privately_45 : decode cX6_privately 45 = .ok (.goto (-30), 3) := by decide +kernel
theorem dX6_privately_48 : decode cX6_privately 48 = .ok (.iload_n 2, 1) := by decide +kernel
theorem dX6_privately_49 : decode cX6_privately 49 = .ok (.ireturn, 1) := by decide +kernel
theorem dX6_dams_0 : decode cX6_dams 0 = .ok (.aload_n 0, 1) := by decide +kernel
theorem dX6_dams_1 : decode cX6_dams 1 = .ok (.iload_n 1, 1) := by decide +kernel
theorem dX6_dams_2 : decode cX6_dams 2 = .ok (.invokevirtual 143, 3) := by decide +kernel
theorem dX6_dams_5 : decode cX6_dams 5 = .ok (.ifCond .eq 11, 3) := by decide +kernel
theorem dX6_dams_8 : decode cX6_dams 8 = .ok (.aload_n 0, 1) := by decide +kernel
theorem dX6_dams_9 : decode cX6_dams 9 = .ok (.iload_n 2, 1) := by decide +kernel
theorem dX6_dams_10 : decode cX6_dams 10 = .ok (.invokevirtual 238, 3) := by decide +kernel
theorem dX6_dams_13 : decode cX6_dams 13 = .ok (.ifCond .ne 6, 3) := by decide +kernel
theorem dX6_dams_16 : decode cX6_dams 16 = .ok (.ldc 147, 2) := by decide +kernel
theorem dX6_dams_18 : decode cX6_dams 18 = .ok (.ireturn, 1) := by decide +kernel
theorem dX6_dams_19 : decode cX6_dams 19 = .ok (.aload_n 0, 1) := by decide +kernel
theorem dX6_dams_20 : decode cX6_dams 20 = .ok (.iload_n 1, 1) := by decide +kernel
theorem dX6_dams_21 : decode cX6_dams 21 = .ok (.iload_n 2, 1) := by decide +kernel
theorem dX6_dams_22 : decode cX6_dams 22 = .ok (.invokevirtual 241, 3) := by decide +kernel
theorem dX6_dams_25 : decode cX6_dams 25 = .ok (.ireturn, 1) := by decide +kernel
theorem dX6_willHear_0 : decode cX6_willHear 0 = .ok (.aload_n 0, 1) := by decide +kernel
theorem dX6_willHear_1 : decode cX6_willHear 1 = .ok (.iload_n 1, 1) := by decide +kernel
theorem dX6_willHear_2 : decode cX6_willHear 2 = .ok (.invokevirtual 143, 3) := by decide +kernel
theorem dX6_willHear_5 : decode cX6_willHear 5 = .ok (.ifCond .ne 6, 3) := by decide +kernel
theorem dX6_willHear_8 : decode cX6_willHear 8 = .ok (.ldc 147, 2) := by decide +kernel
theorem dX6_willHear_10 : decode cX6_willHear 10 = .ok (.ireturn, 1) := by decide +kernel
theorem dX6_willHear_11 : decode cX6_willHear 11 = .ok (.iload_n 2, 1) := by decide +kernel
theorem dX6_willHear_12 : decode cX6_willHear 12 = .ok (.ifCond .lt 18, 3) := by decide +kernel
theorem dX6_willHear_15 : decode cX6_willHear 15 = .ok (.iload_n 2, 1) := by decide +kernel
theorem dX6_willHear_16 : decode cX6_willHear 16 = .ok (.bipush 100, 2) := by decide +kernel
theorem dX6_willHear_18 : decode cX6_willHear 18 = .ok (.if_icmp .gt 12, 3) := by decide +kernel
theorem dX6_willHear_21 : decode cX6_willHear 21 = .ok (.iload_n 3, 1) := by decide +kernel
theorem dX6_willHear_22 : decode cX6_willHear 22 = .ok (.ifCond .lt 8, 3) := by decide +kernel
theorem dX6_willHear_25 : decode cX6_willHear 25 = .ok (.iload_n 3, 1) := by decide +kernel
theorem dX6_willHear_26 : decode cX6_willHear 26 = .ok (.iconst 1, 1) := by decide +kernel
theorem dX6_willHear_27 : decode cX6_willHear 27 = .ok (.if_icmp .le 6, 3) := by decide +kernel
theorem dX6_willHear_30 : decode cX6_willHear 30 = .ok (.ldc 69, 2) := by decide +kernel
theorem dX6_willHear_32 : decode cX6_willHear 32 = .ok (.ireturn, 1) := by decide +kernel
theorem dX6_willHear_33 : decode cX6_willHear 33 = .ok (.aload_n 0, 1) := by decide +kernel
theorem dX6_willHear_34 : decode cX6_willHear 34 = .ok (.getfield 33, 3) := by decide +kernel
theorem dX6_willHear_37 : decode cX6_willHear 37 = .ok (.aload_n 0, 1) := by decide +kernel
theorem dX6_willHear_38 : decode cX6_willHear 38 = .ok (.getfield 29, 3) := by decide +kernel
theorem dX6_willHear_41 : decode cX6_willHear 41 = .ok (.invokevirtual 244, 3) := by decide +kernel
theorem dX6_willHear_44 : decode cX6_willHear 44 = .ok (.aload_n 0, 1) := by decide +kernel
theorem dX6_willHear_45 : decode cX6_willHear 45 = .ok (.getfield 33, 3) := by decide +kernel
theorem dX6_willHear_48 : decode cX6_willHear 48 = .ok (.getfield 167, 3) := by decide +kernel
theorem dX6_willHear_51 : decode cX6_willHear 51 = .ok (.iload_n 1, 1) := by decide +kernel
theorem dX6_willHear_52 : decode cX6_willHear 52 = .ok (.iconst 0, 1) := by decide +kernel
theorem dX6_willHear_53 : decode cX6_willHear 53 = .ok (.invokestatic 78, 3) := by decide +kernel
theorem dX6_willHear_56 : decode cX6_willHear 56 = .ok (.aload_n 0, 1) := by decide +kernel
theorem dX6_willHear_57 : decode cX6_willHear 57 = .ok (.getfield 33, 3) := by decide +kernel
theorem dX6_willHear_60 : decode cX6_willHear 60 = .ok (.aload_n 0, 1) := by decide +kernel
theorem dX6_willHear_61 : decode cX6_willHear 61 = .ok (.getfield 19, 3) := by decide +kernel
theorem dX6_willHear_64 : decode cX6_willHear 64 = .ok (.iload_n 2, 1) := by decide +kernel
theorem dX6_willHear_65 : decode cX6_willHear 65 = .ok (.invokevirtual 188, 3) := by decide +kernel
theorem dX6_willHear_68 : decode cX6_willHear 68 = .ok (.iload_n 3, 1) := by decide +kernel
theorem dX6_willHear_69 : decode cX6_willHear 69 = .ok (.ifCond .ne 13, 3) := by decide +kernel
theorem dX6_willHear_72 : decode cX6_willHear 72 = .ok (.aload_n 0, 1) := by decide +kernel
theorem dX6_willHear_73 : decode cX6_willHear 73 = .ok (.getfield 33, 3) := by decide +kernel
theorem dX6_willHear_76 : decode cX6_willHear 76 = .ok (.getfield 167, 3) := by decide +kernel
theorem dX6_willHear_79 : decode cX6_willHear 79 = .ok (.goto 10, 3) := by decide +kernel
theorem dX6_willHear_82 : decode cX6_willHear 82 = .ok (.aload_n 0, 1) := by decide +kernel
theorem dX6_willHear_83 : decode cX6_willHear 83 = .ok (.getfield 33, 3) := by decide +kernel
theorem dX6_willHear_86 : decode cX6_willHear 86 = .ok (.getfield 164, 3) := by decide +kernel
theorem dX6_willHear_89 : decode cX6_willHear 89 = .ok (.iload_n 1, 1) := by decide +kernel
theorem dX6_willHear_90 : decode cX6_willHear 90 = .ok (.invokestatic 151, 3) := by decide +kernel
theorem dX6_willHear_93 : decode cX6_willHear 93 = .ok (.ireturn, 1) := by decide +kernel
theorem dX6_where_0 : decode cX6_where 0 = .ok (.aload_n 0, 1) := by decide +kernel
theorem dX6_where_1 : decode cX6_where 1 = .ok (.iload_n 1, 1) := by decide +kernel
theorem dX6_where_2 : decode cX6_where 2 = .ok (.invokevirtual 170, 3) := by decide +kernel
theorem dX6_where_5 : decode cX6_where 5 = .ok (.ifCond .ne 6, 3) := by decide +kernel
theorem dX6_where_8 : decode cX6_where 8 = .ok (.ldc 147, 2) := by decide +kernel
theorem dX6_where_10 : decode cX6_where 10 = .ok (.ireturn, 1) := by decide +kernel
theorem dX6_where_11 : decode cX6_where 11 = .ok (.iload_n 2, 1) := by decide +kernel
theorem dX6_where_12 : decode cX6_where 12 = .ok (.ifCond .lt 18, 3) := by decide +kernel
theorem dX6_where_15 : decode cX6_where 15 = .ok (.iload_n 2, 1) := by decide +kernel
theorem dX6_where_16 : decode cX6_where 16 = .ok (.bipush 100, 2) := by decide +kernel
theorem dX6_where_18 : decode cX6_where 18 = .ok (.if_icmp .gt 12, 3) := by decide +kernel
theorem dX6_where_21 : decode cX6_where 21 = .ok (.iload_n 3, 1) := by decide +kernel
theorem dX6_where_22 : decode cX6_where 22 = .ok (.ifCond .lt 8, 3) := by decide +kernel
theorem dX6_where_25 : decode cX6_where 25 = .ok (.iload_n 3, 1) := by decide +kernel
theorem dX6_where_26 : decode cX6_where 26 = .ok (.iconst 1, 1) := by decide +kernel
theorem dX6_where_27 : decode cX6_where 27 = .ok (.if_icmp .le 6, 3) := by decide +kernel
theorem dX6_where_30 : decode cX6_where 30 = .ok (.ldc 69, 2) := by decide +kernel
theorem dX6_where_32 : decode cX6_where 32 = .ok (.ireturn, 1) := by decide +kernel
theorem dX6_where_33 : decode cX6_where 33 = .ok (.aload_n 0, 1) := by decide +kernel
theorem dX6_where_34 : decode cX6_where 34 = .ok (.getfield 33, 3) := by decide +kernel
theorem dX6_where_37 : decode cX6_where 37 = .ok (.aload_n 0, 1) := by decide +kernel
theorem dX6_where_38 : decode cX6_where 38 = .ok (.getfield 29, 3) := by decide +kernel
theorem dX6_where_41 : decode cX6_where 41 = .ok (.invokevirtual 244, 3) := by decide +kernel
theorem dX6_where_44 : decode cX6_where 44 = .ok (.aload_n 0, 1) := by decide +kernel
theorem dX6_where_45 : decode cX6_where 45 = .ok (.getfield 33, 3) := by decide +kernel
theorem dX6_where_48 : decode cX6_where 48 = .ok (.iload_n 1, 1) := by decide +kernel
theorem dX6_where_49 : decode cX6_where 49 = .ok (.invokevirtual 246, 3) := by decide +kernel
theorem dX6_where_52 : decode cX6_where 52 = .ok (.aload_n 0, 1) := by decide +kernel
theorem dX6_where_53 : decode cX6_where 53 = .ok (.getfield 33, 3) := by decide +kernel
theorem dX6_where_56 : decode cX6_where 56 = .ok (.aload_n 0, 1) := by decide +kernel
theorem dX6_where_57 : decode cX6_where 57 = .ok (.getfield 19, 3) := by decide +kernel
theorem dX6_where_60 : decode cX6_where 60 = .ok (.iload_n 2, 1) := by decide +kernel
theorem dX6_where_61 : decode cX6_where 61 = .ok (.invokevirtual 188, 3) := by decide +kernel
theorem dX6_where_64 : decode cX6_where 64 = .ok (.aload_n 0, 1) := by decide +kernel
theorem dX6_where_65 : decode cX6_where 65 = .ok (.getfield 33, 3) := by decide +kernel
theorem dX6_where_68 : decode cX6_where 68 = .ok (.getfield 121, 3) := by decide +kernel
theorem dX6_where_71 : decode cX6_where 71 = .ok (.ifCond .ne 5, 3) := by decide +kernel
theorem dX6_where_74 : decode cX6_where 74 = .ok (.iconst (-1), 1) := by decide +kernel
theorem dX6_where_75 : decode cX6_where 75 = .ok (.ireturn, 1) := by decide +kernel
theorem dX6_where_76 : decode cX6_where 76 = .ok (.aload_n 0, 1) := by decide +kernel
theorem dX6_where_77 : decode cX6_where 77 = .ok (.getfield 33, 3) := by decide +kernel
theorem dX6_where_80 : decode cX6_where 80 = .ok (.iconst 0, 1) := by decide +kernel
theorem dX6_where_81 : decode cX6_where 81 = .ok (.iload_n 3, 1) := by decide +kernel
theorem dX6_where_82 : decode cX6_where 82 = .ok (.ifCond .ne 7, 3) := by decide +kernel
theorem dX6_where_85 : decode cX6_where 85 = .ok (.iconst 1, 1) := by decide +kernel
theorem dX6_where_86 : decode cX6_where 86 = .ok (.goto 4, 3) := by decide +kernel
theorem dX6_where_89 : decode cX6_where 89 = .ok (.iconst 0, 1) := by decide +kernel
theorem dX6_where_90 : decode cX6_where 90 = .ok (.invokevirtual 173, 3) := by decide +kernel
theorem dX6_where_93 : decode cX6_where 93 = .ok (.ireturn, 1) := by decide +kernel
theorem dX6_dry_0 : decode cX6_dry 0 = .ok (.iload_n 1, 1) := by decide +kernel
theorem dX6_dry_1 : decode cX6_dry 1 = .ok (.ifCond .lt 19, 3) := by decide +kernel
theorem dX6_dry_4 : decode cX6_dry 4 = .ok (.iload_n 1, 1) := by decide +kernel
theorem dX6_dry_5 : decode cX6_dry 5 = .ok (.bipush 60, 2) := by decide +kernel
theorem dX6_dry_7 : decode cX6_dry 7 = .ok (.if_icmp .gt 13, 3) := by decide +kernel
theorem dX6_dry_10 : decode cX6_dry 10 = .ok (.iload_n 2, 1) := by decide +kernel
theorem dX6_dry_11 : decode cX6_dry 11 = .ok (.ifCond .lt 9, 3) := by decide +kernel
theorem dX6_dry_14 : decode cX6_dry 14 = .ok (.iload_n 2, 1) := by decide +kernel
theorem dX6_dry_15 : decode cX6_dry 15 = .ok (.bipush 100, 2) := by decide +kernel
theorem dX6_dry_17 : decode cX6_dry 17 = .ok (.if_icmp .le 6, 3) := by decide +kernel
theorem dX6_dry_20 : decode cX6_dry 20 = .ok (.ldc 69, 2) := by decide +kernel
theorem dX6_dry_22 : decode cX6_dry 22 = .ok (.ireturn, 1) := by decide +kernel
theorem dX6_dry_23 : decode cX6_dry 23 = .ok (.ldc2_w 249, 3) := by decide +kernel
theorem dX6_dry_26 : decode cX6_dry 26 = .ok (.lstore_n 3, 1) := by decide +kernel
theorem dX6_dry_27 : decode cX6_dry 27 = .ok (.iconst 0, 1) := by decide +kernel
theorem dX6_dry_28 : decode cX6_dry 28 = .ok (.istore 5, 2) := by decide +kernel
theorem dX6_dry_30 : decode cX6_dry 30 = .ok (.iload 5, 2) := by decide +kernel
theorem dX6_dry_32 : decode cX6_dry 32 = .ok (.iload_n 1, 1) := by decide +kernel
theorem dX6_dry_33 : decode cX6_dry 33 = .ok (.if_icmp .ge 18, 3) := by decide +kernel
theorem dX6_dry_36 : decode cX6_dry 36 = .ok (.lload_n 3, 1) := by decide +kernel
theorem dX6_dry_37 : decode cX6_dry 37 = .ok (.iload_n 2, 1) := by decide +kernel
theorem dX6_dry_38 : decode cX6_dry 38 = .ok (.i2l, 1) := by decide +kernel
theorem dX6_dry_39 : decode cX6_dry 39 = .ok (.lmul, 1) := by decide +kernel
theorem dX6_dry_40 : decode cX6_dry 40 = .ok (.ldc2_w 251, 3) := by decide +kernel
theorem dX6_dry_43 : decode cX6_dry 43 = .ok (.ldiv, 1) := by decide +kernel
theorem dX6_dry_44 : decode cX6_dry 44 = .ok (.lstore_n 3, 1) := by decide +kernel
theorem dX6_dry_45 : decode cX6_dry 45 = .ok (.iinc 5 1, 3) := by decide +kernel
theorem dX6_dry_48 : decode cX6_dry 48 = .ok (.goto (-18), 3) := by decide +kernel
theorem dX6_dry_51 : decode cX6_dry 51 = .ok (.lload_n 3, 1) := by decide +kernel
theorem dX6_dry_52 : decode cX6_dry 52 = .ok (.l2i, 1) := by decide +kernel
theorem dX6_dry_53 : decode cX6_dry 53 = .ok (.ireturn, 1) := by decide +kernel
theorem dX6_see_0 : decode cX6_see 0 = .ok (.aload_n 0, 1) := by decide +kernel
theorem dX6_see_1 : decode cX6_see 1 = .ok (.iload_n 1, 1) := by decide +kernel
theorem dX6_see_2 : decode cX6_see 2 = .ok (.invokevirtual 192, 3) := by decide +kernel
theorem dX6_see_5 : decode cX6_see 5 = .ok (.ifCond .eq 11, 3) := by decide +kernel
theorem dX6_see_8 : decode cX6_see 8 = .ok (.aload_n 0, 1) := by decide +kernel
theorem dX6_see_9 : decode cX6_see 9 = .ok (.iload_n 2, 1) := by decide +kernel
theorem dX6_see_10 : decode cX6_see 10 = .ok (.invokevirtual 192, 3) := by decide +kernel
theorem dX6_see_13 : decode cX6_see 13 = .ok (.ifCond .ne 6, 3) := by decide +kernel
theorem dX6_see_16 : decode cX6_see 16 = .ok (.ldc 147, 2) := by decide +kernel
theorem dX6_see_18 : decode cX6_see 18 = .ok (.ireturn, 1) := by decide +kernel
theorem dX6_see_19 : decode cX6_see 19 = .ok (.aload_n 0, 1) := by decide +kernel
theorem dX6_see_20 : decode cX6_see 20 = .ok (.getfield 54, 3) := by decide +kernel
theorem dX6_see_23 : decode cX6_see 23 = .ok (.getfield 91, 3) := by decide +kernel
theorem dX6_see_26 : decode cX6_see 26 = .ok (.bipush 6, 2) := by decide +kernel
theorem dX6_see_28 : decode cX6_see 28 = .ok (.if_icmp .lt 6, 3) := by decide +kernel
theorem dX6_see_31 : decode cX6_see 31 = .ok (.ldc 74, 2) := by decide +kernel
theorem dX6_see_33 : decode cX6_see 33 = .ok (.ireturn, 1) := by decide +kernel
theorem dX6_see_34 : decode cX6_see 34 = .ok (.aload_n 0, 1) := by decide +kernel
theorem dX6_see_35 : decode cX6_see 35 = .ok (.getfield 54, 3) := by decide +kernel
theorem dX6_see_38 : decode cX6_see 38 = .ok (.iload_n 1, 1) := by decide +kernel
theorem dX6_see_39 : decode cX6_see 39 = .ok (.iload_n 2, 1) := by decide +kernel
theorem dX6_see_40 : decode cX6_see 40 = .ok (.invokevirtual 253, 3) := by decide +kernel
theorem dX6_see_43 : decode cX6_see 43 = .ok (.aload_n 0, 1) := by decide +kernel
theorem dX6_see_44 : decode cX6_see 44 = .ok (.getfield 54, 3) := by decide +kernel
theorem dX6_see_47 : decode cX6_see 47 = .ok (.getfield 91, 3) := by decide +kernel
theorem dX6_see_50 : decode cX6_see 50 = .ok (.ireturn, 1) := by decide +kernel
theorem dX6_falls_0 : decode cX6_falls 0 = .ok (.iload_n 1, 1) := by decide +kernel
theorem dX6_falls_1 : decode cX6_falls 1 = .ok (.ifCond .lt 8, 3) := by decide +kernel
theorem dX6_falls_4 : decode cX6_falls 4 = .ok (.iload_n 1, 1) := by decide +kernel
theorem dX6_falls_5 : decode cX6_falls 5 = .ok (.iconst 1, 1) := by decide +kernel
theorem dX6_falls_6 : decode cX6_falls 6 = .ok (.if_icmp .le 6, 3) := by decide +kernel
theorem dX6_falls_9 : decode cX6_falls 9 = .ok (.ldc 69, 2) := by decide +kernel
theorem dX6_falls_11 : decode cX6_falls 11 = .ok (.ireturn, 1) := by decide +kernel
theorem dX6_falls_12 : decode cX6_falls 12 = .ok (.iload_n 1, 1) := by decide +kernel
theorem dX6_falls_13 : decode cX6_falls 13 = .ok (.ifCond .ne 20, 3) := by decide +kernel
theorem dX6_falls_16 : decode cX6_falls 16 = .ok (.aload_n 0, 1) := by decide +kernel
theorem dX6_falls_17 : decode cX6_falls 17 = .ok (.getfield 54, 3) := by decide +kernel
theorem dX6_falls_20 : decode cX6_falls 20 = .ok (.aload_n 0, 1) := by decide +kernel
theorem dX6_falls_21 : decode cX6_falls 21 = .ok (.getfield 19, 3) := by decide +kernel
theorem dX6_falls_24 : decode cX6_falls 24 = .ok (.getfield 105, 3) := by decide +kernel
theorem dX6_falls_27 : decode cX6_falls 27 = .ok (.invokevirtual 257, 3) := by decide +kernel
theorem dX6_falls_30 : decode cX6_falls 30 = .ok (.goto 17, 3) := by decide +kernel
theorem dX6_falls_33 : decode cX6_falls 33 = .ok (.aload_n 0, 1) := by decide +kernel
theorem dX6_falls_34 : decode cX6_falls 34 = .ok (.getfield 54, 3) := by decide +kernel
theorem dX6_falls_37 : decode cX6_falls 37 = .ok (.aload_n 0, 1) := by decide +kernel
theorem dX6_falls_38 : decode cX6_falls 38 = .ok (.getfield 19, 3) := by decide +kernel
theorem dX6_falls_41 : decode cX6_falls 41 = .ok (.getfield 105, 3) := by decide +kernel
theorem dX6_falls_44 : decode cX6_falls 44 = .ok (.invokevirtual 260, 3) := by decide +kernel
theorem dX6_falls_47 : decode cX6_falls 47 = .ok (.ireturn, 1) := by decide +kernel
theorem dX6_tryNext_0 : decode cX6_tryNext 0 = .ok (.aload_n 0, 1) := by decide +kernel
theorem dX6_tryNext_1 : decode cX6_tryNext 1 = .ok (.getfield 54, 3) := by decide +kernel
theorem dX6_tryNext_4 : decode cX6_tryNext 4 = .ok (.aload_n 0, 1) := by decide +kernel
theorem dX6_tryNext_5 : decode cX6_tryNext 5 = .ok (.getfield 19, 3) := by decide +kernel
theorem dX6_tryNext_8 : decode cX6_tryNext 8 = .ok (.getfield 105, 3) := by decide +kernel
theorem dX6_tryNext_11 : decode cX6_tryNext 11 = .ok (.invokevirtual 263, 3) := by decide +kernel
theorem dX6_tryNext_14 : decode cX6_tryNext 14 = .ok (.ireturn, 1) := by decide +kernel
theorem dX6_write_0 : decode cX6_write 0 = .ok (.aload_n 0, 1) := by decide +kernel
theorem dX6_write_1 : decode cX6_write 1 = .ok (.iload_n 1, 1) := by decide +kernel
theorem dX6_write_2 : decode cX6_write 2 = .ok (.invokevirtual 143, 3) := by decide +kernel
theorem dX6_write_5 : decode cX6_write 5 = .ok (.ifCond .eq 16, 3) := by decide +kernel
theorem dX6_write_8 : decode cX6_write 8 = .ok (.iload_n 2, 1) := by decide +kernel
theorem dX6_write_9 : decode cX6_write 9 = .ok (.iconst (-1), 1) := by decide +kernel
theorem dX6_write_10 : decode cX6_write 10 = .ok (.if_icmp .eq 14, 3) := by decide +kernel
theorem dX6_write_13 : decode cX6_write 13 = .ok (.aload_n 0, 1) := by decide +kernel
theorem dX6_write_14 : decode cX6_write 14 = .ok (.iload_n 2, 1) := by decide +kernel
theorem dX6_write_15 : decode cX6_write 15 = .ok (.invokevirtual 192, 3) := by decide +kernel
theorem dX6_write_18 : decode cX6_write 18 = .ok (.ifCond .ne 6, 3) := by decide +kernel
theorem dX6_write_21 : decode cX6_write 21 = .ok (.ldc 147, 2) := by decide +kernel
theorem dX6_write_23 : decode cX6_write 23 = .ok (.ireturn, 1) := by decide +kernel
theorem dX6_write_24 : decode cX6_write 24 = .ok (.aload_n 0, 1) := by decide +kernel
theorem dX6_write_25 : decode cX6_write 25 = .ok (.getfield 61, 3) := by decide +kernel
theorem dX6_write_28 : decode cX6_write 28 = .ok (.getfield 94, 3) := by decide +kernel
theorem dX6_write_31 : decode cX6_write 31 = .ok (.bipush 15, 2) := by decide +kernel
theorem dX6_write_33 : decode cX6_write 33 = .ok (.if_icmp .lt 6, 3) := by decide +kernel
theorem dX6_write_36 : decode cX6_write 36 = .ok (.ldc 74, 2) := by decide +kernel
theorem dX6_write_38 : decode cX6_write 38 = .ok (.ireturn, 1) := by decide +kernel
theorem dX6_write_39 : decode cX6_write 39 = .ok (.aload_n 0, 1) := by decide +kernel
theorem dX6_write_40 : decode cX6_write 40 = .ok (.getfield 61, 3) := by decide +kernel
theorem dX6_write_43 : decode cX6_write 43 = .ok (.iload_n 1, 1) := by decide +kernel
theorem dX6_write_44 : decode cX6_write 44 = .ok (.iload_n 2, 1) := by decide +kernel
theorem dX6_write_45 : decode cX6_write 45 = .ok (.invokevirtual 266, 3) := by decide +kernel
theorem dX6_write_48 : decode cX6_write 48 = .ok (.aload_n 0, 1) := by decide +kernel
theorem dX6_write_49 : decode cX6_write 49 = .ok (.getfield 61, 3) := by decide +kernel
theorem dX6_write_52 : decode cX6_write 52 = .ok (.getfield 94, 3) := by decide +kernel
theorem dX6_write_55 : decode cX6_write 55 = .ok (.ireturn, 1) := by decide +kernel
theorem dX6_tear_0 : decode cX6_tear 0 = .ok (.aload_n 0, 1) := by decide +kernel
theorem dX6_tear_1 : decode cX6_tear 1 = .ok (.getfield 54, 3) := by decide +kernel
theorem dX6_tear_4 : decode cX6_tear 4 = .ok (.getfield 91, 3) := by decide +kernel
theorem dX6_tear_7 : decode cX6_tear 7 = .ok (.aload_n 0, 1) := by decide +kernel
theorem dX6_tear_8 : decode cX6_tear 8 = .ok (.getfield 61, 3) := by decide +kernel
theorem dX6_tear_11 : decode cX6_tear 11 = .ok (.getfield 94, 3) := by decide +kernel
theorem dX6_tear_14 : decode cX6_tear 14 = .ok (.iadd, 1) := by decide +kernel
theorem dX6_tear_15 : decode cX6_tear 15 = .ok (.istore_n 1, 1) := by decide +kernel
theorem dX6_tear_16 : decode cX6_tear 16 = .ok (.aload_n 0, 1) := by decide +kernel
theorem dX6_tear_17 : decode cX6_tear 17 = .ok (.getfield 54, 3) := by decide +kernel
theorem dX6_tear_20 : decode cX6_tear 20 = .ok (.iconst 0, 1) := by decide +kernel
theorem dX6_tear_21 : decode cX6_tear 21 = .ok (.putfield 91, 3) := by decide +kernel
theorem dX6_tear_24 : decode cX6_tear 24 = .ok (.aload_n 0, 1) := by decide +kernel
theorem dX6_tear_25 : decode cX6_tear 25 = .ok (.getfield 61, 3) := by decide +kernel
theorem dX6_tear_28 : decode cX6_tear 28 = .ok (.iconst 0, 1) := by decide +kernel
theorem dX6_tear_29 : decode cX6_tear 29 = .ok (.putfield 94, 3) := by decide +kernel
theorem dX6_tear_32 : decode cX6_tear 32 = .ok (.iload_n 1, 1) := by decide +kernel
theorem dX6_tear_33 : decode cX6_tear 33 = .ok (.ireturn, 1) := by decide +kernel
theorem dX6_judge_0 : decode cX6_judge 0 = .ok (.aload_n 0, 1) := by decide +kernel
theorem dX6_judge_1 : decode cX6_judge 1 = .ok (.getfield 61, 3) := by decide +kernel
theorem dX6_judge_4 : decode cX6_judge 4 = .ok (.aload_n 0, 1) := by decide +kernel
theorem dX6_judge_5 : decode cX6_judge 5 = .ok (.getfield 29, 3) := by decide +kernel
theorem dX6_judge_8 : decode cX6_judge 8 = .ok (.getfield 164, 3) := by decide +kernel
theorem dX6_judge_11 : decode cX6_judge 11 = .ok (.invokevirtual 267, 3) := by decide +kernel
theorem dX6_judge_14 : decode cX6_judge 14 = .ok (.ireturn, 1) := by decide +kernel
theorem dX6_seed_0 : decode cX6_seed 0 = .ok (.iload_n 1, 1) := by decide +kernel
theorem dX6_seed_1 : decode cX6_seed 1 = .ok (.ifCond .ge 6, 3) := by decide +kernel
theorem dX6_seed_4 : decode cX6_seed 4 = .ok (.ldc 69, 2) := by decide +kernel
theorem dX6_seed_6 : decode cX6_seed 6 = .ok (.ireturn, 1) := by decide +kernel
theorem dX6_seed_7 : decode cX6_seed 7 = .ok (.aload_n 0, 1) := by decide +kernel
theorem dX6_seed_8 : decode cX6_seed 8 = .ok (.getfield 271, 3) := by decide +kernel
theorem dX6_seed_11 : decode cX6_seed 11 = .ok (.istore_n 2, 1) := by decide +kernel
theorem dX6_seed_12 : decode cX6_seed 12 = .ok (.aload_n 0, 1) := by decide +kernel
theorem dX6_seed_13 : decode cX6_seed 13 = .ok (.iload_n 1, 1) := by decide +kernel
theorem dX6_seed_14 : decode cX6_seed 14 = .ok (.putfield 271, 3) := by decide +kernel
theorem dX6_seed_17 : decode cX6_seed 17 = .ok (.iload_n 2, 1) := by decide +kernel
theorem dX6_seed_18 : decode cX6_seed 18 = .ok (.ireturn, 1) := by decide +kernel
theorem dX6_keep_0 : decode cX6_keep 0 = .ok (.aload_n 0, 1) := by decide +kernel
theorem dX6_keep_1 : decode cX6_keep 1 = .ok (.iload_n 1, 1) := by decide +kernel
theorem dX6_keep_2 : decode cX6_keep 2 = .ok (.invokevirtual 274, 3) := by decide +kernel
theorem dX6_keep_5 : decode cX6_keep 5 = .ok (.astore_n 2, 1) := by decide +kernel
theorem dX6_keep_6 : decode cX6_keep 6 = .ok (.aload_n 2, 1) := by decide +kernel
theorem dX6_keep_7 : decode cX6_keep 7 = .ok (.ifnonnull 6, 3) := by decide +kernel
theorem dX6_keep_10 : decode cX6_keep 10 = .ok (.ldc 147, 2) := by decide +kernel
theorem dX6_keep_12 : decode cX6_keep 12 = .ok (.ireturn, 1) := by decide +kernel
theorem dX6_keep_13 : decode cX6_keep 13 = .ok (.aload_n 2, 1) := by decide +kernel
theorem dX6_keep_14 : decode cX6_keep 14 = .ok (.aload_n 0, 1) := by decide +kernel
theorem dX6_keep_15 : decode cX6_keep 15 = .ok (.getfield 29, 3) := by decide +kernel
theorem dX6_keep_18 : decode cX6_keep 18 = .ok (.invokevirtual 244, 3) := by decide +kernel
theorem dX6_keep_21 : decode cX6_keep 21 = .ok (.aload_n 0, 1) := by decide +kernel
theorem dX6_keep_22 : decode cX6_keep 22 = .ok (.getfield 47, 3) := by decide +kernel
theorem dX6_keep_25 : decode cX6_keep 25 = .ok (.iload_n 1, 1) := by decide +kernel
theorem dX6_keep_26 : decode cX6_keep 26 = .ok (.aload_n 0, 1) := by decide +kernel
theorem dX6_keep_27 : decode cX6_keep 27 = .ok (.getfield 271, 3) := by decide +kernel
theorem dX6_keep_30 : decode cX6_keep 30 = .ok (.invokestatic 78, 3) := by decide +kernel
theorem dX6_keep_33 : decode cX6_keep 33 = .ok (.aload_n 0, 1) := by decide +kernel
theorem dX6_keep_34 : decode cX6_keep 34 = .ok (.dup, 1) := by decide +kernel
theorem dX6_keep_35 : decode cX6_keep 35 = .ok (.getfield 95, 3) := by decide +kernel
theorem dX6_keep_38 : decode cX6_keep 38 = .ok (.iconst 1, 1) := by decide +kernel
theorem dX6_keep_39 : decode cX6_keep 39 = .ok (.iload_n 1, 1) := by decide +kernel
theorem dX6_keep_40 : decode cX6_keep 40 = .ok (.ishl, 1) := by decide +kernel
theorem dX6_keep_41 : decode cX6_keep 41 = .ok (.ior, 1) := by decide +kernel
theorem dX6_keep_42 : decode cX6_keep 42 = .ok (.putfield 95, 3) := by decide +kernel
theorem dX6_keep_45 : decode cX6_keep 45 = .ok (.aload_n 0, 1) := by decide +kernel
theorem dX6_keep_46 : decode cX6_keep 46 = .ok (.getfield 39, 3) := by decide +kernel
theorem dX6_keep_49 : decode cX6_keep 49 = .ok (.iconst 0, 1) := by decide +kernel
theorem dX6_keep_50 : decode cX6_keep 50 = .ok (.putfield 98, 3) := by decide +kernel
theorem dX6_keep_53 : decode cX6_keep 53 = .ok (.iconst 1, 1) := by decide +kernel
theorem dX6_keep_54 : decode cX6_keep 54 = .ok (.ireturn, 1) := by decide +kernel
theorem dX6_goBack_0 : decode cX6_goBack 0 = .ok (.aload_n 0, 1) := by decide +kernel
theorem dX6_goBack_1 : decode cX6_goBack 1 = .ok (.iload_n 1, 1) := by decide +kernel
theorem dX6_goBack_2 : decode cX6_goBack 2 = .ok (.invokevirtual 274, 3) := by decide +kernel
theorem dX6_goBack_5 : decode cX6_goBack 5 = .ok (.astore_n 2, 1) := by decide +kernel
theorem dX6_goBack_6 : decode cX6_goBack 6 = .ok (.aload_n 2, 1) := by decide +kernel
theorem dX6_goBack_7 : decode cX6_goBack 7 = .ok (.ifnonnull 6, 3) := by decide +kernel
theorem dX6_goBack_10 : decode cX6_goBack 10 = .ok (.ldc 147, 2) := by decide +kernel
theorem dX6_goBack_12 : decode cX6_goBack 12 = .ok (.ireturn, 1) := by decide +kernel
theorem dX6_goBack_13 : decode cX6_goBack 13 = .ok (.aload_n 0, 1) := by decide +kernel
theorem dX6_goBack_14 : decode cX6_goBack 14 = .ok (.getfield 95, 3) := by decide +kernel
theorem dX6_goBack_17 : decode cX6_goBack 17 = .ok (.iload_n 1, 1) := by decide +kernel
theorem dX6_goBack_18 : decode cX6_goBack 18 = .ok (.invokestatic 200, 3) := by decide +kernel
theorem dX6_goBack_21 : decode cX6_goBack 21 = .ok (.ifCond .ne 6, 3) := by decide +kernel
theorem dX6_goBack_24 : decode cX6_goBack 24 = .ok (.ldc 195, 2) := by decide +kernel
theorem dX6_goBack_26 : decode cX6_goBack 26 = .ok (.ireturn, 1) := by decide +kernel
theorem dX6_goBack_27 : decode cX6_goBack 27 = .ok (.aload_n 0, 1) := by decide +kernel
theorem dX6_goBack_28 : decode cX6_goBack 28 = .ok (.getfield 29, 3) := by decide +kernel
theorem dX6_goBack_31 : decode cX6_goBack 31 = .ok (.aload_n 2, 1) := by decide +kernel
theorem dX6_goBack_32 : decode cX6_goBack 32 = .ok (.invokevirtual 244, 3) := by decide +kernel
theorem dX6_goBack_35 : decode cX6_goBack 35 = .ok (.aload_n 0, 1) := by decide +kernel
theorem dX6_goBack_36 : decode cX6_goBack 36 = .ok (.aload_n 0, 1) := by decide +kernel
theorem dX6_goBack_37 : decode cX6_goBack 37 = .ok (.getfield 47, 3) := by decide +kernel
theorem dX6_goBack_40 : decode cX6_goBack 40 = .ok (.iload_n 1, 1) := by decide +kernel
theorem dX6_goBack_41 : decode cX6_goBack 41 = .ok (.invokestatic 151, 3) := by decide +kernel
theorem dX6_goBack_44 : decode cX6_goBack 44 = .ok (.putfield 271, 3) := by decide +kernel
theorem dX6_goBack_47 : decode cX6_goBack 47 = .ok (.aload_n 0, 1) := by decide +kernel
theorem dX6_goBack_48 : decode cX6_goBack 48 = .ok (.getfield 39, 3) := by decide +kernel
theorem dX6_goBack_51 : decode cX6_goBack 51 = .ok (.iconst 0, 1) := by decide +kernel
theorem dX6_goBack_52 : decode cX6_goBack 52 = .ok (.putfield 98, 3) := by decide +kernel
theorem dX6_goBack_55 : decode cX6_goBack 55 = .ok (.iconst 1, 1) := by decide +kernel
theorem dX6_goBack_56 : decode cX6_goBack 56 = .ok (.ireturn, 1) := by decide +kernel
theorem dX6_isFarm_0 : decode cX6_isFarm 0 = .ok (.iload_n 1, 1) := by decide +kernel
theorem dX6_isFarm_1 : decode cX6_isFarm 1 = .ok (.ifCond .lt 18, 3) := by decide +kernel
theorem dX6_isFarm_4 : decode cX6_isFarm 4 = .ok (.iload_n 1, 1) := by decide +kernel
theorem dX6_isFarm_5 : decode cX6_isFarm 5 = .ok (.aload_n 0, 1) := by decide +kernel
theorem dX6_isFarm_6 : decode cX6_isFarm 6 = .ok (.getfield 19, 3) := by decide +kernel
theorem dX6_isFarm_9 : decode cX6_isFarm 9 = .ok (.getfield 99, 3) := by decide +kernel
theorem dX6_isFarm_12 : decode cX6_isFarm 12 = .ok (.if_icmp .ge 7, 3) := by decide +kernel
theorem dX6_isFarm_15 : decode cX6_isFarm 15 = .ok (.iconst 1, 1) := by decide +kernel
theorem dX6_isFarm_16 : decode cX6_isFarm 16 = .ok (.goto 4, 3) := by decide +kernel
theorem dX6_isFarm_19 : decode cX6_isFarm 19 = .ok (.iconst 0, 1) := by decide +kernel
theorem dX6_isFarm_20 : decode cX6_isFarm 20 = .ok (.ireturn, 1) := by decide +kernel
theorem dX6_isWord_0 : decode cX6_isWord 0 = .ok (.iload_n 1, 1) := by decide +kernel
theorem dX6_isWord_1 : decode cX6_isWord 1 = .ok (.ifCond .lt 18, 3) := by decide +kernel
theorem dX6_isWord_4 : decode cX6_isWord 4 = .ok (.iload_n 1, 1) := by decide +kernel
theorem dX6_isWord_5 : decode cX6_isWord 5 = .ok (.aload_n 0, 1) := by decide +kernel
theorem dX6_isWord_6 : decode cX6_isWord 6 = .ok (.getfield 19, 3) := by decide +kernel
theorem dX6_isWord_9 : decode cX6_isWord 9 = .ok (.getfield 105, 3) := by decide +kernel
theorem dX6_isWord_12 : decode cX6_isWord 12 = .ok (.if_icmp .ge 7, 3) := by decide +kernel
theorem dX6_isWord_15 : decode cX6_isWord 15 = .ok (.iconst 1, 1) := by decide +kernel
theorem dX6_isWord_16 : decode cX6_isWord 16 = .ok (.goto 4, 3) := by decide +kernel
theorem dX6_isWord_19 : decode cX6_isWord 19 = .ok (.iconst 0, 1) := by decide +kernel
theorem dX6_isWord_20 : decode cX6_isWord 20 = .ok (.ireturn, 1) := by decide +kernel
theorem dX6_isTalk_0 : decode cX6_isTalk 0 = .ok (.iload_n 1, 1) := by decide +kernel
theorem dX6_isTalk_1 : decode cX6_isTalk 1 = .ok (.ifCond .lt 18, 3) := by decide +kernel
theorem dX6_isTalk_4 : decode cX6_isTalk 4 = .ok (.iload_n 1, 1) := by decide +kernel
theorem dX6_isTalk_5 : decode cX6_isTalk 5 = .ok (.aload_n 0, 1) := by decide +kernel
theorem dX6_isTalk_6 : decode cX6_isTalk 6 = .ok (.getfield 29, 3) := by decide +kernel
theorem dX6_isTalk_9 : decode cX6_isTalk 9 = .ok (.getfield 121, 3) := by decide +kernel
theorem dX6_isTalk_12 : decode cX6_isTalk 12 = .ok (.if_icmp .ge 7, 3) := by decide +kernel
theorem dX6_isTalk_15 : decode cX6_isTalk 15 = .ok (.iconst 1, 1) := by decide +kernel
theorem dX6_isTalk_16 : decode cX6_isTalk 16 = .ok (.goto 4, 3) := by decide +kernel
theorem dX6_isTalk_19 : decode cX6_isTalk 19 = .ok (.iconst 0, 1) := by decide +kernel
theorem dX6_isTalk_20 : decode cX6_isTalk 20 = .ok (.ireturn, 1) := by decide +kernel
theorem dX6_areFarms_0 : decode cX6_areFarms 0 = .ok (.iload_n 1, 1) := by decide +kernel
theorem dX6_areFarms_1 : decode cX6_areFarms 1 = .ok (.iconst 1, 1) := by decide +kernel
theorem dX6_areFarms_2 : decode cX6_areFarms 2 = .ok (.aload_n 0, 1) := by decide +kernel
theorem dX6_areFarms_3 : decode cX6_areFarms 3 = .ok (.getfield 19, 3) := by decide +kernel
theorem dX6_areFarms_6 : decode cX6_areFarms 6 = .ok (.getfield 99, 3) := by decide +kernel
theorem dX6_areFarms_9 : decode cX6_areFarms 9 = .ok (.ishl, 1) := by decide +kernel
theorem dX6_areFarms_10 : decode cX6_areFarms 10 = .ok (.ineg, 1) := by decide +kernel
theorem dX6_areFarms_11 : decode cX6_areFarms 11 = .ok (.iand, 1) := by decide +kernel
theorem dX6_areFarms_12 : decode cX6_areFarms 12 = .ok (.ifCond .ne 7, 3) := by decide +kernel
theorem dX6_areFarms_15 : decode cX6_areFarms 15 = .ok (.iconst 1, 1) := by decide +kernel
theorem dX6_areFarms_16 : decode cX6_areFarms 16 = .ok (.goto 4, 3) := by decide +kernel
theorem dX6_areFarms_19 : decode cX6_areFarms 19 = .ok (.iconst 0, 1) := by decide +kernel
theorem dX6_areFarms_20 : decode cX6_areFarms 20 = .ok (.ireturn, 1) := by decide +kernel
theorem dX6_image_0 : decode cX6_image 0 = .ok (.iload_n 1, 1) := by decide +kernel
theorem dX6_image_1 : decode cX6_image 1 = .ok (.ifCond .lt 21, 3) := by decide +kernel
theorem dX6_image_4 : decode cX6_image 4 = .ok (.iload_n 1, 1) := by decide +kernel
theorem dX6_image_5 : decode cX6_image 5 = .ok (.aload_n 0, 1) := by decide +kernel
theorem dX6_image_6 : decode cX6_image 6 = .ok (.getfield 43, 3) := by decide +kernel
theorem dX6_image_9 : decode cX6_image 9 = .ok (.arraylength, 1) := by decide +kernel
theorem dX6_image_10 : decode cX6_image 10 = .ok (.if_icmp .ge 12, 3) := by decide +kernel
theorem dX6_image_13 : decode cX6_image 13 = .ok (.aload_n 0, 1) := by decide +kernel
theorem dX6_image_14 : decode cX6_image 14 = .ok (.getfield 43, 3) := by decide +kernel
theorem dX6_image_17 : decode cX6_image 17 = .ok (.iload_n 1, 1) := by decide +kernel
theorem dX6_image_18 : decode cX6_image 18 = .ok (.aaload, 1) := by decide +kernel
theorem dX6_image_19 : decode cX6_image 19 = .ok (.goto 4, 3) := by decide +kernel
theorem dX6_image_22 : decode cX6_image 22 = .ok (.aconst_null, 1) := by decide +kernel
theorem dX6_image_23 : decode cX6_image 23 = .ok (.areturn, 1) := by decide +kernel
theorem dX6_hoursRefused_0 : decode cX6_hoursRefused 0 = .ok (.iload_n 1, 1) := by decide +kernel
theorem dX6_hoursRefused_1 : decode cX6_hoursRefused 1 = .ok (.iconst 1, 1) := by decide +kernel
theorem dX6_hoursRefused_2 : decode cX6_hoursRefused 2 = .ok (.if_icmp .lt 9, 3) := by decide +kernel
theorem dX6_hoursRefused_5 : decode cX6_hoursRefused 5 = .ok (.iload_n 1, 1) := by decide +kernel
theorem dX6_hoursRefused_6 : decode cX6_hoursRefused 6 = .ok (.bipush 60, 2) := by decide +kernel
theorem dX6_hoursRefused_8 : decode cX6_hoursRefused 8 = .ok (.if_icmp .le 6, 3) := by decide +kernel
theorem dX6_hoursRefused_11 : decode cX6_hoursRefused 11 = .ok (.ldc 69, 2) := by decide +kernel
theorem dX6_hoursRefused_13 : decode cX6_hoursRefused 13 = .ok (.ireturn, 1) := by decide +kernel
theorem dX6_hoursRefused_14 : decode cX6_hoursRefused 14 = .ok (.aload_n 0, 1) := by decide +kernel
theorem dX6_hoursRefused_15 : decode cX6_hoursRefused 15 = .ok (.getfield 19, 3) := by decide +kernel
theorem dX6_hoursRefused_18 : decode cX6_hoursRefused 18 = .ok (.getfield 99, 3) := by decide +kernel
theorem dX6_hoursRefused_21 : decode cX6_hoursRefused 21 = .ok (.ifCond .ne 6, 3) := by decide +kernel
theorem dX6_hoursRefused_24 : decode cX6_hoursRefused 24 = .ok (.ldc 195, 2) := by decide +kernel
theorem dX6_hoursRefused_26 : decode cX6_hoursRefused 26 = .ok (.ireturn, 1) := by decide +kernel
theorem dX6_hoursRefused_27 : decode cX6_hoursRefused 27 = .ok (.aload_n 0, 1) := by decide +kernel
theorem dX6_hoursRefused_28 : decode cX6_hoursRefused 28 = .ok (.getfield 29, 3) := by decide +kernel
theorem dX6_hoursRefused_31 : decode cX6_hoursRefused 31 = .ok (.getfield 108, 3) := by decide +kernel
theorem dX6_hoursRefused_34 : decode cX6_hoursRefused 34 = .ok (.sipush 9000, 3) := by decide +kernel
theorem dX6_hoursRefused_37 : decode cX6_hoursRefused 37 = .ok (.if_icmp .le 8, 3) := by decide +kernel
theorem dX6_hoursRefused_40 : decode cX6_hoursRefused 40 = .ok (.ldc 74, 2) := by decide +kernel
theorem dX6_hoursRefused_42 : decode cX6_hoursRefused 42 = .ok (.goto 4, 3) := by decide +kernel
theorem dX6_hoursRefused_45 : decode cX6_hoursRefused 45 = .ok (.iconst 0, 1) := by decide +kernel
theorem dX6_hoursRefused_46 : decode cX6_hoursRefused 46 = .ok (.ireturn, 1) := by decide +kernel
theorem dX6_downOf_0 : decode cX6_downOf 0 = .ok (.iconst 0, 1) := by decide +kernel
theorem dX6_downOf_1 : decode cX6_downOf 1 = .ok (.istore_n 2, 1) := by decide +kernel
theorem dX6_downOf_2 : decode cX6_downOf 2 = .ok (.iload_n 1, 1) := by decide +kernel
theorem dX6_downOf_3 : decode cX6_downOf 3 = .ok (.istore_n 3, 1) := by decide +kernel
theorem dX6_downOf_4 : decode cX6_downOf 4 = .ok (.iconst 0, 1) := by decide +kernel
theorem dX6_downOf_5 : decode cX6_downOf 5 = .ok (.istore 4, 2) := by decide +kernel
theorem dX6_downOf_7 : decode cX6_downOf 7 = .ok (.iload 4, 2) := by decide +kernel
theorem dX6_downOf_9 : decode cX6_downOf 9 = .ok (.bipush 9, 2) := by decide +kernel
theorem dX6_downOf_11 : decode cX6_downOf 11 = .ok (.if_icmp .ge 43, 3) := by decide +kernel
theorem dX6_downOf_14 : decode cX6_downOf 14 = .ok (.iload_n 3, 1) := by decide +kernel
theorem dX6_downOf_15 : decode cX6_downOf 15 = .ok (.ifCond .eq 39, 3) := by decide +kernel
theorem dX6_downOf_18 : decode cX6_downOf 18 = .ok (.aload_n 0, 1) := by decide +kernel
theorem dX6_downOf_19 : decode cX6_downOf 19 = .ok (.getfield 19, 3) := by decide +kernel
theorem dX6_downOf_22 : decode cX6_downOf 22 = .ok (.getfield 148, 3) := by decide +kernel
theorem dX6_downOf_25 : decode cX6_downOf 25 = .ok (.iload_n 3, 1) := by decide +kernel
theorem dX6_downOf_26 : decode cX6_downOf 26 = .ok (.invokestatic 151, 3) := by decide +kernel
theorem dX6_downOf_29 : decode cX6_downOf 29 = .ok (.istore 5, 2) := by decide +kernel
theorem dX6_downOf_31 : decode cX6_downOf 31 = .ok (.iload_n 2, 1) := by decide +kernel
theorem dX6_downOf_32 : decode cX6_downOf 32 = .ok (.iconst 1, 1) := by decide +kernel
theorem dX6_downOf_33 : decode cX6_downOf 33 = .ok (.iload 5, 2) := by decide +kernel
theorem dX6_downOf_35 : decode cX6_downOf 35 = .ok (.ishl, 1) := by decide +kernel
theorem dX6_downOf_36 : decode cX6_downOf 36 = .ok (.ior, 1) := by decide +kernel
theorem dX6_downOf_37 : decode cX6_downOf 37 = .ok (.istore_n 2, 1) := by decide +kernel
theorem dX6_downOf_38 : decode cX6_downOf 38 = .ok (.aload_n 0, 1) := by decide +kernel
theorem dX6_downOf_39 : decode cX6_downOf 39 = .ok (.getfield 29, 3) := by decide +kernel
theorem dX6_downOf_42 : decode cX6_downOf 42 = .ok (.iload 5, 2) := by decide +kernel
theorem dX6_downOf_44 : decode cX6_downOf 44 = .ok (.invokevirtual 278, 3) := by decide +kernel
theorem dX6_downOf_47 : decode cX6_downOf 47 = .ok (.istore_n 3, 1) := by decide +kernel
theorem dX6_downOf_48 : decode cX6_downOf 48 = .ok (.iinc 4 1, 3) := by decide +kernel
theorem dX6_downOf_51 : decode cX6_downOf 51 = .ok (.goto (-44), 3) := by decide +kernel
theorem dX6_downOf_54 : decode cX6_downOf 54 = .ok (.iload_n 2, 1) := by decide +kernel
theorem dX6_downOf_55 : decode cX6_downOf 55 = .ok (.ireturn, 1) := by decide +kernel
theorem dX6_upOf_0 : decode cX6_upOf 0 = .ok (.iconst 0, 1) := by decide +kernel
theorem dX6_upOf_1 : decode cX6_upOf 1 = .ok (.istore_n 2, 1) := by decide +kernel
theorem dX6_upOf_2 : decode cX6_upOf 2 = .ok (.iconst 0, 1) := by decide +kernel
theorem dX6_upOf_3 : decode cX6_upOf 3 = .ok (.istore_n 3, 1) := by decide +kernel
theorem dX6_upOf_4 : decode cX6_upOf 4 = .ok (.iload_n 3, 1) := by decide +kernel
theorem dX6_upOf_5 : decode cX6_upOf 5 = .ok (.aload_n 0, 1) := by decide +kernel
theorem dX6_upOf_6 : decode cX6_upOf 6 = .ok (.getfield 19, 3) := by decide +kernel
theorem dX6_upOf_9 : decode cX6_upOf 9 = .ok (.getfield 99, 3) := by decide +kernel
theorem dX6_upOf_12 : decode cX6_upOf 12 = .ok (.if_icmp .ge 27, 3) := by decide +kernel
theorem dX6_upOf_15 : decode cX6_upOf 15 = .ok (.aload_n 0, 1) := by decide +kernel
theorem dX6_upOf_16 : decode cX6_upOf 16 = .ok (.iload_n 3, 1) := by decide +kernel
theorem dX6_upOf_17 : decode cX6_upOf 17 = .ok (.invokevirtual 217, 3) := by decide +kernel
theorem dX6_upOf_20 : decode cX6_upOf 20 = .ok (.iload_n 1, 1) := by decide +kernel
theorem dX6_upOf_21 : decode cX6_upOf 21 = .ok (.invokestatic 200, 3) := by decide +kernel
theorem dX6_upOf_24 : decode cX6_upOf 24 = .ok (.ifCond .eq 9, 3) := by decide +kernel
theorem dX6_upOf_27 : decode cX6_upOf 27 = .ok (.iload_n 2, 1) := by decide +kernel
theorem dX6_upOf_28 : decode cX6_upOf 28 = .ok (.iconst 1, 1) := by decide +kernel
theorem dX6_upOf_29 : decode cX6_upOf 29 = .ok (.iload_n 3, 1) := by decide +kernel
theorem dX6_upOf_30 : decode cX6_upOf 30 = .ok (.ishl, 1) := by decide +kernel
theorem dX6_upOf_31 : decode cX6_upOf 31 = .ok (.ior, 1) := by decide +kernel
theorem dX6_upOf_32 : decode cX6_upOf 32 = .ok (.istore_n 2, 1) := by decide +kernel
theorem dX6_upOf_33 : decode cX6_upOf 33 = .ok (.iinc 3 1, 3) := by decide +kernel
theorem dX6_upOf_36 : decode cX6_upOf 36 = .ok (.goto (-32), 3) := by decide +kernel
theorem dX6_upOf_39 : decode cX6_upOf 39 = .ok (.iload_n 2, 1) := by decide +kernel
theorem dX6_upOf_40 : decode cX6_upOf 40 = .ok (.ireturn, 1) := by decide +kernel
theorem dX6_wordAt_0 : decode cX6_wordAt 0 = .ok (.iload_n 3, 1) := by decide +kernel
theorem dX6_wordAt_1 : decode cX6_wordAt 1 = .ok (.istore 4, 2) := by decide +kernel
theorem dX6_wordAt_3 : decode cX6_wordAt 3 = .ok (.iload_n 1, 1) := by decide +kernel
theorem dX6_wordAt_4 : decode cX6_wordAt 4 = .ok (.istore 5, 2) := by decide +kernel
theorem dX6_wordAt_6 : decode cX6_wordAt 6 = .ok (.iconst 0, 1) := by decide +kernel
theorem dX6_wordAt_7 : decode cX6_wordAt 7 = .ok (.istore 6, 2) := by decide +kernel
theorem dX6_wordAt_9 : decode cX6_wordAt 9 = .ok (.iload 6, 2) := by decide +kernel
theorem dX6_wordAt_11 : decode cX6_wordAt 11 = .ok (.bipush 9, 2) := by decide +kernel
theorem dX6_wordAt_13 : decode cX6_wordAt 13 = .ok (.if_icmp .ge 65, 3) := by decide +kernel
theorem dX6_wordAt_16 : decode cX6_wordAt 16 = .ok (.iload 5, 2) := by decide +kernel
theorem dX6_wordAt_18 : decode cX6_wordAt 18 = .ok (.ifCond .eq 60, 3) := by decide +kernel
theorem dX6_wordAt_21 : decode cX6_wordAt 21 = .ok (.aload_n 0, 1) := by decide +kernel
theorem dX6_wordAt_22 : decode cX6_wordAt 22 = .ok (.getfield 19, 3) := by decide +kernel
theorem dX6_wordAt_25 : decode cX6_wordAt 25 = .ok (.getfield 148, 3) := by decide +kernel
theorem dX6_wordAt_28 : decode cX6_wordAt 28 = .ok (.iload 5, 2) := by decide +kernel
theorem dX6_wordAt_30 : decode cX6_wordAt 30 = .ok (.invokestatic 151, 3) := by decide +kernel
theorem dX6_wordAt_33 : decode cX6_wordAt 33 = .ok (.istore 7, 2) := by decide +kernel
theorem dX6_wordAt_35 : decode cX6_wordAt 35 = .ok (.aload_n 0, 1) := by decide +kernel
theorem dX6_wordAt_36 : decode cX6_wordAt 36 = .ok (.getfield 29, 3) := by decide +kernel
theorem dX6_wordAt_39 : decode cX6_wordAt 39 = .ok (.aload_n 0, 1) := by decide +kernel
theorem dX6_wordAt_40 : decode cX6_wordAt 40 = .ok (.getfield 19, 3) := by decide +kernel
theorem dX6_wordAt_43 : decode cX6_wordAt 43 = .ok (.iload 5, 2) := by decide +kernel
theorem dX6_wordAt_45 : decode cX6_wordAt 45 = .ok (.iload 4, 2) := by decide +kernel
theorem dX6_wordAt_47 : decode cX6_wordAt 47 = .ok (.invokevirtual 281, 3) := by decide +kernel
theorem dX6_wordAt_50 : decode cX6_wordAt 50 = .ok (.istore 4, 2) := by decide +kernel
theorem dX6_wordAt_52 : decode cX6_wordAt 52 = .ok (.iload 7, 2) := by decide +kernel
theorem dX6_wordAt_54 : decode cX6_wordAt 54 = .ok (.iload_n 2, 1) := by decide +kernel
theorem dX6_wordAt_55 : decode cX6_wordAt 55 = .ok (.if_icmp .ne 6, 3) := by decide +kernel
theorem dX6_wordAt_58 : decode cX6_wordAt 58 = .ok (.iload 4, 2) := by decide +kernel
theorem dX6_wordAt_60 : decode cX6_wordAt 60 = .ok (.ireturn, 1) := by decide +kernel
theorem dX6_wordAt_61 : decode cX6_wordAt 61 = .ok (.aload_n 0, 1) := by decide +kernel
theorem dX6_wordAt_62 : decode cX6_wordAt 62 = .ok (.getfield 29, 3) := by decide +kernel
theorem dX6_wordAt_65 : decode cX6_wordAt 65 = .ok (.iload 7, 2) := by decide +kernel
theorem dX6_wordAt_67 : decode cX6_wordAt 67 = .ok (.invokevirtual 278, 3) := by decide +kernel
theorem dX6_wordAt_70 : decode cX6_wordAt 70 = .ok (.istore 5, 2) := by decide +kernel
theorem dX6_wordAt_72 : decode cX6_wordAt 72 = .ok (.iinc 6 1, 3) := by decide +kernel
theorem dX6_wordAt_75 : decode cX6_wordAt 75 = .ok (.goto (-66), 3) := by decide +kernel
theorem dX6_wordAt_78 : decode cX6_wordAt 78 = .ok (.iconst (-1), 1) := by decide +kernel
theorem dX6_wordAt_79 : decode cX6_wordAt 79 = .ok (.ireturn, 1) := by decide +kernel
theorem dX6_hoursTo_0 : decode cX6_hoursTo 0 = .ok (.aload_n 0, 1) := by decide +kernel
theorem dX6_hoursTo_1 : decode cX6_hoursTo 1 = .ok (.getfield 29, 3) := by decide +kernel
theorem dX6_hoursTo_4 : decode cX6_hoursTo 4 = .ok (.getfield 111, 3) := by decide +kernel
theorem dX6_hoursTo_7 : decode cX6_hoursTo 7 = .ok (.istore_n 3, 1) := by decide +kernel
theorem dX6_hoursTo_8 : decode cX6_hoursTo 8 = .ok (.iload_n 3, 1) := by decide +kernel
theorem dX6_hoursTo_9 : decode cX6_hoursTo 9 = .ok (.iconst 1, 1) := by decide +kernel
theorem dX6_hoursTo_10 : decode cX6_hoursTo 10 = .ok (.if_icmp .ge 5, 3) := by decide +kernel
theorem dX6_hoursTo_13 : decode cX6_hoursTo 13 = .ok (.iconst (-1), 1) := by decide +kernel
theorem dX6_hoursTo_14 : decode cX6_hoursTo 14 = .ok (.ireturn, 1) := by decide +kernel
theorem dX6_hoursTo_15 : decode cX6_hoursTo 15 = .ok (.iconst 0, 1) := by decide +kernel
theorem dX6_hoursTo_16 : decode cX6_hoursTo 16 = .ok (.istore 4, 2) := by decide +kernel
theorem dX6_hoursTo_18 : decode cX6_hoursTo 18 = .ok (.iload_n 1, 1) := by decide +kernel
theorem dX6_hoursTo_19 : decode cX6_hoursTo 19 = .ok (.istore 5, 2) := by decide +kernel
theorem dX6_hoursTo_21 : decode cX6_hoursTo 21 = .ok (.iconst 0, 1) := by decide +kernel
theorem dX6_hoursTo_22 : decode cX6_hoursTo 22 = .ok (.istore 6, 2) := by decide +kernel
theorem dX6_hoursTo_24 : decode cX6_hoursTo 24 = .ok (.iload 6, 2) := by decide +kernel
theorem dX6_hoursTo_26 : decode cX6_hoursTo 26 = .ok (.bipush 9, 2) := by decide +kernel
theorem dX6_hoursTo_28 : decode cX6_hoursTo 28 = .ok (.if_icmp .ge 68, 3) := by decide +kernel
theorem dX6_hoursTo_31 : decode cX6_hoursTo 31 = .ok (.iload 5, 2) := by decide +kernel
theorem dX6_hoursTo_33 : decode cX6_hoursTo 33 = .ok (.ifCond .eq 63, 3) := by decide +kernel
theorem dX6_hoursTo_36 : decode cX6_hoursTo 36 = .ok (.aload_n 0, 1) := by decide +kernel
theorem dX6_hoursTo_37 : decode cX6_hoursTo 37 = .ok (.getfield 19, 3) := by decide +kernel
theorem dX6_hoursTo_40 : decode cX6_hoursTo 40 = .ok (.getfield 148, 3) := by decide +kernel
theorem dX6_hoursTo_43 : decode cX6_hoursTo 43 = .ok (.iload 5, 2) := by decide +kernel
theorem dX6_hoursTo_45 : decode cX6_hoursTo 45 = .ok (.invokestatic 151, 3) := by decide +kernel
theorem dX6_hoursTo_48 : decode cX6_hoursTo 48 = .ok (.istore 7, 2) := by decide +kernel
theorem dX6_hoursTo_50 : decode cX6_hoursTo 50 = .ok (.iload 4, 2) := by decide +kernel
theorem dX6_hoursTo_52 : decode cX6_hoursTo 52 = .ok (.aload_n 0, 1) := by decide +kernel
theorem dX6_hoursTo_53 : decode cX6_hoursTo 53 = .ok (.getfield 19, 3) := by decide +kernel
theorem dX6_hoursTo_56 : decode cX6_hoursTo 56 = .ok (.iload 5, 2) := by decide +kernel
theorem dX6_hoursTo_58 : decode cX6_hoursTo 58 = .ok (.invokevirtual 285, 3) := by decide +kernel
theorem dX6_hoursTo_61 : decode cX6_hoursTo 61 = .ok (.iload_n 3, 1) := by decide +kernel
theorem dX6_hoursTo_62 : decode cX6_hoursTo 62 = .ok (.iadd, 1) := by decide +kernel
theorem dX6_hoursTo_63 : decode cX6_hoursTo 63 = .ok (.iconst 1, 1) := by decide +kernel
theorem dX6_hoursTo_64 : decode cX6_hoursTo 64 = .ok (.isub, 1) := by decide +kernel
theorem dX6_hoursTo_65 : decode cX6_hoursTo 65 = .ok (.iload_n 3, 1) := by decide +kernel
theorem dX6_hoursTo_66 : decode cX6_hoursTo 66 = .ok (.idiv, 1) := by decide +kernel
theorem dX6_hoursTo_67 : decode cX6_hoursTo 67 = .ok (.iadd, 1) := by decide +kernel
theorem dX6_hoursTo_68 : decode cX6_hoursTo 68 = .ok (.istore 4, 2) := by decide +kernel
theorem dX6_hoursTo_70 : decode cX6_hoursTo 70 = .ok (.iload 7, 2) := by decide +kernel
theorem dX6_hoursTo_72 : decode cX6_hoursTo 72 = .ok (.iload_n 2, 1) := by decide +kernel
theorem dX6_hoursTo_73 : decode cX6_hoursTo 73 = .ok (.if_icmp .ne 6, 3) := by decide +kernel
theorem dX6_hoursTo_76 : decode cX6_hoursTo 76 = .ok (.iload 4, 2) := by decide +kernel
theorem dX6_hoursTo_78 : decode cX6_hoursTo 78 = .ok (.ireturn, 1) := by decide +kernel
theorem dX6_hoursTo_79 : decode cX6_hoursTo 79 = .ok (.aload_n 0, 1) := by decide +kernel
theorem dX6_hoursTo_80 : decode cX6_hoursTo 80 = .ok (.getfield 29, 3) := by decide +kernel
theorem dX6_hoursTo_83 : decode cX6_hoursTo 83 = .ok (.iload 7, 2) := by decide +kernel
theorem dX6_hoursTo_85 : decode cX6_hoursTo 85 = .ok (.invokevirtual 278, 3) := by decide +kernel
theorem dX6_hoursTo_88 : decode cX6_hoursTo 88 = .ok (.istore 5, 2) := by decide +kernel
theorem dX6_hoursTo_90 : decode cX6_hoursTo 90 = .ok (.iinc 6 1, 3) := by decide +kernel
theorem dX6_hoursTo_93 : decode cX6_hoursTo 93 = .ok (.goto (-69), 3) := by decide +kernel
theorem dX6_hoursTo_96 : decode cX6_hoursTo 96 = .ok (.iconst (-1), 1) := by decide +kernel
theorem dX6_hoursTo_97 : decode cX6_hoursTo 97 = .ok (.ireturn, 1) := by decide +kernel
theorem dX6_wordsFor_0 : decode cX6_wordsFor 0 = .ok (.iconst 0, 1) := by decide +kernel
theorem dX6_wordsFor_1 : decode cX6_wordsFor 1 = .ok (.istore 4, 2) := by decide +kernel
theorem dX6_wordsFor_3 : decode cX6_wordsFor 3 = .ok (.iconst 0, 1) := by decide +kernel
theorem dX6_wordsFor_4 : decode cX6_wordsFor 4 = .ok (.istore 5, 2) := by decide +kernel
theorem dX6_wordsFor_6 : decode cX6_wordsFor 6 = .ok (.iload 5, 2) := by decide +kernel
theorem dX6_wordsFor_8 : decode cX6_wordsFor 8 = .ok (.aload_n 0, 1) := by decide +kernel
theorem dX6_wordsFor_9 : decode cX6_wordsFor 9 = .ok (.getfield 19, 3) := by decide +kernel
theorem dX6_wordsFor_12 : decode cX6_wordsFor 12 = .ok (.getfield 105, 3) := by decide +kernel
theorem dX6_wordsFor_15 : decode cX6_wordsFor 15 = .ok (.if_icmp .ge 30, 3) := by decide +kernel
theorem dX6_wordsFor_18 : decode cX6_wordsFor 18 = .ok (.aload_n 0, 1) := by decide +kernel
theorem dX6_wordsFor_19 : decode cX6_wordsFor 19 = .ok (.iload_n 1, 1) := by decide +kernel
theorem dX6_wordsFor_20 : decode cX6_wordsFor 20 = .ok (.iload_n 2, 1) := by decide +kernel
theorem dX6_wordsFor_21 : decode cX6_wordsFor 21 = .ok (.iload 5, 2) := by decide +kernel
theorem dX6_wordsFor_23 : decode cX6_wordsFor 23 = .ok (.invokevirtual 223, 3) := by decide +kernel
theorem dX6_wordsFor_26 : decode cX6_wordsFor 26 = .ok (.iload_n 3, 1) := by decide +kernel
theorem dX6_wordsFor_27 : decode cX6_wordsFor 27 = .ok (.if_icmp .ne 12, 3) := by decide +kernel
theorem dX6_wordsFor_30 : decode cX6_wordsFor 30 = .ok (.iload 4, 2) := by decide +kernel
theorem dX6_wordsFor_32 : decode cX6_wordsFor 32 = .ok (.iconst 1, 1) := by decide +kernel
theorem dX6_wordsFor_33 : decode cX6_wordsFor 33 = .ok (.iload 5, 2) := by decide +kernel
theorem dX6_wordsFor_35 : decode cX6_wordsFor 35 = .ok (.ishl, 1) := by decide +kernel
theorem dX6_wordsFor_36 : decode cX6_wordsFor 36 = .ok (.ior, 1) := by decide +kernel
theorem dX6_wordsFor_37 : decode cX6_wordsFor 37 = .ok (.istore 4, 2) := by decide +kernel
theorem dX6_wordsFor_39 : decode cX6_wordsFor 39 = .ok (.iinc 5 1, 3) := by decide +kernel
theorem dX6_wordsFor_42 : decode cX6_wordsFor 42 = .ok (.goto (-36), 3) := by decide +kernel
theorem dX6_wordsFor_45 : decode cX6_wordsFor 45 = .ok (.iload 4, 2) := by decide +kernel
theorem dX6_wordsFor_47 : decode cX6_wordsFor 47 = .ok (.ireturn, 1) := by decide +kernel
theorem dX6_fewestDams_0 : decode cX6_fewestDams 0 = .ok (.iconst (-1), 1) := by decide +kernel
theorem dX6_fewestDams_1 : decode cX6_fewestDams 1 = .ok (.istore_n 3, 1) := by decide +kernel
theorem dX6_fewestDams_2 : decode cX6_fewestDams 2 = .ok (.iload_n 1, 1) := by decide +kernel
theorem dX6_fewestDams_3 : decode cX6_fewestDams 3 = .ok (.istore 4, 2) := by decide +kernel
theorem dX6_fewestDams_5 : decode cX6_fewestDams 5 = .ok (.iconst 0, 1) := by decide +kernel
theorem dX6_fewestDams_6 : decode cX6_fewestDams 6 = .ok (.istore 5, 2) := by decide +kernel
theorem dX6_fewestDams_8 : decode cX6_fewestDams 8 = .ok (.iload 5, 2) := by decide +kernel
theorem dX6_fewestDams_10 : decode cX6_fewestDams 10 = .ok (.bipush 9, 2) := by decide +kernel
theorem dX6_fewestDams_12 : decode cX6_fewestDams 12 = .ok (.if_icmp .ge 55, 3) := by decide +kernel
theorem dX6_fewestDams_15 : decode cX6_fewestDams 15 = .ok (.iload 4, 2) := by decide +kernel
theorem dX6_fewestDams_17 : decode cX6_fewestDams 17 = .ok (.ifCond .eq 50, 3) := by decide +kernel
theorem dX6_fewestDams_20 : decode cX6_fewestDams 20 = .ok (.aload_n 0, 1) := by decide +kernel
theorem dX6_fewestDams_21 : decode cX6_fewestDams 21 = .ok (.getfield 19, 3) := by decide +kernel
theorem dX6_fewestDams_24 : decode cX6_fewestDams 24 = .ok (.getfield 148, 3) := by decide +kernel
theorem dX6_fewestDams_27 : decode cX6_fewestDams 27 = .ok (.iload 4, 2) := by decide +kernel
theorem dX6_fewestDams_29 : decode cX6_fewestDams 29 = .ok (.invokestatic 151, 3) := by decide +kernel
theorem dX6_fewestDams_32 : decode cX6_fewestDams 32 = .ok (.istore 6, 2) := by decide +kernel
theorem dX6_fewestDams_34 : decode cX6_fewestDams 34 = .ok (.iload_n 2, 1) := by decide +kernel
theorem dX6_fewestDams_35 : decode cX6_fewestDams 35 = .ok (.iload 6, 2) := by decide +kernel
theorem dX6_fewestDams_37 : decode cX6_fewestDams 37 = .ok (.invokestatic 200, 3) := by decide +kernel
theorem dX6_fewestDams_40 : decode cX6_fewestDams 40 = .ok (.ifCond .eq 5, 3) := by decide +kernel
theorem dX6_fewestDams_43 : decode cX6_fewestDams 43 = .ok (.iload_n 3, 1) := by decide +kernel
theorem dX6_fewestDams_44 : decode cX6_fewestDams 44 = .ok (.ireturn, 1) := by decide +kernel
theorem dX6_fewestDams_45 : decode cX6_fewestDams 45 = .ok (.iconst 1, 1) := by decide +kernel
theorem dX6_fewestDams_46 : decode cX6_fewestDams 46 = .ok (.iload 6, 2) := by decide +kernel
theorem dX6_fewestDams_48 : decode cX6_fewestDams 48 = .ok (.ishl, 1) := by decide +kernel
theorem dX6_fewestDams_49 : decode cX6_fewestDams 49 = .ok (.istore_n 3, 1) := by decide +kernel
theorem dX6_fewestDams_50 : decode cX6_fewestDams 50 = .ok (.aload_n 0, 1) := by decide +kernel
theorem dX6_fewestDams_51 : decode cX6_fewestDams 51 = .ok (.getfield 29, 3) := by decide +kernel
theorem dX6_fewestDams_54 : decode cX6_fewestDams 54 = .ok (.iload 6, 2) := by decide +kernel
theorem dX6_fewestDams_56 : decode cX6_fewestDams 56 = .ok (.invokevirtual 278, 3) := by decide +kernel
theorem dX6_fewestDams_59 : decode cX6_fewestDams 59 = .ok (.istore 4, 2) := by decide +kernel
theorem dX6_fewestDams_61 : decode cX6_fewestDams 61 = .ok (.iinc 5 1, 3) := by decide +kernel
theorem dX6_fewestDams_64 : decode cX6_fewestDams 64 = .ok (.goto (-56), 3) := by decide +kernel
theorem dX6_fewestDams_67 : decode cX6_fewestDams 67 = .ok (.iconst 0, 1) := by decide +kernel
theorem dX6_fewestDams_68 : decode cX6_fewestDams 68 = .ok (.ireturn, 1) := by decide +kernel
theorem dX6_loudest_0 : decode cX6_loudest 0 = .ok (.iconst 0, 1) := by decide +kernel
theorem dX6_loudest_1 : decode cX6_loudest 1 = .ok (.istore_n 1, 1) := by decide +kernel
theorem dX6_loudest_2 : decode cX6_loudest 2 = .ok (.iconst (-1), 1) := by decide +kernel
theorem dX6_loudest_3 : decode cX6_loudest 3 = .ok (.istore_n 2, 1) := by decide +kernel
theorem dX6_loudest_4 : decode cX6_loudest 4 = .ok (.iconst 0, 1) := by decide +kernel
theorem dX6_loudest_5 : decode cX6_loudest 5 = .ok (.istore_n 3, 1) := by decide +kernel
theorem dX6_loudest_6 : decode cX6_loudest 6 = .ok (.iload_n 3, 1) := by decide +kernel
theorem dX6_loudest_7 : decode cX6_loudest 7 = .ok (.aload_n 0, 1) := by decide +kernel
theorem dX6_loudest_8 : decode cX6_loudest 8 = .ok (.getfield 19, 3) := by decide +kernel
theorem dX6_loudest_11 : decode cX6_loudest 11 = .ok (.getfield 99, 3) := by decide +kernel
theorem dX6_loudest_14 : decode cX6_loudest 14 = .ok (.if_icmp .ge 33, 3) := by decide +kernel
theorem dX6_loudest_17 : decode cX6_loudest 17 = .ok (.aload_n 0, 1) := by decide +kernel
theorem dX6_loudest_18 : decode cX6_loudest 18 = .ok (.getfield 29, 3) := by decide +kernel
theorem dX6_loudest_21 : decode cX6_loudest 21 = .ok (.getfield 167, 3) := by decide +kernel
theorem dX6_loudest_24 : decode cX6_loudest 24 = .ok (.iload_n 3, 1) := by decide +kernel
theorem dX6_loudest_25 : decode cX6_loudest 25 = .ok (.invokestatic 151, 3) := by decide +kernel
theorem dX6_loudest_28 : decode cX6_loudest 28 = .ok (.istore 4, 2) := by decide +kernel
theorem dX6_loudest_30 : decode cX6_loudest 30 = .ok (.iload 4, 2) := by decide +kernel
theorem dX6_loudest_32 : decode cX6_loudest 32 = .ok (.iload_n 1, 1) := by decide +kernel
theorem dX6_loudest_33 : decode cX6_loudest 33 = .ok (.if_icmp .le 8, 3) := by decide +kernel
theorem dX6_loudest_36 : decode cX6_loudest 36 = .ok (.iload 4, 2) := by decide +kernel
theorem dX6_loudest_38 : decode cX6_loudest 38 = .ok (.istore_n 1, 1) := by decide +kernel
theorem dX6_loudest_39 : decode cX6_loudest 39 = .ok (.iload_n 3, 1) := by decide +kernel
theorem dX6_loudest_40 : decode cX6_loudest 40 = .ok (.istore_n 2, 1) := by decide +kernel
theorem dX6_loudest_41 : decode cX6_loudest 41 = .ok (.iinc 3 1, 3) := by decide +kernel
theorem dX6_loudest_44 : decode cX6_loudest 44 = .ok (.goto (-38), 3) := by decide +kernel
theorem dX6_loudest_47 : decode cX6_loudest 47 = .ok (.iload_n 2, 1) := by decide +kernel
theorem dX6_loudest_48 : decode cX6_loudest 48 = .ok (.ireturn, 1) := by decide +kernel
theorem dX6_bottom_0 : decode cX6_bottom 0 = .ok (.iconst (-1), 1) := by decide +kernel
theorem dX6_bottom_1 : decode cX6_bottom 1 = .ok (.istore_n 1, 1) := by decide +kernel
theorem dX6_bottom_2 : decode cX6_bottom 2 = .ok (.iconst (-1), 1) := by decide +kernel
theorem dX6_bottom_3 : decode cX6_bottom 3 = .ok (.istore_n 2, 1) := by decide +kernel
theorem dX6_bottom_4 : decode cX6_bottom 4 = .ok (.iconst 1, 1) := by decide +kernel
theorem dX6_bottom_5 : decode cX6_bottom 5 = .ok (.istore_n 3, 1) := by decide +kernel
theorem dX6_bottom_6 : decode cX6_bottom 6 = .ok (.iload_n 3, 1) := by decide +kernel
theorem dX6_bottom_7 : decode cX6_bottom 7 = .ok (.aload_n 0, 1) := by decide +kernel
theorem dX6_bottom_8 : decode cX6_bottom 8 = .ok (.getfield 19, 3) := by decide +kernel
theorem dX6_bottom_11 : decode cX6_bottom 11 = .ok (.getfield 99, 3) := by decide +kernel
theorem dX6_bottom_14 : decode cX6_bottom 14 = .ok (.if_icmp .ge 30, 3) := by decide +kernel
theorem dX6_bottom_17 : decode cX6_bottom 17 = .ok (.aload_n 0, 1) := by decide +kernel
theorem dX6_bottom_18 : decode cX6_bottom 18 = .ok (.iload_n 3, 1) := by decide +kernel
theorem dX6_bottom_19 : decode cX6_bottom 19 = .ok (.invokevirtual 220, 3) := by decide +kernel
theorem dX6_bottom_22 : decode cX6_bottom 22 = .ok (.invokestatic 233, 3) := by decide +kernel
theorem dX6_bottom_25 : decode cX6_bottom 25 = .ok (.istore 4, 2) := by decide +kernel
theorem dX6_bottom_27 : decode cX6_bottom 27 = .ok (.iload 4, 2) := by decide +kernel
theorem dX6_bottom_29 : decode cX6_bottom 29 = .ok (.iload_n 1, 1) := by decide +kernel
theorem dX6_bottom_30 : decode cX6_bottom 30 = .ok (.if_icmp .le 8, 3) := by decide +kernel
theorem dX6_bottom_33 : decode cX6_bottom 33 = .ok (.iload 4, 2) := by decide +kernel
theorem dX6_bottom_35 : decode cX6_bottom 35 = .ok (.istore_n 1, 1) := by decide +kernel
theorem dX6_bottom_36 : decode cX6_bottom 36 = .ok (.iload_n 3, 1) := by decide +kernel
theorem dX6_bottom_37 : decode cX6_bottom 37 = .ok (.istore_n 2, 1) := by decide +kernel
theorem dX6_bottom_38 : decode cX6_bottom 38 = .ok (.iinc 3 1, 3) := by decide +kernel
theorem dX6_bottom_41 : decode cX6_bottom 41 = .ok (.goto (-35), 3) := by decide +kernel
theorem dX6_bottom_44 : decode cX6_bottom 44 = .ok (.iload_n 2, 1) := by decide +kernel
theorem dX6_bottom_45 : decode cX6_bottom 45 = .ok (.ireturn, 1) := by decide +kernel
theorem dX6_even_0 : decode cX6_even 0 = .ok (.iconst 0, 1) := by decide +kernel
theorem dX6_even_1 : decode cX6_even 1 = .ok (.istore_n 1, 1) := by decide +kernel
theorem dX6_even_2 : decode cX6_even 2 = .ok (.iconst 0, 1) := by decide +kernel
theorem dX6_even_3 : decode cX6_even 3 = .ok (.istore_n 2, 1) := by decide +kernel
theorem dX6_even_4 : decode cX6_even 4 = .ok (.iload_n 2, 1) := by decide +kernel
theorem dX6_even_5 : decode cX6_even 5 = .ok (.aload_n 0, 1) := by decide +kernel
theorem dX6_even_6 : decode cX6_even 6 = .ok (.getfield 19, 3) := by decide +kernel
theorem dX6_even_9 : decode cX6_even 9 = .ok (.getfield 99, 3) := by decide +kernel
theorem dX6_even_12 : decode cX6_even 12 = .ok (.if_icmp .ge 23, 3) := by decide +kernel
theorem dX6_even_15 : decode cX6_even 15 = .ok (.aload_n 0, 1) := by decide +kernel
theorem dX6_even_16 : decode cX6_even 16 = .ok (.iload_n 2, 1) := by decide +kernel
theorem dX6_even_17 : decode cX6_even 17 = .ok (.invokevirtual 288, 3) := by decide +kernel
theorem dX6_even_20 : decode cX6_even 20 = .ok (.ifCond .eq 9, 3) := by decide +kernel
theorem dX6_even_23 : decode cX6_even 23 = .ok (.iload_n 1, 1) := by decide +kernel
theorem dX6_even_24 : decode cX6_even 24 = .ok (.iconst 1, 1) := by decide +kernel
theorem dX6_even_25 : decode cX6_even 25 = .ok (.iload_n 2, 1) := by decide +kernel
theorem dX6_even_26 : decode cX6_even 26 = .ok (.ishl, 1) := by decide +kernel
theorem dX6_even_27 : decode cX6_even 27 = .ok (.ior, 1) := by decide +kernel
theorem dX6_even_28 : decode cX6_even 28 = .ok (.istore_n 1, 1) := by decide +kernel
theorem dX6_even_29 : decode cX6_even 29 = .ok (.iinc 2 1, 3) := by decide +kernel
theorem dX6_even_32 : decode cX6_even 32 = .ok (.goto (-28), 3) := by decide +kernel
theorem dX6_even_35 : decode cX6_even 35 = .ok (.iload_n 1, 1) := by decide +kernel
theorem dX6_even_36 : decode cX6_even 36 = .ok (.ireturn, 1) := by decide +kernel
theorem dX6_leavesAllAlone_0 : decode cX6_leavesAllAlone 0 = .ok (.iconst 0, 1) := by decide +kernel
theorem dX6_leavesAllAlone_1 : decode cX6_leavesAllAlone 1 = .ok (.istore_n 2, 1) := by decide +kernel
theorem dX6_leavesAllAlone_2 : decode cX6_leavesAllAlone 2 = .ok (.iload_n 2, 1) := by decide +kernel
theorem dX6_leavesAllAlone_3 : decode cX6_leavesAllAlone 3 = .ok (.aload_n 0, 1) := by decide +kernel
theorem dX6_leavesAllAlone_4 : decode cX6_leavesAllAlone 4 = .ok (.getfield 19, 3) := by decide +kernel
theorem dX6_leavesAllAlone_7 : decode cX6_leavesAllAlone 7 = .ok (.getfield 105, 3) := by decide +kernel
theorem dX6_leavesAllAlone_10 : decode cX6_leavesAllAlone 10 = .ok (.if_icmp .ge 22, 3) := by decide +kernel
theorem dX6_leavesAllAlone_13 : decode cX6_leavesAllAlone 13 = .ok (.aload_n 0, 1) := by decide +kernel
theorem dX6_leavesAllAlone_14 : decode cX6_leavesAllAlone 14 = .ok (.iload_n 1, 1) := by decide +kernel
theorem dX6_leavesAllAlone_15 : decode cX6_leavesAllAlone 15 = .ok (.iconst 0, 1) := by decide +kernel
theorem dX6_leavesAllAlone_16 : decode cX6_leavesAllAlone 16 = .ok (.iload_n 2, 1) := by decide +kernel
theorem dX6_leavesAllAlone_17 : decode cX6_leavesAllAlone 17 = .ok (.invokevirtual 223, 3) := by decide +kernel
theorem dX6_leavesAllAlone_20 : decode cX6_leavesAllAlone 20 = .ok (.iload_n 2, 1) := by decide +kernel
theorem dX6_leavesAllAlone_21 : decode cX6_leavesAllAlone 21 = .ok (.if_icmp .eq 5, 3) := by decide +kernel
theorem dX6_leavesAllAlone_24 : decode cX6_leavesAllAlone 24 = .ok (.iconst 0, 1) := by decide +kernel
theorem dX6_leavesAllAlone_25 : decode cX6_leavesAllAlone 25 = .ok (.ireturn, 1) := by decide +kernel
theorem dX6_leavesAllAlone_26 : decode cX6_leavesAllAlone 26 = .ok (.iinc 2 1, 3) := by decide +kernel
theorem dX6_leavesAllAlone_29 : decode cX6_leavesAllAlone 29 = .ok (.goto (-27), 3) := by decide +kernel
theorem dX6_leavesAllAlone_32 : decode cX6_leavesAllAlone 32 = .ok (.iconst 1, 1) := by decide +kernel
theorem dX6_leavesAllAlone_33 : decode cX6_leavesAllAlone 33 = .ok (.ireturn, 1) := by decide +kernel
theorem dX6_longest_0 : decode cX6_longest 0 = .ok (.iconst (-1), 1) := by decide +kernel
theorem dX6_longest_1 : decode cX6_longest 1 = .ok (.istore_n 1, 1) := by decide +kernel
theorem dX6_longest_2 : decode cX6_longest 2 = .ok (.iconst (-1), 1) := by decide +kernel
theorem dX6_longest_3 : decode cX6_longest 3 = .ok (.istore_n 2, 1) := by decide +kernel
theorem dX6_longest_4 : decode cX6_longest 4 = .ok (.iconst 0, 1) := by decide +kernel
theorem dX6_longest_5 : decode cX6_longest 5 = .ok (.istore_n 3, 1) := by decide +kernel
theorem dX6_longest_6 : decode cX6_longest 6 = .ok (.iload_n 3, 1) := by decide +kernel
theorem dX6_longest_7 : decode cX6_longest 7 = .ok (.aload_n 0, 1) := by decide +kernel
theorem dX6_longest_8 : decode cX6_longest 8 = .ok (.getfield 19, 3) := by decide +kernel
theorem dX6_longest_11 : decode cX6_longest 11 = .ok (.getfield 99, 3) := by decide +kernel
theorem dX6_longest_14 : decode cX6_longest 14 = .ok (.if_icmp .ge 28, 3) := by decide +kernel
theorem dX6_longest_17 : decode cX6_longest 17 = .ok (.aload_n 0, 1) := by decide +kernel
theorem dX6_longest_18 : decode cX6_longest 18 = .ok (.iload_n 3, 1) := by decide +kernel
theorem dX6_longest_19 : decode cX6_longest 19 = .ok (.iconst 0, 1) := by decide +kernel
theorem dX6_longest_20 : decode cX6_longest 20 = .ok (.invokevirtual 227, 3) := by decide +kernel
theorem dX6_longest_23 : decode cX6_longest 23 = .ok (.istore 4, 2) := by decide +kernel
theorem dX6_longest_25 : decode cX6_longest 25 = .ok (.iload 4, 2) := by decide +kernel
theorem dX6_longest_27 : decode cX6_longest 27 = .ok (.iload_n 1, 1) := by decide +kernel
theorem dX6_longest_28 : decode cX6_longest 28 = .ok (.if_icmp .le 8, 3) := by decide +kernel
theorem dX6_longest_31 : decode cX6_longest 31 = .ok (.iload 4, 2) := by decide +kernel
theorem dX6_longest_33 : decode cX6_longest 33 = .ok (.istore_n 1, 1) := by decide +kernel
theorem dX6_longest_34 : decode cX6_longest 34 = .ok (.iload_n 3, 1) := by decide +kernel
theorem dX6_longest_35 : decode cX6_longest 35 = .ok (.istore_n 2, 1) := by decide +kernel
theorem dX6_longest_36 : decode cX6_longest 36 = .ok (.iinc 3 1, 3) := by decide +kernel
theorem dX6_longest_39 : decode cX6_longest 39 = .ok (.goto (-33), 3) := by decide +kernel
theorem dX6_longest_42 : decode cX6_longest 42 = .ok (.iload_n 2, 1) := by decide +kernel
theorem dX6_longest_43 : decode cX6_longest 43 = .ok (.ireturn, 1) := by decide +kernel
theorem dX6_draw_0 : decode cX6_draw 0 = .ok (.aload_n 0, 1) := by decide +kernel
theorem dX6_draw_1 : decode cX6_draw 1 = .ok (.aload_n 0, 1) := by decide +kernel
theorem dX6_draw_2 : decode cX6_draw 2 = .ok (.getfield 271, 3) := by decide +kernel
theorem dX6_draw_5 : decode cX6_draw 5 = .ok (.i2l, 1) := by decide +kernel
theorem dX6_draw_6 : decode cX6_draw 6 = .ok (.ldc2_w 291, 3) := by decide +kernel
theorem dX6_draw_9 : decode cX6_draw 9 = .ok (.lmul, 1) := by decide +kernel
theorem dX6_draw_10 : decode cX6_draw 10 = .ok (.ldc2_w 293, 3) := by decide +kernel
theorem dX6_draw_13 : decode cX6_draw 13 = .ok (.ladd, 1) := by decide +kernel
theorem dX6_draw_14 : decode cX6_draw 14 = .ok (.ldc2_w 295, 3) := by decide +kernel
theorem dX6_draw_17 : decode cX6_draw 17 = .ok (.land, 1) := by decide +kernel
theorem dX6_draw_18 : decode cX6_draw 18 = .ok (.l2i, 1) := by decide +kernel
theorem dX6_draw_19 : decode cX6_draw 19 = .ok (.putfield 271, 3) := by decide +kernel
theorem dX6_draw_22 : decode cX6_draw 22 = .ok (.iload_n 1, 1) := by decide +kernel
theorem dX6_draw_23 : decode cX6_draw 23 = .ok (.ifCond .le 16, 3) := by decide +kernel
theorem dX6_draw_26 : decode cX6_draw 26 = .ok (.aload_n 0, 1) := by decide +kernel
theorem dX6_draw_27 : decode cX6_draw 27 = .ok (.getfield 271, 3) := by decide +kernel
theorem dX6_draw_30 : decode cX6_draw 30 = .ok (.ldc_w 297, 3) := by decide +kernel
theorem dX6_draw_33 : decode cX6_draw 33 = .ok (.idiv, 1) := by decide +kernel
theorem dX6_draw_34 : decode cX6_draw 34 = .ok (.iload_n 1, 1) := by decide +kernel
theorem dX6_draw_35 : decode cX6_draw 35 = .ok (.irem, 1) := by decide +kernel
theorem dX6_draw_36 : decode cX6_draw 36 = .ok (.goto 4, 3) := by decide +kernel
theorem dX6_draw_39 : decode cX6_draw 39 = .ok (.iconst 0, 1) := by decide +kernel
theorem dX6_draw_40 : decode cX6_draw 40 = .ok (.ireturn, 1) := by decide +kernel
theorem dX6_befall_0 : decode cX6_befall 0 = .ok (.aload_n 0, 1) := by decide +kernel
theorem dX6_befall_1 : decode cX6_befall 1 = .ok (.iconst 5, 1) := by decide +kernel
theorem dX6_befall_2 : decode cX6_befall 2 = .ok (.invokevirtual 298, 3) := by decide +kernel
theorem dX6_befall_5 : decode cX6_befall 5 = .ok (.tableswitch 75 0 2 #[27, 43, 50], 27) := by decide +kernel
theorem dX6_befall_32 : decode cX6_befall 32 = .ok (.aload_n 0, 1) := by decide +kernel
theorem dX6_befall_33 : decode cX6_befall 33 = .ok (.getfield 29, 3) := by decide +kernel
theorem dX6_befall_36 : decode cX6_befall 36 = .ok (.aload_n 0, 1) := by decide +kernel
theorem dX6_befall_37 : decode cX6_befall 37 = .ok (.bipush 10, 2) := by decide +kernel
theorem dX6_befall_39 : decode cX6_befall 39 = .ok (.invokevirtual 298, 3) := by decide +kernel
theorem dX6_befall_42 : decode cX6_befall 42 = .ok (.putfield 111, 3) := by decide +kernel
theorem dX6_befall_45 : decode cX6_befall 45 = .ok (.goto 35, 3) := by decide +kernel
theorem dX6_befall_48 : decode cX6_befall 48 = .ok (.aload_n 0, 1) := by decide +kernel
theorem dX6_befall_49 : decode cX6_befall 49 = .ok (.invokevirtual 301, 3) := by decide +kernel
theorem dX6_befall_52 : decode cX6_befall 52 = .ok (.goto 28, 3) := by decide +kernel
theorem dX6_befall_55 : decode cX6_befall 55 = .ok (.aload_n 0, 1) := by decide +kernel
theorem dX6_befall_56 : decode cX6_befall 56 = .ok (.getfield 29, 3) := by decide +kernel
theorem dX6_befall_59 : decode cX6_befall 59 = .ok (.aload_n 0, 1) := by decide +kernel
theorem dX6_befall_60 : decode cX6_befall 60 = .ok (.getfield 29, 3) := by decide +kernel
theorem dX6_befall_63 : decode cX6_befall 63 = .ok (.getfield 114, 3) := by decide +kernel
theorem dX6_befall_66 : decode cX6_befall 66 = .ok (.ifCond .ne 7, 3) := by decide +kernel
theorem dX6_befall_69 : decode cX6_befall 69 = .ok (.iconst 1, 1) := by decide +kernel
theorem dX6_befall_70 : decode cX6_befall 70 = .ok (.goto 4, 3) := by decide +kernel
theorem dX6_befall_73 : decode cX6_befall 73 = .ok (.iconst 0, 1) := by decide +kernel
theorem dX6_befall_74 : decode cX6_befall 74 = .ok (.putfield 114, 3) := by decide +kernel
theorem dX6_befall_77 : decode cX6_befall 77 = .ok (.goto 3, 3) := by decide +kernel
theorem dX6_befall_80 : decode cX6_befall 80 = .ok (.return_, 1) := by decide +kernel
theorem dX6_befallTalk_0 : decode cX6_befallTalk 0 = .ok (.aload_n 0, 1) := by decide +kernel
theorem dX6_befallTalk_1 : decode cX6_befallTalk 1 = .ok (.getfield 19, 3) := by decide +kernel
theorem dX6_befallTalk_4 : decode cX6_befallTalk 4 = .ok (.getfield 99, 3) := by decide +kernel
theorem dX6_befallTalk_7 : decode cX6_befallTalk 7 = .ok (.iconst 2, 1) := by decide +kernel
theorem dX6_befallTalk_8 : decode cX6_befallTalk 8 = .ok (.if_icmp .ge 4, 3) := by decide +kernel
theorem dX6_befallTalk_11 : decode cX6_befallTalk 11 = .ok (.return_, 1) := by decide +kernel
theorem dX6_befallTalk_12 : decode cX6_befallTalk 12 = .ok (.aload_n 0, 1) := by decide +kernel
theorem dX6_befallTalk_13 : decode cX6_befallTalk 13 = .ok (.aload_n 0, 1) := by decide +kernel
theorem dX6_befallTalk_14 : decode cX6_befallTalk 14 = .ok (.getfield 19, 3) := by decide +kernel
theorem dX6_befallTalk_17 : decode cX6_befallTalk 17 = .ok (.getfield 99, 3) := by decide +kernel
theorem dX6_befallTalk_20 : decode cX6_befallTalk 20 = .ok (.iconst 1, 1) := by decide +kernel
theorem dX6_befallTalk_21 : decode cX6_befallTalk 21 = .ok (.isub, 1) := by decide +kernel
theorem dX6_befallTalk_22 : decode cX6_befallTalk 22 = .ok (.invokevirtual 298, 3) := by decide +kernel
theorem dX6_befallTalk_25 : decode cX6_befallTalk 25 = .ok (.iconst 1, 1) := by decide +kernel
theorem dX6_befallTalk_26 : decode cX6_befallTalk 26 = .ok (.iadd, 1) := by decide +kernel
theorem dX6_befallTalk_27 : decode cX6_befallTalk 27 = .ok (.istore_n 1, 1) := by decide +kernel
theorem dX6_befallTalk_28 : decode cX6_befallTalk 28 = .ok (.aload_n 0, 1) := by decide +kernel
theorem dX6_befallTalk_29 : decode cX6_befallTalk 29 = .ok (.aload_n 0, 1) := by decide +kernel
theorem dX6_befallTalk_30 : decode cX6_befallTalk 30 = .ok (.getfield 19, 3) := by decide +kernel
theorem dX6_befallTalk_33 : decode cX6_befallTalk 33 = .ok (.getfield 105, 3) := by decide +kernel
theorem dX6_befallTalk_36 : decode cX6_befallTalk 36 = .ok (.invokevirtual 298, 3) := by decide +kernel
theorem dX6_befallTalk_39 : decode cX6_befallTalk 39 = .ok (.istore_n 2, 1) := by decide +kernel
theorem dX6_befallTalk_40 : decode cX6_befallTalk 40 = .ok (.aload_n 0, 1) := by decide +kernel
theorem dX6_befallTalk_41 : decode cX6_befallTalk 41 = .ok (.getfield 29, 3) := by decide +kernel
theorem dX6_befallTalk_44 : decode cX6_befallTalk 44 = .ok (.getfield 121, 3) := by decide +kernel
theorem dX6_befallTalk_47 : decode cX6_befallTalk 47 = .ok (.bipush 12, 2) := by decide +kernel
theorem dX6_befallTalk_49 : decode cX6_befallTalk 49 = .ok (.if_icmp .ge 16, 3) := by decide +kernel
theorem dX6_befallTalk_52 : decode cX6_befallTalk 52 = .ok (.aload_n 0, 1) := by decide +kernel
theorem dX6_befallTalk_53 : decode cX6_befallTalk 53 = .ok (.getfield 29, 3) := by decide +kernel
theorem dX6_befallTalk_56 : decode cX6_befallTalk 56 = .ok (.aload_n 0, 1) := by decide +kernel
theorem dX6_befallTalk_57 : decode cX6_befallTalk 57 = .ok (.getfield 19, 3) := by decide +kernel
theorem dX6_befallTalk_60 : decode cX6_befallTalk 60 = .ok (.iload_n 1, 1) := by decide +kernel
theorem dX6_befallTalk_61 : decode cX6_befallTalk 61 = .ok (.iload_n 2, 1) := by decide +kernel
theorem dX6_befallTalk_62 : decode cX6_befallTalk 62 = .ok (.invokevirtual 196, 3) := by decide +kernel
theorem dX6_befallTalk_65 : decode cX6_befallTalk 65 = .ok (.return_, 1) := by decide +kernel
theorem dX6_cell_0 : decode cX6_cell 0 = .ok (.iload_n 1, 1) := by decide +kernel
theorem dX6_cell_1 : decode cX6_cell 1 = .ok (.ifCond .lt 15, 3) := by decide +kernel
theorem dX6_cell_4 : decode cX6_cell 4 = .ok (.iload_n 1, 1) := by decide +kernel
theorem dX6_cell_5 : decode cX6_cell 5 = .ok (.aload_n 0, 1) := by decide +kernel
theorem dX6_cell_6 : decode cX6_cell 6 = .ok (.arraylength, 1) := by decide +kernel
theorem dX6_cell_7 : decode cX6_cell 7 = .ok (.if_icmp .ge 9, 3) := by decide +kernel
theorem dX6_cell_10 : decode cX6_cell 10 = .ok (.aload_n 0, 1) := by decide +kernel
theorem dX6_cell_11 : decode cX6_cell 11 = .ok (.iload_n 1, 1) := by decide +kernel
theorem dX6_cell_12 : decode cX6_cell 12 = .ok (.iaload, 1) := by decide +kernel
theorem dX6_cell_13 : decode cX6_cell 13 = .ok (.goto 4, 3) := by decide +kernel
theorem dX6_cell_16 : decode cX6_cell 16 = .ok (.iconst 0, 1) := by decide +kernel
theorem dX6_cell_17 : decode cX6_cell 17 = .ok (.ireturn, 1) := by decide +kernel
theorem dX6_put_0 : decode cX6_put 0 = .ok (.iload_n 1, 1) := by decide +kernel
theorem dX6_put_1 : decode cX6_put 1 = .ok (.ifCond .lt 13, 3) := by decide +kernel
theorem dX6_put_4 : decode cX6_put 4 = .ok (.iload_n 1, 1) := by decide +kernel
theorem dX6_put_5 : decode cX6_put 5 = .ok (.aload_n 0, 1) := by decide +kernel
theorem dX6_put_6 : decode cX6_put 6 = .ok (.arraylength, 1) := by decide +kernel
theorem dX6_put_7 : decode cX6_put 7 = .ok (.if_icmp .ge 7, 3) := by decide +kernel
theorem dX6_put_10 : decode cX6_put 10 = .ok (.aload_n 0, 1) := by decide +kernel
theorem dX6_put_11 : decode cX6_put 11 = .ok (.iload_n 1, 1) := by decide +kernel
theorem dX6_put_12 : decode cX6_put 12 = .ok (.iload_n 2, 1) := by decide +kernel
theorem dX6_put_13 : decode cX6_put 13 = .ok (.iastore, 1) := by decide +kernel
theorem dX6_put_14 : decode cX6_put 14 = .ok (.return_, 1) := by decide +kernel
theorem dX6_holds_0 : decode cX6_holds 0 = .ok (.iload_n 0, 1) := by decide +kernel
theorem dX6_holds_1 : decode cX6_holds 1 = .ok (.iload_n 1, 1) := by decide +kernel
theorem dX6_holds_2 : decode cX6_holds 2 = .ok (.ishr, 1) := by decide +kernel
theorem dX6_holds_3 : decode cX6_holds 3 = .ok (.iconst 1, 1) := by decide +kernel
theorem dX6_holds_4 : decode cX6_holds 4 = .ok (.iand, 1) := by decide +kernel
theorem dX6_holds_5 : decode cX6_holds 5 = .ok (.ifCond .eq 7, 3) := by decide +kernel
theorem dX6_holds_8 : decode cX6_holds 8 = .ok (.iconst 1, 1) := by decide +kernel
theorem dX6_holds_9 : decode cX6_holds 9 = .ok (.goto 4, 3) := by decide +kernel
theorem dX6_holds_12 : decode cX6_holds 12 = .ok (.iconst 0, 1) := by decide +kernel
theorem dX6_holds_13 : decode cX6_holds 13 = .ok (.ireturn, 1) := by decide +kernel
theorem dX6_garbledOnce_0 : decode cX6_garbledOnce 0 = .ok (.iload_n 0, 1) := by decide +kernel
theorem dX6_garbledOnce_1 : decode cX6_garbledOnce 1 = .ok (.tableswitch 73 1 4 #[31, 45, 56, 62], 31) := by decide +kernel
theorem dX6_garbledOnce_32 : decode cX6_garbledOnce 32 = .ok (.iload_n 2, 1) := by decide +kernel
theorem dX6_garbledOnce_33 : decode cX6_garbledOnce 33 = .ok (.ifCond .le 11, 3) := by decide +kernel
theorem dX6_garbledOnce_36 : decode cX6_garbledOnce 36 = .ok (.iload_n 3, 1) := by decide +kernel
theorem dX6_garbledOnce_37 : decode cX6_garbledOnce 37 = .ok (.iload_n 1, 1) := by decide +kernel
theorem dX6_garbledOnce_38 : decode cX6_garbledOnce 38 = .ok (.iadd, 1) := by decide +kernel
theorem dX6_garbledOnce_39 : decode cX6_garbledOnce 39 = .ok (.iload_n 2, 1) := by decide +kernel
theorem dX6_garbledOnce_40 : decode cX6_garbledOnce 40 = .ok (.irem, 1) := by decide +kernel
theorem dX6_garbledOnce_41 : decode cX6_garbledOnce 41 = .ok (.goto 4, 3) := by decide +kernel
theorem dX6_garbledOnce_44 : decode cX6_garbledOnce 44 = .ok (.iload_n 3, 1) := by decide +kernel
theorem dX6_garbledOnce_45 : decode cX6_garbledOnce 45 = .ok (.ireturn, 1) := by decide +kernel
theorem dX6_garbledOnce_46 : decode cX6_garbledOnce 46 = .ok (.iload_n 3, 1) := by decide +kernel
theorem dX6_garbledOnce_47 : decode cX6_garbledOnce 47 = .ok (.iload_n 1, 1) := by decide +kernel
theorem dX6_garbledOnce_48 : decode cX6_garbledOnce 48 = .ok (.if_icmp .le 7, 3) := by decide +kernel
theorem dX6_garbledOnce_51 : decode cX6_garbledOnce 51 = .ok (.iload_n 1, 1) := by decide +kernel
theorem dX6_garbledOnce_52 : decode cX6_garbledOnce 52 = .ok (.goto 4, 3) := by decide +kernel
theorem dX6_garbledOnce_55 : decode cX6_garbledOnce 55 = .ok (.iload_n 3, 1) := by decide +kernel
theorem dX6_garbledOnce_56 : decode cX6_garbledOnce 56 = .ok (.ireturn, 1) := by decide +kernel
theorem dX6_garbledOnce_57 : decode cX6_garbledOnce 57 = .ok (.iload_n 2, 1) := by decide +kernel
theorem dX6_garbledOnce_58 : decode cX6_garbledOnce 58 = .ok (.iconst 1, 1) := by decide +kernel
theorem dX6_garbledOnce_59 : decode cX6_garbledOnce 59 = .ok (.isub, 1) := by decide +kernel
theorem dX6_garbledOnce_60 : decode cX6_garbledOnce 60 = .ok (.iload_n 3, 1) := by decide +kernel
theorem dX6_garbledOnce_61 : decode cX6_garbledOnce 61 = .ok (.isub, 1) := by decide +kernel
theorem dX6_garbledOnce_62 : decode cX6_garbledOnce 62 = .ok (.ireturn, 1) := by decide +kernel
theorem dX6_garbledOnce_63 : decode cX6_garbledOnce 63 = .ok (.iload_n 3, 1) := by decide +kernel
theorem dX6_garbledOnce_64 : decode cX6_garbledOnce 64 = .ok (.iload_n 1, 1) := by decide +kernel
theorem dX6_garbledOnce_65 : decode cX6_garbledOnce 65 = .ok (.if_icmp .ge 7, 3) := by decide +kernel
theorem dX6_garbledOnce_68 : decode cX6_garbledOnce 68 = .ok (.iload_n 1, 1) := by decide +kernel
theorem dX6_garbledOnce_69 : decode cX6_garbledOnce 69 = .ok (.goto 4, 3) := by decide +kernel
theorem dX6_garbledOnce_72 : decode cX6_garbledOnce 72 = .ok (.iload_n 3, 1) := by decide +kernel
theorem dX6_garbledOnce_73 : decode cX6_garbledOnce 73 = .ok (.ireturn, 1) := by decide +kernel
theorem dX6_garbledOnce_74 : decode cX6_garbledOnce 74 = .ok (.iload_n 3, 1) := by decide +kernel
theorem dX6_garbledOnce_75 : decode cX6_garbledOnce 75 = .ok (.ireturn, 1) := by decide +kernel
end
section
theorem dX7_init_0 : decode cX7_init 0 = .ok (.aload_n 0, 1) := by decide +kernel
theorem dX7_init_1 : decode cX7_init 1 = .ok (.invokespecial 1, 3) := by decide +kernel
theorem dX7_init_4 : decode cX7_init 4 = .ok (.aload_n 0, 1) := by decide +kernel
theorem dX7_init_5 : decode cX7_init 5 = .ok (.bipush 9, 2) := by decide +kernel
theorem dX7_init_7 : decode cX7_init 7 = .ok (.newarray .int, 2) := by decide +kernel
theorem dX7_init_9 : decode cX7_init 9 = .ok (.putfield 7, 3) := by decide +kernel
theorem dX7_init_12 : decode cX7_init 12 = .ok (.aload_n 0, 1) := by decide +kernel
theorem dX7_init_13 : decode cX7_init 13 = .ok (.bipush 9, 2) := by decide +kernel
theorem dX7_init_15 : decode cX7_init 15 = .ok (.newarray .int, 2) := by decide +kernel
theorem dX7_init_17 : decode cX7_init 17 = .ok (.putfield 13, 3) := by decide +kernel
theorem dX7_init_20 : decode cX7_init 20 = .ok (.aload_n 0, 1) := by decide +kernel
theorem dX7_init_21 : decode cX7_init 21 = .ok (.bipush 9, 2) := by decide +kernel
theorem dX7_init_23 : decode cX7_init 23 = .ok (.newarray .int, 2) := by decide +kernel
theorem dX7_init_25 : decode cX7_init 25 = .ok (.putfield 16, 3) := by decide +kernel
theorem dX7_init_28 : decode cX7_init 28 = .ok (.aload_n 0, 1) := by decide +kernel
theorem dX7_init_29 : decode cX7_init 29 = .ok (.bipush 9, 2) := by decide +kernel
theorem dX7_init_31 : decode cX7_init 31 = .ok (.newarray .int, 2) := by decide +kernel
theorem dX7_init_33 : decode cX7_init 33 = .ok (.putfield 19, 3) := by decide +kernel
theorem dX7_init_36 : decode cX7_init 36 = .ok (.aload_n 0, 1) := by decide +kernel
theorem dX7_init_37 : decode cX7_init 37 = .ok (.bipush 66, 2) := by decide +kernel
theorem dX7_init_39 : decode cX7_init 39 = .ok (.newarray .int, 2) := by decide +kernel
theorem dX7_init_41 : decode cX7_init 41 = .ok (.putfield 22, 3) := by decide +kernel
theorem dX7_init_44 : decode cX7_init 44 = .ok (.aload_n 0, 1) := by decide +kernel
theorem dX7_init_45 : decode cX7_init 45 = .ok (.sipush 240, 3) := by decide +kernel
theorem dX7_init_48 : decode cX7_init 48 = .ok (.newarray .int, 2) := by decide +kernel
theorem dX7_init_50 : decode cX7_init 50 = .ok (.putfield 25, 3) := by decide +kernel
theorem dX7_init_53 : decode cX7_init 53 = .ok (.aload_n 0, 1) := by decide +kernel
theorem dX7_init_54 : decode cX7_init 54 = .ok (.iconst (-1), 1) := by decide +kernel
theorem dX7_init_55 : decode cX7_init 55 = .ok (.putfield 28, 3) := by decide +kernel
theorem dX7_init_58 : decode cX7_init 58 = .ok (.aload_n 0, 1) := by decide +kernel
theorem dX7_init_59 : decode cX7_init 59 = .ok (.bipush 9, 2) := by decide +kernel
theorem dX7_init_61 : decode cX7_init 61 = .ok (.newarray .int, 2) := by decide +kernel
theorem dX7_init_63 : decode cX7_init 63 = .ok (.putfield 32, 3) := by decide +kernel
theorem dX7_init_66 : decode cX7_init 66 = .ok (.aload_n 0, 1) := by decide +kernel
theorem dX7_init_67 : decode cX7_init 67 = .ok (.bipush 9, 2) := by decide +kernel
theorem dX7_init_69 : decode cX7_init 69 = .ok (.newarray .int, 2) := by decide +kernel
theorem dX7_init_71 : decode cX7_init 71 = .ok (.putfield 35, 3) := by decide +kernel
theorem dX7_init_74 : decode cX7_init 74 = .ok (.aload_n 0, 1) := by decide +kernel
theorem dX7_init_75 : decode cX7_init 75 = .ok (.bipush 9, 2) := by decide +kernel
theorem dX7_init_77 : decode cX7_init 77 = .ok (.newarray .int, 2) := by decide +kernel
theorem dX7_init_79 : decode cX7_init 79 = .ok (.putfield 38, 3) := by decide +kernel
theorem dX7_init_82 : decode cX7_init 82 = .ok (.aload_n 0, 1) := by decide +kernel
theorem dX7_init_83 : decode cX7_init 83 = .ok (.bipush 9, 2) := by decide +kernel
theorem dX7_init_85 : decode cX7_init 85 = .ok (.newarray .int, 2) := by decide +kernel
theorem dX7_init_87 : decode cX7_init 87 = .ok (.putfield 41, 3) := by decide +kernel
theorem dX7_init_90 : decode cX7_init 90 = .ok (.aload_n 0, 1) := by decide +kernel
theorem dX7_init_91 : decode cX7_init 91 = .ok (.bipush 9, 2) := by decide +kernel
theorem dX7_init_93 : decode cX7_init 93 = .ok (.newarray .int, 2) := by decide +kernel
theorem dX7_init_95 : decode cX7_init 95 = .ok (.putfield 44, 3) := by decide +kernel
theorem dX7_init_98 : decode cX7_init 98 = .ok (.aload_n 0, 1) := by decide +kernel
theorem dX7_init_99 : decode cX7_init 99 = .ok (.bipush 9, 2) := by decide +kernel
theorem dX7_init_101 : decode cX7_init 101 = .ok (.newarray .boolean, 2) := by decide +kernel
theorem dX7_init_103 : decode cX7_init 103 = .ok (.putfield 47, 3) := by decide +kernel
theorem dX7_init_106 : decode cX7_init 106 = .ok (.aload_n 0, 1) := by decide +kernel
theorem dX7_init_107 : decode cX7_init 107 = .ok (.sipush 1056, 3) := by decide +kernel
theorem dX7_init_110 : decode cX7_init 110 = .ok (.newarray .int, 2) := by decide +kernel
theorem dX7_init_112 : decode cX7_init 112 = .ok (.putfield 51, 3) := by decide +kernel
theorem dX7_init_115 : decode cX7_init 115 = .ok (.aload_n 0, 1) := by decide +kernel
theorem dX7_init_116 : decode cX7_init 116 = .ok (.bipush 66, 2) := by decide +kernel
theorem dX7_init_118 : decode cX7_init 118 = .ok (.newarray .int, 2) := by decide +kernel
theorem dX7_init_120 : decode cX7_init 120 = .ok (.putfield 54, 3) := by decide +kernel
theorem dX7_init_123 : decode cX7_init 123 = .ok (.aload_n 0, 1) := by decide +kernel
theorem dX7_init_124 : decode cX7_init 124 = .ok (.bipush 6, 2) := by decide +kernel
theorem dX7_init_126 : decode cX7_init 126 = .ok (.newarray .int, 2) := by decide +kernel
theorem dX7_init_128 : decode cX7_init 128 = .ok (.putfield 57, 3) := by decide +kernel
theorem dX7_init_131 : decode cX7_init 131 = .ok (.aload_n 0, 1) := by decide +kernel
theorem dX7_init_132 : decode cX7_init 132 = .ok (.bipush 6, 2) := by decide +kernel
theorem dX7_init_134 : decode cX7_init 134 = .ok (.newarray .int, 2) := by decide +kernel
theorem dX7_init_136 : decode cX7_init 136 = .ok (.putfield 60, 3) := by decide +kernel
theorem dX7_init_139 : decode cX7_init 139 = .ok (.aload_n 0, 1) := by decide +kernel
theorem dX7_init_140 : decode cX7_init 140 = .ok (.bipush 10, 2) := by decide +kernel
theorem dX7_init_142 : decode cX7_init 142 = .ok (.newarray .int, 2) := by decide +kernel
theorem dX7_init_144 : decode cX7_init 144 = .ok (.putfield 63, 3) := by decide +kernel
theorem dX7_init_147 : decode cX7_init 147 = .ok (.aload_n 0, 1) := by decide +kernel
theorem dX7_init_148 : decode cX7_init 148 = .ok (.bipush 15, 2) := by decide +kernel
theorem dX7_init_150 : decode cX7_init 150 = .ok (.newarray .int, 2) := by decide +kernel
theorem dX7_init_152 : decode cX7_init 152 = .ok (.putfield 66, 3) := by decide +kernel
theorem dX7_init_155 : decode cX7_init 155 = .ok (.aload_n 0, 1) := by decide +kernel
theorem dX7_init_156 : decode cX7_init 156 = .ok (.bipush 15, 2) := by decide +kernel
theorem dX7_init_158 : decode cX7_init 158 = .ok (.newarray .int, 2) := by decide +kernel
theorem dX7_init_160 : decode cX7_init 160 = .ok (.putfield 69, 3) := by decide +kernel
theorem dX7_init_163 : decode cX7_init 163 = .ok (.aload_n 0, 1) := by decide +kernel
theorem dX7_init_164 : decode cX7_init 164 = .ok (.sipush 134, 3) := by decide +kernel
theorem dX7_init_167 : decode cX7_init 167 = .ok (.newarray .int, 2) := by decide +kernel
theorem dX7_init_169 : decode cX7_init 169 = .ok (.putfield 72, 3) := by decide +kernel
theorem dX7_init_172 : decode cX7_init 172 = .ok (.aload_n 0, 1) := by decide +kernel
theorem dX7_init_173 : decode cX7_init 173 = .ok (.iconst 2, 1) := by decide +kernel
theorem dX7_init_174 : decode cX7_init 174 = .ok (.newarray .boolean, 2) := by decide +kernel
theorem dX7_init_176 : decode cX7_init 176 = .ok (.putfield 75, 3) := by decide +kernel
theorem dX7_init_179 : decode cX7_init 179 = .ok (.aload_n 0, 1) := by decide +kernel
theorem dX7_init_180 : decode cX7_init 180 = .ok (.invokevirtual 78, 3) := by decide +kernel
theorem dX7_init_183 : decode cX7_init 183 = .ok (.return_, 1) := by decide +kernel
theorem dX7_in_0 : decode cX7_in 0 = .ok (.lload_n 0, 1) := by decide +kernel
theorem dX7_in_1 : decode cX7_in 1 = .ok (.lload_n 2, 1) := by decide +kernel
theorem dX7_in_2 : decode cX7_in 2 = .ok (.lcmp, 1) := by decide +kernel
theorem dX7_in_3 : decode cX7_in 3 = .ok (.ifCond .lt 14, 3) := by decide +kernel
theorem dX7_in_6 : decode cX7_in 6 = .ok (.lload_n 0, 1) := by decide +kernel
theorem dX7_in_7 : decode cX7_in 7 = .ok (.lload 4, 2) := by decide +kernel
theorem dX7_in_9 : decode cX7_in 9 = .ok (.lcmp, 1) := by decide +kernel
theorem dX7_in_10 : decode cX7_in 10 = .ok (.ifCond .gt 7, 3) := by decide +kernel
theorem dX7_in_13 : decode cX7_in 13 = .ok (.iconst 1, 1) := by decide +kernel
theorem dX7_in_14 : decode cX7_in 14 = .ok (.goto 4, 3) := by decide +kernel
theorem dX7_in_17 : decode cX7_in 17 = .ok (.iconst 0, 1) := by decide +kernel
theorem dX7_in_18 : decode cX7_in 18 = .ok (.ireturn, 1) := by decide +kernel
theorem dX7_has_0 : decode cX7_has 0 = .ok (.iload_n 0, 1) := by decide +kernel
theorem dX7_has_1 : decode cX7_has 1 = .ok (.iload_n 1, 1) := by decide +kernel
theorem dX7_has_2 : decode cX7_has 2 = .ok (.ishr, 1) := by decide +kernel
theorem dX7_has_3 : decode cX7_has 3 = .ok (.iconst 1, 1) := by decide +kernel
theorem dX7_has_4 : decode cX7_has 4 = .ok (.iand, 1) := by decide +kernel
theorem dX7_has_5 : decode cX7_has 5 = .ok (.iconst 1, 1) := by decide +kernel
theorem dX7_has_6 : decode cX7_has 6 = .ok (.if_icmp .ne 7, 3) := by decide +kernel
theorem dX7_has_9 : decode cX7_has 9 = .ok (.iconst 1, 1) := by decide +kernel
theorem dX7_has_10 : decode cX7_has 10 = .ok (.goto 4, 3) := by decide +kernel
theorem dX7_has_13 : decode cX7_has 13 = .ok (.iconst 0, 1) := by decide +kernel
theorem dX7_has_14 : decode cX7_has 14 = .ok (.ireturn, 1) := by decide +kernel
theorem dX7_bits_0 : decode cX7_bits 0 = .ok (.iconst 0, 1) := by decide +kernel
theorem dX7_bits_1 : decode cX7_bits 1 = .ok (.istore_n 1, 1) := by decide +kernel
theorem dX7_bits_2 : decode cX7_bits 2 = .ok (.iconst 0, 1) := by decide +kernel
theorem dX7_bits_3 : decode cX7_bits 3 = .ok (.istore_n 2, 1) := by decide +kernel
theorem dX7_bits_4 : decode cX7_bits 4 = .ok (.iload_n 2, 1) := by decide +kernel
theorem dX7_bits_5 : decode cX7_bits 5 = .ok (.bipush 9, 2) := by decide +kernel
theorem dX7_bits_7 : decode cX7_bits 7 = .ok (.if_icmp .ge 17, 3) := by decide +kernel
theorem dX7_bits_10 : decode cX7_bits 10 = .ok (.iload_n 1, 1) := by decide +kernel
theorem dX7_bits_11 : decode cX7_bits 11 = .ok (.iload_n 0, 1) := by decide +kernel
theorem dX7_bits_12 : decode cX7_bits 12 = .ok (.iload_n 2, 1) := by decide +kernel
theorem dX7_bits_13 : decode cX7_bits 13 = .ok (.ishr, 1) := by decide +kernel
theorem dX7_bits_14 : decode cX7_bits 14 = .ok (.iconst 1, 1) := by decide +kernel
theorem dX7_bits_15 : decode cX7_bits 15 = .ok (.iand, 1) := by decide +kernel
theorem dX7_bits_16 : decode cX7_bits 16 = .ok (.iadd, 1) := by decide +kernel
theorem dX7_bits_17 : decode cX7_bits 17 = .ok (.istore_n 1, 1) := by decide +kernel
theorem dX7_bits_18 : decode cX7_bits 18 = .ok (.iinc 2 1, 3) := by decide +kernel
theorem dX7_bits_21 : decode cX7_bits 21 = .ok (.goto (-17), 3) := by decide +kernel
theorem dX7_bits_24 : decode cX7_bits 24 = .ok (.iload_n 1, 1) := by decide +kernel
theorem dX7_bits_25 : decode cX7_bits 25 = .ok (.ireturn, 1) := by decide +kernel
theorem dX7_isFarm_0 : decode cX7_isFarm 0 = .ok (.iload_n 1, 1) := by decide +kernel
theorem dX7_isFarm_1 : decode cX7_isFarm 1 = .ok (.i2l, 1) := by decide +kernel
theorem dX7_isFarm_2 : decode cX7_isFarm 2 = .ok (.lconst 0, 1) := by decide +kernel
theorem dX7_isFarm_3 : decode cX7_isFarm 3 = .ok (.aload_n 0, 1) := by decide +kernel
theorem dX7_isFarm_4 : decode cX7_isFarm 4 = .ok (.getfield 81, 3) := by decide +kernel
theorem dX7_isFarm_7 : decode cX7_isFarm 7 = .ok (.iconst 1, 1) := by decide +kernel
theorem dX7_isFarm_8 : decode cX7_isFarm 8 = .ok (.isub, 1) := by decide +kernel
theorem dX7_isFarm_9 : decode cX7_isFarm 9 = .ok (.i2l, 1) := by decide +kernel
theorem dX7_isFarm_10 : decode cX7_isFarm 10 = .ok (.invokestatic 84, 3) := by decide +kernel
theorem dX7_isFarm_13 : decode cX7_isFarm 13 = .ok (.ireturn, 1) := by decide +kernel
theorem dX7_isWord_0 : decode cX7_isWord 0 = .ok (.iload_n 1, 1) := by decide +kernel
theorem dX7_isWord_1 : decode cX7_isWord 1 = .ok (.i2l, 1) := by decide +kernel
theorem dX7_isWord_2 : decode cX7_isWord 2 = .ok (.lconst 0, 1) := by decide +kernel
theorem dX7_isWord_3 : decode cX7_isWord 3 = .ok (.aload_n 0, 1) := by decide +kernel
theorem dX7_isWord_4 : decode cX7_isWord 4 = .ok (.getfield 88, 3) := by decide +kernel
theorem dX7_isWord_7 : decode cX7_isWord 7 = .ok (.iconst 1, 1) := by decide +kernel
theorem dX7_isWord_8 : decode cX7_isWord 8 = .ok (.isub, 1) := by decide +kernel
theorem dX7_isWord_9 : decode cX7_isWord 9 = .ok (.i2l, 1) := by decide +kernel
theorem dX7_isWord_10 : decode cX7_isWord 10 = .ok (.invokestatic 84, 3) := by decide +kernel
theorem dX7_isWord_13 : decode cX7_isWord 13 = .ok (.ireturn, 1) := by decide +kernel
theorem dX7_emptyAll_0 : decode cX7_emptyAll 0 = .ok (.iconst 0, 1) := by decide +kernel
theorem dX7_emptyAll_1 : decode cX7_emptyAll 1 = .ok (.istore_n 1, 1) := by decide +kernel
theorem dX7_emptyAll_2 : decode cX7_emptyAll 2 = .ok (.iload_n 1, 1) := by decide +kernel
theorem dX7_emptyAll_3 : decode cX7_emptyAll 3 = .ok (.bipush 66, 2) := by decide +kernel
theorem dX7_emptyAll_5 : decode cX7_emptyAll 5 = .ok (.if_icmp .ge 16, 3) := by decide +kernel
theorem dX7_emptyAll_8 : decode cX7_emptyAll 8 = .ok (.aload_n 0, 1) := by decide +kernel
theorem dX7_emptyAll_9 : decode cX7_emptyAll 9 = .ok (.getfield 22, 3) := by decide +kernel
theorem dX7_emptyAll_12 : decode cX7_emptyAll 12 = .ok (.iload_n 1, 1) := by decide +kernel
theorem dX7_emptyAll_13 : decode cX7_emptyAll 13 = .ok (.iconst 0, 1) := by decide +kernel
theorem dX7_emptyAll_14 : decode cX7_emptyAll 14 = .ok (.iastore, 1) := by decide +kernel
theorem dX7_emptyAll_15 : decode cX7_emptyAll 15 = .ok (.iinc 1 1, 3) := by decide +kernel
theorem dX7_emptyAll_18 : decode cX7_emptyAll 18 = .ok (.goto (-16), 3) := by decide +kernel
theorem dX7_emptyAll_21 : decode cX7_emptyAll 21 = .ok (.iconst 0, 1) := by decide +kernel
theorem dX7_emptyAll_22 : decode cX7_emptyAll 22 = .ok (.istore_n 1, 1) := by decide +kernel
theorem dX7_emptyAll_23 : decode cX7_emptyAll 23 = .ok (.iload_n 1, 1) := by decide +kernel
theorem dX7_emptyAll_24 : decode cX7_emptyAll 24 = .ok (.bipush 9, 2) := by decide +kernel
theorem dX7_emptyAll_26 : decode cX7_emptyAll 26 = .ok (.if_icmp .ge 19, 3) := by decide +kernel
theorem dX7_emptyAll_29 : decode cX7_emptyAll 29 = .ok (.aload_n 0, 1) := by decide +kernel
theorem dX7_emptyAll_30 : decode cX7_emptyAll 30 = .ok (.getfield 22, 3) := by decide +kernel
theorem dX7_emptyAll_33 : decode cX7_emptyAll 33 = .ok (.bipush 14, 2) := by decide +kernel
theorem dX7_emptyAll_35 : decode cX7_emptyAll 35 = .ok (.iload_n 1, 1) := by decide +kernel
theorem dX7_emptyAll_36 : decode cX7_emptyAll 36 = .ok (.iadd, 1) := by decide +kernel
theorem dX7_emptyAll_37 : decode cX7_emptyAll 37 = .ok (.iconst (-1), 1) := by decide +kernel
theorem dX7_emptyAll_38 : decode cX7_emptyAll 38 = .ok (.iastore, 1) := by decide +kernel
theorem dX7_emptyAll_39 : decode cX7_emptyAll 39 = .ok (.iinc 1 1, 3) := by decide +kernel
theorem dX7_emptyAll_42 : decode cX7_emptyAll 42 = .ok (.goto (-19), 3) := by decide +kernel
theorem dX7_emptyAll_45 : decode cX7_emptyAll 45 = .ok (.return_, 1) := by decide +kernel
theorem dX7_feed_0 : decode cX7_feed 0 = .ok (.iload_n 1, 1) := by decide +kernel
theorem dX7_feed_1 : decode cX7_feed 1 = .ok (.i2l, 1) := by decide +kernel
theorem dX7_feed_2 : decode cX7_feed 2 = .ok (.lconst 0, 1) := by decide +kernel
theorem dX7_feed_3 : decode cX7_feed 3 = .ok (.ldc2_w 91, 3) := by decide +kernel
theorem dX7_feed_6 : decode cX7_feed 6 = .ok (.invokestatic 84, 3) := by decide +kernel
theorem dX7_feed_9 : decode cX7_feed 9 = .ok (.ifCond .ne 6, 3) := by decide +kernel
theorem dX7_feed_12 : decode cX7_feed 12 = .ok (.ldc 93, 2) := by decide +kernel
theorem dX7_feed_14 : decode cX7_feed 14 = .ok (.ireturn, 1) := by decide +kernel
theorem dX7_feed_15 : decode cX7_feed 15 = .ok (.aload_n 0, 1) := by decide +kernel
theorem dX7_feed_16 : decode cX7_feed 16 = .ok (.getfield 94, 3) := by decide +kernel
theorem dX7_feed_19 : decode cX7_feed 19 = .ok (.sipush 240, 3) := by decide +kernel
theorem dX7_feed_22 : decode cX7_feed 22 = .ok (.if_icmp .ne 6, 3) := by decide +kernel
theorem dX7_feed_25 : decode cX7_feed 25 = .ok (.ldc 97, 2) := by decide +kernel
theorem dX7_feed_27 : decode cX7_feed 27 = .ok (.ireturn, 1) := by decide +kernel
theorem dX7_feed_28 : decode cX7_feed 28 = .ok (.aload_n 0, 1) := by decide +kernel
theorem dX7_feed_29 : decode cX7_feed 29 = .ok (.getfield 25, 3) := by decide +kernel
theorem dX7_feed_32 : decode cX7_feed 32 = .ok (.aload_n 0, 1) := by decide +kernel
theorem dX7_feed_33 : decode cX7_feed 33 = .ok (.getfield 94, 3) := by decide +kernel
theorem dX7_feed_36 : decode cX7_feed 36 = .ok (.iload_n 1, 1) := by decide +kernel
theorem dX7_feed_37 : decode cX7_feed 37 = .ok (.iastore, 1) := by decide +kernel
theorem dX7_feed_38 : decode cX7_feed 38 = .ok (.aload_n 0, 1) := by decide +kernel
theorem dX7_feed_39 : decode cX7_feed 39 = .ok (.dup, 1) := by decide +kernel
theorem dX7_feed_40 : decode cX7_feed 40 = .ok (.getfield 94, 3) := by decide +kernel
theorem dX7_feed_43 : decode cX7_feed 43 = .ok (.iconst 1, 1) := by decide +kernel
theorem dX7_feed_44 : decode cX7_feed 44 = .ok (.iadd, 1) := by decide +kernel
theorem dX7_feed_45 : decode cX7_feed 45 = .ok (.putfield 94, 3) := by decide +kernel
theorem dX7_feed_48 : decode cX7_feed 48 = .ok (.aload_n 0, 1) := by decide +kernel
theorem dX7_feed_49 : decode cX7_feed 49 = .ok (.getfield 94, 3) := by decide +kernel
theorem dX7_feed_52 : decode cX7_feed 52 = .ok (.ireturn, 1) := by decide +kernel
theorem dX7_here_0 : decode cX7_here 0 = .ok (.aload_n 0, 1) := by decide +kernel
theorem dX7_here_1 : decode cX7_here 1 = .ok (.getfield 98, 3) := by decide +kernel
theorem dX7_here_4 : decode cX7_here 4 = .ok (.aload_n 0, 1) := by decide +kernel
theorem dX7_here_5 : decode cX7_here 5 = .ok (.getfield 94, 3) := by decide +kernel
theorem dX7_here_8 : decode cX7_here 8 = .ok (.if_icmp .ge 30, 3) := by decide +kernel
theorem dX7_here_11 : decode cX7_here 11 = .ok (.aload_n 0, 1) := by decide +kernel
theorem dX7_here_12 : decode cX7_here 12 = .ok (.getfield 25, 3) := by decide +kernel
theorem dX7_here_15 : decode cX7_here 15 = .ok (.aload_n 0, 1) := by decide +kernel
theorem dX7_here_16 : decode cX7_here 16 = .ok (.getfield 98, 3) := by decide +kernel
theorem dX7_here_19 : decode cX7_here 19 = .ok (.iaload, 1) := by decide +kernel
theorem dX7_here_20 : decode cX7_here 20 = .ok (.bipush 32, 2) := by decide +kernel
theorem dX7_here_22 : decode cX7_here 22 = .ok (.if_icmp .ne 16, 3) := by decide +kernel
theorem dX7_here_25 : decode cX7_here 25 = .ok (.aload_n 0, 1) := by decide +kernel
theorem dX7_here_26 : decode cX7_here 26 = .ok (.dup, 1) := by decide +kernel
theorem dX7_here_27 : decode cX7_here 27 = .ok (.getfield 98, 3) := by decide +kernel
theorem dX7_here_30 : decode cX7_here 30 = .ok (.iconst 1, 1) := by decide +kernel
theorem dX7_here_31 : decode cX7_here 31 = .ok (.iadd, 1) := by decide +kernel
theorem dX7_here_32 : decode cX7_here 32 = .ok (.putfield 98, 3) := by decide +kernel
theorem dX7_here_35 : decode cX7_here 35 = .ok (.goto (-35), 3) := by decide +kernel
theorem dX7_here_38 : decode cX7_here 38 = .ok (.aload_n 0, 1) := by decide +kernel
theorem dX7_here_39 : decode cX7_here 39 = .ok (.getfield 98, 3) := by decide +kernel
theorem dX7_here_42 : decode cX7_here 42 = .ok (.aload_n 0, 1) := by decide +kernel
theorem dX7_here_43 : decode cX7_here 43 = .ok (.getfield 94, 3) := by decide +kernel
theorem dX7_here_46 : decode cX7_here 46 = .ok (.if_icmp .ge 15, 3) := by decide +kernel
theorem dX7_here_49 : decode cX7_here 49 = .ok (.aload_n 0, 1) := by decide +kernel
theorem dX7_here_50 : decode cX7_here 50 = .ok (.getfield 25, 3) := by decide +kernel
theorem dX7_here_53 : decode cX7_here 53 = .ok (.aload_n 0, 1) := by decide +kernel
theorem dX7_here_54 : decode cX7_here 54 = .ok (.getfield 98, 3) := by decide +kernel
theorem dX7_here_57 : decode cX7_here 57 = .ok (.iaload, 1) := by decide +kernel
theorem dX7_here_58 : decode cX7_here 58 = .ok (.goto 4, 3) := by decide +kernel
theorem dX7_here_61 : decode cX7_here 61 = .ok (.iconst (-1), 1) := by decide +kernel
theorem dX7_here_62 : decode cX7_here 62 = .ok (.ireturn, 1) := by decide +kernel
theorem dX7_fails_0 : decode cX7_fails 0 = .ok (.aload_n 0, 1) := by decide +kernel
theorem dX7_fails_1 : decode cX7_fails 1 = .ok (.iload_n 2, 1) := by decide +kernel
theorem dX7_fails_2 : decode cX7_fails 2 = .ok (.putfield 28, 3) := by decide +kernel
theorem dX7_fails_5 : decode cX7_fails 5 = .ok (.iload_n 1, 1) := by decide +kernel
theorem dX7_fails_6 : decode cX7_fails 6 = .ok (.ireturn, 1) := by decide +kernel
theorem dX7_takeNumber_0 : decode cX7_takeNumber 0 = .ok (.aload_n 0, 1) := by decide +kernel
theorem dX7_takeNumber_1 : decode cX7_takeNumber 1 = .ok (.invokevirtual 101, 3) := by decide +kernel
theorem dX7_takeNumber_4 : decode cX7_takeNumber 4 = .ok (.istore_n 3, 1) := by decide +kernel
theorem dX7_takeNumber_5 : decode cX7_takeNumber 5 = .ok (.iload_n 3, 1) := by decide +kernel
theorem dX7_takeNumber_6 : decode cX7_takeNumber 6 = .ok (.i2l, 1) := by decide +kernel
theorem dX7_takeNumber_7 : decode cX7_takeNumber 7 = .ok (.ldc2_w 105, 3) := by decide +kernel
theorem dX7_takeNumber_10 : decode cX7_takeNumber 10 = .ok (.ldc2_w 107, 3) := by decide +kernel
theorem dX7_takeNumber_13 : decode cX7_takeNumber 13 = .ok (.invokestatic 84, 3) := by decide +kernel
theorem dX7_takeNumber_16 : decode cX7_takeNumber 16 = .ok (.ifCond .ne 13, 3) := by decide +kernel
theorem dX7_takeNumber_19 : decode cX7_takeNumber 19 = .ok (.aload_n 0, 1) := by decide +kernel
theorem dX7_takeNumber_20 : decode cX7_takeNumber 20 = .ok (.iconst 1, 1) := by decide +kernel
theorem dX7_takeNumber_21 : decode cX7_takeNumber 21 = .ok (.aload_n 0, 1) := by decide +kernel
theorem dX7_takeNumber_22 : decode cX7_takeNumber 22 = .ok (.getfield 98, 3) := by decide +kernel
theorem dX7_takeNumber_25 : decode cX7_takeNumber 25 = .ok (.invokevirtual 109, 3) := by decide +kernel
theorem dX7_takeNumber_28 : decode cX7_takeNumber 28 = .ok (.ireturn, 1) := by decide +kernel
theorem dX7_takeNumber_29 : decode cX7_takeNumber 29 = .ok (.aload_n 0, 1) := by decide +kernel
theorem dX7_takeNumber_30 : decode cX7_takeNumber 30 = .ok (.aload_n 0, 1) := by decide +kernel
theorem dX7_takeNumber_31 : decode cX7_takeNumber 31 = .ok (.getfield 98, 3) := by decide +kernel
theorem dX7_takeNumber_34 : decode cX7_takeNumber 34 = .ok (.putfield 113, 3) := by decide +kernel
theorem dX7_takeNumber_37 : decode cX7_takeNumber 37 = .ok (.aload_n 0, 1) := by decide +kernel
theorem dX7_takeNumber_38 : decode cX7_takeNumber 38 = .ok (.iconst 0, 1) := by decide +kernel
theorem dX7_takeNumber_39 : decode cX7_takeNumber 39 = .ok (.putfield 116, 3) := by decide +kernel
theorem dX7_takeNumber_42 : decode cX7_takeNumber 42 = .ok (.aload_n 0, 1) := by decide +kernel
theorem dX7_takeNumber_43 : decode cX7_takeNumber 43 = .ok (.getfield 98, 3) := by decide +kernel
theorem dX7_takeNumber_46 : decode cX7_takeNumber 46 = .ok (.aload_n 0, 1) := by decide +kernel
theorem dX7_takeNumber_47 : decode cX7_takeNumber 47 = .ok (.getfield 94, 3) := by decide +kernel
theorem dX7_takeNumber_50 : decode cX7_takeNumber 50 = .ok (.if_icmp .ge 79, 3) := by decide +kernel
theorem dX7_takeNumber_53 : decode cX7_takeNumber 53 = .ok (.aload_n 0, 1) := by decide +kernel
theorem dX7_takeNumber_54 : decode cX7_takeNumber 54 = .ok (.getfield 25, 3) := by decide +kernel
theorem dX7_takeNumber_57 : decode cX7_takeNumber 57 = .ok (.aload_n 0, 1) := by decide +kernel
theorem dX7_takeNumber_58 : decode cX7_takeNumber 58 = .ok (.getfield 98, 3) := by decide +kernel
theorem dX7_takeNumber_61 : decode cX7_takeNumber 61 = .ok (.iaload, 1) := by decide +kernel
theorem dX7_takeNumber_62 : decode cX7_takeNumber 62 = .ok (.i2l, 1) := by decide +kernel
theorem dX7_takeNumber_63 : decode cX7_takeNumber 63 = .ok (.ldc2_w 105, 3) := by decide +kernel
theorem dX7_takeNumber_66 : decode cX7_takeNumber 66 = .ok (.ldc2_w 107, 3) := by decide +kernel
theorem dX7_takeNumber_69 : decode cX7_takeNumber 69 = .ok (.invokestatic 84, 3) := by decide +kernel
theorem dX7_takeNumber_72 : decode cX7_takeNumber 72 = .ok (.ifCond .eq 57, 3) := by decide +kernel
theorem dX7_takeNumber_75 : decode cX7_takeNumber 75 = .ok (.aload_n 0, 1) := by decide +kernel
theorem dX7_takeNumber_76 : decode cX7_takeNumber 76 = .ok (.aload_n 0, 1) := by decide +kernel
theorem dX7_takeNumber_77 : decode cX7_takeNumber 77 = .ok (.getfield 116, 3) := by decide +kernel
theorem dX7_takeNumber_80 : decode cX7_takeNumber 80 = .ok (.sipush 10000, 3) := by decide +kernel
theorem dX7_takeNumber_83 : decode cX7_takeNumber 83 = .ok (.if_icmp .le 10, 3) := by decide +kernel
theorem dX7_takeNumber_86 : decode cX7_takeNumber 86 = .ok (.aload_n 0, 1) := by decide +kernel
theorem dX7_takeNumber_87 : decode cX7_takeNumber 87 = .ok (.getfield 116, 3) := by decide +kernel
theorem dX7_takeNumber_90 : decode cX7_takeNumber 90 = .ok (.goto 23, 3) := by decide +kernel
theorem dX7_takeNumber_93 : decode cX7_takeNumber 93 = .ok (.bipush 10, 2) := by decide +kernel
theorem dX7_takeNumber_95 : decode cX7_takeNumber 95 = .ok (.aload_n 0, 1) := by decide +kernel
theorem dX7_takeNumber_96 : decode cX7_takeNumber 96 = .ok (.getfield 116, 3) := by decide +kernel
theorem dX7_takeNumber_99 : decode cX7_takeNumber 99 = .ok (.imul, 1) := by decide +kernel
theorem dX7_takeNumber_100 : decode cX7_takeNumber 100 = .ok (.aload_n 0, 1) := by decide +kernel
theorem dX7_takeNumber_101 : decode cX7_takeNumber 101 = .ok (.getfield 25, 3) := by decide +kernel
theorem dX7_takeNumber_104 : decode cX7_takeNumber 104 = .ok (.aload_n 0, 1) := by decide +kernel
theorem dX7_takeNumber_105 : decode cX7_takeNumber 105 = .ok (.getfield 98, 3) := by decide +kernel
theorem dX7_takeNumber_108 : decode cX7_takeNumber 108 = .ok (.iaload, 1) := by decide +kernel
theorem dX7_takeNumber_109 : decode cX7_takeNumber 109 = .ok (.iadd, 1) := by decide +kernel
theorem dX7_takeNumber_110 : decode cX7_takeNumber 110 = .ok (.bipush 48, 2) := by decide +kernel
theorem dX7_takeNumber_112 : decode cX7_takeNumber 112 = .ok (.isub, 1) := by decide +kernel
theorem dX7_takeNumber_113 : decode cX7_takeNumber 113 = .ok (.putfield 116, 3) := by decide +kernel
theorem dX7_takeNumber_116 : decode cX7_takeNumber 116 = .ok (.aload_n 0, 1) := by decide +kernel
theorem dX7_takeNumber_117 : decode cX7_takeNumber 117 = .ok (.dup, 1) := by decide +kernel
theorem dX7_takeNumber_118 : decode cX7_takeNumber 118 = .ok (.getfield 98, 3) := by decide +kernel
theorem dX7_takeNumber_121 : decode cX7_takeNumber 121 = .ok (.iconst 1, 1) := by decide +kernel
theorem dX7_takeNumber_122 : decode cX7_takeNumber 122 = .ok (.iadd, 1) := by decide +kernel
theorem dX7_takeNumber_123 : decode cX7_takeNumber 123 = .ok (.putfield 98, 3) := by decide +kernel
theorem dX7_takeNumber_126 : decode cX7_takeNumber 126 = .ok (.goto (-84), 3) := by decide +kernel
theorem dX7_takeNumber_129 : decode cX7_takeNumber 129 = .ok (.aload_n 0, 1) := by decide +kernel
theorem dX7_takeNumber_130 : decode cX7_takeNumber 130 = .ok (.getfield 98, 3) := by decide +kernel
theorem dX7_takeNumber_133 : decode cX7_takeNumber 133 = .ok (.aload_n 0, 1) := by decide +kernel
theorem dX7_takeNumber_134 : decode cX7_takeNumber 134 = .ok (.getfield 113, 3) := by decide +kernel
theorem dX7_takeNumber_137 : decode cX7_takeNumber 137 = .ok (.isub, 1) := by decide +kernel
theorem dX7_takeNumber_138 : decode cX7_takeNumber 138 = .ok (.iconst 3, 1) := by decide +kernel
theorem dX7_takeNumber_139 : decode cX7_takeNumber 139 = .ok (.if_icmp .gt 18, 3) := by decide +kernel
theorem dX7_takeNumber_142 : decode cX7_takeNumber 142 = .ok (.aload_n 0, 1) := by decide +kernel
theorem dX7_takeNumber_143 : decode cX7_takeNumber 143 = .ok (.getfield 116, 3) := by decide +kernel
theorem dX7_takeNumber_146 : decode cX7_takeNumber 146 = .ok (.i2l, 1) := by decide +kernel
theorem dX7_takeNumber_147 : decode cX7_takeNumber 147 = .ok (.iload_n 1, 1) := by decide +kernel
theorem dX7_takeNumber_148 : decode cX7_takeNumber 148 = .ok (.i2l, 1) := by decide +kernel
theorem dX7_takeNumber_149 : decode cX7_takeNumber 149 = .ok (.iload_n 2, 1) := by decide +kernel
theorem dX7_takeNumber_150 : decode cX7_takeNumber 150 = .ok (.i2l, 1) := by decide +kernel
theorem dX7_takeNumber_151 : decode cX7_takeNumber 151 = .ok (.invokestatic 84, 3) := by decide +kernel
theorem dX7_takeNumber_154 : decode cX7_takeNumber 154 = .ok (.ifCond .ne 15, 3) := by decide +kernel
theorem dX7_takeNumber_157 : decode cX7_takeNumber 157 = .ok (.aload_n 0, 1) := by decide +kernel
theorem dX7_takeNumber_158 : decode cX7_takeNumber 158 = .ok (.iconst 2, 1) := by decide +kernel
theorem dX7_takeNumber_159 : decode cX7_takeNumber 159 = .ok (.aload_n 0, 1) := by decide +kernel
theorem dX7_takeNumber_160 : decode cX7_takeNumber 160 = .ok (.getfield 113, 3) := by decide +kernel
theorem dX7_takeNumber_163 : decode cX7_takeNumber 163 = .ok (.invokevirtual 109, 3) := by decide +kernel
theorem dX7_takeNumber_166 : decode cX7_takeNumber 166 = .ok (.goto 4, 3) := by decide +kernel
theorem dX7_takeNumber_169 : decode cX7_takeNumber 169 = .ok (.iconst 0, 1) := by decide +kernel
theorem dX7_takeNumber_170 : decode cX7_takeNumber 170 = .ok (.ireturn, 1) := by decide +kernel
theorem dX7_into_0 : decode cX7_into 0 = .ok (.aload_n 0, 1) := by decide +kernel
theorem dX7_into_1 : decode cX7_into 1 = .ok (.iload_n 3, 1) := by decide +kernel
theorem dX7_into_2 : decode cX7_into 2 = .ok (.iload 4, 2) := by decide +kernel
theorem dX7_into_4 : decode cX7_into 4 = .ok (.invokevirtual 119, 3) := by decide +kernel
theorem dX7_into_7 : decode cX7_into 7 = .ok (.istore 5, 2) := by decide +kernel
theorem dX7_into_9 : decode cX7_into 9 = .ok (.aload_n 1, 1) := by decide +kernel
theorem dX7_into_10 : decode cX7_into 10 = .ok (.iload_n 2, 1) := by decide +kernel
theorem dX7_into_11 : decode cX7_into 11 = .ok (.aload_n 0, 1) := by decide +kernel
theorem dX7_into_12 : decode cX7_into 12 = .ok (.getfield 116, 3) := by decide +kernel
theorem dX7_into_15 : decode cX7_into 15 = .ok (.iastore, 1) := by decide +kernel
theorem dX7_into_16 : decode cX7_into 16 = .ok (.iload 5, 2) := by decide +kernel
theorem dX7_into_18 : decode cX7_into 18 = .ok (.ireturn, 1) := by decide +kernel
theorem dX7_takeBeck_0 : decode cX7_takeBeck 0 = .ok (.aload_n 0, 1) := by decide +kernel
theorem dX7_takeBeck_1 : decode cX7_takeBeck 1 = .ok (.iconst 2, 1) := by decide +kernel
theorem dX7_takeBeck_2 : decode cX7_takeBeck 2 = .ok (.bipush 9, 2) := by decide +kernel
theorem dX7_takeBeck_4 : decode cX7_takeBeck 4 = .ok (.invokevirtual 119, 3) := by decide +kernel
theorem dX7_takeBeck_7 : decode cX7_takeBeck 7 = .ok (.istore_n 1, 1) := by decide +kernel
theorem dX7_takeBeck_8 : decode cX7_takeBeck 8 = .ok (.aload_n 0, 1) := by decide +kernel
theorem dX7_takeBeck_9 : decode cX7_takeBeck 9 = .ok (.aload_n 0, 1) := by decide +kernel
theorem dX7_takeBeck_10 : decode cX7_takeBeck 10 = .ok (.getfield 116, 3) := by decide +kernel
theorem dX7_takeBeck_13 : decode cX7_takeBeck 13 = .ok (.putfield 122, 3) := by decide +kernel
theorem dX7_takeBeck_16 : decode cX7_takeBeck 16 = .ok (.aload_n 0, 1) := by decide +kernel
theorem dX7_takeBeck_17 : decode cX7_takeBeck 17 = .ok (.iconst 1, 1) := by decide +kernel
theorem dX7_takeBeck_18 : decode cX7_takeBeck 18 = .ok (.putfield 125, 3) := by decide +kernel
theorem dX7_takeBeck_21 : decode cX7_takeBeck 21 = .ok (.iload_n 1, 1) := by decide +kernel
theorem dX7_takeBeck_22 : decode cX7_takeBeck 22 = .ok (.ifCond .le 7, 3) := by decide +kernel
theorem dX7_takeBeck_25 : decode cX7_takeBeck 25 = .ok (.iload_n 1, 1) := by decide +kernel
theorem dX7_takeBeck_26 : decode cX7_takeBeck 26 = .ok (.goto 10, 3) := by decide +kernel
theorem dX7_takeBeck_29 : decode cX7_takeBeck 29 = .ok (.aload_n 0, 1) := by decide +kernel
theorem dX7_takeBeck_30 : decode cX7_takeBeck 30 = .ok (.iconst 0, 1) := by decide +kernel
theorem dX7_takeBeck_31 : decode cX7_takeBeck 31 = .ok (.bipush 9, 2) := by decide +kernel
theorem dX7_takeBeck_33 : decode cX7_takeBeck 33 = .ok (.invokevirtual 119, 3) := by decide +kernel
theorem dX7_takeBeck_36 : decode cX7_takeBeck 36 = .ok (.istore_n 1, 1) := by decide +kernel
theorem dX7_takeBeck_37 : decode cX7_takeBeck 37 = .ok (.aload_n 0, 1) := by decide +kernel
theorem dX7_takeBeck_38 : decode cX7_takeBeck 38 = .ok (.aload_n 0, 1) := by decide +kernel
theorem dX7_takeBeck_39 : decode cX7_takeBeck 39 = .ok (.getfield 116, 3) := by decide +kernel
theorem dX7_takeBeck_42 : decode cX7_takeBeck 42 = .ok (.putfield 128, 3) := by decide +kernel
theorem dX7_takeBeck_45 : decode cX7_takeBeck 45 = .ok (.iload_n 1, 1) := by decide +kernel
theorem dX7_takeBeck_46 : decode cX7_takeBeck 46 = .ok (.ireturn, 1) := by decide +kernel
theorem dX7_takeFarm_0 : decode cX7_takeFarm 0 = .ok (.aload_n 0, 1) := by decide +kernel
theorem dX7_takeFarm_1 : decode cX7_takeFarm 1 = .ok (.getfield 125, 3) := by decide +kernel
theorem dX7_takeFarm_4 : decode cX7_takeFarm 4 = .ok (.istore_n 1, 1) := by decide +kernel
theorem dX7_takeFarm_5 : decode cX7_takeFarm 5 = .ok (.aload_n 0, 1) := by decide +kernel
theorem dX7_takeFarm_6 : decode cX7_takeFarm 6 = .ok (.aload_n 0, 1) := by decide +kernel
theorem dX7_takeFarm_7 : decode cX7_takeFarm 7 = .ok (.getfield 32, 3) := by decide +kernel
theorem dX7_takeFarm_10 : decode cX7_takeFarm 10 = .ok (.iload_n 1, 1) := by decide +kernel
theorem dX7_takeFarm_11 : decode cX7_takeFarm 11 = .ok (.iconst 0, 1) := by decide +kernel
theorem dX7_takeFarm_12 : decode cX7_takeFarm 12 = .ok (.iload_n 1, 1) := by decide +kernel
theorem dX7_takeFarm_13 : decode cX7_takeFarm 13 = .ok (.iconst 1, 1) := by decide +kernel
theorem dX7_takeFarm_14 : decode cX7_takeFarm 14 = .ok (.isub, 1) := by decide +kernel
theorem dX7_takeFarm_15 : decode cX7_takeFarm 15 = .ok (.invokevirtual 131, 3) := by decide +kernel
theorem dX7_takeFarm_18 : decode cX7_takeFarm 18 = .ok (.istore_n 2, 1) := by decide +kernel
theorem dX7_takeFarm_19 : decode cX7_takeFarm 19 = .ok (.aload_n 0, 1) := by decide +kernel
theorem dX7_takeFarm_20 : decode cX7_takeFarm 20 = .ok (.dup, 1) := by decide +kernel
theorem dX7_takeFarm_21 : decode cX7_takeFarm 21 = .ok (.getfield 125, 3) := by decide +kernel
theorem dX7_takeFarm_24 : decode cX7_takeFarm 24 = .ok (.iconst 1, 1) := by decide +kernel
theorem dX7_takeFarm_25 : decode cX7_takeFarm 25 = .ok (.iadd, 1) := by decide +kernel
theorem dX7_takeFarm_26 : decode cX7_takeFarm 26 = .ok (.putfield 125, 3) := by decide +kernel
theorem dX7_takeFarm_29 : decode cX7_takeFarm 29 = .ok (.iload_n 2, 1) := by decide +kernel
theorem dX7_takeFarm_30 : decode cX7_takeFarm 30 = .ok (.ifCond .le 7, 3) := by decide +kernel
theorem dX7_takeFarm_33 : decode cX7_takeFarm 33 = .ok (.iload_n 2, 1) := by decide +kernel
theorem dX7_takeFarm_34 : decode cX7_takeFarm 34 = .ok (.goto 15, 3) := by decide +kernel
theorem dX7_takeFarm_37 : decode cX7_takeFarm 37 = .ok (.aload_n 0, 1) := by decide +kernel
theorem dX7_takeFarm_38 : decode cX7_takeFarm 38 = .ok (.aload_n 0, 1) := by decide +kernel
theorem dX7_takeFarm_39 : decode cX7_takeFarm 39 = .ok (.getfield 35, 3) := by decide +kernel
theorem dX7_takeFarm_42 : decode cX7_takeFarm 42 = .ok (.iload_n 1, 1) := by decide +kernel
theorem dX7_takeFarm_43 : decode cX7_takeFarm 43 = .ok (.iconst 1, 1) := by decide +kernel
theorem dX7_takeFarm_44 : decode cX7_takeFarm 44 = .ok (.bipush 9, 2) := by decide +kernel
theorem dX7_takeFarm_46 : decode cX7_takeFarm 46 = .ok (.invokevirtual 131, 3) := by decide +kernel
theorem dX7_takeFarm_49 : decode cX7_takeFarm 49 = .ok (.istore_n 2, 1) := by decide +kernel
theorem dX7_takeFarm_50 : decode cX7_takeFarm 50 = .ok (.iload_n 2, 1) := by decide +kernel
theorem dX7_takeFarm_51 : decode cX7_takeFarm 51 = .ok (.ifCond .le 7, 3) := by decide +kernel
theorem dX7_takeFarm_54 : decode cX7_takeFarm 54 = .ok (.iload_n 2, 1) := by decide +kernel
theorem dX7_takeFarm_55 : decode cX7_takeFarm 55 = .ok (.goto 14, 3) := by decide +kernel
theorem dX7_takeFarm_58 : decode cX7_takeFarm 58 = .ok (.aload_n 0, 1) := by decide +kernel
theorem dX7_takeFarm_59 : decode cX7_takeFarm 59 = .ok (.aload_n 0, 1) := by decide +kernel
theorem dX7_takeFarm_60 : decode cX7_takeFarm 60 = .ok (.getfield 38, 3) := by decide +kernel
theorem dX7_takeFarm_63 : decode cX7_takeFarm 63 = .ok (.iload_n 1, 1) := by decide +kernel
theorem dX7_takeFarm_64 : decode cX7_takeFarm 64 = .ok (.iconst 0, 1) := by decide +kernel
theorem dX7_takeFarm_65 : decode cX7_takeFarm 65 = .ok (.iconst 4, 1) := by decide +kernel
theorem dX7_takeFarm_66 : decode cX7_takeFarm 66 = .ok (.invokevirtual 131, 3) := by decide +kernel
theorem dX7_takeFarm_69 : decode cX7_takeFarm 69 = .ok (.istore_n 2, 1) := by decide +kernel
theorem dX7_takeFarm_70 : decode cX7_takeFarm 70 = .ok (.iload_n 2, 1) := by decide +kernel
theorem dX7_takeFarm_71 : decode cX7_takeFarm 71 = .ok (.ifCond .le 7, 3) := by decide +kernel
theorem dX7_takeFarm_74 : decode cX7_takeFarm 74 = .ok (.iload_n 2, 1) := by decide +kernel
theorem dX7_takeFarm_75 : decode cX7_takeFarm 75 = .ok (.goto 19, 3) := by decide +kernel
theorem dX7_takeFarm_78 : decode cX7_takeFarm 78 = .ok (.aload_n 0, 1) := by decide +kernel
theorem dX7_takeFarm_79 : decode cX7_takeFarm 79 = .ok (.aload_n 0, 1) := by decide +kernel
theorem dX7_takeFarm_80 : decode cX7_takeFarm 80 = .ok (.getfield 41, 3) := by decide +kernel
theorem dX7_takeFarm_83 : decode cX7_takeFarm 83 = .ok (.iload_n 1, 1) := by decide +kernel
theorem dX7_takeFarm_84 : decode cX7_takeFarm 84 = .ok (.iconst 0, 1) := by decide +kernel
theorem dX7_takeFarm_85 : decode cX7_takeFarm 85 = .ok (.aload_n 0, 1) := by decide +kernel
theorem dX7_takeFarm_86 : decode cX7_takeFarm 86 = .ok (.getfield 122, 3) := by decide +kernel
theorem dX7_takeFarm_89 : decode cX7_takeFarm 89 = .ok (.iconst 1, 1) := by decide +kernel
theorem dX7_takeFarm_90 : decode cX7_takeFarm 90 = .ok (.isub, 1) := by decide +kernel
theorem dX7_takeFarm_91 : decode cX7_takeFarm 91 = .ok (.invokevirtual 131, 3) := by decide +kernel
theorem dX7_takeFarm_94 : decode cX7_takeFarm 94 = .ok (.ireturn, 1) := by decide +kernel
theorem dX7_takeClause_0 : decode cX7_takeClause 0 = .ok (.aload_n 0, 1) := by decide +kernel
theorem dX7_takeClause_1 : decode cX7_takeClause 1 = .ok (.invokevirtual 101, 3) := by decide +kernel
theorem dX7_takeClause_4 : decode cX7_takeClause 4 = .ok (.istore_n 1, 1) := by decide +kernel
theorem dX7_takeClause_5 : decode cX7_takeClause 5 = .ok (.iload_n 1, 1) := by decide +kernel
theorem dX7_takeClause_6 : decode cX7_takeClause 6 = .ok (.bipush 98, 2) := by decide +kernel
theorem dX7_takeClause_8 : decode cX7_takeClause 8 = .ok (.if_icmp .ne 7, 3) := by decide +kernel
theorem dX7_takeClause_11 : decode cX7_takeClause 11 = .ok (.iconst 0, 1) := by decide +kernel
theorem dX7_takeClause_12 : decode cX7_takeClause 12 = .ok (.goto 14, 3) := by decide +kernel
theorem dX7_takeClause_15 : decode cX7_takeClause 15 = .ok (.iload_n 1, 1) := by decide +kernel
theorem dX7_takeClause_16 : decode cX7_takeClause 16 = .ok (.bipush 102, 2) := by decide +kernel
theorem dX7_takeClause_18 : decode cX7_takeClause 18 = .ok (.if_icmp .ne 7, 3) := by decide +kernel
theorem dX7_takeClause_21 : decode cX7_takeClause 21 = .ok (.iconst 1, 1) := by decide +kernel
theorem dX7_takeClause_22 : decode cX7_takeClause 22 = .ok (.goto 4, 3) := by decide +kernel
theorem dX7_takeClause_25 : decode cX7_takeClause 25 = .ok (.iconst (-1), 1) := by decide +kernel
theorem dX7_takeClause_26 : decode cX7_takeClause 26 = .ok (.istore_n 2, 1) := by decide +kernel
theorem dX7_takeClause_27 : decode cX7_takeClause 27 = .ok (.iload_n 2, 1) := by decide +kernel
theorem dX7_takeClause_28 : decode cX7_takeClause 28 = .ok (.ifCond .lt 15, 3) := by decide +kernel
theorem dX7_takeClause_31 : decode cX7_takeClause 31 = .ok (.iload_n 2, 1) := by decide +kernel
theorem dX7_takeClause_32 : decode cX7_takeClause 32 = .ok (.iconst 1, 1) := by decide +kernel
theorem dX7_takeClause_33 : decode cX7_takeClause 33 = .ok (.if_icmp .ne 20, 3) := by decide +kernel
theorem dX7_takeClause_36 : decode cX7_takeClause 36 = .ok (.aload_n 0, 1) := by decide +kernel
theorem dX7_takeClause_37 : decode cX7_takeClause 37 = .ok (.getfield 125, 3) := by decide +kernel
theorem dX7_takeClause_40 : decode cX7_takeClause 40 = .ok (.ifCond .ne 13, 3) := by decide +kernel
theorem dX7_takeClause_43 : decode cX7_takeClause 43 = .ok (.aload_n 0, 1) := by decide +kernel
theorem dX7_takeClause_44 : decode cX7_takeClause 44 = .ok (.iconst 1, 1) := by decide +kernel
theorem dX7_takeClause_45 : decode cX7_takeClause 45 = .ok (.aload_n 0, 1) := by decide +kernel
theorem dX7_takeClause_46 : decode cX7_takeClause 46 = .ok (.getfield 98, 3) := by decide +kernel
theorem dX7_takeClause_49 : decode cX7_takeClause 49 = .ok (.invokevirtual 109, 3) := by decide +kernel
theorem dX7_takeClause_52 : decode cX7_takeClause 52 = .ok (.ireturn, 1) := by decide +kernel
theorem dX7_takeClause_53 : decode cX7_takeClause 53 = .ok (.iload_n 2, 1) := by decide +kernel
theorem dX7_takeClause_54 : decode cX7_takeClause 54 = .ok (.ifCond .ne 18, 3) := by decide +kernel
theorem dX7_takeClause_57 : decode cX7_takeClause 57 = .ok (.aload_n 0, 1) := by decide +kernel
theorem dX7_takeClause_58 : decode cX7_takeClause 58 = .ok (.getfield 125, 3) := by decide +kernel
theorem dX7_takeClause_61 : decode cX7_takeClause 61 = .ok (.ifCond .le 7, 3) := by decide +kernel
theorem dX7_takeClause_64 : decode cX7_takeClause 64 = .ok (.iconst 1, 1) := by decide +kernel
theorem dX7_takeClause_65 : decode cX7_takeClause 65 = .ok (.goto 21, 3) := by decide +kernel
theorem dX7_takeClause_68 : decode cX7_takeClause 68 = .ok (.iconst 0, 1) := by decide +kernel
theorem dX7_takeClause_69 : decode cX7_takeClause 69 = .ok (.goto 17, 3) := by decide +kernel
theorem dX7_takeClause_72 : decode cX7_takeClause 72 = .ok (.aload_n 0, 1) := by decide +kernel
theorem dX7_takeClause_73 : decode cX7_takeClause 73 = .ok (.getfield 125, 3) := by decide +kernel
theorem dX7_takeClause_76 : decode cX7_takeClause 76 = .ok (.bipush 9, 2) := by decide +kernel
theorem dX7_takeClause_78 : decode cX7_takeClause 78 = .ok (.if_icmp .ne 7, 3) := by decide +kernel
theorem dX7_takeClause_81 : decode cX7_takeClause 81 = .ok (.iconst 1, 1) := by decide +kernel
theorem dX7_takeClause_82 : decode cX7_takeClause 82 = .ok (.goto 4, 3) := by decide +kernel
theorem dX7_takeClause_85 : decode cX7_takeClause 85 = .ok (.iconst 0, 1) := by decide +kernel
theorem dX7_takeClause_86 : decode cX7_takeClause 86 = .ok (.istore_n 3, 1) := by decide +kernel
theorem dX7_takeClause_87 : decode cX7_takeClause 87 = .ok (.iload_n 3, 1) := by decide +kernel
theorem dX7_takeClause_88 : decode cX7_takeClause 88 = .ok (.ifCond .eq 13, 3) := by decide +kernel
theorem dX7_takeClause_91 : decode cX7_takeClause 91 = .ok (.aload_n 0, 1) := by decide +kernel
theorem dX7_takeClause_92 : decode cX7_takeClause 92 = .ok (.iconst 3, 1) := by decide +kernel
theorem dX7_takeClause_93 : decode cX7_takeClause 93 = .ok (.aload_n 0, 1) := by decide +kernel
theorem dX7_takeClause_94 : decode cX7_takeClause 94 = .ok (.getfield 98, 3) := by decide +kernel
theorem dX7_takeClause_97 : decode cX7_takeClause 97 = .ok (.invokevirtual 109, 3) := by decide +kernel
theorem dX7_takeClause_100 : decode cX7_takeClause 100 = .ok (.ireturn, 1) := by decide +kernel
theorem dX7_takeClause_101 : decode cX7_takeClause 101 = .ok (.aload_n 0, 1) := by decide +kernel
theorem dX7_takeClause_102 : decode cX7_takeClause 102 = .ok (.dup, 1) := by decide +kernel
theorem dX7_takeClause_103 : decode cX7_takeClause 103 = .ok (.getfield 98, 3) := by decide +kernel
theorem dX7_takeClause_106 : decode cX7_takeClause 106 = .ok (.iconst 1, 1) := by decide +kernel
theorem dX7_takeClause_107 : decode cX7_takeClause 107 = .ok (.iadd, 1) := by decide +kernel
theorem dX7_takeClause_108 : decode cX7_takeClause 108 = .ok (.putfield 98, 3) := by decide +kernel
theorem dX7_takeClause_111 : decode cX7_takeClause 111 = .ok (.iload_n 2, 1) := by decide +kernel
theorem dX7_takeClause_112 : decode cX7_takeClause 112 = .ok (.ifCond .ne 10, 3) := by decide +kernel
theorem dX7_takeClause_115 : decode cX7_takeClause 115 = .ok (.aload_n 0, 1) := by decide +kernel
theorem dX7_takeClause_116 : decode cX7_takeClause 116 = .ok (.invokevirtual 135, 3) := by decide +kernel
theorem dX7_takeClause_119 : decode cX7_takeClause 119 = .ok (.goto 7, 3) := by decide +kernel
theorem dX7_takeClause_122 : decode cX7_takeClause 122 = .ok (.aload_n 0, 1) := by decide +kernel
theorem dX7_takeClause_123 : decode cX7_takeClause 123 = .ok (.invokevirtual 138, 3) := by decide +kernel
theorem dX7_takeClause_126 : decode cX7_takeClause 126 = .ok (.istore 4, 2) := by decide +kernel
theorem dX7_takeClause_128 : decode cX7_takeClause 128 = .ok (.iload 4, 2) := by decide +kernel
theorem dX7_takeClause_130 : decode cX7_takeClause 130 = .ok (.ifCond .ne 22, 3) := by decide +kernel
theorem dX7_takeClause_133 : decode cX7_takeClause 133 = .ok (.aload_n 0, 1) := by decide +kernel
theorem dX7_takeClause_134 : decode cX7_takeClause 134 = .ok (.invokevirtual 101, 3) := by decide +kernel
theorem dX7_takeClause_137 : decode cX7_takeClause 137 = .ok (.bipush 59, 2) := by decide +kernel
theorem dX7_takeClause_139 : decode cX7_takeClause 139 = .ok (.if_icmp .eq 13, 3) := by decide +kernel
theorem dX7_takeClause_142 : decode cX7_takeClause 142 = .ok (.aload_n 0, 1) := by decide +kernel
theorem dX7_takeClause_143 : decode cX7_takeClause 143 = .ok (.iconst 1, 1) := by decide +kernel
theorem dX7_takeClause_144 : decode cX7_takeClause 144 = .ok (.aload_n 0, 1) := by decide +kernel
theorem dX7_takeClause_145 : decode cX7_takeClause 145 = .ok (.getfield 98, 3) := by decide +kernel
theorem dX7_takeClause_148 : decode cX7_takeClause 148 = .ok (.invokevirtual 109, 3) := by decide +kernel
theorem dX7_takeClause_151 : decode cX7_takeClause 151 = .ok (.ireturn, 1) := by decide +kernel
theorem dX7_takeClause_152 : decode cX7_takeClause 152 = .ok (.aload_n 0, 1) := by decide +kernel
theorem dX7_takeClause_153 : decode cX7_takeClause 153 = .ok (.dup, 1) := by decide +kernel
theorem dX7_takeClause_154 : decode cX7_takeClause 154 = .ok (.getfield 98, 3) := by decide +kernel
theorem dX7_takeClause_157 : decode cX7_takeClause 157 = .ok (.iconst 1, 1) := by decide +kernel
theorem dX7_takeClause_158 : decode cX7_takeClause 158 = .ok (.iadd, 1) := by decide +kernel
theorem dX7_takeClause_159 : decode cX7_takeClause 159 = .ok (.putfield 98, 3) := by decide +kernel
theorem dX7_takeClause_162 : decode cX7_takeClause 162 = .ok (.iload 4, 2) := by decide +kernel
theorem dX7_takeClause_164 : decode cX7_takeClause 164 = .ok (.ireturn, 1) := by decide +kernel
theorem dX7_takeRead_0 : decode cX7_takeRead 0 = .ok (.aload_n 0, 1) := by decide +kernel
theorem dX7_takeRead_1 : decode cX7_takeRead 1 = .ok (.aload_n 0, 1) := by decide +kernel
theorem dX7_takeRead_2 : decode cX7_takeRead 2 = .ok (.getfield 125, 3) := by decide +kernel
theorem dX7_takeRead_5 : decode cX7_takeRead 5 = .ok (.ifCond .ne 7, 3) := by decide +kernel
theorem dX7_takeRead_8 : decode cX7_takeRead 8 = .ok (.iconst 0, 1) := by decide +kernel
theorem dX7_takeRead_9 : decode cX7_takeRead 9 = .ok (.goto 7, 3) := by decide +kernel
theorem dX7_takeRead_12 : decode cX7_takeRead 12 = .ok (.aload_n 0, 1) := by decide +kernel
theorem dX7_takeRead_13 : decode cX7_takeRead 13 = .ok (.getfield 122, 3) := by decide +kernel
theorem dX7_takeRead_16 : decode cX7_takeRead 16 = .ok (.putfield 88, 3) := by decide +kernel
theorem dX7_takeRead_19 : decode cX7_takeRead 19 = .ok (.aload_n 0, 1) := by decide +kernel
theorem dX7_takeRead_20 : decode cX7_takeRead 20 = .ok (.aload_n 0, 1) := by decide +kernel
theorem dX7_takeRead_21 : decode cX7_takeRead 21 = .ok (.getfield 125, 3) := by decide +kernel
theorem dX7_takeRead_24 : decode cX7_takeRead 24 = .ok (.putfield 81, 3) := by decide +kernel
theorem dX7_takeRead_27 : decode cX7_takeRead 27 = .ok (.aload_n 0, 1) := by decide +kernel
theorem dX7_takeRead_28 : decode cX7_takeRead 28 = .ok (.aload_n 0, 1) := by decide +kernel
theorem dX7_takeRead_29 : decode cX7_takeRead 29 = .ok (.getfield 125, 3) := by decide +kernel
theorem dX7_takeRead_32 : decode cX7_takeRead 32 = .ok (.ifCond .ne 7, 3) := by decide +kernel
theorem dX7_takeRead_35 : decode cX7_takeRead 35 = .ok (.iconst 0, 1) := by decide +kernel
theorem dX7_takeRead_36 : decode cX7_takeRead 36 = .ok (.goto 7, 3) := by decide +kernel
theorem dX7_takeRead_39 : decode cX7_takeRead 39 = .ok (.aload_n 0, 1) := by decide +kernel
theorem dX7_takeRead_40 : decode cX7_takeRead 40 = .ok (.getfield 128, 3) := by decide +kernel
theorem dX7_takeRead_43 : decode cX7_takeRead 43 = .ok (.putfield 141, 3) := by decide +kernel
theorem dX7_takeRead_46 : decode cX7_takeRead 46 = .ok (.aload_n 0, 1) := by decide +kernel
theorem dX7_takeRead_47 : decode cX7_takeRead 47 = .ok (.invokevirtual 78, 3) := by decide +kernel
theorem dX7_takeRead_50 : decode cX7_takeRead 50 = .ok (.iconst 1, 1) := by decide +kernel
theorem dX7_takeRead_51 : decode cX7_takeRead 51 = .ok (.istore_n 1, 1) := by decide +kernel
theorem dX7_takeRead_52 : decode cX7_takeRead 52 = .ok (.iload_n 1, 1) := by decide +kernel
theorem dX7_takeRead_53 : decode cX7_takeRead 53 = .ok (.aload_n 0, 1) := by decide +kernel
theorem dX7_takeRead_54 : decode cX7_takeRead 54 = .ok (.getfield 81, 3) := by decide +kernel
theorem dX7_takeRead_57 : decode cX7_takeRead 57 = .ok (.if_icmp .ge 71, 3) := by decide +kernel
theorem dX7_takeRead_60 : decode cX7_takeRead 60 = .ok (.aload_n 0, 1) := by decide +kernel
theorem dX7_takeRead_61 : decode cX7_takeRead 61 = .ok (.getfield 7, 3) := by decide +kernel
theorem dX7_takeRead_64 : decode cX7_takeRead 64 = .ok (.iload_n 1, 1) := by decide +kernel
theorem dX7_takeRead_65 : decode cX7_takeRead 65 = .ok (.aload_n 0, 1) := by decide +kernel
theorem dX7_takeRead_66 : decode cX7_takeRead 66 = .ok (.getfield 32, 3) := by decide +kernel
theorem dX7_takeRead_69 : decode cX7_takeRead 69 = .ok (.iload_n 1, 1) := by decide +kernel
theorem dX7_takeRead_70 : decode cX7_takeRead 70 = .ok (.iaload, 1) := by decide +kernel
theorem dX7_takeRead_71 : decode cX7_takeRead 71 = .ok (.iastore, 1) := by decide +kernel
theorem dX7_takeRead_72 : decode cX7_takeRead 72 = .ok (.aload_n 0, 1) := by decide +kernel
theorem dX7_takeRead_73 : decode cX7_takeRead 73 = .ok (.getfield 13, 3) := by decide +kernel
theorem dX7_takeRead_76 : decode cX7_takeRead 76 = .ok (.iload_n 1, 1) := by decide +kernel
theorem dX7_takeRead_77 : decode cX7_takeRead 77 = .ok (.aload_n 0, 1) := by decide +kernel
theorem dX7_takeRead_78 : decode cX7_takeRead 78 = .ok (.getfield 35, 3) := by decide +kernel
theorem dX7_takeRead_81 : decode cX7_takeRead 81 = .ok (.iload_n 1, 1) := by decide +kernel
theorem dX7_takeRead_82 : decode cX7_takeRead 82 = .ok (.iaload, 1) := by decide +kernel
theorem dX7_takeRead_83 : decode cX7_takeRead 83 = .ok (.iastore, 1) := by decide +kernel
theorem dX7_takeRead_84 : decode cX7_takeRead 84 = .ok (.aload_n 0, 1) := by decide +kernel
theorem dX7_takeRead_85 : decode cX7_takeRead 85 = .ok (.getfield 16, 3) := by decide +kernel
theorem dX7_takeRead_88 : decode cX7_takeRead 88 = .ok (.iload_n 1, 1) := by decide +kernel
theorem dX7_takeRead_89 : decode cX7_takeRead 89 = .ok (.aload_n 0, 1) := by decide +kernel
theorem dX7_takeRead_90 : decode cX7_takeRead 90 = .ok (.getfield 38, 3) := by decide +kernel
theorem dX7_takeRead_93 : decode cX7_takeRead 93 = .ok (.iload_n 1, 1) := by decide +kernel
theorem dX7_takeRead_94 : decode cX7_takeRead 94 = .ok (.iaload, 1) := by decide +kernel
theorem dX7_takeRead_95 : decode cX7_takeRead 95 = .ok (.iastore, 1) := by decide +kernel
theorem dX7_takeRead_96 : decode cX7_takeRead 96 = .ok (.aload_n 0, 1) := by decide +kernel
theorem dX7_takeRead_97 : decode cX7_takeRead 97 = .ok (.getfield 19, 3) := by decide +kernel
theorem dX7_takeRead_100 : decode cX7_takeRead 100 = .ok (.iload_n 1, 1) := by decide +kernel
theorem dX7_takeRead_101 : decode cX7_takeRead 101 = .ok (.aload_n 0, 1) := by decide +kernel
theorem dX7_takeRead_102 : decode cX7_takeRead 102 = .ok (.getfield 41, 3) := by decide +kernel
theorem dX7_takeRead_105 : decode cX7_takeRead 105 = .ok (.iload_n 1, 1) := by decide +kernel
theorem dX7_takeRead_106 : decode cX7_takeRead 106 = .ok (.iaload, 1) := by decide +kernel
theorem dX7_takeRead_107 : decode cX7_takeRead 107 = .ok (.iastore, 1) := by decide +kernel
theorem dX7_takeRead_108 : decode cX7_takeRead 108 = .ok (.aload_n 0, 1) := by decide +kernel
theorem dX7_takeRead_109 : decode cX7_takeRead 109 = .ok (.getfield 22, 3) := by decide +kernel
theorem dX7_takeRead_112 : decode cX7_takeRead 112 = .ok (.iconst 0, 1) := by decide +kernel
theorem dX7_takeRead_113 : decode cX7_takeRead 113 = .ok (.iload_n 1, 1) := by decide +kernel
theorem dX7_takeRead_114 : decode cX7_takeRead 114 = .ok (.iadd, 1) := by decide +kernel
theorem dX7_takeRead_115 : decode cX7_takeRead 115 = .ok (.aload_n 0, 1) := by decide +kernel
theorem dX7_takeRead_116 : decode cX7_takeRead 116 = .ok (.getfield 16, 3) := by decide +kernel
theorem dX7_takeRead_119 : decode cX7_takeRead 119 = .ok (.iload_n 1, 1) := by decide +kernel
theorem dX7_takeRead_120 : decode cX7_takeRead 120 = .ok (.iaload, 1) := by decide +kernel
theorem dX7_takeRead_121 : decode cX7_takeRead 121 = .ok (.iastore, 1) := by decide +kernel
theorem dX7_takeRead_122 : decode cX7_takeRead 122 = .ok (.iinc 1 1, 3) := by decide +kernel
theorem dX7_takeRead_125 : decode cX7_takeRead 125 = .ok (.goto (-73), 3) := by decide +kernel
theorem dX7_takeRead_128 : decode cX7_takeRead 128 = .ok (.aload_n 0, 1) := by decide +kernel
theorem dX7_takeRead_129 : decode cX7_takeRead 129 = .ok (.getfield 22, 3) := by decide +kernel
theorem dX7_takeRead_132 : decode cX7_takeRead 132 = .ok (.bipush 10, 2) := by decide +kernel
theorem dX7_takeRead_134 : decode cX7_takeRead 134 = .ok (.aload_n 0, 1) := by decide +kernel
theorem dX7_takeRead_135 : decode cX7_takeRead 135 = .ok (.getfield 141, 3) := by decide +kernel
theorem dX7_takeRead_138 : decode cX7_takeRead 138 = .ok (.iastore, 1) := by decide +kernel
theorem dX7_takeRead_139 : decode cX7_takeRead 139 = .ok (.return_, 1) := by decide +kernel
theorem dX7_dale_0 : decode cX7_dale 0 = .ok (.aload_n 0, 1) := by decide +kernel
theorem dX7_dale_1 : decode cX7_dale 1 = .ok (.iconst (-1), 1) := by decide +kernel
theorem dX7_dale_2 : decode cX7_dale 2 = .ok (.putfield 28, 3) := by decide +kernel
theorem dX7_dale_5 : decode cX7_dale 5 = .ok (.aload_n 0, 1) := by decide +kernel
theorem dX7_dale_6 : decode cX7_dale 6 = .ok (.iconst 0, 1) := by decide +kernel
theorem dX7_dale_7 : decode cX7_dale 7 = .ok (.putfield 98, 3) := by decide +kernel
theorem dX7_dale_10 : decode cX7_dale 10 = .ok (.aload_n 0, 1) := by decide +kernel
theorem dX7_dale_11 : decode cX7_dale 11 = .ok (.iconst 0, 1) := by decide +kernel
theorem dX7_dale_12 : decode cX7_dale 12 = .ok (.putfield 125, 3) := by decide +kernel
theorem dX7_dale_15 : decode cX7_dale 15 = .ok (.iconst 0, 1) := by decide +kernel
theorem dX7_dale_16 : decode cX7_dale 16 = .ok (.istore_n 1, 1) := by decide +kernel
theorem dX7_dale_17 : decode cX7_dale 17 = .ok (.iload_n 1, 1) := by decide +kernel
theorem dX7_dale_18 : decode cX7_dale 18 = .ok (.ifCond .ne 18, 3) := by decide +kernel
theorem dX7_dale_21 : decode cX7_dale 21 = .ok (.aload_n 0, 1) := by decide +kernel
theorem dX7_dale_22 : decode cX7_dale 22 = .ok (.invokevirtual 101, 3) := by decide +kernel
theorem dX7_dale_25 : decode cX7_dale 25 = .ok (.ifCond .lt 11, 3) := by decide +kernel
theorem dX7_dale_28 : decode cX7_dale 28 = .ok (.aload_n 0, 1) := by decide +kernel
theorem dX7_dale_29 : decode cX7_dale 29 = .ok (.invokevirtual 144, 3) := by decide +kernel
theorem dX7_dale_32 : decode cX7_dale 32 = .ok (.istore_n 1, 1) := by decide +kernel
theorem dX7_dale_33 : decode cX7_dale 33 = .ok (.goto (-16), 3) := by decide +kernel
theorem dX7_dale_36 : decode cX7_dale 36 = .ok (.aload_n 0, 1) := by decide +kernel
theorem dX7_dale_37 : decode cX7_dale 37 = .ok (.iconst 0, 1) := by decide +kernel
theorem dX7_dale_38 : decode cX7_dale 38 = .ok (.putfield 94, 3) := by decide +kernel
theorem dX7_dale_41 : decode cX7_dale 41 = .ok (.iload_n 1, 1) := by decide +kernel
theorem dX7_dale_42 : decode cX7_dale 42 = .ok (.ifCond .le 8, 3) := by decide +kernel
theorem dX7_dale_45 : decode cX7_dale 45 = .ok (.bipush (-10), 2) := by decide +kernel
theorem dX7_dale_47 : decode cX7_dale 47 = .ok (.iload_n 1, 1) := by decide +kernel
theorem dX7_dale_48 : decode cX7_dale 48 = .ok (.isub, 1) := by decide +kernel
theorem dX7_dale_49 : decode cX7_dale 49 = .ok (.ireturn, 1) := by decide +kernel
theorem dX7_dale_50 : decode cX7_dale 50 = .ok (.aload_n 0, 1) := by decide +kernel
theorem dX7_dale_51 : decode cX7_dale 51 = .ok (.invokevirtual 147, 3) := by decide +kernel
theorem dX7_dale_54 : decode cX7_dale 54 = .ok (.aload_n 0, 1) := by decide +kernel
theorem dX7_dale_55 : decode cX7_dale 55 = .ok (.iconst 0, 1) := by decide +kernel
theorem dX7_dale_56 : decode cX7_dale 56 = .ok (.putfield 150, 3) := by decide +kernel
theorem dX7_dale_59 : decode cX7_dale 59 = .ok (.aload_n 0, 1) := by decide +kernel
theorem dX7_dale_60 : decode cX7_dale 60 = .ok (.iconst 0, 1) := by decide +kernel
theorem dX7_dale_61 : decode cX7_dale 61 = .ok (.putfield 153, 3) := by decide +kernel
theorem dX7_dale_64 : decode cX7_dale 64 = .ok (.aload_n 0, 1) := by decide +kernel
theorem dX7_dale_65 : decode cX7_dale 65 = .ok (.iconst 0, 1) := by decide +kernel
theorem dX7_dale_66 : decode cX7_dale 66 = .ok (.putfield 156, 3) := by decide +kernel
theorem dX7_dale_69 : decode cX7_dale 69 = .ok (.aload_n 0, 1) := by decide +kernel
theorem dX7_dale_70 : decode cX7_dale 70 = .ok (.getfield 75, 3) := by decide +kernel
theorem dX7_dale_73 : decode cX7_dale 73 = .ok (.iconst 0, 1) := by decide +kernel
theorem dX7_dale_74 : decode cX7_dale 74 = .ok (.iconst 0, 1) := by decide +kernel
theorem dX7_dale_75 : decode cX7_dale 75 = .ok (.bastore, 1) := by decide +kernel
theorem dX7_dale_76 : decode cX7_dale 76 = .ok (.aload_n 0, 1) := by decide +kernel
theorem dX7_dale_77 : decode cX7_dale 77 = .ok (.getfield 75, 3) := by decide +kernel
theorem dX7_dale_80 : decode cX7_dale 80 = .ok (.iconst 1, 1) := by decide +kernel
theorem dX7_dale_81 : decode cX7_dale 81 = .ok (.iconst 0, 1) := by decide +kernel
theorem dX7_dale_82 : decode cX7_dale 82 = .ok (.bastore, 1) := by decide +kernel
theorem dX7_dale_83 : decode cX7_dale 83 = .ok (.aload_n 0, 1) := by decide +kernel
theorem dX7_dale_84 : decode cX7_dale 84 = .ok (.getfield 81, 3) := by decide +kernel
theorem dX7_dale_87 : decode cX7_dale 87 = .ok (.ireturn, 1) := by decide +kernel
theorem dX7_fault_0 : decode cX7_fault 0 = .ok (.aload_n 0, 1) := by decide +kernel
theorem dX7_fault_1 : decode cX7_fault 1 = .ok (.getfield 28, 3) := by decide +kernel
theorem dX7_fault_4 : decode cX7_fault 4 = .ok (.ireturn, 1) := by decide +kernel
theorem dX7_garbleBy_0 : decode cX7_garbleBy 0 = .ok (.iload_n 1, 1) := by decide +kernel
theorem dX7_garbleBy_1 : decode cX7_garbleBy 1 = .ok (.tableswitch 71 1 4 #[31, 40, 51, 60], 31) := by decide +kernel
theorem dX7_garbleBy_32 : decode cX7_garbleBy 32 = .ok (.iload_n 3, 1) := by decide +kernel
theorem dX7_garbleBy_33 : decode cX7_garbleBy 33 = .ok (.iload_n 2, 1) := by decide +kernel
theorem dX7_garbleBy_34 : decode cX7_garbleBy 34 = .ok (.iadd, 1) := by decide +kernel
theorem dX7_garbleBy_35 : decode cX7_garbleBy 35 = .ok (.aload_n 0, 1) := by decide +kernel
theorem dX7_garbleBy_36 : decode cX7_garbleBy 36 = .ok (.getfield 88, 3) := by decide +kernel
theorem dX7_garbleBy_39 : decode cX7_garbleBy 39 = .ok (.irem, 1) := by decide +kernel
theorem dX7_garbleBy_40 : decode cX7_garbleBy 40 = .ok (.ireturn, 1) := by decide +kernel
theorem dX7_garbleBy_41 : decode cX7_garbleBy 41 = .ok (.iload_n 3, 1) := by decide +kernel
theorem dX7_garbleBy_42 : decode cX7_garbleBy 42 = .ok (.iload_n 2, 1) := by decide +kernel
theorem dX7_garbleBy_43 : decode cX7_garbleBy 43 = .ok (.if_icmp .le 7, 3) := by decide +kernel
theorem dX7_garbleBy_46 : decode cX7_garbleBy 46 = .ok (.iload_n 2, 1) := by decide +kernel
theorem dX7_garbleBy_47 : decode cX7_garbleBy 47 = .ok (.goto 4, 3) := by decide +kernel
theorem dX7_garbleBy_50 : decode cX7_garbleBy 50 = .ok (.iload_n 3, 1) := by decide +kernel
theorem dX7_garbleBy_51 : decode cX7_garbleBy 51 = .ok (.ireturn, 1) := by decide +kernel
theorem dX7_garbleBy_52 : decode cX7_garbleBy 52 = .ok (.aload_n 0, 1) := by decide +kernel
theorem dX7_garbleBy_53 : decode cX7_garbleBy 53 = .ok (.getfield 88, 3) := by decide +kernel
theorem dX7_garbleBy_56 : decode cX7_garbleBy 56 = .ok (.iconst 1, 1) := by decide +kernel
theorem dX7_garbleBy_57 : decode cX7_garbleBy 57 = .ok (.isub, 1) := by decide +kernel
theorem dX7_garbleBy_58 : decode cX7_garbleBy 58 = .ok (.iload_n 3, 1) := by decide +kernel
theorem dX7_garbleBy_59 : decode cX7_garbleBy 59 = .ok (.isub, 1) := by decide +kernel
theorem dX7_garbleBy_60 : decode cX7_garbleBy 60 = .ok (.ireturn, 1) := by decide +kernel
theorem dX7_garbleBy_61 : decode cX7_garbleBy 61 = .ok (.iload_n 3, 1) := by decide +kernel
theorem dX7_garbleBy_62 : decode cX7_garbleBy 62 = .ok (.iload_n 2, 1) := by decide +kernel
theorem dX7_garbleBy_63 : decode cX7_garbleBy 63 = .ok (.if_icmp .ge 7, 3) := by decide +kernel
theorem dX7_garbleBy_66 : decode cX7_garbleBy 66 = .ok (.iload_n 2, 1) := by decide +kernel
theorem dX7_garbleBy_67 : decode cX7_garbleBy 67 = .ok (.goto 4, 3) := by decide +kernel
theorem dX7_garbleBy_70 : decode cX7_garbleBy 70 = .ok (.iload_n 3, 1) := by decide +kernel
theorem dX7_garbleBy_71 : decode cX7_garbleBy 71 = .ok (.ireturn, 1) := by decide +kernel
theorem dX7_garbleBy_72 : decode cX7_garbleBy 72 = .ok (.iload_n 3, 1) := by decide +kernel
theorem dX7_garbleBy_73 : decode cX7_garbleBy 73 = .ok (.ireturn, 1) := by decide +kernel
theorem dX7_overFall_0 : decode cX7_overFall 0 = .ok (.aload_n 0, 1) := by decide +kernel
theorem dX7_overFall_1 : decode cX7_overFall 1 = .ok (.aload_n 0, 1) := by decide +kernel
theorem dX7_overFall_2 : decode cX7_overFall 2 = .ok (.getfield 22, 3) := by decide +kernel
theorem dX7_overFall_5 : decode cX7_overFall 5 = .ok (.iconst 0, 1) := by decide +kernel
theorem dX7_overFall_6 : decode cX7_overFall 6 = .ok (.iload_n 1, 1) := by decide +kernel
theorem dX7_overFall_7 : decode cX7_overFall 7 = .ok (.iadd, 1) := by decide +kernel
theorem dX7_overFall_8 : decode cX7_overFall 8 = .ok (.iaload, 1) := by decide +kernel
theorem dX7_overFall_9 : decode cX7_overFall 9 = .ok (.aload_n 0, 1) := by decide +kernel
theorem dX7_overFall_10 : decode cX7_overFall 10 = .ok (.getfield 19, 3) := by decide +kernel
theorem dX7_overFall_13 : decode cX7_overFall 13 = .ok (.iload_n 1, 1) := by decide +kernel
theorem dX7_overFall_14 : decode cX7_overFall 14 = .ok (.iaload, 1) := by decide +kernel
theorem dX7_overFall_15 : decode cX7_overFall 15 = .ok (.iload_n 2, 1) := by decide +kernel
theorem dX7_overFall_16 : decode cX7_overFall 16 = .ok (.invokevirtual 159, 3) := by decide +kernel
theorem dX7_overFall_19 : decode cX7_overFall 19 = .ok (.istore_n 3, 1) := by decide +kernel
theorem dX7_overFall_20 : decode cX7_overFall 20 = .ok (.aload_n 0, 1) := by decide +kernel
theorem dX7_overFall_21 : decode cX7_overFall 21 = .ok (.getfield 22, 3) := by decide +kernel
theorem dX7_overFall_24 : decode cX7_overFall 24 = .ok (.bipush 10, 2) := by decide +kernel
theorem dX7_overFall_26 : decode cX7_overFall 26 = .ok (.iaload, 1) := by decide +kernel
theorem dX7_overFall_27 : decode cX7_overFall 27 = .ok (.bipush 7, 2) := by decide +kernel
theorem dX7_overFall_29 : decode cX7_overFall 29 = .ok (.if_icmp .lt 25, 3) := by decide +kernel
theorem dX7_overFall_32 : decode cX7_overFall 32 = .ok (.aload_n 0, 1) := by decide +kernel
theorem dX7_overFall_33 : decode cX7_overFall 33 = .ok (.aload_n 0, 1) := by decide +kernel
theorem dX7_overFall_34 : decode cX7_overFall 34 = .ok (.getfield 22, 3) := by decide +kernel
theorem dX7_overFall_37 : decode cX7_overFall 37 = .ok (.iconst 0, 1) := by decide +kernel
theorem dX7_overFall_38 : decode cX7_overFall 38 = .ok (.iload_n 1, 1) := by decide +kernel
theorem dX7_overFall_39 : decode cX7_overFall 39 = .ok (.iadd, 1) := by decide +kernel
theorem dX7_overFall_40 : decode cX7_overFall 40 = .ok (.iaload, 1) := by decide +kernel
theorem dX7_overFall_41 : decode cX7_overFall 41 = .ok (.aload_n 0, 1) := by decide +kernel
theorem dX7_overFall_42 : decode cX7_overFall 42 = .ok (.getfield 19, 3) := by decide +kernel
theorem dX7_overFall_45 : decode cX7_overFall 45 = .ok (.iload_n 1, 1) := by decide +kernel
theorem dX7_overFall_46 : decode cX7_overFall 46 = .ok (.iaload, 1) := by decide +kernel
theorem dX7_overFall_47 : decode cX7_overFall 47 = .ok (.iload_n 3, 1) := by decide +kernel
theorem dX7_overFall_48 : decode cX7_overFall 48 = .ok (.invokevirtual 159, 3) := by decide +kernel
theorem dX7_overFall_51 : decode cX7_overFall 51 = .ok (.goto 4, 3) := by decide +kernel
theorem dX7_overFall_54 : decode cX7_overFall 54 = .ok (.iload_n 3, 1) := by decide +kernel
theorem dX7_overFall_55 : decode cX7_overFall 55 = .ok (.ireturn, 1) := by decide +kernel
theorem dX7_stopsAt_0 : decode cX7_stopsAt 0 = .ok (.iload_n 1, 1) := by decide +kernel
theorem dX7_stopsAt_1 : decode cX7_stopsAt 1 = .ok (.ifCond .eq 17, 3) := by decide +kernel
theorem dX7_stopsAt_4 : decode cX7_stopsAt 4 = .ok (.aload_n 0, 1) := by decide +kernel
theorem dX7_stopsAt_5 : decode cX7_stopsAt 5 = .ok (.getfield 22, 3) := by decide +kernel
theorem dX7_stopsAt_8 : decode cX7_stopsAt 8 = .ok (.bipush 9, 2) := by decide +kernel
theorem dX7_stopsAt_10 : decode cX7_stopsAt 10 = .ok (.iaload, 1) := by decide +kernel
theorem dX7_stopsAt_11 : decode cX7_stopsAt 11 = .ok (.iload_n 1, 1) := by decide +kernel
theorem dX7_stopsAt_12 : decode cX7_stopsAt 12 = .ok (.invokestatic 163, 3) := by decide +kernel
theorem dX7_stopsAt_15 : decode cX7_stopsAt 15 = .ok (.ifCond .eq 7, 3) := by decide +kernel
theorem dX7_stopsAt_18 : decode cX7_stopsAt 18 = .ok (.iconst 1, 1) := by decide +kernel
theorem dX7_stopsAt_19 : decode cX7_stopsAt 19 = .ok (.goto 4, 3) := by decide +kernel
theorem dX7_stopsAt_22 : decode cX7_stopsAt 22 = .ok (.iconst 0, 1) := by decide +kernel
theorem dX7_stopsAt_23 : decode cX7_stopsAt 23 = .ok (.ireturn, 1) := by decide +kernel
theorem dX7_toGo_0 : decode cX7_toGo 0 = .ok (.aload_n 0, 1) := by decide +kernel
theorem dX7_toGo_1 : decode cX7_toGo 1 = .ok (.getfield 22, 3) := by decide +kernel
theorem dX7_toGo_4 : decode cX7_toGo 4 = .ok (.bipush 33, 2) := by decide +kernel
theorem dX7_toGo_6 : decode cX7_toGo 6 = .ok (.iload_n 1, 1) := by decide +kernel
theorem dX7_toGo_7 : decode cX7_toGo 7 = .ok (.iadd, 1) := by decide +kernel
theorem dX7_toGo_8 : decode cX7_toGo 8 = .ok (.iaload, 1) := by decide +kernel
theorem dX7_toGo_9 : decode cX7_toGo 9 = .ok (.sipush 1000, 3) := by decide +kernel
theorem dX7_toGo_12 : decode cX7_toGo 12 = .ok (.idiv, 1) := by decide +kernel
theorem dX7_toGo_13 : decode cX7_toGo 13 = .ok (.ireturn, 1) := by decide +kernel
theorem dX7_goesFrom_0 : decode cX7_goesFrom 0 = .ok (.aload_n 0, 1) := by decide +kernel
theorem dX7_goesFrom_1 : decode cX7_goesFrom 1 = .ok (.getfield 22, 3) := by decide +kernel
theorem dX7_goesFrom_4 : decode cX7_goesFrom 4 = .ok (.bipush 33, 2) := by decide +kernel
theorem dX7_goesFrom_6 : decode cX7_goesFrom 6 = .ok (.iload_n 1, 1) := by decide +kernel
theorem dX7_goesFrom_7 : decode cX7_goesFrom 7 = .ok (.iadd, 1) := by decide +kernel
theorem dX7_goesFrom_8 : decode cX7_goesFrom 8 = .ok (.iaload, 1) := by decide +kernel
theorem dX7_goesFrom_9 : decode cX7_goesFrom 9 = .ok (.bipush 100, 2) := by decide +kernel
theorem dX7_goesFrom_11 : decode cX7_goesFrom 11 = .ok (.idiv, 1) := by decide +kernel
theorem dX7_goesFrom_12 : decode cX7_goesFrom 12 = .ok (.bipush 10, 2) := by decide +kernel
theorem dX7_goesFrom_14 : decode cX7_goesFrom 14 = .ok (.irem, 1) := by decide +kernel
theorem dX7_goesFrom_15 : decode cX7_goesFrom 15 = .ok (.ireturn, 1) := by decide +kernel
theorem dX7_wordOf_0 : decode cX7_wordOf 0 = .ok (.aload_n 0, 1) := by decide +kernel
theorem dX7_wordOf_1 : decode cX7_wordOf 1 = .ok (.getfield 22, 3) := by decide +kernel
theorem dX7_wordOf_4 : decode cX7_wordOf 4 = .ok (.bipush 33, 2) := by decide +kernel
theorem dX7_wordOf_6 : decode cX7_wordOf 6 = .ok (.iload_n 1, 1) := by decide +kernel
theorem dX7_wordOf_7 : decode cX7_wordOf 7 = .ok (.iadd, 1) := by decide +kernel
theorem dX7_wordOf_8 : decode cX7_wordOf 8 = .ok (.iaload, 1) := by decide +kernel
theorem dX7_wordOf_9 : decode cX7_wordOf 9 = .ok (.bipush 10, 2) := by decide +kernel
theorem dX7_wordOf_11 : decode cX7_wordOf 11 = .ok (.idiv, 1) := by decide +kernel
theorem dX7_wordOf_12 : decode cX7_wordOf 12 = .ok (.bipush 10, 2) := by decide +kernel
theorem dX7_wordOf_14 : decode cX7_wordOf 14 = .ok (.irem, 1) := by decide +kernel
theorem dX7_wordOf_15 : decode cX7_wordOf 15 = .ok (.ireturn, 1) := by decide +kernel
theorem dX7_saidAt_0 : decode cX7_saidAt 0 = .ok (.aload_n 0, 1) := by decide +kernel
theorem dX7_saidAt_1 : decode cX7_saidAt 1 = .ok (.getfield 22, 3) := by decide +kernel
theorem dX7_saidAt_4 : decode cX7_saidAt 4 = .ok (.bipush 33, 2) := by decide +kernel
theorem dX7_saidAt_6 : decode cX7_saidAt 6 = .ok (.iload_n 1, 1) := by decide +kernel
theorem dX7_saidAt_7 : decode cX7_saidAt 7 = .ok (.iadd, 1) := by decide +kernel
theorem dX7_saidAt_8 : decode cX7_saidAt 8 = .ok (.iaload, 1) := by decide +kernel
theorem dX7_saidAt_9 : decode cX7_saidAt 9 = .ok (.bipush 10, 2) := by decide +kernel
theorem dX7_saidAt_11 : decode cX7_saidAt 11 = .ok (.irem, 1) := by decide +kernel
theorem dX7_saidAt_12 : decode cX7_saidAt 12 = .ok (.ireturn, 1) := by decide +kernel
theorem dX7_packed_0 : decode cX7_packed 0 = .ok (.sipush 1000, 3) := by decide +kernel
theorem dX7_packed_3 : decode cX7_packed 3 = .ok (.iload_n 0, 1) := by decide +kernel
theorem dX7_packed_4 : decode cX7_packed 4 = .ok (.imul, 1) := by decide +kernel
theorem dX7_packed_5 : decode cX7_packed 5 = .ok (.bipush 100, 2) := by decide +kernel
theorem dX7_packed_7 : decode cX7_packed 7 = .ok (.iload_n 1, 1) := by decide +kernel
theorem dX7_packed_8 : decode cX7_packed 8 = .ok (.imul, 1) := by decide +kernel
theorem dX7_packed_9 : decode cX7_packed 9 = .ok (.iadd, 1) := by decide +kernel
theorem dX7_packed_10 : decode cX7_packed 10 = .ok (.bipush 10, 2) := by decide +kernel
theorem dX7_packed_12 : decode cX7_packed 12 = .ok (.iload_n 2, 1) := by decide +kernel
theorem dX7_packed_13 : decode cX7_packed 13 = .ok (.imul, 1) := by decide +kernel
theorem dX7_packed_14 : decode cX7_packed 14 = .ok (.iadd, 1) := by decide +kernel
theorem dX7_packed_15 : decode cX7_packed 15 = .ok (.iload_n 3, 1) := by decide +kernel
theorem dX7_packed_16 : decode cX7_packed 16 = .ok (.iadd, 1) := by decide +kernel
theorem dX7_packed_17 : decode cX7_packed 17 = .ok (.ireturn, 1) := by decide +kernel
theorem dX7_takeOff_0 : decode cX7_takeOff 0 = .ok (.aload_n 0, 1) := by decide +kernel
theorem dX7_takeOff_1 : decode cX7_takeOff 1 = .ok (.getfield 22, 3) := by decide +kernel
theorem dX7_takeOff_4 : decode cX7_takeOff 4 = .ok (.bipush 32, 2) := by decide +kernel
theorem dX7_takeOff_6 : decode cX7_takeOff 6 = .ok (.dup2, 1) := by decide +kernel
theorem dX7_takeOff_7 : decode cX7_takeOff 7 = .ok (.iaload, 1) := by decide +kernel
theorem dX7_takeOff_8 : decode cX7_takeOff 8 = .ok (.iconst 1, 1) := by decide +kernel
theorem dX7_takeOff_9 : decode cX7_takeOff 9 = .ok (.isub, 1) := by decide +kernel
theorem dX7_takeOff_10 : decode cX7_takeOff 10 = .ok (.iastore, 1) := by decide +kernel
theorem dX7_takeOff_11 : decode cX7_takeOff 11 = .ok (.iload_n 1, 1) := by decide +kernel
theorem dX7_takeOff_12 : decode cX7_takeOff 12 = .ok (.istore_n 2, 1) := by decide +kernel
theorem dX7_takeOff_13 : decode cX7_takeOff 13 = .ok (.iload_n 2, 1) := by decide +kernel
theorem dX7_takeOff_14 : decode cX7_takeOff 14 = .ok (.aload_n 0, 1) := by decide +kernel
theorem dX7_takeOff_15 : decode cX7_takeOff 15 = .ok (.getfield 22, 3) := by decide +kernel
theorem dX7_takeOff_18 : decode cX7_takeOff 18 = .ok (.bipush 32, 2) := by decide +kernel
theorem dX7_takeOff_20 : decode cX7_takeOff 20 = .ok (.iaload, 1) := by decide +kernel
theorem dX7_takeOff_21 : decode cX7_takeOff 21 = .ok (.if_icmp .ge 29, 3) := by decide +kernel
theorem dX7_takeOff_24 : decode cX7_takeOff 24 = .ok (.aload_n 0, 1) := by decide +kernel
theorem dX7_takeOff_25 : decode cX7_takeOff 25 = .ok (.getfield 22, 3) := by decide +kernel
theorem dX7_takeOff_28 : decode cX7_takeOff 28 = .ok (.bipush 33, 2) := by decide +kernel
theorem dX7_takeOff_30 : decode cX7_takeOff 30 = .ok (.iload_n 2, 1) := by decide +kernel
theorem dX7_takeOff_31 : decode cX7_takeOff 31 = .ok (.iadd, 1) := by decide +kernel
theorem dX7_takeOff_32 : decode cX7_takeOff 32 = .ok (.aload_n 0, 1) := by decide +kernel
theorem dX7_takeOff_33 : decode cX7_takeOff 33 = .ok (.getfield 22, 3) := by decide +kernel
theorem dX7_takeOff_36 : decode cX7_takeOff 36 = .ok (.bipush 33, 2) := by decide +kernel
theorem dX7_takeOff_38 : decode cX7_takeOff 38 = .ok (.iload_n 2, 1) := by decide +kernel
theorem dX7_takeOff_39 : decode cX7_takeOff 39 = .ok (.iadd, 1) := by decide +kernel
theorem dX7_takeOff_40 : decode cX7_takeOff 40 = .ok (.iconst 1, 1) := by decide +kernel
theorem dX7_takeOff_41 : decode cX7_takeOff 41 = .ok (.iadd, 1) := by decide +kernel
theorem dX7_takeOff_42 : decode cX7_takeOff 42 = .ok (.iaload, 1) := by decide +kernel
theorem dX7_takeOff_43 : decode cX7_takeOff 43 = .ok (.iastore, 1) := by decide +kernel
theorem dX7_takeOff_44 : decode cX7_takeOff 44 = .ok (.iinc 2 1, 3) := by decide +kernel
theorem dX7_takeOff_47 : decode cX7_takeOff 47 = .ok (.goto (-34), 3) := by decide +kernel
theorem dX7_takeOff_50 : decode cX7_takeOff 50 = .ok (.aload_n 0, 1) := by decide +kernel
theorem dX7_takeOff_51 : decode cX7_takeOff 51 = .ok (.getfield 22, 3) := by decide +kernel
theorem dX7_takeOff_54 : decode cX7_takeOff 54 = .ok (.bipush 33, 2) := by decide +kernel
theorem dX7_takeOff_56 : decode cX7_takeOff 56 = .ok (.aload_n 0, 1) := by decide +kernel
theorem dX7_takeOff_57 : decode cX7_takeOff 57 = .ok (.getfield 22, 3) := by decide +kernel
theorem dX7_takeOff_60 : decode cX7_takeOff 60 = .ok (.bipush 32, 2) := by decide +kernel
theorem dX7_takeOff_62 : decode cX7_takeOff 62 = .ok (.iaload, 1) := by decide +kernel
theorem dX7_takeOff_63 : decode cX7_takeOff 63 = .ok (.iadd, 1) := by decide +kernel
theorem dX7_takeOff_64 : decode cX7_takeOff 64 = .ok (.iconst 0, 1) := by decide +kernel
theorem dX7_takeOff_65 : decode cX7_takeOff 65 = .ok (.iastore, 1) := by decide +kernel
theorem dX7_takeOff_66 : decode cX7_takeOff 66 = .ok (.return_, 1) := by decide +kernel
theorem dX7_hears_0 : decode cX7_hears 0 = .ok (.aload_n 0, 1) := by decide +kernel
theorem dX7_hears_1 : decode cX7_hears 1 = .ok (.getfield 22, 3) := by decide +kernel
theorem dX7_hears_4 : decode cX7_hears 4 = .ok (.bipush 14, 2) := by decide +kernel
theorem dX7_hears_6 : decode cX7_hears 6 = .ok (.iload_n 1, 1) := by decide +kernel
theorem dX7_hears_7 : decode cX7_hears 7 = .ok (.iadd, 1) := by decide +kernel
theorem dX7_hears_8 : decode cX7_hears 8 = .ok (.iload_n 2, 1) := by decide +kernel
theorem dX7_hears_9 : decode cX7_hears 9 = .ok (.iastore, 1) := by decide +kernel
theorem dX7_hears_10 : decode cX7_hears 10 = .ok (.aload_n 0, 1) := by decide +kernel
theorem dX7_hears_11 : decode cX7_hears 11 = .ok (.getfield 22, 3) := by decide +kernel
theorem dX7_hears_14 : decode cX7_hears 14 = .ok (.bipush 23, 2) := by decide +kernel
theorem dX7_hears_16 : decode cX7_hears 16 = .ok (.iload_n 1, 1) := by decide +kernel
theorem dX7_hears_17 : decode cX7_hears 17 = .ok (.iadd, 1) := by decide +kernel
theorem dX7_hears_18 : decode cX7_hears 18 = .ok (.dup2, 1) := by decide +kernel
theorem dX7_hears_19 : decode cX7_hears 19 = .ok (.iaload, 1) := by decide +kernel
theorem dX7_hears_20 : decode cX7_hears 20 = .ok (.aload_n 0, 1) := by decide +kernel
theorem dX7_hears_21 : decode cX7_hears 21 = .ok (.getfield 22, 3) := by decide +kernel
theorem dX7_hears_24 : decode cX7_hears 24 = .ok (.bipush 23, 2) := by decide +kernel
theorem dX7_hears_26 : decode cX7_hears 26 = .ok (.iload_n 1, 1) := by decide +kernel
theorem dX7_hears_27 : decode cX7_hears 27 = .ok (.iadd, 1) := by decide +kernel
theorem dX7_hears_28 : decode cX7_hears 28 = .ok (.iaload, 1) := by decide +kernel
theorem dX7_hears_29 : decode cX7_hears 29 = .ok (.ldc 167, 2) := by decide +kernel
theorem dX7_hears_31 : decode cX7_hears 31 = .ok (.if_icmp .ge 7, 3) := by decide +kernel
theorem dX7_hears_34 : decode cX7_hears 34 = .ok (.iconst 1, 1) := by decide +kernel
theorem dX7_hears_35 : decode cX7_hears 35 = .ok (.goto 4, 3) := by decide +kernel
theorem dX7_hears_38 : decode cX7_hears 38 = .ok (.iconst 0, 1) := by decide +kernel
theorem dX7_hears_39 : decode cX7_hears 39 = .ok (.iadd, 1) := by decide +kernel
theorem dX7_hears_40 : decode cX7_hears 40 = .ok (.iastore, 1) := by decide +kernel
theorem dX7_hears_41 : decode cX7_hears 41 = .ok (.aload_n 0, 1) := by decide +kernel
theorem dX7_hears_42 : decode cX7_hears 42 = .ok (.getfield 47, 3) := by decide +kernel
theorem dX7_hears_45 : decode cX7_hears 45 = .ok (.iload_n 1, 1) := by decide +kernel
theorem dX7_hears_46 : decode cX7_hears 46 = .ok (.aload_n 0, 1) := by decide +kernel
theorem dX7_hears_47 : decode cX7_hears 47 = .ok (.getfield 47, 3) := by decide +kernel
theorem dX7_hears_50 : decode cX7_hears 50 = .ok (.iload_n 1, 1) := by decide +kernel
theorem dX7_hears_51 : decode cX7_hears 51 = .ok (.baload, 1) := by decide +kernel
theorem dX7_hears_52 : decode cX7_hears 52 = .ok (.ifCond .ne 22, 3) := by decide +kernel
theorem dX7_hears_55 : decode cX7_hears 55 = .ok (.aload_n 0, 1) := by decide +kernel
theorem dX7_hears_56 : decode cX7_hears 56 = .ok (.getfield 44, 3) := by decide +kernel
theorem dX7_hears_59 : decode cX7_hears 59 = .ok (.iload_n 1, 1) := by decide +kernel
theorem dX7_hears_60 : decode cX7_hears 60 = .ok (.iaload, 1) := by decide +kernel
theorem dX7_hears_61 : decode cX7_hears 61 = .ok (.ifCond .lt 17, 3) := by decide +kernel
theorem dX7_hears_64 : decode cX7_hears 64 = .ok (.aload_n 0, 1) := by decide +kernel
theorem dX7_hears_65 : decode cX7_hears 65 = .ok (.getfield 44, 3) := by decide +kernel
theorem dX7_hears_68 : decode cX7_hears 68 = .ok (.iload_n 1, 1) := by decide +kernel
theorem dX7_hears_69 : decode cX7_hears 69 = .ok (.iaload, 1) := by decide +kernel
theorem dX7_hears_70 : decode cX7_hears 70 = .ok (.iload_n 2, 1) := by decide +kernel
theorem dX7_hears_71 : decode cX7_hears 71 = .ok (.if_icmp .eq 7, 3) := by decide +kernel
theorem dX7_hears_74 : decode cX7_hears 74 = .ok (.iconst 1, 1) := by decide +kernel
theorem dX7_hears_75 : decode cX7_hears 75 = .ok (.goto 4, 3) := by decide +kernel
theorem dX7_hears_78 : decode cX7_hears 78 = .ok (.iconst 0, 1) := by decide +kernel
theorem dX7_hears_79 : decode cX7_hears 79 = .ok (.bastore, 1) := by decide +kernel
theorem dX7_hears_80 : decode cX7_hears 80 = .ok (.aload_n 0, 1) := by decide +kernel
theorem dX7_hears_81 : decode cX7_hears 81 = .ok (.getfield 44, 3) := by decide +kernel
theorem dX7_hears_84 : decode cX7_hears 84 = .ok (.iload_n 1, 1) := by decide +kernel
theorem dX7_hears_85 : decode cX7_hears 85 = .ok (.iload_n 2, 1) := by decide +kernel
theorem dX7_hears_86 : decode cX7_hears 86 = .ok (.iastore, 1) := by decide +kernel
theorem dX7_hears_87 : decode cX7_hears 87 = .ok (.aload_n 0, 1) := by decide +kernel
theorem dX7_hears_88 : decode cX7_hears 88 = .ok (.getfield 22, 3) := by decide +kernel
theorem dX7_hears_91 : decode cX7_hears 91 = .ok (.bipush 45, 2) := by decide +kernel
theorem dX7_hears_93 : decode cX7_hears 93 = .ok (.iaload, 1) := by decide +kernel
theorem dX7_hears_94 : decode cX7_hears 94 = .ok (.bipush 20, 2) := by decide +kernel
theorem dX7_hears_96 : decode cX7_hears 96 = .ok (.if_icmp .ne 52, 3) := by decide +kernel
theorem dX7_hears_99 : decode cX7_hears 99 = .ok (.iconst 1, 1) := by decide +kernel
theorem dX7_hears_100 : decode cX7_hears 100 = .ok (.istore 4, 2) := by decide +kernel
theorem dX7_hears_102 : decode cX7_hears 102 = .ok (.iload 4, 2) := by decide +kernel
theorem dX7_hears_104 : decode cX7_hears 104 = .ok (.bipush 20, 2) := by decide +kernel
theorem dX7_hears_106 : decode cX7_hears 106 = .ok (.if_icmp .ge 31, 3) := by decide +kernel
theorem dX7_hears_109 : decode cX7_hears 109 = .ok (.aload_n 0, 1) := by decide +kernel
theorem dX7_hears_110 : decode cX7_hears 110 = .ok (.getfield 22, 3) := by decide +kernel
theorem dX7_hears_113 : decode cX7_hears 113 = .ok (.bipush 46, 2) := by decide +kernel
theorem dX7_hears_115 : decode cX7_hears 115 = .ok (.iload 4, 2) := by decide +kernel
theorem dX7_hears_117 : decode cX7_hears 117 = .ok (.iadd, 1) := by decide +kernel
theorem dX7_hears_118 : decode cX7_hears 118 = .ok (.iconst 1, 1) := by decide +kernel
theorem dX7_hears_119 : decode cX7_hears 119 = .ok (.isub, 1) := by decide +kernel
theorem dX7_hears_120 : decode cX7_hears 120 = .ok (.aload_n 0, 1) := by decide +kernel
theorem dX7_hears_121 : decode cX7_hears 121 = .ok (.getfield 22, 3) := by decide +kernel
theorem dX7_hears_124 : decode cX7_hears 124 = .ok (.bipush 46, 2) := by decide +kernel
theorem dX7_hears_126 : decode cX7_hears 126 = .ok (.iload 4, 2) := by decide +kernel
theorem dX7_hears_128 : decode cX7_hears 128 = .ok (.iadd, 1) := by decide +kernel
theorem dX7_hears_129 : decode cX7_hears 129 = .ok (.iaload, 1) := by decide +kernel
theorem dX7_hears_130 : decode cX7_hears 130 = .ok (.iastore, 1) := by decide +kernel
theorem dX7_hears_131 : decode cX7_hears 131 = .ok (.iinc 4 1, 3) := by decide +kernel
theorem dX7_hears_134 : decode cX7_hears 134 = .ok (.goto (-32), 3) := by decide +kernel
theorem dX7_hears_137 : decode cX7_hears 137 = .ok (.aload_n 0, 1) := by decide +kernel
theorem dX7_hears_138 : decode cX7_hears 138 = .ok (.getfield 22, 3) := by decide +kernel
theorem dX7_hears_141 : decode cX7_hears 141 = .ok (.bipush 45, 2) := by decide +kernel
theorem dX7_hears_143 : decode cX7_hears 143 = .ok (.dup2, 1) := by decide +kernel
theorem dX7_hears_144 : decode cX7_hears 144 = .ok (.iaload, 1) := by decide +kernel
theorem dX7_hears_145 : decode cX7_hears 145 = .ok (.iconst 1, 1) := by decide +kernel
theorem dX7_hears_146 : decode cX7_hears 146 = .ok (.isub, 1) := by decide +kernel
theorem dX7_hears_147 : decode cX7_hears 147 = .ok (.iastore, 1) := by decide +kernel
theorem dX7_hears_148 : decode cX7_hears 148 = .ok (.aload_n 0, 1) := by decide +kernel
theorem dX7_hears_149 : decode cX7_hears 149 = .ok (.getfield 22, 3) := by decide +kernel
theorem dX7_hears_152 : decode cX7_hears 152 = .ok (.bipush 46, 2) := by decide +kernel
theorem dX7_hears_154 : decode cX7_hears 154 = .ok (.aload_n 0, 1) := by decide +kernel
theorem dX7_hears_155 : decode cX7_hears 155 = .ok (.getfield 22, 3) := by decide +kernel
theorem dX7_hears_158 : decode cX7_hears 158 = .ok (.bipush 45, 2) := by decide +kernel
theorem dX7_hears_160 : decode cX7_hears 160 = .ok (.iaload, 1) := by decide +kernel
theorem dX7_hears_161 : decode cX7_hears 161 = .ok (.iadd, 1) := by decide +kernel
theorem dX7_hears_162 : decode cX7_hears 162 = .ok (.sipush 1000, 3) := by decide +kernel
theorem dX7_hears_165 : decode cX7_hears 165 = .ok (.aload_n 0, 1) := by decide +kernel
theorem dX7_hears_166 : decode cX7_hears 166 = .ok (.getfield 22, 3) := by decide +kernel
theorem dX7_hears_169 : decode cX7_hears 169 = .ok (.bipush 12, 2) := by decide +kernel
theorem dX7_hears_171 : decode cX7_hears 171 = .ok (.iaload, 1) := by decide +kernel
theorem dX7_hears_172 : decode cX7_hears 172 = .ok (.imul, 1) := by decide +kernel
theorem dX7_hears_173 : decode cX7_hears 173 = .ok (.bipush 100, 2) := by decide +kernel
theorem dX7_hears_175 : decode cX7_hears 175 = .ok (.iload_n 1, 1) := by decide +kernel
theorem dX7_hears_176 : decode cX7_hears 176 = .ok (.imul, 1) := by decide +kernel
theorem dX7_hears_177 : decode cX7_hears 177 = .ok (.iadd, 1) := by decide +kernel
theorem dX7_hears_178 : decode cX7_hears 178 = .ok (.bipush 10, 2) := by decide +kernel
theorem dX7_hears_180 : decode cX7_hears 180 = .ok (.iload_n 2, 1) := by decide +kernel
theorem dX7_hears_181 : decode cX7_hears 181 = .ok (.imul, 1) := by decide +kernel
theorem dX7_hears_182 : decode cX7_hears 182 = .ok (.iadd, 1) := by decide +kernel
theorem dX7_hears_183 : decode cX7_hears 183 = .ok (.iload_n 3, 1) := by decide +kernel
theorem dX7_hears_184 : decode cX7_hears 184 = .ok (.iadd, 1) := by decide +kernel
theorem dX7_hears_185 : decode cX7_hears 185 = .ok (.iastore, 1) := by decide +kernel
theorem dX7_hears_186 : decode cX7_hears 186 = .ok (.aload_n 0, 1) := by decide +kernel
theorem dX7_hears_187 : decode cX7_hears 187 = .ok (.getfield 22, 3) := by decide +kernel
theorem dX7_hears_190 : decode cX7_hears 190 = .ok (.bipush 45, 2) := by decide +kernel
theorem dX7_hears_192 : decode cX7_hears 192 = .ok (.dup2, 1) := by decide +kernel
theorem dX7_hears_193 : decode cX7_hears 193 = .ok (.iaload, 1) := by decide +kernel
theorem dX7_hears_194 : decode cX7_hears 194 = .ok (.iconst 1, 1) := by decide +kernel
theorem dX7_hears_195 : decode cX7_hears 195 = .ok (.iadd, 1) := by decide +kernel
theorem dX7_hears_196 : decode cX7_hears 196 = .ok (.iastore, 1) := by decide +kernel
theorem dX7_hears_197 : decode cX7_hears 197 = .ok (.return_, 1) := by decide +kernel
theorem dX7_go_0 : decode cX7_go 0 = .ok (.aload_n 0, 1) := by decide +kernel
theorem dX7_go_1 : decode cX7_go 1 = .ok (.iload_n 1, 1) := by decide +kernel
theorem dX7_go_2 : decode cX7_go 2 = .ok (.invokevirtual 168, 3) := by decide +kernel
theorem dX7_go_5 : decode cX7_go 5 = .ok (.aload_n 0, 1) := by decide +kernel
theorem dX7_go_6 : decode cX7_go 6 = .ok (.getfield 22, 3) := by decide +kernel
theorem dX7_go_9 : decode cX7_go 9 = .ok (.bipush 10, 2) := by decide +kernel
theorem dX7_go_11 : decode cX7_go 11 = .ok (.iaload, 1) := by decide +kernel
theorem dX7_go_12 : decode cX7_go 12 = .ok (.isub, 1) := by decide +kernel
theorem dX7_go_13 : decode cX7_go 13 = .ok (.istore_n 2, 1) := by decide +kernel
theorem dX7_go_14 : decode cX7_go 14 = .ok (.aload_n 0, 1) := by decide +kernel
theorem dX7_go_15 : decode cX7_go 15 = .ok (.iload_n 1, 1) := by decide +kernel
theorem dX7_go_16 : decode cX7_go 16 = .ok (.invokevirtual 172, 3) := by decide +kernel
theorem dX7_go_19 : decode cX7_go 19 = .ok (.istore_n 3, 1) := by decide +kernel
theorem dX7_go_20 : decode cX7_go 20 = .ok (.iload_n 2, 1) := by decide +kernel
theorem dX7_go_21 : decode cX7_go 21 = .ok (.ifCond .le 29, 3) := by decide +kernel
theorem dX7_go_24 : decode cX7_go 24 = .ok (.aload_n 0, 1) := by decide +kernel
theorem dX7_go_25 : decode cX7_go 25 = .ok (.getfield 22, 3) := by decide +kernel
theorem dX7_go_28 : decode cX7_go 28 = .ok (.bipush 33, 2) := by decide +kernel
theorem dX7_go_30 : decode cX7_go 30 = .ok (.iload_n 1, 1) := by decide +kernel
theorem dX7_go_31 : decode cX7_go 31 = .ok (.iadd, 1) := by decide +kernel
theorem dX7_go_32 : decode cX7_go 32 = .ok (.iload_n 2, 1) := by decide +kernel
theorem dX7_go_33 : decode cX7_go 33 = .ok (.iload_n 3, 1) := by decide +kernel
theorem dX7_go_34 : decode cX7_go 34 = .ok (.aload_n 0, 1) := by decide +kernel
theorem dX7_go_35 : decode cX7_go 35 = .ok (.iload_n 1, 1) := by decide +kernel
theorem dX7_go_36 : decode cX7_go 36 = .ok (.invokevirtual 175, 3) := by decide +kernel
theorem dX7_go_39 : decode cX7_go 39 = .ok (.aload_n 0, 1) := by decide +kernel
theorem dX7_go_40 : decode cX7_go 40 = .ok (.iload_n 1, 1) := by decide +kernel
theorem dX7_go_41 : decode cX7_go 41 = .ok (.invokevirtual 178, 3) := by decide +kernel
theorem dX7_go_44 : decode cX7_go 44 = .ok (.invokestatic 181, 3) := by decide +kernel
theorem dX7_go_47 : decode cX7_go 47 = .ok (.iastore, 1) := by decide +kernel
theorem dX7_go_48 : decode cX7_go 48 = .ok (.iconst 1, 1) := by decide +kernel
theorem dX7_go_49 : decode cX7_go 49 = .ok (.ireturn, 1) := by decide +kernel
theorem dX7_go_50 : decode cX7_go 50 = .ok (.aload_n 0, 1) := by decide +kernel
theorem dX7_go_51 : decode cX7_go 51 = .ok (.getfield 7, 3) := by decide +kernel
theorem dX7_go_54 : decode cX7_go 54 = .ok (.iload_n 3, 1) := by decide +kernel
theorem dX7_go_55 : decode cX7_go 55 = .ok (.iaload, 1) := by decide +kernel
theorem dX7_go_56 : decode cX7_go 56 = .ok (.istore 4, 2) := by decide +kernel
theorem dX7_go_58 : decode cX7_go 58 = .ok (.aload_n 0, 1) := by decide +kernel
theorem dX7_go_59 : decode cX7_go 59 = .ok (.iload_n 3, 1) := by decide +kernel
theorem dX7_go_60 : decode cX7_go 60 = .ok (.aload_n 0, 1) := by decide +kernel
theorem dX7_go_61 : decode cX7_go 61 = .ok (.iload_n 1, 1) := by decide +kernel
theorem dX7_go_62 : decode cX7_go 62 = .ok (.invokevirtual 175, 3) := by decide +kernel
theorem dX7_go_65 : decode cX7_go 65 = .ok (.invokevirtual 185, 3) := by decide +kernel
theorem dX7_go_68 : decode cX7_go 68 = .ok (.istore 5, 2) := by decide +kernel
theorem dX7_go_70 : decode cX7_go 70 = .ok (.aload_n 0, 1) := by decide +kernel
theorem dX7_go_71 : decode cX7_go 71 = .ok (.iload 4, 2) := by decide +kernel
theorem dX7_go_73 : decode cX7_go 73 = .ok (.iload 5, 2) := by decide +kernel
theorem dX7_go_75 : decode cX7_go 75 = .ok (.aload_n 0, 1) := by decide +kernel
theorem dX7_go_76 : decode cX7_go 76 = .ok (.iload_n 1, 1) := by decide +kernel
theorem dX7_go_77 : decode cX7_go 77 = .ok (.invokevirtual 178, 3) := by decide +kernel
theorem dX7_go_80 : decode cX7_go 80 = .ok (.invokevirtual 188, 3) := by decide +kernel
theorem dX7_go_83 : decode cX7_go 83 = .ok (.aload_n 0, 1) := by decide +kernel
theorem dX7_go_84 : decode cX7_go 84 = .ok (.getfield 22, 3) := by decide +kernel
theorem dX7_go_87 : decode cX7_go 87 = .ok (.bipush 33, 2) := by decide +kernel
theorem dX7_go_89 : decode cX7_go 89 = .ok (.iload_n 1, 1) := by decide +kernel
theorem dX7_go_90 : decode cX7_go 90 = .ok (.iadd, 1) := by decide +kernel
theorem dX7_go_91 : decode cX7_go 91 = .ok (.iconst 4, 1) := by decide +kernel
theorem dX7_go_92 : decode cX7_go 92 = .ok (.aload_n 0, 1) := by decide +kernel
theorem dX7_go_93 : decode cX7_go 93 = .ok (.getfield 13, 3) := by decide +kernel
theorem dX7_go_96 : decode cX7_go 96 = .ok (.iload 4, 2) := by decide +kernel
theorem dX7_go_98 : decode cX7_go 98 = .ok (.iaload, 1) := by decide +kernel
theorem dX7_go_99 : decode cX7_go 99 = .ok (.imul, 1) := by decide +kernel
theorem dX7_go_100 : decode cX7_go 100 = .ok (.iload 4, 2) := by decide +kernel
theorem dX7_go_102 : decode cX7_go 102 = .ok (.iload 5, 2) := by decide +kernel
theorem dX7_go_104 : decode cX7_go 104 = .ok (.aload_n 0, 1) := by decide +kernel
theorem dX7_go_105 : decode cX7_go 105 = .ok (.iload_n 1, 1) := by decide +kernel
theorem dX7_go_106 : decode cX7_go 106 = .ok (.invokevirtual 178, 3) := by decide +kernel
theorem dX7_go_109 : decode cX7_go 109 = .ok (.invokestatic 181, 3) := by decide +kernel
theorem dX7_go_112 : decode cX7_go 112 = .ok (.iastore, 1) := by decide +kernel
theorem dX7_go_113 : decode cX7_go 113 = .ok (.aload_n 0, 1) := by decide +kernel
theorem dX7_go_114 : decode cX7_go 114 = .ok (.iload 4, 2) := by decide +kernel
theorem dX7_go_116 : decode cX7_go 116 = .ok (.invokevirtual 192, 3) := by decide +kernel
theorem dX7_go_119 : decode cX7_go 119 = .ok (.ifCond .ne 7, 3) := by decide +kernel
theorem dX7_go_122 : decode cX7_go 122 = .ok (.iconst 1, 1) := by decide +kernel
theorem dX7_go_123 : decode cX7_go 123 = .ok (.goto 4, 3) := by decide +kernel
theorem dX7_go_126 : decode cX7_go 126 = .ok (.iconst 0, 1) := by decide +kernel
theorem dX7_go_127 : decode cX7_go 127 = .ok (.ireturn, 1) := by decide +kernel
theorem dX7_goAll_0 : decode cX7_goAll 0 = .ok (.iconst 0, 1) := by decide +kernel
theorem dX7_goAll_1 : decode cX7_goAll 1 = .ok (.istore_n 1, 1) := by decide +kernel
theorem dX7_goAll_2 : decode cX7_goAll 2 = .ok (.iload_n 1, 1) := by decide +kernel
theorem dX7_goAll_3 : decode cX7_goAll 3 = .ok (.bipush 9, 2) := by decide +kernel
theorem dX7_goAll_5 : decode cX7_goAll 5 = .ok (.if_icmp .ge 23, 3) := by decide +kernel
theorem dX7_goAll_8 : decode cX7_goAll 8 = .ok (.aload_n 0, 1) := by decide +kernel
theorem dX7_goAll_9 : decode cX7_goAll 9 = .ok (.getfield 44, 3) := by decide +kernel
theorem dX7_goAll_12 : decode cX7_goAll 12 = .ok (.iload_n 1, 1) := by decide +kernel
theorem dX7_goAll_13 : decode cX7_goAll 13 = .ok (.iconst (-1), 1) := by decide +kernel
theorem dX7_goAll_14 : decode cX7_goAll 14 = .ok (.iastore, 1) := by decide +kernel
theorem dX7_goAll_15 : decode cX7_goAll 15 = .ok (.aload_n 0, 1) := by decide +kernel
theorem dX7_goAll_16 : decode cX7_goAll 16 = .ok (.getfield 47, 3) := by decide +kernel
theorem dX7_goAll_19 : decode cX7_goAll 19 = .ok (.iload_n 1, 1) := by decide +kernel
theorem dX7_goAll_20 : decode cX7_goAll 20 = .ok (.iconst 0, 1) := by decide +kernel
theorem dX7_goAll_21 : decode cX7_goAll 21 = .ok (.bastore, 1) := by decide +kernel
theorem dX7_goAll_22 : decode cX7_goAll 22 = .ok (.iinc 1 1, 3) := by decide +kernel
theorem dX7_goAll_25 : decode cX7_goAll 25 = .ok (.goto (-23), 3) := by decide +kernel
theorem dX7_goAll_28 : decode cX7_goAll 28 = .ok (.iconst 0, 1) := by decide +kernel
theorem dX7_goAll_29 : decode cX7_goAll 29 = .ok (.istore_n 1, 1) := by decide +kernel
theorem dX7_goAll_30 : decode cX7_goAll 30 = .ok (.iload_n 1, 1) := by decide +kernel
theorem dX7_goAll_31 : decode cX7_goAll 31 = .ok (.aload_n 0, 1) := by decide +kernel
theorem dX7_goAll_32 : decode cX7_goAll 32 = .ok (.getfield 22, 3) := by decide +kernel
theorem dX7_goAll_35 : decode cX7_goAll 35 = .ok (.bipush 32, 2) := by decide +kernel
theorem dX7_goAll_37 : decode cX7_goAll 37 = .ok (.iaload, 1) := by decide +kernel
theorem dX7_goAll_38 : decode cX7_goAll 38 = .ok (.if_icmp .ge 25, 3) := by decide +kernel
theorem dX7_goAll_41 : decode cX7_goAll 41 = .ok (.aload_n 0, 1) := by decide +kernel
theorem dX7_goAll_42 : decode cX7_goAll 42 = .ok (.iload_n 1, 1) := by decide +kernel
theorem dX7_goAll_43 : decode cX7_goAll 43 = .ok (.invokevirtual 196, 3) := by decide +kernel
theorem dX7_goAll_46 : decode cX7_goAll 46 = .ok (.ifCond .eq 9, 3) := by decide +kernel
theorem dX7_goAll_49 : decode cX7_goAll 49 = .ok (.iinc 1 1, 3) := by decide +kernel
theorem dX7_goAll_52 : decode cX7_goAll 52 = .ok (.goto (-22), 3) := by decide +kernel
theorem dX7_goAll_55 : decode cX7_goAll 55 = .ok (.aload_n 0, 1) := by decide +kernel
theorem dX7_goAll_56 : decode cX7_goAll 56 = .ok (.iload_n 1, 1) := by decide +kernel
theorem dX7_goAll_57 : decode cX7_goAll 57 = .ok (.invokevirtual 199, 3) := by decide +kernel
theorem dX7_goAll_60 : decode cX7_goAll 60 = .ok (.goto (-30), 3) := by decide +kernel
theorem dX7_goAll_63 : decode cX7_goAll 63 = .ok (.iconst 0, 1) := by decide +kernel
theorem dX7_goAll_64 : decode cX7_goAll 64 = .ok (.istore_n 2, 1) := by decide +kernel
theorem dX7_goAll_65 : decode cX7_goAll 65 = .ok (.iload_n 2, 1) := by decide +kernel
theorem dX7_goAll_66 : decode cX7_goAll 66 = .ok (.bipush 9, 2) := by decide +kernel
theorem dX7_goAll_68 : decode cX7_goAll 68 = .ok (.if_icmp .ge 45, 3) := by decide +kernel
theorem dX7_goAll_71 : decode cX7_goAll 71 = .ok (.aload_n 0, 1) := by decide +kernel
theorem dX7_goAll_72 : decode cX7_goAll 72 = .ok (.getfield 22, 3) := by decide +kernel
theorem dX7_goAll_75 : decode cX7_goAll 75 = .ok (.bipush 13, 2) := by decide +kernel
theorem dX7_goAll_77 : decode cX7_goAll 77 = .ok (.dup2, 1) := by decide +kernel
theorem dX7_goAll_78 : decode cX7_goAll 78 = .ok (.iaload, 1) := by decide +kernel
theorem dX7_goAll_79 : decode cX7_goAll 79 = .ok (.aload_n 0, 1) := by decide +kernel
theorem dX7_goAll_80 : decode cX7_goAll 80 = .ok (.getfield 47, 3) := by decide +kernel
theorem dX7_goAll_83 : decode cX7_goAll 83 = .ok (.iload_n 2, 1) := by decide +kernel
theorem dX7_goAll_84 : decode cX7_goAll 84 = .ok (.baload, 1) := by decide +kernel
theorem dX7_goAll_85 : decode cX7_goAll 85 = .ok (.ifCond .eq 19, 3) := by decide +kernel
theorem dX7_goAll_88 : decode cX7_goAll 88 = .ok (.aload_n 0, 1) := by decide +kernel
theorem dX7_goAll_89 : decode cX7_goAll 89 = .ok (.getfield 22, 3) := by decide +kernel
theorem dX7_goAll_92 : decode cX7_goAll 92 = .ok (.bipush 13, 2) := by decide +kernel
theorem dX7_goAll_94 : decode cX7_goAll 94 = .ok (.iaload, 1) := by decide +kernel
theorem dX7_goAll_95 : decode cX7_goAll 95 = .ok (.ldc 167, 2) := by decide +kernel
theorem dX7_goAll_97 : decode cX7_goAll 97 = .ok (.if_icmp .ge 7, 3) := by decide +kernel
theorem dX7_goAll_100 : decode cX7_goAll 100 = .ok (.iconst 1, 1) := by decide +kernel
theorem dX7_goAll_101 : decode cX7_goAll 101 = .ok (.goto 4, 3) := by decide +kernel
theorem dX7_goAll_104 : decode cX7_goAll 104 = .ok (.iconst 0, 1) := by decide +kernel
theorem dX7_goAll_105 : decode cX7_goAll 105 = .ok (.iadd, 1) := by decide +kernel
theorem dX7_goAll_106 : decode cX7_goAll 106 = .ok (.iastore, 1) := by decide +kernel
theorem dX7_goAll_107 : decode cX7_goAll 107 = .ok (.iinc 2 1, 3) := by decide +kernel
theorem dX7_goAll_110 : decode cX7_goAll 110 = .ok (.goto (-45), 3) := by decide +kernel
theorem dX7_goAll_113 : decode cX7_goAll 113 = .ok (.return_, 1) := by decide +kernel
theorem dX7_pass_0 : decode cX7_pass 0 = .ok (.aload_n 0, 1) := by decide +kernel
theorem dX7_pass_1 : decode cX7_pass 1 = .ok (.getfield 22, 3) := by decide +kernel
theorem dX7_pass_4 : decode cX7_pass 4 = .ok (.bipush 11, 2) := by decide +kernel
theorem dX7_pass_6 : decode cX7_pass 6 = .ok (.iaload, 1) := by decide +kernel
theorem dX7_pass_7 : decode cX7_pass 7 = .ok (.ifCond .ne 17, 3) := by decide +kernel
theorem dX7_pass_10 : decode cX7_pass 10 = .ok (.aload_n 0, 1) := by decide +kernel
theorem dX7_pass_11 : decode cX7_pass 11 = .ok (.getfield 22, 3) := by decide +kernel
theorem dX7_pass_14 : decode cX7_pass 14 = .ok (.bipush 10, 2) := by decide +kernel
theorem dX7_pass_16 : decode cX7_pass 16 = .ok (.iaload, 1) := by decide +kernel
theorem dX7_pass_17 : decode cX7_pass 17 = .ok (.ifCond .le 7, 3) := by decide +kernel
theorem dX7_pass_20 : decode cX7_pass 20 = .ok (.aload_n 0, 1) := by decide +kernel
theorem dX7_pass_21 : decode cX7_pass 21 = .ok (.invokevirtual 203, 3) := by decide +kernel
theorem dX7_pass_24 : decode cX7_pass 24 = .ok (.aload_n 0, 1) := by decide +kernel
theorem dX7_pass_25 : decode cX7_pass 25 = .ok (.getfield 22, 3) := by decide +kernel
theorem dX7_pass_28 : decode cX7_pass 28 = .ok (.bipush 10, 2) := by decide +kernel
theorem dX7_pass_30 : decode cX7_pass 30 = .ok (.dup2, 1) := by decide +kernel
theorem dX7_pass_31 : decode cX7_pass 31 = .ok (.iaload, 1) := by decide +kernel
theorem dX7_pass_32 : decode cX7_pass 32 = .ok (.aload_n 0, 1) := by decide +kernel
theorem dX7_pass_33 : decode cX7_pass 33 = .ok (.getfield 22, 3) := by decide +kernel
theorem dX7_pass_36 : decode cX7_pass 36 = .ok (.bipush 12, 2) := by decide +kernel
theorem dX7_pass_38 : decode cX7_pass 38 = .ok (.iaload, 1) := by decide +kernel
theorem dX7_pass_39 : decode cX7_pass 39 = .ok (.bipush 6, 2) := by decide +kernel
theorem dX7_pass_41 : decode cX7_pass 41 = .ok (.irem, 1) := by decide +kernel
theorem dX7_pass_42 : decode cX7_pass 42 = .ok (.iconst 5, 1) := by decide +kernel
theorem dX7_pass_43 : decode cX7_pass 43 = .ok (.if_icmp .ne 17, 3) := by decide +kernel
theorem dX7_pass_46 : decode cX7_pass 46 = .ok (.aload_n 0, 1) := by decide +kernel
theorem dX7_pass_47 : decode cX7_pass 47 = .ok (.getfield 22, 3) := by decide +kernel
theorem dX7_pass_50 : decode cX7_pass 50 = .ok (.bipush 10, 2) := by decide +kernel
theorem dX7_pass_52 : decode cX7_pass 52 = .ok (.iaload, 1) := by decide +kernel
theorem dX7_pass_53 : decode cX7_pass 53 = .ok (.ifCond .le 7, 3) := by decide +kernel
theorem dX7_pass_56 : decode cX7_pass 56 = .ok (.iconst 1, 1) := by decide +kernel
theorem dX7_pass_57 : decode cX7_pass 57 = .ok (.goto 4, 3) := by decide +kernel
theorem dX7_pass_60 : decode cX7_pass 60 = .ok (.iconst 0, 1) := by decide +kernel
theorem dX7_pass_61 : decode cX7_pass 61 = .ok (.isub, 1) := by decide +kernel
theorem dX7_pass_62 : decode cX7_pass 62 = .ok (.iastore, 1) := by decide +kernel
theorem dX7_pass_63 : decode cX7_pass 63 = .ok (.aload_n 0, 1) := by decide +kernel
theorem dX7_pass_64 : decode cX7_pass 64 = .ok (.getfield 22, 3) := by decide +kernel
theorem dX7_pass_67 : decode cX7_pass 67 = .ok (.bipush 12, 2) := by decide +kernel
theorem dX7_pass_69 : decode cX7_pass 69 = .ok (.dup2, 1) := by decide +kernel
theorem dX7_pass_70 : decode cX7_pass 70 = .ok (.iaload, 1) := by decide +kernel
theorem dX7_pass_71 : decode cX7_pass 71 = .ok (.iconst 1, 1) := by decide +kernel
theorem dX7_pass_72 : decode cX7_pass 72 = .ok (.iadd, 1) := by decide +kernel
theorem dX7_pass_73 : decode cX7_pass 73 = .ok (.iastore, 1) := by decide +kernel
theorem dX7_pass_74 : decode cX7_pass 74 = .ok (.return_, 1) := by decide +kernel
theorem dX7_downOf_0 : decode cX7_downOf 0 = .ok (.iconst 0, 1) := by decide +kernel
theorem dX7_downOf_1 : decode cX7_downOf 1 = .ok (.istore_n 2, 1) := by decide +kernel
theorem dX7_downOf_2 : decode cX7_downOf 2 = .ok (.iload_n 1, 1) := by decide +kernel
theorem dX7_downOf_3 : decode cX7_downOf 3 = .ok (.istore_n 3, 1) := by decide +kernel
theorem dX7_downOf_4 : decode cX7_downOf 4 = .ok (.iload_n 1, 1) := by decide +kernel
theorem dX7_downOf_5 : decode cX7_downOf 5 = .ok (.ifCond .eq 7, 3) := by decide +kernel
theorem dX7_downOf_8 : decode cX7_downOf 8 = .ok (.iconst 1, 1) := by decide +kernel
theorem dX7_downOf_9 : decode cX7_downOf 9 = .ok (.goto 4, 3) := by decide +kernel
theorem dX7_downOf_12 : decode cX7_downOf 12 = .ok (.iconst 0, 1) := by decide +kernel
theorem dX7_downOf_13 : decode cX7_downOf 13 = .ok (.istore 4, 2) := by decide +kernel
theorem dX7_downOf_15 : decode cX7_downOf 15 = .ok (.iload 4, 2) := by decide +kernel
theorem dX7_downOf_17 : decode cX7_downOf 17 = .ok (.ifCond .eq 34, 3) := by decide +kernel
theorem dX7_downOf_20 : decode cX7_downOf 20 = .ok (.aload_n 0, 1) := by decide +kernel
theorem dX7_downOf_21 : decode cX7_downOf 21 = .ok (.getfield 7, 3) := by decide +kernel
theorem dX7_downOf_24 : decode cX7_downOf 24 = .ok (.iload_n 3, 1) := by decide +kernel
theorem dX7_downOf_25 : decode cX7_downOf 25 = .ok (.iaload, 1) := by decide +kernel
theorem dX7_downOf_26 : decode cX7_downOf 26 = .ok (.istore_n 3, 1) := by decide +kernel
theorem dX7_downOf_27 : decode cX7_downOf 27 = .ok (.iload_n 2, 1) := by decide +kernel
theorem dX7_downOf_28 : decode cX7_downOf 28 = .ok (.iconst 1, 1) := by decide +kernel
theorem dX7_downOf_29 : decode cX7_downOf 29 = .ok (.iload_n 3, 1) := by decide +kernel
theorem dX7_downOf_30 : decode cX7_downOf 30 = .ok (.ishl, 1) := by decide +kernel
theorem dX7_downOf_31 : decode cX7_downOf 31 = .ok (.ior, 1) := by decide +kernel
theorem dX7_downOf_32 : decode cX7_downOf 32 = .ok (.istore_n 2, 1) := by decide +kernel
theorem dX7_downOf_33 : decode cX7_downOf 33 = .ok (.aload_n 0, 1) := by decide +kernel
theorem dX7_downOf_34 : decode cX7_downOf 34 = .ok (.iload_n 3, 1) := by decide +kernel
theorem dX7_downOf_35 : decode cX7_downOf 35 = .ok (.invokevirtual 192, 3) := by decide +kernel
theorem dX7_downOf_38 : decode cX7_downOf 38 = .ok (.ifCond .ne 7, 3) := by decide +kernel
theorem dX7_downOf_41 : decode cX7_downOf 41 = .ok (.iconst 1, 1) := by decide +kernel
theorem dX7_downOf_42 : decode cX7_downOf 42 = .ok (.goto 4, 3) := by decide +kernel
theorem dX7_downOf_45 : decode cX7_downOf 45 = .ok (.iconst 0, 1) := by decide +kernel
theorem dX7_downOf_46 : decode cX7_downOf 46 = .ok (.istore 4, 2) := by decide +kernel
theorem dX7_downOf_48 : decode cX7_downOf 48 = .ok (.goto (-33), 3) := by decide +kernel
theorem dX7_downOf_51 : decode cX7_downOf 51 = .ok (.iload_n 2, 1) := by decide +kernel
theorem dX7_downOf_52 : decode cX7_downOf 52 = .ok (.ireturn, 1) := by decide +kernel
theorem dX7_upOf_0 : decode cX7_upOf 0 = .ok (.iconst 0, 1) := by decide +kernel
theorem dX7_upOf_1 : decode cX7_upOf 1 = .ok (.istore_n 2, 1) := by decide +kernel
theorem dX7_upOf_2 : decode cX7_upOf 2 = .ok (.iconst 0, 1) := by decide +kernel
theorem dX7_upOf_3 : decode cX7_upOf 3 = .ok (.istore_n 3, 1) := by decide +kernel
theorem dX7_upOf_4 : decode cX7_upOf 4 = .ok (.iload_n 3, 1) := by decide +kernel
theorem dX7_upOf_5 : decode cX7_upOf 5 = .ok (.aload_n 0, 1) := by decide +kernel
theorem dX7_upOf_6 : decode cX7_upOf 6 = .ok (.getfield 81, 3) := by decide +kernel
theorem dX7_upOf_9 : decode cX7_upOf 9 = .ok (.if_icmp .ge 31, 3) := by decide +kernel
theorem dX7_upOf_12 : decode cX7_upOf 12 = .ok (.iload_n 2, 1) := by decide +kernel
theorem dX7_upOf_13 : decode cX7_upOf 13 = .ok (.aload_n 0, 1) := by decide +kernel
theorem dX7_upOf_14 : decode cX7_upOf 14 = .ok (.iload_n 3, 1) := by decide +kernel
theorem dX7_upOf_15 : decode cX7_upOf 15 = .ok (.invokevirtual 206, 3) := by decide +kernel
theorem dX7_upOf_18 : decode cX7_upOf 18 = .ok (.iload_n 1, 1) := by decide +kernel
theorem dX7_upOf_19 : decode cX7_upOf 19 = .ok (.invokestatic 163, 3) := by decide +kernel
theorem dX7_upOf_22 : decode cX7_upOf 22 = .ok (.ifCond .eq 9, 3) := by decide +kernel
theorem dX7_upOf_25 : decode cX7_upOf 25 = .ok (.iconst 1, 1) := by decide +kernel
theorem dX7_upOf_26 : decode cX7_upOf 26 = .ok (.iload_n 3, 1) := by decide +kernel
theorem dX7_upOf_27 : decode cX7_upOf 27 = .ok (.ishl, 1) := by decide +kernel
theorem dX7_upOf_28 : decode cX7_upOf 28 = .ok (.goto 4, 3) := by decide +kernel
theorem dX7_upOf_31 : decode cX7_upOf 31 = .ok (.iconst 0, 1) := by decide +kernel
theorem dX7_upOf_32 : decode cX7_upOf 32 = .ok (.ior, 1) := by decide +kernel
theorem dX7_upOf_33 : decode cX7_upOf 33 = .ok (.istore_n 2, 1) := by decide +kernel
theorem dX7_upOf_34 : decode cX7_upOf 34 = .ok (.iinc 3 1, 3) := by decide +kernel
theorem dX7_upOf_37 : decode cX7_upOf 37 = .ok (.goto (-33), 3) := by decide +kernel
theorem dX7_upOf_40 : decode cX7_upOf 40 = .ok (.iload_n 2, 1) := by decide +kernel
theorem dX7_upOf_41 : decode cX7_upOf 41 = .ok (.ireturn, 1) := by decide +kernel
theorem dX7_wordAt_0 : decode cX7_wordAt 0 = .ok (.iload_n 1, 1) := by decide +kernel
theorem dX7_wordAt_1 : decode cX7_wordAt 1 = .ok (.istore 4, 2) := by decide +kernel
theorem dX7_wordAt_3 : decode cX7_wordAt 3 = .ok (.iload_n 3, 1) := by decide +kernel
theorem dX7_wordAt_4 : decode cX7_wordAt 4 = .ok (.istore 5, 2) := by decide +kernel
theorem dX7_wordAt_6 : decode cX7_wordAt 6 = .ok (.iload 4, 2) := by decide +kernel
theorem dX7_wordAt_8 : decode cX7_wordAt 8 = .ok (.iload_n 2, 1) := by decide +kernel
theorem dX7_wordAt_9 : decode cX7_wordAt 9 = .ok (.if_icmp .eq 25, 3) := by decide +kernel
theorem dX7_wordAt_12 : decode cX7_wordAt 12 = .ok (.aload_n 0, 1) := by decide +kernel
theorem dX7_wordAt_13 : decode cX7_wordAt 13 = .ok (.iload 4, 2) := by decide +kernel
theorem dX7_wordAt_15 : decode cX7_wordAt 15 = .ok (.iload 5, 2) := by decide +kernel
theorem dX7_wordAt_17 : decode cX7_wordAt 17 = .ok (.invokevirtual 185, 3) := by decide +kernel
theorem dX7_wordAt_20 : decode cX7_wordAt 20 = .ok (.istore 5, 2) := by decide +kernel
theorem dX7_wordAt_22 : decode cX7_wordAt 22 = .ok (.aload_n 0, 1) := by decide +kernel
theorem dX7_wordAt_23 : decode cX7_wordAt 23 = .ok (.getfield 7, 3) := by decide +kernel
theorem dX7_wordAt_26 : decode cX7_wordAt 26 = .ok (.iload 4, 2) := by decide +kernel
theorem dX7_wordAt_28 : decode cX7_wordAt 28 = .ok (.iaload, 1) := by decide +kernel
theorem dX7_wordAt_29 : decode cX7_wordAt 29 = .ok (.istore 4, 2) := by decide +kernel
theorem dX7_wordAt_31 : decode cX7_wordAt 31 = .ok (.goto (-25), 3) := by decide +kernel
theorem dX7_wordAt_34 : decode cX7_wordAt 34 = .ok (.iload 5, 2) := by decide +kernel
theorem dX7_wordAt_36 : decode cX7_wordAt 36 = .ok (.ireturn, 1) := by decide +kernel
theorem dX7_hoursTo_0 : decode cX7_hoursTo 0 = .ok (.iload_n 1, 1) := by decide +kernel
theorem dX7_hoursTo_1 : decode cX7_hoursTo 1 = .ok (.istore_n 3, 1) := by decide +kernel
theorem dX7_hoursTo_2 : decode cX7_hoursTo 2 = .ok (.iconst 0, 1) := by decide +kernel
theorem dX7_hoursTo_3 : decode cX7_hoursTo 3 = .ok (.istore 4, 2) := by decide +kernel
theorem dX7_hoursTo_5 : decode cX7_hoursTo 5 = .ok (.iload_n 3, 1) := by decide +kernel
theorem dX7_hoursTo_6 : decode cX7_hoursTo 6 = .ok (.iload_n 2, 1) := by decide +kernel
theorem dX7_hoursTo_7 : decode cX7_hoursTo 7 = .ok (.if_icmp .eq 44, 3) := by decide +kernel
theorem dX7_hoursTo_10 : decode cX7_hoursTo 10 = .ok (.iload 4, 2) := by decide +kernel
theorem dX7_hoursTo_12 : decode cX7_hoursTo 12 = .ok (.iconst 4, 1) := by decide +kernel
theorem dX7_hoursTo_13 : decode cX7_hoursTo 13 = .ok (.aload_n 0, 1) := by decide +kernel
theorem dX7_hoursTo_14 : decode cX7_hoursTo 14 = .ok (.getfield 13, 3) := by decide +kernel
theorem dX7_hoursTo_17 : decode cX7_hoursTo 17 = .ok (.iload_n 3, 1) := by decide +kernel
theorem dX7_hoursTo_18 : decode cX7_hoursTo 18 = .ok (.iaload, 1) := by decide +kernel
theorem dX7_hoursTo_19 : decode cX7_hoursTo 19 = .ok (.imul, 1) := by decide +kernel
theorem dX7_hoursTo_20 : decode cX7_hoursTo 20 = .ok (.aload_n 0, 1) := by decide +kernel
theorem dX7_hoursTo_21 : decode cX7_hoursTo 21 = .ok (.getfield 22, 3) := by decide +kernel
theorem dX7_hoursTo_24 : decode cX7_hoursTo 24 = .ok (.bipush 10, 2) := by decide +kernel
theorem dX7_hoursTo_26 : decode cX7_hoursTo 26 = .ok (.iaload, 1) := by decide +kernel
theorem dX7_hoursTo_27 : decode cX7_hoursTo 27 = .ok (.iadd, 1) := by decide +kernel
theorem dX7_hoursTo_28 : decode cX7_hoursTo 28 = .ok (.iconst 1, 1) := by decide +kernel
theorem dX7_hoursTo_29 : decode cX7_hoursTo 29 = .ok (.isub, 1) := by decide +kernel
theorem dX7_hoursTo_30 : decode cX7_hoursTo 30 = .ok (.aload_n 0, 1) := by decide +kernel
theorem dX7_hoursTo_31 : decode cX7_hoursTo 31 = .ok (.getfield 22, 3) := by decide +kernel
theorem dX7_hoursTo_34 : decode cX7_hoursTo 34 = .ok (.bipush 10, 2) := by decide +kernel
theorem dX7_hoursTo_36 : decode cX7_hoursTo 36 = .ok (.iaload, 1) := by decide +kernel
theorem dX7_hoursTo_37 : decode cX7_hoursTo 37 = .ok (.idiv, 1) := by decide +kernel
theorem dX7_hoursTo_38 : decode cX7_hoursTo 38 = .ok (.iadd, 1) := by decide +kernel
theorem dX7_hoursTo_39 : decode cX7_hoursTo 39 = .ok (.istore 4, 2) := by decide +kernel
theorem dX7_hoursTo_41 : decode cX7_hoursTo 41 = .ok (.aload_n 0, 1) := by decide +kernel
theorem dX7_hoursTo_42 : decode cX7_hoursTo 42 = .ok (.getfield 7, 3) := by decide +kernel
theorem dX7_hoursTo_45 : decode cX7_hoursTo 45 = .ok (.iload_n 3, 1) := by decide +kernel
theorem dX7_hoursTo_46 : decode cX7_hoursTo 46 = .ok (.iaload, 1) := by decide +kernel
theorem dX7_hoursTo_47 : decode cX7_hoursTo 47 = .ok (.istore_n 3, 1) := by decide +kernel
theorem dX7_hoursTo_48 : decode cX7_hoursTo 48 = .ok (.goto (-43), 3) := by decide +kernel
theorem dX7_hoursTo_51 : decode cX7_hoursTo 51 = .ok (.iload 4, 2) := by decide +kernel
theorem dX7_hoursTo_53 : decode cX7_hoursTo 53 = .ok (.ireturn, 1) := by decide +kernel
theorem dX7_loudest_0 : decode cX7_loudest 0 = .ok (.iconst (-1), 1) := by decide +kernel
theorem dX7_loudest_1 : decode cX7_loudest 1 = .ok (.istore_n 1, 1) := by decide +kernel
theorem dX7_loudest_2 : decode cX7_loudest 2 = .ok (.iconst 0, 1) := by decide +kernel
theorem dX7_loudest_3 : decode cX7_loudest 3 = .ok (.istore_n 2, 1) := by decide +kernel
theorem dX7_loudest_4 : decode cX7_loudest 4 = .ok (.iconst 0, 1) := by decide +kernel
theorem dX7_loudest_5 : decode cX7_loudest 5 = .ok (.istore_n 3, 1) := by decide +kernel
theorem dX7_loudest_6 : decode cX7_loudest 6 = .ok (.iload_n 3, 1) := by decide +kernel
theorem dX7_loudest_7 : decode cX7_loudest 7 = .ok (.aload_n 0, 1) := by decide +kernel
theorem dX7_loudest_8 : decode cX7_loudest 8 = .ok (.getfield 81, 3) := by decide +kernel
theorem dX7_loudest_11 : decode cX7_loudest 11 = .ok (.if_icmp .ge 55, 3) := by decide +kernel
theorem dX7_loudest_14 : decode cX7_loudest 14 = .ok (.aload_n 0, 1) := by decide +kernel
theorem dX7_loudest_15 : decode cX7_loudest 15 = .ok (.getfield 22, 3) := by decide +kernel
theorem dX7_loudest_18 : decode cX7_loudest 18 = .ok (.bipush 23, 2) := by decide +kernel
theorem dX7_loudest_20 : decode cX7_loudest 20 = .ok (.iload_n 3, 1) := by decide +kernel
theorem dX7_loudest_21 : decode cX7_loudest 21 = .ok (.iadd, 1) := by decide +kernel
theorem dX7_loudest_22 : decode cX7_loudest 22 = .ok (.iaload, 1) := by decide +kernel
theorem dX7_loudest_23 : decode cX7_loudest 23 = .ok (.iload_n 2, 1) := by decide +kernel
theorem dX7_loudest_24 : decode cX7_loudest 24 = .ok (.if_icmp .le 7, 3) := by decide +kernel
theorem dX7_loudest_27 : decode cX7_loudest 27 = .ok (.iload_n 3, 1) := by decide +kernel
theorem dX7_loudest_28 : decode cX7_loudest 28 = .ok (.goto 4, 3) := by decide +kernel
theorem dX7_loudest_31 : decode cX7_loudest 31 = .ok (.iload_n 1, 1) := by decide +kernel
theorem dX7_loudest_32 : decode cX7_loudest 32 = .ok (.istore_n 1, 1) := by decide +kernel
theorem dX7_loudest_33 : decode cX7_loudest 33 = .ok (.aload_n 0, 1) := by decide +kernel
theorem dX7_loudest_34 : decode cX7_loudest 34 = .ok (.getfield 22, 3) := by decide +kernel
theorem dX7_loudest_37 : decode cX7_loudest 37 = .ok (.bipush 23, 2) := by decide +kernel
theorem dX7_loudest_39 : decode cX7_loudest 39 = .ok (.iload_n 3, 1) := by decide +kernel
theorem dX7_loudest_40 : decode cX7_loudest 40 = .ok (.iadd, 1) := by decide +kernel
theorem dX7_loudest_41 : decode cX7_loudest 41 = .ok (.iaload, 1) := by decide +kernel
theorem dX7_loudest_42 : decode cX7_loudest 42 = .ok (.iload_n 2, 1) := by decide +kernel
theorem dX7_loudest_43 : decode cX7_loudest 43 = .ok (.if_icmp .le 15, 3) := by decide +kernel
theorem dX7_loudest_46 : decode cX7_loudest 46 = .ok (.aload_n 0, 1) := by decide +kernel
theorem dX7_loudest_47 : decode cX7_loudest 47 = .ok (.getfield 22, 3) := by decide +kernel
theorem dX7_loudest_50 : decode cX7_loudest 50 = .ok (.bipush 23, 2) := by decide +kernel
theorem dX7_loudest_52 : decode cX7_loudest 52 = .ok (.iload_n 3, 1) := by decide +kernel
theorem dX7_loudest_53 : decode cX7_loudest 53 = .ok (.iadd, 1) := by decide +kernel
theorem dX7_loudest_54 : decode cX7_loudest 54 = .ok (.iaload, 1) := by decide +kernel
theorem dX7_loudest_55 : decode cX7_loudest 55 = .ok (.goto 4, 3) := by decide +kernel
theorem dX7_loudest_58 : decode cX7_loudest 58 = .ok (.iload_n 2, 1) := by decide +kernel
theorem dX7_loudest_59 : decode cX7_loudest 59 = .ok (.istore_n 2, 1) := by decide +kernel
theorem dX7_loudest_60 : decode cX7_loudest 60 = .ok (.iinc 3 1, 3) := by decide +kernel
theorem dX7_loudest_63 : decode cX7_loudest 63 = .ok (.goto (-57), 3) := by decide +kernel
theorem dX7_loudest_66 : decode cX7_loudest 66 = .ok (.iload_n 1, 1) := by decide +kernel
theorem dX7_loudest_67 : decode cX7_loudest 67 = .ok (.ireturn, 1) := by decide +kernel
theorem dX7_bottom_0 : decode cX7_bottom 0 = .ok (.iconst (-1), 1) := by decide +kernel
theorem dX7_bottom_1 : decode cX7_bottom 1 = .ok (.istore_n 1, 1) := by decide +kernel
theorem dX7_bottom_2 : decode cX7_bottom 2 = .ok (.iconst (-1), 1) := by decide +kernel
theorem dX7_bottom_3 : decode cX7_bottom 3 = .ok (.istore_n 2, 1) := by decide +kernel
theorem dX7_bottom_4 : decode cX7_bottom 4 = .ok (.iconst 1, 1) := by decide +kernel
theorem dX7_bottom_5 : decode cX7_bottom 5 = .ok (.istore_n 3, 1) := by decide +kernel
theorem dX7_bottom_6 : decode cX7_bottom 6 = .ok (.iload_n 3, 1) := by decide +kernel
theorem dX7_bottom_7 : decode cX7_bottom 7 = .ok (.aload_n 0, 1) := by decide +kernel
theorem dX7_bottom_8 : decode cX7_bottom 8 = .ok (.getfield 81, 3) := by decide +kernel
theorem dX7_bottom_11 : decode cX7_bottom 11 = .ok (.if_icmp .ge 44, 3) := by decide +kernel
theorem dX7_bottom_14 : decode cX7_bottom 14 = .ok (.aload_n 0, 1) := by decide +kernel
theorem dX7_bottom_15 : decode cX7_bottom 15 = .ok (.iload_n 3, 1) := by decide +kernel
theorem dX7_bottom_16 : decode cX7_bottom 16 = .ok (.invokevirtual 209, 3) := by decide +kernel
theorem dX7_bottom_19 : decode cX7_bottom 19 = .ok (.invokestatic 212, 3) := by decide +kernel
theorem dX7_bottom_22 : decode cX7_bottom 22 = .ok (.istore 4, 2) := by decide +kernel
theorem dX7_bottom_24 : decode cX7_bottom 24 = .ok (.iload 4, 2) := by decide +kernel
theorem dX7_bottom_26 : decode cX7_bottom 26 = .ok (.iload_n 2, 1) := by decide +kernel
theorem dX7_bottom_27 : decode cX7_bottom 27 = .ok (.if_icmp .le 7, 3) := by decide +kernel
theorem dX7_bottom_30 : decode cX7_bottom 30 = .ok (.iload_n 3, 1) := by decide +kernel
theorem dX7_bottom_31 : decode cX7_bottom 31 = .ok (.goto 4, 3) := by decide +kernel
theorem dX7_bottom_34 : decode cX7_bottom 34 = .ok (.iload_n 1, 1) := by decide +kernel
theorem dX7_bottom_35 : decode cX7_bottom 35 = .ok (.istore_n 1, 1) := by decide +kernel
theorem dX7_bottom_36 : decode cX7_bottom 36 = .ok (.iload 4, 2) := by decide +kernel
theorem dX7_bottom_38 : decode cX7_bottom 38 = .ok (.iload_n 2, 1) := by decide +kernel
theorem dX7_bottom_39 : decode cX7_bottom 39 = .ok (.if_icmp .le 8, 3) := by decide +kernel
theorem dX7_bottom_42 : decode cX7_bottom 42 = .ok (.iload 4, 2) := by decide +kernel
theorem dX7_bottom_44 : decode cX7_bottom 44 = .ok (.goto 4, 3) := by decide +kernel
theorem dX7_bottom_47 : decode cX7_bottom 47 = .ok (.iload_n 2, 1) := by decide +kernel
theorem dX7_bottom_48 : decode cX7_bottom 48 = .ok (.istore_n 2, 1) := by decide +kernel
theorem dX7_bottom_49 : decode cX7_bottom 49 = .ok (.iinc 3 1, 3) := by decide +kernel
theorem dX7_bottom_52 : decode cX7_bottom 52 = .ok (.goto (-46), 3) := by decide +kernel
theorem dX7_bottom_55 : decode cX7_bottom 55 = .ok (.iload_n 1, 1) := by decide +kernel
theorem dX7_bottom_56 : decode cX7_bottom 56 = .ok (.ireturn, 1) := by decide +kernel
theorem dX7_even_0 : decode cX7_even 0 = .ok (.iconst 0, 1) := by decide +kernel
theorem dX7_even_1 : decode cX7_even 1 = .ok (.istore_n 1, 1) := by decide +kernel
theorem dX7_even_2 : decode cX7_even 2 = .ok (.iconst 1, 1) := by decide +kernel
theorem dX7_even_3 : decode cX7_even 3 = .ok (.istore_n 2, 1) := by decide +kernel
theorem dX7_even_4 : decode cX7_even 4 = .ok (.iload_n 2, 1) := by decide +kernel
theorem dX7_even_5 : decode cX7_even 5 = .ok (.aload_n 0, 1) := by decide +kernel
theorem dX7_even_6 : decode cX7_even 6 = .ok (.getfield 81, 3) := by decide +kernel
theorem dX7_even_9 : decode cX7_even 9 = .ok (.if_icmp .ge 74, 3) := by decide +kernel
theorem dX7_even_12 : decode cX7_even 12 = .ok (.aload_n 0, 1) := by decide +kernel
theorem dX7_even_13 : decode cX7_even 13 = .ok (.iload_n 2, 1) := by decide +kernel
theorem dX7_even_14 : decode cX7_even 14 = .ok (.invokevirtual 206, 3) := by decide +kernel
theorem dX7_even_17 : decode cX7_even 17 = .ok (.iconst 0, 1) := by decide +kernel
theorem dX7_even_18 : decode cX7_even 18 = .ok (.invokestatic 163, 3) := by decide +kernel
theorem dX7_even_21 : decode cX7_even 21 = .ok (.istore_n 3, 1) := by decide +kernel
theorem dX7_even_22 : decode cX7_even 22 = .ok (.iconst 0, 1) := by decide +kernel
theorem dX7_even_23 : decode cX7_even 23 = .ok (.istore 4, 2) := by decide +kernel
theorem dX7_even_25 : decode cX7_even 25 = .ok (.iload 4, 2) := by decide +kernel
theorem dX7_even_27 : decode cX7_even 27 = .ok (.aload_n 0, 1) := by decide +kernel
theorem dX7_even_28 : decode cX7_even 28 = .ok (.getfield 88, 3) := by decide +kernel
theorem dX7_even_31 : decode cX7_even 31 = .ok (.if_icmp .ge 32, 3) := by decide +kernel
theorem dX7_even_34 : decode cX7_even 34 = .ok (.iload_n 3, 1) := by decide +kernel
theorem dX7_even_35 : decode cX7_even 35 = .ok (.ifCond .eq 28, 3) := by decide +kernel
theorem dX7_even_38 : decode cX7_even 38 = .ok (.aload_n 0, 1) := by decide +kernel
theorem dX7_even_39 : decode cX7_even 39 = .ok (.iload_n 2, 1) := by decide +kernel
theorem dX7_even_40 : decode cX7_even 40 = .ok (.iconst 0, 1) := by decide +kernel
theorem dX7_even_41 : decode cX7_even 41 = .ok (.iload 4, 2) := by decide +kernel
theorem dX7_even_43 : decode cX7_even 43 = .ok (.invokevirtual 215, 3) := by decide +kernel
theorem dX7_even_46 : decode cX7_even 46 = .ok (.iload 4, 2) := by decide +kernel
theorem dX7_even_48 : decode cX7_even 48 = .ok (.if_icmp .ne 7, 3) := by decide +kernel
theorem dX7_even_51 : decode cX7_even 51 = .ok (.iconst 1, 1) := by decide +kernel
theorem dX7_even_52 : decode cX7_even 52 = .ok (.goto 4, 3) := by decide +kernel
theorem dX7_even_55 : decode cX7_even 55 = .ok (.iconst 0, 1) := by decide +kernel
theorem dX7_even_56 : decode cX7_even 56 = .ok (.istore_n 3, 1) := by decide +kernel
theorem dX7_even_57 : decode cX7_even 57 = .ok (.iinc 4 1, 3) := by decide +kernel
theorem dX7_even_60 : decode cX7_even 60 = .ok (.goto (-35), 3) := by decide +kernel
theorem dX7_even_63 : decode cX7_even 63 = .ok (.iload_n 1, 1) := by decide +kernel
theorem dX7_even_64 : decode cX7_even 64 = .ok (.iload_n 3, 1) := by decide +kernel
theorem dX7_even_65 : decode cX7_even 65 = .ok (.ifCond .eq 9, 3) := by decide +kernel
theorem dX7_even_68 : decode cX7_even 68 = .ok (.iconst 1, 1) := by decide +kernel
theorem dX7_even_69 : decode cX7_even 69 = .ok (.iload_n 2, 1) := by decide +kernel
theorem dX7_even_70 : decode cX7_even 70 = .ok (.ishl, 1) := by decide +kernel
theorem dX7_even_71 : decode cX7_even 71 = .ok (.goto 4, 3) := by decide +kernel
theorem dX7_even_74 : decode cX7_even 74 = .ok (.iconst 0, 1) := by decide +kernel
theorem dX7_even_75 : decode cX7_even 75 = .ok (.ior, 1) := by decide +kernel
theorem dX7_even_76 : decode cX7_even 76 = .ok (.istore_n 1, 1) := by decide +kernel
theorem dX7_even_77 : decode cX7_even 77 = .ok (.iinc 2 1, 3) := by decide +kernel
theorem dX7_even_80 : decode cX7_even 80 = .ok (.goto (-76), 3) := by decide +kernel
theorem dX7_even_83 : decode cX7_even 83 = .ok (.iload_n 1, 1) := by decide +kernel
theorem dX7_even_84 : decode cX7_even 84 = .ok (.ireturn, 1) := by decide +kernel
theorem dX7_longest_0 : decode cX7_longest 0 = .ok (.iconst (-1), 1) := by decide +kernel
theorem dX7_longest_1 : decode cX7_longest 1 = .ok (.istore_n 1, 1) := by decide +kernel
theorem dX7_longest_2 : decode cX7_longest 2 = .ok (.iconst 0, 1) := by decide +kernel
theorem dX7_longest_3 : decode cX7_longest 3 = .ok (.istore_n 2, 1) := by decide +kernel
theorem dX7_longest_4 : decode cX7_longest 4 = .ok (.iconst 1, 1) := by decide +kernel
theorem dX7_longest_5 : decode cX7_longest 5 = .ok (.istore_n 3, 1) := by decide +kernel
theorem dX7_longest_6 : decode cX7_longest 6 = .ok (.iload_n 3, 1) := by decide +kernel
theorem dX7_longest_7 : decode cX7_longest 7 = .ok (.aload_n 0, 1) := by decide +kernel
theorem dX7_longest_8 : decode cX7_longest 8 = .ok (.getfield 81, 3) := by decide +kernel
theorem dX7_longest_11 : decode cX7_longest 11 = .ok (.if_icmp .ge 68, 3) := by decide +kernel
theorem dX7_longest_14 : decode cX7_longest 14 = .ok (.aload_n 0, 1) := by decide +kernel
theorem dX7_longest_15 : decode cX7_longest 15 = .ok (.getfield 22, 3) := by decide +kernel
theorem dX7_longest_18 : decode cX7_longest 18 = .ok (.bipush 10, 2) := by decide +kernel
theorem dX7_longest_20 : decode cX7_longest 20 = .ok (.iaload, 1) := by decide +kernel
theorem dX7_longest_21 : decode cX7_longest 21 = .ok (.ifCond .le 58, 3) := by decide +kernel
theorem dX7_longest_24 : decode cX7_longest 24 = .ok (.aload_n 0, 1) := by decide +kernel
theorem dX7_longest_25 : decode cX7_longest 25 = .ok (.iload_n 3, 1) := by decide +kernel
theorem dX7_longest_26 : decode cX7_longest 26 = .ok (.invokevirtual 206, 3) := by decide +kernel
theorem dX7_longest_29 : decode cX7_longest 29 = .ok (.iconst 0, 1) := by decide +kernel
theorem dX7_longest_30 : decode cX7_longest 30 = .ok (.invokestatic 163, 3) := by decide +kernel
theorem dX7_longest_33 : decode cX7_longest 33 = .ok (.ifCond .eq 12, 3) := by decide +kernel
theorem dX7_longest_36 : decode cX7_longest 36 = .ok (.aload_n 0, 1) := by decide +kernel
theorem dX7_longest_37 : decode cX7_longest 37 = .ok (.iload_n 3, 1) := by decide +kernel
theorem dX7_longest_38 : decode cX7_longest 38 = .ok (.iconst 0, 1) := by decide +kernel
theorem dX7_longest_39 : decode cX7_longest 39 = .ok (.invokevirtual 218, 3) := by decide +kernel
theorem dX7_longest_42 : decode cX7_longest 42 = .ok (.goto 4, 3) := by decide +kernel
theorem dX7_longest_45 : decode cX7_longest 45 = .ok (.iconst 0, 1) := by decide +kernel
theorem dX7_longest_46 : decode cX7_longest 46 = .ok (.istore 4, 2) := by decide +kernel
theorem dX7_longest_48 : decode cX7_longest 48 = .ok (.iload 4, 2) := by decide +kernel
theorem dX7_longest_50 : decode cX7_longest 50 = .ok (.iload_n 2, 1) := by decide +kernel
theorem dX7_longest_51 : decode cX7_longest 51 = .ok (.if_icmp .le 7, 3) := by decide +kernel
theorem dX7_longest_54 : decode cX7_longest 54 = .ok (.iload_n 3, 1) := by decide +kernel
theorem dX7_longest_55 : decode cX7_longest 55 = .ok (.goto 4, 3) := by decide +kernel
theorem dX7_longest_58 : decode cX7_longest 58 = .ok (.iload_n 1, 1) := by decide +kernel
theorem dX7_longest_59 : decode cX7_longest 59 = .ok (.istore_n 1, 1) := by decide +kernel
theorem dX7_longest_60 : decode cX7_longest 60 = .ok (.iload 4, 2) := by decide +kernel
theorem dX7_longest_62 : decode cX7_longest 62 = .ok (.iload_n 2, 1) := by decide +kernel
theorem dX7_longest_63 : decode cX7_longest 63 = .ok (.if_icmp .le 8, 3) := by decide +kernel
theorem dX7_longest_66 : decode cX7_longest 66 = .ok (.iload 4, 2) := by decide +kernel
theorem dX7_longest_68 : decode cX7_longest 68 = .ok (.goto 4, 3) := by decide +kernel
theorem dX7_longest_71 : decode cX7_longest 71 = .ok (.iload_n 2, 1) := by decide +kernel
theorem dX7_longest_72 : decode cX7_longest 72 = .ok (.istore_n 2, 1) := by decide +kernel
theorem dX7_longest_73 : decode cX7_longest 73 = .ok (.iinc 3 1, 3) := by decide +kernel
theorem dX7_longest_76 : decode cX7_longest 76 = .ok (.goto (-70), 3) := by decide +kernel
theorem dX7_longest_79 : decode cX7_longest 79 = .ok (.iload_n 1, 1) := by decide +kernel
theorem dX7_longest_80 : decode cX7_longest 80 = .ok (.ireturn, 1) := by decide +kernel
theorem dX7_told_0 : decode cX7_told 0 = .ok (.iload_n 1, 1) := by decide +kernel
theorem dX7_told_1 : decode cX7_told 1 = .ok (.tableswitch 189 0 16 #[83, 88, 93, 98, 106, 114, 122, 130, 138, 146, 151, 156, 161, 166, 174, 179, 184], 83) := by decide +kernel
theorem dX7_told_84 : decode cX7_told 84 = .ok (.aload_n 0, 1) := by decide +kernel
theorem dX7_told_85 : decode cX7_told 85 = .ok (.getfield 88, 3) := by decide +kernel
theorem dX7_told_88 : decode cX7_told 88 = .ok (.ireturn, 1) := by decide +kernel
theorem dX7_told_89 : decode cX7_told 89 = .ok (.aload_n 0, 1) := by decide +kernel
theorem dX7_told_90 : decode cX7_told 90 = .ok (.getfield 81, 3) := by decide +kernel
theorem dX7_told_93 : decode cX7_told 93 = .ok (.ireturn, 1) := by decide +kernel
theorem dX7_told_94 : decode cX7_told 94 = .ok (.aload_n 0, 1) := by decide +kernel
theorem dX7_told_95 : decode cX7_told 95 = .ok (.getfield 94, 3) := by decide +kernel
theorem dX7_told_98 : decode cX7_told 98 = .ok (.ireturn, 1) := by decide +kernel
theorem dX7_told_99 : decode cX7_told 99 = .ok (.aload_n 0, 1) := by decide +kernel
theorem dX7_told_100 : decode cX7_told 100 = .ok (.getfield 22, 3) := by decide +kernel
theorem dX7_told_103 : decode cX7_told 103 = .ok (.bipush 12, 2) := by decide +kernel
theorem dX7_told_105 : decode cX7_told 105 = .ok (.iaload, 1) := by decide +kernel
theorem dX7_told_106 : decode cX7_told 106 = .ok (.ireturn, 1) := by decide +kernel
theorem dX7_told_107 : decode cX7_told 107 = .ok (.aload_n 0, 1) := by decide +kernel
theorem dX7_told_108 : decode cX7_told 108 = .ok (.getfield 22, 3) := by decide +kernel
theorem dX7_told_111 : decode cX7_told 111 = .ok (.bipush 10, 2) := by decide +kernel
theorem dX7_told_113 : decode cX7_told 113 = .ok (.iaload, 1) := by decide +kernel
theorem dX7_told_114 : decode cX7_told 114 = .ok (.ireturn, 1) := by decide +kernel
theorem dX7_told_115 : decode cX7_told 115 = .ok (.aload_n 0, 1) := by decide +kernel
theorem dX7_told_116 : decode cX7_told 116 = .ok (.getfield 22, 3) := by decide +kernel
theorem dX7_told_119 : decode cX7_told 119 = .ok (.bipush 11, 2) := by decide +kernel
theorem dX7_told_121 : decode cX7_told 121 = .ok (.iaload, 1) := by decide +kernel
theorem dX7_told_122 : decode cX7_told 122 = .ok (.ireturn, 1) := by decide +kernel
theorem dX7_told_123 : decode cX7_told 123 = .ok (.aload_n 0, 1) := by decide +kernel
theorem dX7_told_124 : decode cX7_told 124 = .ok (.getfield 22, 3) := by decide +kernel
theorem dX7_told_127 : decode cX7_told 127 = .ok (.bipush 9, 2) := by decide +kernel
theorem dX7_told_129 : decode cX7_told 129 = .ok (.iaload, 1) := by decide +kernel
theorem dX7_told_130 : decode cX7_told 130 = .ok (.ireturn, 1) := by decide +kernel
theorem dX7_told_131 : decode cX7_told 131 = .ok (.aload_n 0, 1) := by decide +kernel
theorem dX7_told_132 : decode cX7_told 132 = .ok (.getfield 22, 3) := by decide +kernel
theorem dX7_told_135 : decode cX7_told 135 = .ok (.bipush 32, 2) := by decide +kernel
theorem dX7_told_137 : decode cX7_told 137 = .ok (.iaload, 1) := by decide +kernel
theorem dX7_told_138 : decode cX7_told 138 = .ok (.ireturn, 1) := by decide +kernel
theorem dX7_told_139 : decode cX7_told 139 = .ok (.aload_n 0, 1) := by decide +kernel
theorem dX7_told_140 : decode cX7_told 140 = .ok (.getfield 22, 3) := by decide +kernel
theorem dX7_told_143 : decode cX7_told 143 = .ok (.bipush 13, 2) := by decide +kernel
theorem dX7_told_145 : decode cX7_told 145 = .ok (.iaload, 1) := by decide +kernel
theorem dX7_told_146 : decode cX7_told 146 = .ok (.ireturn, 1) := by decide +kernel
theorem dX7_told_147 : decode cX7_told 147 = .ok (.aload_n 0, 1) := by decide +kernel
theorem dX7_told_148 : decode cX7_told 148 = .ok (.invokevirtual 221, 3) := by decide +kernel
theorem dX7_told_151 : decode cX7_told 151 = .ok (.ireturn, 1) := by decide +kernel
theorem dX7_told_152 : decode cX7_told 152 = .ok (.aload_n 0, 1) := by decide +kernel
theorem dX7_told_153 : decode cX7_told 153 = .ok (.invokevirtual 224, 3) := by decide +kernel
theorem dX7_told_156 : decode cX7_told 156 = .ok (.ireturn, 1) := by decide +kernel
theorem dX7_told_157 : decode cX7_told 157 = .ok (.aload_n 0, 1) := by decide +kernel
theorem dX7_told_158 : decode cX7_told 158 = .ok (.invokevirtual 227, 3) := by decide +kernel
theorem dX7_told_161 : decode cX7_told 161 = .ok (.ireturn, 1) := by decide +kernel
theorem dX7_told_162 : decode cX7_told 162 = .ok (.aload_n 0, 1) := by decide +kernel
theorem dX7_told_163 : decode cX7_told 163 = .ok (.invokevirtual 230, 3) := by decide +kernel
theorem dX7_told_166 : decode cX7_told 166 = .ok (.ireturn, 1) := by decide +kernel
theorem dX7_told_167 : decode cX7_told 167 = .ok (.aload_n 0, 1) := by decide +kernel
theorem dX7_told_168 : decode cX7_told 168 = .ok (.getfield 22, 3) := by decide +kernel
theorem dX7_told_171 : decode cX7_told 171 = .ok (.bipush 45, 2) := by decide +kernel
theorem dX7_told_173 : decode cX7_told 173 = .ok (.iaload, 1) := by decide +kernel
theorem dX7_told_174 : decode cX7_told 174 = .ok (.ireturn, 1) := by decide +kernel
theorem dX7_told_175 : decode cX7_told 175 = .ok (.aload_n 0, 1) := by decide +kernel
theorem dX7_told_176 : decode cX7_told 176 = .ok (.getfield 150, 3) := by decide +kernel
theorem dX7_told_179 : decode cX7_told 179 = .ok (.ireturn, 1) := by decide +kernel
theorem dX7_told_180 : decode cX7_told 180 = .ok (.aload_n 0, 1) := by decide +kernel
theorem dX7_told_181 : decode cX7_told 181 = .ok (.getfield 153, 3) := by decide +kernel
theorem dX7_told_184 : decode cX7_told 184 = .ok (.ireturn, 1) := by decide +kernel
theorem dX7_told_185 : decode cX7_told 185 = .ok (.aload_n 0, 1) := by decide +kernel
theorem dX7_told_186 : decode cX7_told 186 = .ok (.getfield 156, 3) := by decide +kernel
theorem dX7_told_189 : decode cX7_told 189 = .ok (.ireturn, 1) := by decide +kernel
theorem dX7_told_190 : decode cX7_told 190 = .ok (.ldc 93, 2) := by decide +kernel
theorem dX7_told_192 : decode cX7_told 192 = .ok (.ireturn, 1) := by decide +kernel
theorem dX7_farm_0 : decode cX7_farm 0 = .ok (.aload_n 0, 1) := by decide +kernel
theorem dX7_farm_1 : decode cX7_farm 1 = .ok (.iload_n 1, 1) := by decide +kernel
theorem dX7_farm_2 : decode cX7_farm 2 = .ok (.invokevirtual 233, 3) := by decide +kernel
theorem dX7_farm_5 : decode cX7_farm 5 = .ok (.ifCond .ne 6, 3) := by decide +kernel
theorem dX7_farm_8 : decode cX7_farm 8 = .ok (.ldc 236, 2) := by decide +kernel
theorem dX7_farm_10 : decode cX7_farm 10 = .ok (.ireturn, 1) := by decide +kernel
theorem dX7_farm_11 : decode cX7_farm 11 = .ok (.iload_n 2, 1) := by decide +kernel
theorem dX7_farm_12 : decode cX7_farm 12 = .ok (.tableswitch 122 0 5 #[40, 55, 70, 87, 102, 112], 40) := by decide +kernel
theorem dX7_farm_52 : decode cX7_farm 52 = .ok (.iload_n 1, 1) := by decide +kernel
theorem dX7_farm_53 : decode cX7_farm 53 = .ok (.ifCond .ne 7, 3) := by decide +kernel
theorem dX7_farm_56 : decode cX7_farm 56 = .ok (.iconst (-1), 1) := by decide +kernel
theorem dX7_farm_57 : decode cX7_farm 57 = .ok (.goto 9, 3) := by decide +kernel
theorem dX7_farm_60 : decode cX7_farm 60 = .ok (.aload_n 0, 1) := by decide +kernel
theorem dX7_farm_61 : decode cX7_farm 61 = .ok (.getfield 7, 3) := by decide +kernel
theorem dX7_farm_64 : decode cX7_farm 64 = .ok (.iload_n 1, 1) := by decide +kernel
theorem dX7_farm_65 : decode cX7_farm 65 = .ok (.iaload, 1) := by decide +kernel
theorem dX7_farm_66 : decode cX7_farm 66 = .ok (.ireturn, 1) := by decide +kernel
theorem dX7_farm_67 : decode cX7_farm 67 = .ok (.iload_n 1, 1) := by decide +kernel
theorem dX7_farm_68 : decode cX7_farm 68 = .ok (.ifCond .ne 7, 3) := by decide +kernel
theorem dX7_farm_71 : decode cX7_farm 71 = .ok (.iconst 0, 1) := by decide +kernel
theorem dX7_farm_72 : decode cX7_farm 72 = .ok (.goto 9, 3) := by decide +kernel
theorem dX7_farm_75 : decode cX7_farm 75 = .ok (.aload_n 0, 1) := by decide +kernel
theorem dX7_farm_76 : decode cX7_farm 76 = .ok (.getfield 13, 3) := by decide +kernel
theorem dX7_farm_79 : decode cX7_farm 79 = .ok (.iload_n 1, 1) := by decide +kernel
theorem dX7_farm_80 : decode cX7_farm 80 = .ok (.iaload, 1) := by decide +kernel
theorem dX7_farm_81 : decode cX7_farm 81 = .ok (.ireturn, 1) := by decide +kernel
theorem dX7_farm_82 : decode cX7_farm 82 = .ok (.iload_n 1, 1) := by decide +kernel
theorem dX7_farm_83 : decode cX7_farm 83 = .ok (.ifCond .ne 7, 3) := by decide +kernel
theorem dX7_farm_86 : decode cX7_farm 86 = .ok (.iconst 0, 1) := by decide +kernel
theorem dX7_farm_87 : decode cX7_farm 87 = .ok (.goto 11, 3) := by decide +kernel
theorem dX7_farm_90 : decode cX7_farm 90 = .ok (.aload_n 0, 1) := by decide +kernel
theorem dX7_farm_91 : decode cX7_farm 91 = .ok (.getfield 22, 3) := by decide +kernel
theorem dX7_farm_94 : decode cX7_farm 94 = .ok (.iconst 0, 1) := by decide +kernel
theorem dX7_farm_95 : decode cX7_farm 95 = .ok (.iload_n 1, 1) := by decide +kernel
theorem dX7_farm_96 : decode cX7_farm 96 = .ok (.iadd, 1) := by decide +kernel
theorem dX7_farm_97 : decode cX7_farm 97 = .ok (.iaload, 1) := by decide +kernel
theorem dX7_farm_98 : decode cX7_farm 98 = .ok (.ireturn, 1) := by decide +kernel
theorem dX7_farm_99 : decode cX7_farm 99 = .ok (.iload_n 1, 1) := by decide +kernel
theorem dX7_farm_100 : decode cX7_farm 100 = .ok (.ifCond .ne 7, 3) := by decide +kernel
theorem dX7_farm_103 : decode cX7_farm 103 = .ok (.iconst 0, 1) := by decide +kernel
theorem dX7_farm_104 : decode cX7_farm 104 = .ok (.goto 9, 3) := by decide +kernel
theorem dX7_farm_107 : decode cX7_farm 107 = .ok (.aload_n 0, 1) := by decide +kernel
theorem dX7_farm_108 : decode cX7_farm 108 = .ok (.getfield 19, 3) := by decide +kernel
theorem dX7_farm_111 : decode cX7_farm 111 = .ok (.iload_n 1, 1) := by decide +kernel
theorem dX7_farm_112 : decode cX7_farm 112 = .ok (.iaload, 1) := by decide +kernel
theorem dX7_farm_113 : decode cX7_farm 113 = .ok (.ireturn, 1) := by decide +kernel
theorem dX7_farm_114 : decode cX7_farm 114 = .ok (.aload_n 0, 1) := by decide +kernel
theorem dX7_farm_115 : decode cX7_farm 115 = .ok (.getfield 22, 3) := by decide +kernel
theorem dX7_farm_118 : decode cX7_farm 118 = .ok (.bipush 14, 2) := by decide +kernel
theorem dX7_farm_120 : decode cX7_farm 120 = .ok (.iload_n 1, 1) := by decide +kernel
theorem dX7_farm_121 : decode cX7_farm 121 = .ok (.iadd, 1) := by decide +kernel
theorem dX7_farm_122 : decode cX7_farm 122 = .ok (.iaload, 1) := by decide +kernel
theorem dX7_farm_123 : decode cX7_farm 123 = .ok (.ireturn, 1) := by decide +kernel
theorem dX7_farm_124 : decode cX7_farm 124 = .ok (.aload_n 0, 1) := by decide +kernel
theorem dX7_farm_125 : decode cX7_farm 125 = .ok (.getfield 22, 3) := by decide +kernel
theorem dX7_farm_128 : decode cX7_farm 128 = .ok (.bipush 23, 2) := by decide +kernel
theorem dX7_farm_130 : decode cX7_farm 130 = .ok (.iload_n 1, 1) := by decide +kernel
theorem dX7_farm_131 : decode cX7_farm 131 = .ok (.iadd, 1) := by decide +kernel
theorem dX7_farm_132 : decode cX7_farm 132 = .ok (.iaload, 1) := by decide +kernel
theorem dX7_farm_133 : decode cX7_farm 133 = .ok (.ireturn, 1) := by decide +kernel
theorem dX7_farm_134 : decode cX7_farm 134 = .ok (.ldc 93, 2) := by decide +kernel
theorem dX7_farm_136 : decode cX7_farm 136 = .ok (.ireturn, 1) := by decide +kernel
theorem dX7_talk_0 : decode cX7_talk 0 = .ok (.iload_n 1, 1) := by decide +kernel
theorem dX7_talk_1 : decode cX7_talk 1 = .ok (.i2l, 1) := by decide +kernel
theorem dX7_talk_2 : decode cX7_talk 2 = .ok (.lconst 0, 1) := by decide +kernel
theorem dX7_talk_3 : decode cX7_talk 3 = .ok (.aload_n 0, 1) := by decide +kernel
theorem dX7_talk_4 : decode cX7_talk 4 = .ok (.getfield 22, 3) := by decide +kernel
theorem dX7_talk_7 : decode cX7_talk 7 = .ok (.bipush 32, 2) := by decide +kernel
theorem dX7_talk_9 : decode cX7_talk 9 = .ok (.iaload, 1) := by decide +kernel
theorem dX7_talk_10 : decode cX7_talk 10 = .ok (.iconst 1, 1) := by decide +kernel
theorem dX7_talk_11 : decode cX7_talk 11 = .ok (.isub, 1) := by decide +kernel
theorem dX7_talk_12 : decode cX7_talk 12 = .ok (.i2l, 1) := by decide +kernel
theorem dX7_talk_13 : decode cX7_talk 13 = .ok (.invokestatic 84, 3) := by decide +kernel
theorem dX7_talk_16 : decode cX7_talk 16 = .ok (.ifCond .ne 6, 3) := by decide +kernel
theorem dX7_talk_19 : decode cX7_talk 19 = .ok (.ldc 236, 2) := by decide +kernel
theorem dX7_talk_21 : decode cX7_talk 21 = .ok (.ireturn, 1) := by decide +kernel
theorem dX7_talk_22 : decode cX7_talk 22 = .ok (.iload_n 2, 1) := by decide +kernel
theorem dX7_talk_23 : decode cX7_talk 23 = .ok (.tableswitch 53 0 3 #[29, 35, 41, 47], 29) := by decide +kernel
theorem dX7_talk_52 : decode cX7_talk 52 = .ok (.aload_n 0, 1) := by decide +kernel
theorem dX7_talk_53 : decode cX7_talk 53 = .ok (.iload_n 1, 1) := by decide +kernel
theorem dX7_talk_54 : decode cX7_talk 54 = .ok (.invokevirtual 175, 3) := by decide +kernel
theorem dX7_talk_57 : decode cX7_talk 57 = .ok (.ireturn, 1) := by decide +kernel
theorem dX7_talk_58 : decode cX7_talk 58 = .ok (.aload_n 0, 1) := by decide +kernel
theorem dX7_talk_59 : decode cX7_talk 59 = .ok (.iload_n 1, 1) := by decide +kernel
theorem dX7_talk_60 : decode cX7_talk 60 = .ok (.invokevirtual 172, 3) := by decide +kernel
theorem dX7_talk_63 : decode cX7_talk 63 = .ok (.ireturn, 1) := by decide +kernel
theorem dX7_talk_64 : decode cX7_talk 64 = .ok (.aload_n 0, 1) := by decide +kernel
theorem dX7_talk_65 : decode cX7_talk 65 = .ok (.iload_n 1, 1) := by decide +kernel
theorem dX7_talk_66 : decode cX7_talk 66 = .ok (.invokevirtual 168, 3) := by decide +kernel
theorem dX7_talk_69 : decode cX7_talk 69 = .ok (.ireturn, 1) := by decide +kernel
theorem dX7_talk_70 : decode cX7_talk 70 = .ok (.aload_n 0, 1) := by decide +kernel
theorem dX7_talk_71 : decode cX7_talk 71 = .ok (.iload_n 1, 1) := by decide +kernel
theorem dX7_talk_72 : decode cX7_talk 72 = .ok (.invokevirtual 178, 3) := by decide +kernel
theorem dX7_talk_75 : decode cX7_talk 75 = .ok (.ireturn, 1) := by decide +kernel
theorem dX7_talk_76 : decode cX7_talk 76 = .ok (.ldc 93, 2) := by decide +kernel
theorem dX7_talk_78 : decode cX7_talk 78 = .ok (.ireturn, 1) := by decide +kernel
theorem dX7_logged_0 : decode cX7_logged 0 = .ok (.iload_n 2, 1) := by decide +kernel
theorem dX7_logged_1 : decode cX7_logged 1 = .ok (.i2l, 1) := by decide +kernel
theorem dX7_logged_2 : decode cX7_logged 2 = .ok (.lconst 0, 1) := by decide +kernel
theorem dX7_logged_3 : decode cX7_logged 3 = .ok (.ldc2_w 237, 3) := by decide +kernel
theorem dX7_logged_6 : decode cX7_logged 6 = .ok (.invokestatic 84, 3) := by decide +kernel
theorem dX7_logged_9 : decode cX7_logged 9 = .ok (.ifCond .ne 6, 3) := by decide +kernel
theorem dX7_logged_12 : decode cX7_logged 12 = .ok (.ldc 93, 2) := by decide +kernel
theorem dX7_logged_14 : decode cX7_logged 14 = .ok (.ireturn, 1) := by decide +kernel
theorem dX7_logged_15 : decode cX7_logged 15 = .ok (.iload_n 1, 1) := by decide +kernel
theorem dX7_logged_16 : decode cX7_logged 16 = .ok (.i2l, 1) := by decide +kernel
theorem dX7_logged_17 : decode cX7_logged 17 = .ok (.lconst 0, 1) := by decide +kernel
theorem dX7_logged_18 : decode cX7_logged 18 = .ok (.aload_n 0, 1) := by decide +kernel
theorem dX7_logged_19 : decode cX7_logged 19 = .ok (.getfield 22, 3) := by decide +kernel
theorem dX7_logged_22 : decode cX7_logged 22 = .ok (.bipush 45, 2) := by decide +kernel
theorem dX7_logged_24 : decode cX7_logged 24 = .ok (.iaload, 1) := by decide +kernel
theorem dX7_logged_25 : decode cX7_logged 25 = .ok (.iconst 1, 1) := by decide +kernel
theorem dX7_logged_26 : decode cX7_logged 26 = .ok (.isub, 1) := by decide +kernel
theorem dX7_logged_27 : decode cX7_logged 27 = .ok (.i2l, 1) := by decide +kernel
theorem dX7_logged_28 : decode cX7_logged 28 = .ok (.invokestatic 84, 3) := by decide +kernel
theorem dX7_logged_31 : decode cX7_logged 31 = .ok (.ifCond .ne 5, 3) := by decide +kernel
theorem dX7_logged_34 : decode cX7_logged 34 = .ok (.iconst (-1), 1) := by decide +kernel
theorem dX7_logged_35 : decode cX7_logged 35 = .ok (.ireturn, 1) := by decide +kernel
theorem dX7_logged_36 : decode cX7_logged 36 = .ok (.aload_n 0, 1) := by decide +kernel
theorem dX7_logged_37 : decode cX7_logged 37 = .ok (.getfield 22, 3) := by decide +kernel
theorem dX7_logged_40 : decode cX7_logged 40 = .ok (.bipush 46, 2) := by decide +kernel
theorem dX7_logged_42 : decode cX7_logged 42 = .ok (.aload_n 0, 1) := by decide +kernel
theorem dX7_logged_43 : decode cX7_logged 43 = .ok (.getfield 22, 3) := by decide +kernel
theorem dX7_logged_46 : decode cX7_logged 46 = .ok (.bipush 45, 2) := by decide +kernel
theorem dX7_logged_48 : decode cX7_logged 48 = .ok (.iaload, 1) := by decide +kernel
theorem dX7_logged_49 : decode cX7_logged 49 = .ok (.iadd, 1) := by decide +kernel
theorem dX7_logged_50 : decode cX7_logged 50 = .ok (.iconst 1, 1) := by decide +kernel
theorem dX7_logged_51 : decode cX7_logged 51 = .ok (.isub, 1) := by decide +kernel
theorem dX7_logged_52 : decode cX7_logged 52 = .ok (.iload_n 1, 1) := by decide +kernel
theorem dX7_logged_53 : decode cX7_logged 53 = .ok (.isub, 1) := by decide +kernel
theorem dX7_logged_54 : decode cX7_logged 54 = .ok (.iaload, 1) := by decide +kernel
theorem dX7_logged_55 : decode cX7_logged 55 = .ok (.istore_n 3, 1) := by decide +kernel
theorem dX7_logged_56 : decode cX7_logged 56 = .ok (.iload_n 2, 1) := by decide +kernel
theorem dX7_logged_57 : decode cX7_logged 57 = .ok (.ifCond .ne 13, 3) := by decide +kernel
theorem dX7_logged_60 : decode cX7_logged 60 = .ok (.iload_n 3, 1) := by decide +kernel
theorem dX7_logged_61 : decode cX7_logged 61 = .ok (.bipush 100, 2) := by decide +kernel
theorem dX7_logged_63 : decode cX7_logged 63 = .ok (.idiv, 1) := by decide +kernel
theorem dX7_logged_64 : decode cX7_logged 64 = .ok (.bipush 10, 2) := by decide +kernel
theorem dX7_logged_66 : decode cX7_logged 66 = .ok (.irem, 1) := by decide +kernel
theorem dX7_logged_67 : decode cX7_logged 67 = .ok (.goto 35, 3) := by decide +kernel
theorem dX7_logged_70 : decode cX7_logged 70 = .ok (.iload_n 2, 1) := by decide +kernel
theorem dX7_logged_71 : decode cX7_logged 71 = .ok (.iconst 1, 1) := by decide +kernel
theorem dX7_logged_72 : decode cX7_logged 72 = .ok (.if_icmp .ne 13, 3) := by decide +kernel
theorem dX7_logged_75 : decode cX7_logged 75 = .ok (.iload_n 3, 1) := by decide +kernel
theorem dX7_logged_76 : decode cX7_logged 76 = .ok (.bipush 10, 2) := by decide +kernel
theorem dX7_logged_78 : decode cX7_logged 78 = .ok (.idiv, 1) := by decide +kernel
theorem dX7_logged_79 : decode cX7_logged 79 = .ok (.bipush 10, 2) := by decide +kernel
theorem dX7_logged_81 : decode cX7_logged 81 = .ok (.irem, 1) := by decide +kernel
theorem dX7_logged_82 : decode cX7_logged 82 = .ok (.goto 20, 3) := by decide +kernel
theorem dX7_logged_85 : decode cX7_logged 85 = .ok (.iload_n 2, 1) := by decide +kernel
theorem dX7_logged_86 : decode cX7_logged 86 = .ok (.iconst 2, 1) := by decide +kernel
theorem dX7_logged_87 : decode cX7_logged 87 = .ok (.if_icmp .ne 11, 3) := by decide +kernel
theorem dX7_logged_90 : decode cX7_logged 90 = .ok (.iload_n 3, 1) := by decide +kernel
theorem dX7_logged_91 : decode cX7_logged 91 = .ok (.sipush 1000, 3) := by decide +kernel
theorem dX7_logged_94 : decode cX7_logged 94 = .ok (.idiv, 1) := by decide +kernel
theorem dX7_logged_95 : decode cX7_logged 95 = .ok (.goto 7, 3) := by decide +kernel
theorem dX7_logged_98 : decode cX7_logged 98 = .ok (.iload_n 3, 1) := by decide +kernel
theorem dX7_logged_99 : decode cX7_logged 99 = .ok (.bipush 10, 2) := by decide +kernel
theorem dX7_logged_101 : decode cX7_logged 101 = .ok (.irem, 1) := by decide +kernel
theorem dX7_logged_102 : decode cX7_logged 102 = .ok (.ireturn, 1) := by decide +kernel
theorem dX7_remember_0 : decode cX7_remember 0 = .ok (.aload_n 0, 1) := by decide +kernel
theorem dX7_remember_1 : decode cX7_remember 1 = .ok (.getfield 156, 3) := by decide +kernel
theorem dX7_remember_4 : decode cX7_remember 4 = .ok (.bipush 16, 2) := by decide +kernel
theorem dX7_remember_6 : decode cX7_remember 6 = .ok (.if_icmp .ne 44, 3) := by decide +kernel
theorem dX7_remember_9 : decode cX7_remember 9 = .ok (.bipush 66, 2) := by decide +kernel
theorem dX7_remember_11 : decode cX7_remember 11 = .ok (.istore_n 1, 1) := by decide +kernel
theorem dX7_remember_12 : decode cX7_remember 12 = .ok (.iload_n 1, 1) := by decide +kernel
theorem dX7_remember_13 : decode cX7_remember 13 = .ok (.sipush 1056, 3) := by decide +kernel
theorem dX7_remember_16 : decode cX7_remember 16 = .ok (.if_icmp .ge 24, 3) := by decide +kernel
theorem dX7_remember_19 : decode cX7_remember 19 = .ok (.aload_n 0, 1) := by decide +kernel
theorem dX7_remember_20 : decode cX7_remember 20 = .ok (.getfield 51, 3) := by decide +kernel
theorem dX7_remember_23 : decode cX7_remember 23 = .ok (.iload_n 1, 1) := by decide +kernel
theorem dX7_remember_24 : decode cX7_remember 24 = .ok (.bipush 66, 2) := by decide +kernel
theorem dX7_remember_26 : decode cX7_remember 26 = .ok (.isub, 1) := by decide +kernel
theorem dX7_remember_27 : decode cX7_remember 27 = .ok (.aload_n 0, 1) := by decide +kernel
theorem dX7_remember_28 : decode cX7_remember 28 = .ok (.getfield 51, 3) := by decide +kernel
theorem dX7_remember_31 : decode cX7_remember 31 = .ok (.iload_n 1, 1) := by decide +kernel
theorem dX7_remember_32 : decode cX7_remember 32 = .ok (.iaload, 1) := by decide +kernel
theorem dX7_remember_33 : decode cX7_remember 33 = .ok (.iastore, 1) := by decide +kernel
theorem dX7_remember_34 : decode cX7_remember 34 = .ok (.iinc 1 1, 3) := by decide +kernel
theorem dX7_remember_37 : decode cX7_remember 37 = .ok (.goto (-25), 3) := by decide +kernel
theorem dX7_remember_40 : decode cX7_remember 40 = .ok (.aload_n 0, 1) := by decide +kernel
theorem dX7_remember_41 : decode cX7_remember 41 = .ok (.dup, 1) := by decide +kernel
theorem dX7_remember_42 : decode cX7_remember 42 = .ok (.getfield 156, 3) := by decide +kernel
theorem dX7_remember_45 : decode cX7_remember 45 = .ok (.iconst 1, 1) := by decide +kernel
theorem dX7_remember_46 : decode cX7_remember 46 = .ok (.isub, 1) := by decide +kernel
theorem dX7_remember_47 : decode cX7_remember 47 = .ok (.putfield 156, 3) := by decide +kernel
theorem dX7_remember_50 : decode cX7_remember 50 = .ok (.iconst 0, 1) := by decide +kernel
theorem dX7_remember_51 : decode cX7_remember 51 = .ok (.istore_n 1, 1) := by decide +kernel
theorem dX7_remember_52 : decode cX7_remember 52 = .ok (.iload_n 1, 1) := by decide +kernel
theorem dX7_remember_53 : decode cX7_remember 53 = .ok (.bipush 66, 2) := by decide +kernel
theorem dX7_remember_55 : decode cX7_remember 55 = .ok (.if_icmp .ge 29, 3) := by decide +kernel
theorem dX7_remember_58 : decode cX7_remember 58 = .ok (.aload_n 0, 1) := by decide +kernel
theorem dX7_remember_59 : decode cX7_remember 59 = .ok (.getfield 51, 3) := by decide +kernel
theorem dX7_remember_62 : decode cX7_remember 62 = .ok (.bipush 66, 2) := by decide +kernel
theorem dX7_remember_64 : decode cX7_remember 64 = .ok (.aload_n 0, 1) := by decide +kernel
theorem dX7_remember_65 : decode cX7_remember 65 = .ok (.getfield 156, 3) := by decide +kernel
theorem dX7_remember_68 : decode cX7_remember 68 = .ok (.imul, 1) := by decide +kernel
theorem dX7_remember_69 : decode cX7_remember 69 = .ok (.iload_n 1, 1) := by decide +kernel
theorem dX7_remember_70 : decode cX7_remember 70 = .ok (.iadd, 1) := by decide +kernel
theorem dX7_remember_71 : decode cX7_remember 71 = .ok (.aload_n 0, 1) := by decide +kernel
theorem dX7_remember_72 : decode cX7_remember 72 = .ok (.getfield 22, 3) := by decide +kernel
theorem dX7_remember_75 : decode cX7_remember 75 = .ok (.iload_n 1, 1) := by decide +kernel
theorem dX7_remember_76 : decode cX7_remember 76 = .ok (.iaload, 1) := by decide +kernel
theorem dX7_remember_77 : decode cX7_remember 77 = .ok (.iastore, 1) := by decide +kernel
theorem dX7_remember_78 : decode cX7_remember 78 = .ok (.iinc 1 1, 3) := by decide +kernel
theorem dX7_remember_81 : decode cX7_remember 81 = .ok (.goto (-29), 3) := by decide +kernel
theorem dX7_remember_84 : decode cX7_remember 84 = .ok (.aload_n 0, 1) := by decide +kernel
theorem dX7_remember_85 : decode cX7_remember 85 = .ok (.dup, 1) := by decide +kernel
theorem dX7_remember_86 : decode cX7_remember 86 = .ok (.getfield 156, 3) := by decide +kernel
theorem dX7_remember_89 : decode cX7_remember 89 = .ok (.iconst 1, 1) := by decide +kernel
theorem dX7_remember_90 : decode cX7_remember 90 = .ok (.iadd, 1) := by decide +kernel
theorem dX7_remember_91 : decode cX7_remember 91 = .ok (.putfield 156, 3) := by decide +kernel
theorem dX7_remember_94 : decode cX7_remember 94 = .ok (.return_, 1) := by decide +kernel
theorem dX7_hoursRefused_0 : decode cX7_hoursRefused 0 = .ok (.iload_n 1, 1) := by decide +kernel
theorem dX7_hoursRefused_1 : decode cX7_hoursRefused 1 = .ok (.i2l, 1) := by decide +kernel
theorem dX7_hoursRefused_2 : decode cX7_hoursRefused 2 = .ok (.lconst 1, 1) := by decide +kernel
theorem dX7_hoursRefused_3 : decode cX7_hoursRefused 3 = .ok (.ldc2_w 239, 3) := by decide +kernel
theorem dX7_hoursRefused_6 : decode cX7_hoursRefused 6 = .ok (.invokestatic 84, 3) := by decide +kernel
theorem dX7_hoursRefused_9 : decode cX7_hoursRefused 9 = .ok (.ifCond .ne 6, 3) := by decide +kernel
theorem dX7_hoursRefused_12 : decode cX7_hoursRefused 12 = .ok (.ldc 93, 2) := by decide +kernel
theorem dX7_hoursRefused_14 : decode cX7_hoursRefused 14 = .ok (.ireturn, 1) := by decide +kernel
theorem dX7_hoursRefused_15 : decode cX7_hoursRefused 15 = .ok (.aload_n 0, 1) := by decide +kernel
theorem dX7_hoursRefused_16 : decode cX7_hoursRefused 16 = .ok (.getfield 81, 3) := by decide +kernel
theorem dX7_hoursRefused_19 : decode cX7_hoursRefused 19 = .ok (.ifCond .ne 8, 3) := by decide +kernel
theorem dX7_hoursRefused_22 : decode cX7_hoursRefused 22 = .ok (.ldc 241, 2) := by decide +kernel
theorem dX7_hoursRefused_24 : decode cX7_hoursRefused 24 = .ok (.goto 22, 3) := by decide +kernel
theorem dX7_hoursRefused_27 : decode cX7_hoursRefused 27 = .ok (.aload_n 0, 1) := by decide +kernel
theorem dX7_hoursRefused_28 : decode cX7_hoursRefused 28 = .ok (.getfield 22, 3) := by decide +kernel
theorem dX7_hoursRefused_31 : decode cX7_hoursRefused 31 = .ok (.bipush 12, 2) := by decide +kernel
theorem dX7_hoursRefused_33 : decode cX7_hoursRefused 33 = .ok (.iaload, 1) := by decide +kernel
theorem dX7_hoursRefused_34 : decode cX7_hoursRefused 34 = .ok (.sipush 9000, 3) := by decide +kernel
theorem dX7_hoursRefused_37 : decode cX7_hoursRefused 37 = .ok (.if_icmp .le 8, 3) := by decide +kernel
theorem dX7_hoursRefused_40 : decode cX7_hoursRefused 40 = .ok (.ldc 97, 2) := by decide +kernel
theorem dX7_hoursRefused_42 : decode cX7_hoursRefused 42 = .ok (.goto 4, 3) := by decide +kernel
theorem dX7_hoursRefused_45 : decode cX7_hoursRefused 45 = .ok (.iconst 0, 1) := by decide +kernel
theorem dX7_hoursRefused_46 : decode cX7_hoursRefused 46 = .ok (.ireturn, 1) := by decide +kernel
theorem dX7_hour_0 : decode cX7_hour 0 = .ok (.aload_n 0, 1) := by decide +kernel
theorem dX7_hour_1 : decode cX7_hour 1 = .ok (.iload_n 1, 1) := by decide +kernel
theorem dX7_hour_2 : decode cX7_hour 2 = .ok (.invokevirtual 242, 3) := by decide +kernel
theorem dX7_hour_5 : decode cX7_hour 5 = .ok (.istore_n 2, 1) := by decide +kernel
theorem dX7_hour_6 : decode cX7_hour 6 = .ok (.iload_n 2, 1) := by decide +kernel
theorem dX7_hour_7 : decode cX7_hour 7 = .ok (.ifCond .eq 5, 3) := by decide +kernel
theorem dX7_hour_10 : decode cX7_hour 10 = .ok (.iload_n 2, 1) := by decide +kernel
theorem dX7_hour_11 : decode cX7_hour 11 = .ok (.ireturn, 1) := by decide +kernel
theorem dX7_hour_12 : decode cX7_hour 12 = .ok (.aload_n 0, 1) := by decide +kernel
theorem dX7_hour_13 : decode cX7_hour 13 = .ok (.invokevirtual 245, 3) := by decide +kernel
theorem dX7_hour_16 : decode cX7_hour 16 = .ok (.iconst 0, 1) := by decide +kernel
theorem dX7_hour_17 : decode cX7_hour 17 = .ok (.istore_n 3, 1) := by decide +kernel
theorem dX7_hour_18 : decode cX7_hour 18 = .ok (.iload_n 3, 1) := by decide +kernel
theorem dX7_hour_19 : decode cX7_hour 19 = .ok (.iload_n 1, 1) := by decide +kernel
theorem dX7_hour_20 : decode cX7_hour 20 = .ok (.if_icmp .ge 13, 3) := by decide +kernel
theorem dX7_hour_23 : decode cX7_hour 23 = .ok (.aload_n 0, 1) := by decide +kernel
theorem dX7_hour_24 : decode cX7_hour 24 = .ok (.invokevirtual 248, 3) := by decide +kernel
theorem dX7_hour_27 : decode cX7_hour 27 = .ok (.iinc 3 1, 3) := by decide +kernel
theorem dX7_hour_30 : decode cX7_hour 30 = .ok (.goto (-12), 3) := by decide +kernel
theorem dX7_hour_33 : decode cX7_hour 33 = .ok (.aload_n 0, 1) := by decide +kernel
theorem dX7_hour_34 : decode cX7_hour 34 = .ok (.getfield 22, 3) := by decide +kernel
theorem dX7_hour_37 : decode cX7_hour 37 = .ok (.bipush 32, 2) := by decide +kernel
theorem dX7_hour_39 : decode cX7_hour 39 = .ok (.iaload, 1) := by decide +kernel
theorem dX7_hour_40 : decode cX7_hour 40 = .ok (.ireturn, 1) := by decide +kernel
theorem dX7_sayNow_0 : decode cX7_sayNow 0 = .ok (.aload_n 0, 1) := by decide +kernel
theorem dX7_sayNow_1 : decode cX7_sayNow 1 = .ok (.getfield 22, 3) := by decide +kernel
theorem dX7_sayNow_4 : decode cX7_sayNow 4 = .ok (.bipush 33, 2) := by decide +kernel
theorem dX7_sayNow_6 : decode cX7_sayNow 6 = .ok (.aload_n 0, 1) := by decide +kernel
theorem dX7_sayNow_7 : decode cX7_sayNow 7 = .ok (.getfield 22, 3) := by decide +kernel
theorem dX7_sayNow_10 : decode cX7_sayNow 10 = .ok (.bipush 32, 2) := by decide +kernel
theorem dX7_sayNow_12 : decode cX7_sayNow 12 = .ok (.iaload, 1) := by decide +kernel
theorem dX7_sayNow_13 : decode cX7_sayNow 13 = .ok (.iadd, 1) := by decide +kernel
theorem dX7_sayNow_14 : decode cX7_sayNow 14 = .ok (.iconst 4, 1) := by decide +kernel
theorem dX7_sayNow_15 : decode cX7_sayNow 15 = .ok (.aload_n 0, 1) := by decide +kernel
theorem dX7_sayNow_16 : decode cX7_sayNow 16 = .ok (.getfield 13, 3) := by decide +kernel
theorem dX7_sayNow_19 : decode cX7_sayNow 19 = .ok (.iload_n 1, 1) := by decide +kernel
theorem dX7_sayNow_20 : decode cX7_sayNow 20 = .ok (.iaload, 1) := by decide +kernel
theorem dX7_sayNow_21 : decode cX7_sayNow 21 = .ok (.imul, 1) := by decide +kernel
theorem dX7_sayNow_22 : decode cX7_sayNow 22 = .ok (.iload_n 1, 1) := by decide +kernel
theorem dX7_sayNow_23 : decode cX7_sayNow 23 = .ok (.iload_n 2, 1) := by decide +kernel
theorem dX7_sayNow_24 : decode cX7_sayNow 24 = .ok (.iload_n 1, 1) := by decide +kernel
theorem dX7_sayNow_25 : decode cX7_sayNow 25 = .ok (.invokestatic 181, 3) := by decide +kernel
theorem dX7_sayNow_28 : decode cX7_sayNow 28 = .ok (.iastore, 1) := by decide +kernel
theorem dX7_sayNow_29 : decode cX7_sayNow 29 = .ok (.aload_n 0, 1) := by decide +kernel
theorem dX7_sayNow_30 : decode cX7_sayNow 30 = .ok (.getfield 22, 3) := by decide +kernel
theorem dX7_sayNow_33 : decode cX7_sayNow 33 = .ok (.bipush 32, 2) := by decide +kernel
theorem dX7_sayNow_35 : decode cX7_sayNow 35 = .ok (.dup2, 1) := by decide +kernel
theorem dX7_sayNow_36 : decode cX7_sayNow 36 = .ok (.iaload, 1) := by decide +kernel
theorem dX7_sayNow_37 : decode cX7_sayNow 37 = .ok (.iconst 1, 1) := by decide +kernel
theorem dX7_sayNow_38 : decode cX7_sayNow 38 = .ok (.iadd, 1) := by decide +kernel
theorem dX7_sayNow_39 : decode cX7_sayNow 39 = .ok (.iastore, 1) := by decide +kernel
theorem dX7_sayNow_40 : decode cX7_sayNow 40 = .ok (.return_, 1) := by decide +kernel
theorem dX7_say_0 : decode cX7_say 0 = .ok (.aload_n 0, 1) := by decide +kernel
theorem dX7_say_1 : decode cX7_say 1 = .ok (.iload_n 1, 1) := by decide +kernel
theorem dX7_say_2 : decode cX7_say 2 = .ok (.invokevirtual 233, 3) := by decide +kernel
theorem dX7_say_5 : decode cX7_say 5 = .ok (.ifCond .eq 11, 3) := by decide +kernel
theorem dX7_say_8 : decode cX7_say 8 = .ok (.aload_n 0, 1) := by decide +kernel
theorem dX7_say_9 : decode cX7_say 9 = .ok (.iload_n 2, 1) := by decide +kernel
theorem dX7_say_10 : decode cX7_say 10 = .ok (.invokevirtual 251, 3) := by decide +kernel
theorem dX7_say_13 : decode cX7_say 13 = .ok (.ifCond .ne 6, 3) := by decide +kernel
theorem dX7_say_16 : decode cX7_say 16 = .ok (.ldc 236, 2) := by decide +kernel
theorem dX7_say_18 : decode cX7_say 18 = .ok (.ireturn, 1) := by decide +kernel
theorem dX7_say_19 : decode cX7_say 19 = .ok (.iload_n 1, 1) := by decide +kernel
theorem dX7_say_20 : decode cX7_say 20 = .ok (.ifCond .ne 6, 3) := by decide +kernel
theorem dX7_say_23 : decode cX7_say 23 = .ok (.ldc 241, 2) := by decide +kernel
theorem dX7_say_25 : decode cX7_say 25 = .ok (.ireturn, 1) := by decide +kernel
theorem dX7_say_26 : decode cX7_say 26 = .ok (.aload_n 0, 1) := by decide +kernel
theorem dX7_say_27 : decode cX7_say 27 = .ok (.getfield 22, 3) := by decide +kernel
theorem dX7_say_30 : decode cX7_say 30 = .ok (.bipush 32, 2) := by decide +kernel
theorem dX7_say_32 : decode cX7_say 32 = .ok (.iaload, 1) := by decide +kernel
theorem dX7_say_33 : decode cX7_say 33 = .ok (.bipush 12, 2) := by decide +kernel
theorem dX7_say_35 : decode cX7_say 35 = .ok (.if_icmp .ne 6, 3) := by decide +kernel
theorem dX7_say_38 : decode cX7_say 38 = .ok (.ldc 97, 2) := by decide +kernel
theorem dX7_say_40 : decode cX7_say 40 = .ok (.ireturn, 1) := by decide +kernel
theorem dX7_say_41 : decode cX7_say 41 = .ok (.aload_n 0, 1) := by decide +kernel
theorem dX7_say_42 : decode cX7_say 42 = .ok (.invokevirtual 245, 3) := by decide +kernel
theorem dX7_say_45 : decode cX7_say 45 = .ok (.aload_n 0, 1) := by decide +kernel
theorem dX7_say_46 : decode cX7_say 46 = .ok (.iload_n 1, 1) := by decide +kernel
theorem dX7_say_47 : decode cX7_say 47 = .ok (.iload_n 2, 1) := by decide +kernel
theorem dX7_say_48 : decode cX7_say 48 = .ok (.invokevirtual 254, 3) := by decide +kernel
theorem dX7_say_51 : decode cX7_say 51 = .ok (.aload_n 0, 1) := by decide +kernel
theorem dX7_say_52 : decode cX7_say 52 = .ok (.getfield 22, 3) := by decide +kernel
theorem dX7_say_55 : decode cX7_say 55 = .ok (.bipush 32, 2) := by decide +kernel
theorem dX7_say_57 : decode cX7_say 57 = .ok (.iaload, 1) := by decide +kernel
theorem dX7_say_58 : decode cX7_say 58 = .ok (.ireturn, 1) := by decide +kernel
theorem dX7_rain_0 : decode cX7_rain 0 = .ok (.iload_n 1, 1) := by decide +kernel
theorem dX7_rain_1 : decode cX7_rain 1 = .ok (.i2l, 1) := by decide +kernel
theorem dX7_rain_2 : decode cX7_rain 2 = .ok (.lconst 0, 1) := by decide +kernel
theorem dX7_rain_3 : decode cX7_rain 3 = .ok (.ldc2_w 258, 3) := by decide +kernel
theorem dX7_rain_6 : decode cX7_rain 6 = .ok (.invokestatic 84, 3) := by decide +kernel
theorem dX7_rain_9 : decode cX7_rain 9 = .ok (.ifCond .ne 6, 3) := by decide +kernel
theorem dX7_rain_12 : decode cX7_rain 12 = .ok (.ldc 93, 2) := by decide +kernel
theorem dX7_rain_14 : decode cX7_rain 14 = .ok (.ireturn, 1) := by decide +kernel
theorem dX7_rain_15 : decode cX7_rain 15 = .ok (.aload_n 0, 1) := by decide +kernel
theorem dX7_rain_16 : decode cX7_rain 16 = .ok (.getfield 81, 3) := by decide +kernel
theorem dX7_rain_19 : decode cX7_rain 19 = .ok (.ifCond .ne 6, 3) := by decide +kernel
theorem dX7_rain_22 : decode cX7_rain 22 = .ok (.ldc 241, 2) := by decide +kernel
theorem dX7_rain_24 : decode cX7_rain 24 = .ok (.ireturn, 1) := by decide +kernel
theorem dX7_rain_25 : decode cX7_rain 25 = .ok (.aload_n 0, 1) := by decide +kernel
theorem dX7_rain_26 : decode cX7_rain 26 = .ok (.invokevirtual 245, 3) := by decide +kernel
theorem dX7_rain_29 : decode cX7_rain 29 = .ok (.aload_n 0, 1) := by decide +kernel
theorem dX7_rain_30 : decode cX7_rain 30 = .ok (.getfield 22, 3) := by decide +kernel
theorem dX7_rain_33 : decode cX7_rain 33 = .ok (.bipush 10, 2) := by decide +kernel
theorem dX7_rain_35 : decode cX7_rain 35 = .ok (.iaload, 1) := by decide +kernel
theorem dX7_rain_36 : decode cX7_rain 36 = .ok (.istore_n 2, 1) := by decide +kernel
theorem dX7_rain_37 : decode cX7_rain 37 = .ok (.aload_n 0, 1) := by decide +kernel
theorem dX7_rain_38 : decode cX7_rain 38 = .ok (.getfield 22, 3) := by decide +kernel
theorem dX7_rain_41 : decode cX7_rain 41 = .ok (.bipush 10, 2) := by decide +kernel
theorem dX7_rain_43 : decode cX7_rain 43 = .ok (.iload_n 1, 1) := by decide +kernel
theorem dX7_rain_44 : decode cX7_rain 44 = .ok (.iastore, 1) := by decide +kernel
theorem dX7_rain_45 : decode cX7_rain 45 = .ok (.iload_n 2, 1) := by decide +kernel
theorem dX7_rain_46 : decode cX7_rain 46 = .ok (.ireturn, 1) := by decide +kernel
theorem dX7_frost_0 : decode cX7_frost 0 = .ok (.aload_n 0, 1) := by decide +kernel
theorem dX7_frost_1 : decode cX7_frost 1 = .ok (.getfield 81, 3) := by decide +kernel
theorem dX7_frost_4 : decode cX7_frost 4 = .ok (.ifCond .ne 6, 3) := by decide +kernel
theorem dX7_frost_7 : decode cX7_frost 7 = .ok (.ldc 241, 2) := by decide +kernel
theorem dX7_frost_9 : decode cX7_frost 9 = .ok (.ireturn, 1) := by decide +kernel
theorem dX7_frost_10 : decode cX7_frost 10 = .ok (.aload_n 0, 1) := by decide +kernel
theorem dX7_frost_11 : decode cX7_frost 11 = .ok (.invokevirtual 245, 3) := by decide +kernel
theorem dX7_frost_14 : decode cX7_frost 14 = .ok (.aload_n 0, 1) := by decide +kernel
theorem dX7_frost_15 : decode cX7_frost 15 = .ok (.getfield 22, 3) := by decide +kernel
theorem dX7_frost_18 : decode cX7_frost 18 = .ok (.bipush 11, 2) := by decide +kernel
theorem dX7_frost_20 : decode cX7_frost 20 = .ok (.iaload, 1) := by decide +kernel
theorem dX7_frost_21 : decode cX7_frost 21 = .ok (.istore_n 2, 1) := by decide +kernel
theorem dX7_frost_22 : decode cX7_frost 22 = .ok (.aload_n 0, 1) := by decide +kernel
theorem dX7_frost_23 : decode cX7_frost 23 = .ok (.getfield 22, 3) := by decide +kernel
theorem dX7_frost_26 : decode cX7_frost 26 = .ok (.bipush 11, 2) := by decide +kernel
theorem dX7_frost_28 : decode cX7_frost 28 = .ok (.iload_n 1, 1) := by decide +kernel
theorem dX7_frost_29 : decode cX7_frost 29 = .ok (.ifCond .eq 7, 3) := by decide +kernel
theorem dX7_frost_32 : decode cX7_frost 32 = .ok (.iconst 1, 1) := by decide +kernel
theorem dX7_frost_33 : decode cX7_frost 33 = .ok (.goto 4, 3) := by decide +kernel
theorem dX7_frost_36 : decode cX7_frost 36 = .ok (.iconst 0, 1) := by decide +kernel
theorem dX7_frost_37 : decode cX7_frost 37 = .ok (.iastore, 1) := by decide +kernel
theorem dX7_frost_38 : decode cX7_frost 38 = .ok (.iload_n 2, 1) := by decide +kernel
theorem dX7_frost_39 : decode cX7_frost 39 = .ok (.ireturn, 1) := by decide +kernel
theorem dX7_dam_0 : decode cX7_dam 0 = .ok (.aload_n 0, 1) := by decide +kernel
theorem dX7_dam_1 : decode cX7_dam 1 = .ok (.iload_n 1, 1) := by decide +kernel
theorem dX7_dam_2 : decode cX7_dam 2 = .ok (.invokevirtual 233, 3) := by decide +kernel
theorem dX7_dam_5 : decode cX7_dam 5 = .ok (.ifCond .ne 6, 3) := by decide +kernel
theorem dX7_dam_8 : decode cX7_dam 8 = .ok (.ldc 236, 2) := by decide +kernel
theorem dX7_dam_10 : decode cX7_dam 10 = .ok (.ireturn, 1) := by decide +kernel
theorem dX7_dam_11 : decode cX7_dam 11 = .ok (.iload_n 1, 1) := by decide +kernel
theorem dX7_dam_12 : decode cX7_dam 12 = .ok (.ifCond .ne 6, 3) := by decide +kernel
theorem dX7_dam_15 : decode cX7_dam 15 = .ok (.ldc 241, 2) := by decide +kernel
theorem dX7_dam_17 : decode cX7_dam 17 = .ok (.ireturn, 1) := by decide +kernel
theorem dX7_dam_18 : decode cX7_dam 18 = .ok (.aload_n 0, 1) := by decide +kernel
theorem dX7_dam_19 : decode cX7_dam 19 = .ok (.invokevirtual 245, 3) := by decide +kernel
theorem dX7_dam_22 : decode cX7_dam 22 = .ok (.aload_n 0, 1) := by decide +kernel
theorem dX7_dam_23 : decode cX7_dam 23 = .ok (.getfield 22, 3) := by decide +kernel
theorem dX7_dam_26 : decode cX7_dam 26 = .ok (.bipush 9, 2) := by decide +kernel
theorem dX7_dam_28 : decode cX7_dam 28 = .ok (.iaload, 1) := by decide +kernel
theorem dX7_dam_29 : decode cX7_dam 29 = .ok (.iload_n 1, 1) := by decide +kernel
theorem dX7_dam_30 : decode cX7_dam 30 = .ok (.invokestatic 163, 3) := by decide +kernel
theorem dX7_dam_33 : decode cX7_dam 33 = .ok (.ifCond .eq 7, 3) := by decide +kernel
theorem dX7_dam_36 : decode cX7_dam 36 = .ok (.iconst 1, 1) := by decide +kernel
theorem dX7_dam_37 : decode cX7_dam 37 = .ok (.goto 4, 3) := by decide +kernel
theorem dX7_dam_40 : decode cX7_dam 40 = .ok (.iconst 0, 1) := by decide +kernel
theorem dX7_dam_41 : decode cX7_dam 41 = .ok (.istore_n 3, 1) := by decide +kernel
theorem dX7_dam_42 : decode cX7_dam 42 = .ok (.aload_n 0, 1) := by decide +kernel
theorem dX7_dam_43 : decode cX7_dam 43 = .ok (.getfield 22, 3) := by decide +kernel
theorem dX7_dam_46 : decode cX7_dam 46 = .ok (.bipush 9, 2) := by decide +kernel
theorem dX7_dam_48 : decode cX7_dam 48 = .ok (.iload_n 2, 1) := by decide +kernel
theorem dX7_dam_49 : decode cX7_dam 49 = .ok (.ifCond .eq 17, 3) := by decide +kernel
theorem dX7_dam_52 : decode cX7_dam 52 = .ok (.aload_n 0, 1) := by decide +kernel
theorem dX7_dam_53 : decode cX7_dam 53 = .ok (.getfield 22, 3) := by decide +kernel
theorem dX7_dam_56 : decode cX7_dam 56 = .ok (.bipush 9, 2) := by decide +kernel
theorem dX7_dam_58 : decode cX7_dam 58 = .ok (.iaload, 1) := by decide +kernel
theorem dX7_dam_59 : decode cX7_dam 59 = .ok (.iconst 1, 1) := by decide +kernel
theorem dX7_dam_60 : decode cX7_dam 60 = .ok (.iload_n 1, 1) := by decide +kernel
theorem dX7_dam_61 : decode cX7_dam 61 = .ok (.ishl, 1) := by decide +kernel
theorem dX7_dam_62 : decode cX7_dam 62 = .ok (.ior, 1) := by decide +kernel
theorem dX7_dam_63 : decode cX7_dam 63 = .ok (.goto 16, 3) := by decide +kernel
theorem dX7_dam_66 : decode cX7_dam 66 = .ok (.aload_n 0, 1) := by decide +kernel
theorem dX7_dam_67 : decode cX7_dam 67 = .ok (.getfield 22, 3) := by decide +kernel
theorem dX7_dam_70 : decode cX7_dam 70 = .ok (.bipush 9, 2) := by decide +kernel
theorem dX7_dam_72 : decode cX7_dam 72 = .ok (.iaload, 1) := by decide +kernel
theorem dX7_dam_73 : decode cX7_dam 73 = .ok (.iconst 1, 1) := by decide +kernel
theorem dX7_dam_74 : decode cX7_dam 74 = .ok (.iload_n 1, 1) := by decide +kernel
theorem dX7_dam_75 : decode cX7_dam 75 = .ok (.ishl, 1) := by decide +kernel
theorem dX7_dam_76 : decode cX7_dam 76 = .ok (.iconst (-1), 1) := by decide +kernel
theorem dX7_dam_77 : decode cX7_dam 77 = .ok (.ixor, 1) := by decide +kernel
theorem dX7_dam_78 : decode cX7_dam 78 = .ok (.iand, 1) := by decide +kernel
theorem dX7_dam_79 : decode cX7_dam 79 = .ok (.iastore, 1) := by decide +kernel
theorem dX7_dam_80 : decode cX7_dam 80 = .ok (.iload_n 3, 1) := by decide +kernel
theorem dX7_dam_81 : decode cX7_dam 81 = .ok (.ireturn, 1) := by decide +kernel
theorem dX7_smooth_0 : decode cX7_smooth 0 = .ok (.aload_n 0, 1) := by decide +kernel
theorem dX7_smooth_1 : decode cX7_smooth 1 = .ok (.iload_n 1, 1) := by decide +kernel
theorem dX7_smooth_2 : decode cX7_smooth 2 = .ok (.invokevirtual 233, 3) := by decide +kernel
theorem dX7_smooth_5 : decode cX7_smooth 5 = .ok (.ifCond .ne 6, 3) := by decide +kernel
theorem dX7_smooth_8 : decode cX7_smooth 8 = .ok (.ldc 236, 2) := by decide +kernel
theorem dX7_smooth_10 : decode cX7_smooth 10 = .ok (.ireturn, 1) := by decide +kernel
theorem dX7_smooth_11 : decode cX7_smooth 11 = .ok (.iload_n 1, 1) := by decide +kernel
theorem dX7_smooth_12 : decode cX7_smooth 12 = .ok (.ifCond .ne 6, 3) := by decide +kernel
theorem dX7_smooth_15 : decode cX7_smooth 15 = .ok (.ldc 241, 2) := by decide +kernel
theorem dX7_smooth_17 : decode cX7_smooth 17 = .ok (.ireturn, 1) := by decide +kernel
theorem dX7_smooth_18 : decode cX7_smooth 18 = .ok (.aload_n 0, 1) := by decide +kernel
theorem dX7_smooth_19 : decode cX7_smooth 19 = .ok (.invokevirtual 245, 3) := by decide +kernel
theorem dX7_smooth_22 : decode cX7_smooth 22 = .ok (.aload_n 0, 1) := by decide +kernel
theorem dX7_smooth_23 : decode cX7_smooth 23 = .ok (.getfield 22, 3) := by decide +kernel
theorem dX7_smooth_26 : decode cX7_smooth 26 = .ok (.iconst 0, 1) := by decide +kernel
theorem dX7_smooth_27 : decode cX7_smooth 27 = .ok (.iload_n 1, 1) := by decide +kernel
theorem dX7_smooth_28 : decode cX7_smooth 28 = .ok (.iadd, 1) := by decide +kernel
theorem dX7_smooth_29 : decode cX7_smooth 29 = .ok (.iaload, 1) := by decide +kernel
theorem dX7_smooth_30 : decode cX7_smooth 30 = .ok (.istore_n 2, 1) := by decide +kernel
theorem dX7_smooth_31 : decode cX7_smooth 31 = .ok (.aload_n 0, 1) := by decide +kernel
theorem dX7_smooth_32 : decode cX7_smooth 32 = .ok (.getfield 22, 3) := by decide +kernel
theorem dX7_smooth_35 : decode cX7_smooth 35 = .ok (.iconst 0, 1) := by decide +kernel
theorem dX7_smooth_36 : decode cX7_smooth 36 = .ok (.iload_n 1, 1) := by decide +kernel
theorem dX7_smooth_37 : decode cX7_smooth 37 = .ok (.iadd, 1) := by decide +kernel
theorem dX7_smooth_38 : decode cX7_smooth 38 = .ok (.iconst 0, 1) := by decide +kernel
theorem dX7_smooth_39 : decode cX7_smooth 39 = .ok (.iastore, 1) := by decide +kernel
theorem dX7_smooth_40 : decode cX7_smooth 40 = .ok (.iload_n 2, 1) := by decide +kernel
theorem dX7_smooth_41 : decode cX7_smooth 41 = .ok (.ireturn, 1) := by decide +kernel
theorem dX7_hush_0 : decode cX7_hush 0 = .ok (.iload_n 1, 1) := by decide +kernel
theorem dX7_hush_1 : decode cX7_hush 1 = .ok (.i2l, 1) := by decide +kernel
theorem dX7_hush_2 : decode cX7_hush 2 = .ok (.lconst 0, 1) := by decide +kernel
theorem dX7_hush_3 : decode cX7_hush 3 = .ok (.aload_n 0, 1) := by decide +kernel
theorem dX7_hush_4 : decode cX7_hush 4 = .ok (.getfield 22, 3) := by decide +kernel
theorem dX7_hush_7 : decode cX7_hush 7 = .ok (.bipush 32, 2) := by decide +kernel
theorem dX7_hush_9 : decode cX7_hush 9 = .ok (.iaload, 1) := by decide +kernel
theorem dX7_hush_10 : decode cX7_hush 10 = .ok (.iconst 1, 1) := by decide +kernel
theorem dX7_hush_11 : decode cX7_hush 11 = .ok (.isub, 1) := by decide +kernel
theorem dX7_hush_12 : decode cX7_hush 12 = .ok (.i2l, 1) := by decide +kernel
theorem dX7_hush_13 : decode cX7_hush 13 = .ok (.invokestatic 84, 3) := by decide +kernel
theorem dX7_hush_16 : decode cX7_hush 16 = .ok (.ifCond .ne 6, 3) := by decide +kernel
theorem dX7_hush_19 : decode cX7_hush 19 = .ok (.ldc 236, 2) := by decide +kernel
theorem dX7_hush_21 : decode cX7_hush 21 = .ok (.ireturn, 1) := by decide +kernel
theorem dX7_hush_22 : decode cX7_hush 22 = .ok (.aload_n 0, 1) := by decide +kernel
theorem dX7_hush_23 : decode cX7_hush 23 = .ok (.invokevirtual 245, 3) := by decide +kernel
theorem dX7_hush_26 : decode cX7_hush 26 = .ok (.aload_n 0, 1) := by decide +kernel
theorem dX7_hush_27 : decode cX7_hush 27 = .ok (.iload_n 1, 1) := by decide +kernel
theorem dX7_hush_28 : decode cX7_hush 28 = .ok (.invokevirtual 199, 3) := by decide +kernel
theorem dX7_hush_31 : decode cX7_hush 31 = .ok (.aload_n 0, 1) := by decide +kernel
theorem dX7_hush_32 : decode cX7_hush 32 = .ok (.getfield 22, 3) := by decide +kernel
theorem dX7_hush_35 : decode cX7_hush 35 = .ok (.bipush 32, 2) := by decide +kernel
theorem dX7_hush_37 : decode cX7_hush 37 = .ok (.iaload, 1) := by decide +kernel
theorem dX7_hush_38 : decode cX7_hush 38 = .ok (.ireturn, 1) := by decide +kernel
theorem dX7_draw_0 : decode cX7_draw 0 = .ok (.aload_n 0, 1) := by decide +kernel
theorem dX7_draw_1 : decode cX7_draw 1 = .ok (.aload_n 0, 1) := by decide +kernel
theorem dX7_draw_2 : decode cX7_draw 2 = .ok (.getfield 260, 3) := by decide +kernel
theorem dX7_draw_5 : decode cX7_draw 5 = .ok (.i2l, 1) := by decide +kernel
theorem dX7_draw_6 : decode cX7_draw 6 = .ok (.ldc2_w 263, 3) := by decide +kernel
theorem dX7_draw_9 : decode cX7_draw 9 = .ok (.lmul, 1) := by decide +kernel
theorem dX7_draw_10 : decode cX7_draw 10 = .ok (.ldc2_w 265, 3) := by decide +kernel
theorem dX7_draw_13 : decode cX7_draw 13 = .ok (.ladd, 1) := by decide +kernel
theorem dX7_draw_14 : decode cX7_draw 14 = .ok (.ldc2_w 267, 3) := by decide +kernel
theorem dX7_draw_17 : decode cX7_draw 17 = .ok (.lrem, 1) := by decide +kernel
theorem dX7_draw_18 : decode cX7_draw 18 = .ok (.l2i, 1) := by decide +kernel
theorem dX7_draw_19 : decode cX7_draw 19 = .ok (.putfield 260, 3) := by decide +kernel
theorem dX7_draw_22 : decode cX7_draw 22 = .ok (.aload_n 0, 1) := by decide +kernel
theorem dX7_draw_23 : decode cX7_draw 23 = .ok (.getfield 260, 3) := by decide +kernel
theorem dX7_draw_26 : decode cX7_draw 26 = .ok (.ldc_w 269, 3) := by decide +kernel
theorem dX7_draw_29 : decode cX7_draw 29 = .ok (.idiv, 1) := by decide +kernel
theorem dX7_draw_30 : decode cX7_draw 30 = .ok (.iload_n 1, 1) := by decide +kernel
theorem dX7_draw_31 : decode cX7_draw 31 = .ok (.irem, 1) := by decide +kernel
theorem dX7_draw_32 : decode cX7_draw 32 = .ok (.ireturn, 1) := by decide +kernel
theorem dX7_chance_0 : decode cX7_chance 0 = .ok (.aload_n 0, 1) := by decide +kernel
theorem dX7_chance_1 : decode cX7_chance 1 = .ok (.iconst 5, 1) := by decide +kernel
theorem dX7_chance_2 : decode cX7_chance 2 = .ok (.invokevirtual 270, 3) := by decide +kernel
theorem dX7_chance_5 : decode cX7_chance 5 = .ok (.istore_n 1, 1) := by decide +kernel
theorem dX7_chance_6 : decode cX7_chance 6 = .ok (.iload_n 1, 1) := by decide +kernel
theorem dX7_chance_7 : decode cX7_chance 7 = .ok (.ifCond .ne 19, 3) := by decide +kernel
theorem dX7_chance_10 : decode cX7_chance 10 = .ok (.aload_n 0, 1) := by decide +kernel
theorem dX7_chance_11 : decode cX7_chance 11 = .ok (.getfield 22, 3) := by decide +kernel
theorem dX7_chance_14 : decode cX7_chance 14 = .ok (.bipush 10, 2) := by decide +kernel
theorem dX7_chance_16 : decode cX7_chance 16 = .ok (.aload_n 0, 1) := by decide +kernel
theorem dX7_chance_17 : decode cX7_chance 17 = .ok (.bipush 10, 2) := by decide +kernel
theorem dX7_chance_19 : decode cX7_chance 19 = .ok (.invokevirtual 270, 3) := by decide +kernel
theorem dX7_chance_22 : decode cX7_chance 22 = .ok (.iastore, 1) := by decide +kernel
theorem dX7_chance_23 : decode cX7_chance 23 = .ok (.goto 80, 3) := by decide +kernel
theorem dX7_chance_26 : decode cX7_chance 26 = .ok (.iload_n 1, 1) := by decide +kernel
theorem dX7_chance_27 : decode cX7_chance 27 = .ok (.iconst 1, 1) := by decide +kernel
theorem dX7_chance_28 : decode cX7_chance 28 = .ok (.if_icmp .ne 54, 3) := by decide +kernel
theorem dX7_chance_31 : decode cX7_chance 31 = .ok (.aload_n 0, 1) := by decide +kernel
theorem dX7_chance_32 : decode cX7_chance 32 = .ok (.getfield 81, 3) := by decide +kernel
theorem dX7_chance_35 : decode cX7_chance 35 = .ok (.iconst 1, 1) := by decide +kernel
theorem dX7_chance_36 : decode cX7_chance 36 = .ok (.if_icmp .le 46, 3) := by decide +kernel
theorem dX7_chance_39 : decode cX7_chance 39 = .ok (.aload_n 0, 1) := by decide +kernel
theorem dX7_chance_40 : decode cX7_chance 40 = .ok (.aload_n 0, 1) := by decide +kernel
theorem dX7_chance_41 : decode cX7_chance 41 = .ok (.getfield 81, 3) := by decide +kernel
theorem dX7_chance_44 : decode cX7_chance 44 = .ok (.iconst 1, 1) := by decide +kernel
theorem dX7_chance_45 : decode cX7_chance 45 = .ok (.isub, 1) := by decide +kernel
theorem dX7_chance_46 : decode cX7_chance 46 = .ok (.invokevirtual 270, 3) := by decide +kernel
theorem dX7_chance_49 : decode cX7_chance 49 = .ok (.iconst 1, 1) := by decide +kernel
theorem dX7_chance_50 : decode cX7_chance 50 = .ok (.iadd, 1) := by decide +kernel
theorem dX7_chance_51 : decode cX7_chance 51 = .ok (.istore_n 2, 1) := by decide +kernel
theorem dX7_chance_52 : decode cX7_chance 52 = .ok (.aload_n 0, 1) := by decide +kernel
theorem dX7_chance_53 : decode cX7_chance 53 = .ok (.aload_n 0, 1) := by decide +kernel
theorem dX7_chance_54 : decode cX7_chance 54 = .ok (.getfield 88, 3) := by decide +kernel
theorem dX7_chance_57 : decode cX7_chance 57 = .ok (.invokevirtual 270, 3) := by decide +kernel
theorem dX7_chance_60 : decode cX7_chance 60 = .ok (.istore_n 3, 1) := by decide +kernel
theorem dX7_chance_61 : decode cX7_chance 61 = .ok (.aload_n 0, 1) := by decide +kernel
theorem dX7_chance_62 : decode cX7_chance 62 = .ok (.getfield 22, 3) := by decide +kernel
theorem dX7_chance_65 : decode cX7_chance 65 = .ok (.bipush 32, 2) := by decide +kernel
theorem dX7_chance_67 : decode cX7_chance 67 = .ok (.iaload, 1) := by decide +kernel
theorem dX7_chance_68 : decode cX7_chance 68 = .ok (.bipush 12, 2) := by decide +kernel
theorem dX7_chance_70 : decode cX7_chance 70 = .ok (.if_icmp .ge 9, 3) := by decide +kernel
theorem dX7_chance_73 : decode cX7_chance 73 = .ok (.aload_n 0, 1) := by decide +kernel
theorem dX7_chance_74 : decode cX7_chance 74 = .ok (.iload_n 2, 1) := by decide +kernel
theorem dX7_chance_75 : decode cX7_chance 75 = .ok (.iload_n 3, 1) := by decide +kernel
theorem dX7_chance_76 : decode cX7_chance 76 = .ok (.invokevirtual 254, 3) := by decide +kernel
theorem dX7_chance_79 : decode cX7_chance 79 = .ok (.goto 24, 3) := by decide +kernel
theorem dX7_chance_82 : decode cX7_chance 82 = .ok (.iload_n 1, 1) := by decide +kernel
theorem dX7_chance_83 : decode cX7_chance 83 = .ok (.iconst 2, 1) := by decide +kernel
theorem dX7_chance_84 : decode cX7_chance 84 = .ok (.if_icmp .ne 19, 3) := by decide +kernel
theorem dX7_chance_87 : decode cX7_chance 87 = .ok (.aload_n 0, 1) := by decide +kernel
theorem dX7_chance_88 : decode cX7_chance 88 = .ok (.getfield 22, 3) := by decide +kernel
theorem dX7_chance_91 : decode cX7_chance 91 = .ok (.bipush 11, 2) := by decide +kernel
theorem dX7_chance_93 : decode cX7_chance 93 = .ok (.iconst 1, 1) := by decide +kernel
theorem dX7_chance_94 : decode cX7_chance 94 = .ok (.aload_n 0, 1) := by decide +kernel
theorem dX7_chance_95 : decode cX7_chance 95 = .ok (.getfield 22, 3) := by decide +kernel
theorem dX7_chance_98 : decode cX7_chance 98 = .ok (.bipush 11, 2) := by decide +kernel
theorem dX7_chance_100 : decode cX7_chance 100 = .ok (.iaload, 1) := by decide +kernel
theorem dX7_chance_101 : decode cX7_chance 101 = .ok (.isub, 1) := by decide +kernel
theorem dX7_chance_102 : decode cX7_chance 102 = .ok (.iastore, 1) := by decide +kernel
theorem dX7_chance_103 : decode cX7_chance 103 = .ok (.return_, 1) := by decide +kernel
theorem dX7_drift_0 : decode cX7_drift 0 = .ok (.aload_n 0, 1) := by decide +kernel
theorem dX7_drift_1 : decode cX7_drift 1 = .ok (.iload_n 1, 1) := by decide +kernel
theorem dX7_drift_2 : decode cX7_drift 2 = .ok (.invokevirtual 242, 3) := by decide +kernel
theorem dX7_drift_5 : decode cX7_drift 5 = .ok (.istore_n 2, 1) := by decide +kernel
theorem dX7_drift_6 : decode cX7_drift 6 = .ok (.iload_n 2, 1) := by decide +kernel
theorem dX7_drift_7 : decode cX7_drift 7 = .ok (.ifCond .eq 5, 3) := by decide +kernel
theorem dX7_drift_10 : decode cX7_drift 10 = .ok (.iload_n 2, 1) := by decide +kernel
theorem dX7_drift_11 : decode cX7_drift 11 = .ok (.ireturn, 1) := by decide +kernel
theorem dX7_drift_12 : decode cX7_drift 12 = .ok (.aload_n 0, 1) := by decide +kernel
theorem dX7_drift_13 : decode cX7_drift 13 = .ok (.invokevirtual 245, 3) := by decide +kernel
theorem dX7_drift_16 : decode cX7_drift 16 = .ok (.iconst 0, 1) := by decide +kernel
theorem dX7_drift_17 : decode cX7_drift 17 = .ok (.istore_n 3, 1) := by decide +kernel
theorem dX7_drift_18 : decode cX7_drift 18 = .ok (.iload_n 3, 1) := by decide +kernel
theorem dX7_drift_19 : decode cX7_drift 19 = .ok (.iload_n 1, 1) := by decide +kernel
theorem dX7_drift_20 : decode cX7_drift 20 = .ok (.if_icmp .ge 17, 3) := by decide +kernel
theorem dX7_drift_23 : decode cX7_drift 23 = .ok (.aload_n 0, 1) := by decide +kernel
theorem dX7_drift_24 : decode cX7_drift 24 = .ok (.invokevirtual 273, 3) := by decide +kernel
theorem dX7_drift_27 : decode cX7_drift 27 = .ok (.aload_n 0, 1) := by decide +kernel
theorem dX7_drift_28 : decode cX7_drift 28 = .ok (.invokevirtual 248, 3) := by decide +kernel
theorem dX7_drift_31 : decode cX7_drift 31 = .ok (.iinc 3 1, 3) := by decide +kernel
theorem dX7_drift_34 : decode cX7_drift 34 = .ok (.goto (-16), 3) := by decide +kernel
theorem dX7_drift_37 : decode cX7_drift 37 = .ok (.aload_n 0, 1) := by decide +kernel
theorem dX7_drift_38 : decode cX7_drift 38 = .ok (.getfield 22, 3) := by decide +kernel
theorem dX7_drift_41 : decode cX7_drift 41 = .ok (.bipush 32, 2) := by decide +kernel
theorem dX7_drift_43 : decode cX7_drift 43 = .ok (.iaload, 1) := by decide +kernel
theorem dX7_drift_44 : decode cX7_drift 44 = .ok (.ireturn, 1) := by decide +kernel
theorem dX7_undo_0 : decode cX7_undo 0 = .ok (.aload_n 0, 1) := by decide +kernel
theorem dX7_undo_1 : decode cX7_undo 1 = .ok (.getfield 156, 3) := by decide +kernel
theorem dX7_undo_4 : decode cX7_undo 4 = .ok (.ifCond .ne 6, 3) := by decide +kernel
theorem dX7_undo_7 : decode cX7_undo 7 = .ok (.ldc 241, 2) := by decide +kernel
theorem dX7_undo_9 : decode cX7_undo 9 = .ok (.ireturn, 1) := by decide +kernel
theorem dX7_undo_10 : decode cX7_undo 10 = .ok (.aload_n 0, 1) := by decide +kernel
theorem dX7_undo_11 : decode cX7_undo 11 = .ok (.dup, 1) := by decide +kernel
theorem dX7_undo_12 : decode cX7_undo 12 = .ok (.getfield 156, 3) := by decide +kernel
theorem dX7_undo_15 : decode cX7_undo 15 = .ok (.iconst 1, 1) := by decide +kernel
theorem dX7_undo_16 : decode cX7_undo 16 = .ok (.isub, 1) := by decide +kernel
theorem dX7_undo_17 : decode cX7_undo 17 = .ok (.putfield 156, 3) := by decide +kernel
theorem dX7_undo_20 : decode cX7_undo 20 = .ok (.iconst 0, 1) := by decide +kernel
theorem dX7_undo_21 : decode cX7_undo 21 = .ok (.istore_n 1, 1) := by decide +kernel
theorem dX7_undo_22 : decode cX7_undo 22 = .ok (.iload_n 1, 1) := by decide +kernel
theorem dX7_undo_23 : decode cX7_undo 23 = .ok (.bipush 66, 2) := by decide +kernel
theorem dX7_undo_25 : decode cX7_undo 25 = .ok (.if_icmp .ge 29, 3) := by decide +kernel
theorem dX7_undo_28 : decode cX7_undo 28 = .ok (.aload_n 0, 1) := by decide +kernel
theorem dX7_undo_29 : decode cX7_undo 29 = .ok (.getfield 22, 3) := by decide +kernel
theorem dX7_undo_32 : decode cX7_undo 32 = .ok (.iload_n 1, 1) := by decide +kernel
theorem dX7_undo_33 : decode cX7_undo 33 = .ok (.aload_n 0, 1) := by decide +kernel
theorem dX7_undo_34 : decode cX7_undo 34 = .ok (.getfield 51, 3) := by decide +kernel
theorem dX7_undo_37 : decode cX7_undo 37 = .ok (.bipush 66, 2) := by decide +kernel
theorem dX7_undo_39 : decode cX7_undo 39 = .ok (.aload_n 0, 1) := by decide +kernel
theorem dX7_undo_40 : decode cX7_undo 40 = .ok (.getfield 156, 3) := by decide +kernel
theorem dX7_undo_43 : decode cX7_undo 43 = .ok (.imul, 1) := by decide +kernel
theorem dX7_undo_44 : decode cX7_undo 44 = .ok (.iload_n 1, 1) := by decide +kernel
theorem dX7_undo_45 : decode cX7_undo 45 = .ok (.iadd, 1) := by decide +kernel
theorem dX7_undo_46 : decode cX7_undo 46 = .ok (.iaload, 1) := by decide +kernel
theorem dX7_undo_47 : decode cX7_undo 47 = .ok (.iastore, 1) := by decide +kernel
theorem dX7_undo_48 : decode cX7_undo 48 = .ok (.iinc 1 1, 3) := by decide +kernel
theorem dX7_undo_51 : decode cX7_undo 51 = .ok (.goto (-29), 3) := by decide +kernel
theorem dX7_undo_54 : decode cX7_undo 54 = .ok (.aload_n 0, 1) := by decide +kernel
theorem dX7_undo_55 : decode cX7_undo 55 = .ok (.getfield 156, 3) := by decide +kernel
theorem dX7_undo_58 : decode cX7_undo 58 = .ok (.ireturn, 1) := by decide +kernel
theorem dX7_down_0 : decode cX7_down 0 = .ok (.aload_n 0, 1) := by decide +kernel
theorem dX7_down_1 : decode cX7_down 1 = .ok (.iload_n 1, 1) := by decide +kernel
theorem dX7_down_2 : decode cX7_down 2 = .ok (.invokevirtual 233, 3) := by decide +kernel
theorem dX7_down_5 : decode cX7_down 5 = .ok (.ifCond .eq 11, 3) := by decide +kernel
theorem dX7_down_8 : decode cX7_down 8 = .ok (.aload_n 0, 1) := by decide +kernel
theorem dX7_down_9 : decode cX7_down 9 = .ok (.iload_n 1, 1) := by decide +kernel
theorem dX7_down_10 : decode cX7_down 10 = .ok (.invokevirtual 206, 3) := by decide +kernel
theorem dX7_down_13 : decode cX7_down 13 = .ok (.goto 5, 3) := by decide +kernel
theorem dX7_down_16 : decode cX7_down 16 = .ok (.ldc 236, 2) := by decide +kernel
theorem dX7_down_18 : decode cX7_down 18 = .ok (.ireturn, 1) := by decide +kernel
theorem dX7_up_0 : decode cX7_up 0 = .ok (.aload_n 0, 1) := by decide +kernel
theorem dX7_up_1 : decode cX7_up 1 = .ok (.iload_n 1, 1) := by decide +kernel
theorem dX7_up_2 : decode cX7_up 2 = .ok (.invokevirtual 233, 3) := by decide +kernel
theorem dX7_up_5 : decode cX7_up 5 = .ok (.ifCond .eq 11, 3) := by decide +kernel
theorem dX7_up_8 : decode cX7_up 8 = .ok (.aload_n 0, 1) := by decide +kernel
theorem dX7_up_9 : decode cX7_up 9 = .ok (.iload_n 1, 1) := by decide +kernel
theorem dX7_up_10 : decode cX7_up 10 = .ok (.invokevirtual 209, 3) := by decide +kernel
theorem dX7_up_13 : decode cX7_up 13 = .ok (.goto 5, 3) := by decide +kernel
theorem dX7_up_16 : decode cX7_up 16 = .ok (.ldc 236, 2) := by decide +kernel
theorem dX7_up_18 : decode cX7_up 18 = .ok (.ireturn, 1) := by decide +kernel
theorem dX7_becomes_0 : decode cX7_becomes 0 = .ok (.aload_n 0, 1) := by decide +kernel
theorem dX7_becomes_1 : decode cX7_becomes 1 = .ok (.iload_n 1, 1) := by decide +kernel
theorem dX7_becomes_2 : decode cX7_becomes 2 = .ok (.invokevirtual 233, 3) := by decide +kernel
theorem dX7_becomes_5 : decode cX7_becomes 5 = .ok (.ifCond .eq 19, 3) := by decide +kernel
theorem dX7_becomes_8 : decode cX7_becomes 8 = .ok (.aload_n 0, 1) := by decide +kernel
theorem dX7_becomes_9 : decode cX7_becomes 9 = .ok (.iload_n 2, 1) := by decide +kernel
theorem dX7_becomes_10 : decode cX7_becomes 10 = .ok (.invokevirtual 233, 3) := by decide +kernel
theorem dX7_becomes_13 : decode cX7_becomes 13 = .ok (.ifCond .eq 11, 3) := by decide +kernel
theorem dX7_becomes_16 : decode cX7_becomes 16 = .ok (.aload_n 0, 1) := by decide +kernel
theorem dX7_becomes_17 : decode cX7_becomes 17 = .ok (.iload_n 3, 1) := by decide +kernel
theorem dX7_becomes_18 : decode cX7_becomes 18 = .ok (.invokevirtual 251, 3) := by decide +kernel
theorem dX7_becomes_21 : decode cX7_becomes 21 = .ok (.ifCond .ne 6, 3) := by decide +kernel
theorem dX7_becomes_24 : decode cX7_becomes 24 = .ok (.ldc 236, 2) := by decide +kernel
theorem dX7_becomes_26 : decode cX7_becomes 26 = .ok (.ireturn, 1) := by decide +kernel
theorem dX7_becomes_27 : decode cX7_becomes 27 = .ok (.aload_n 0, 1) := by decide +kernel
theorem dX7_becomes_28 : decode cX7_becomes 28 = .ok (.iload_n 1, 1) := by decide +kernel
theorem dX7_becomes_29 : decode cX7_becomes 29 = .ok (.invokevirtual 206, 3) := by decide +kernel
theorem dX7_becomes_32 : decode cX7_becomes 32 = .ok (.iload_n 2, 1) := by decide +kernel
theorem dX7_becomes_33 : decode cX7_becomes 33 = .ok (.invokestatic 163, 3) := by decide +kernel
theorem dX7_becomes_36 : decode cX7_becomes 36 = .ok (.ifCond .eq 13, 3) := by decide +kernel
theorem dX7_becomes_39 : decode cX7_becomes 39 = .ok (.aload_n 0, 1) := by decide +kernel
theorem dX7_becomes_40 : decode cX7_becomes 40 = .ok (.iload_n 1, 1) := by decide +kernel
theorem dX7_becomes_41 : decode cX7_becomes 41 = .ok (.iload_n 2, 1) := by decide +kernel
theorem dX7_becomes_42 : decode cX7_becomes 42 = .ok (.iload_n 3, 1) := by decide +kernel
theorem dX7_becomes_43 : decode cX7_becomes 43 = .ok (.invokevirtual 215, 3) := by decide +kernel
theorem dX7_becomes_46 : decode cX7_becomes 46 = .ok (.goto 4, 3) := by decide +kernel
theorem dX7_becomes_49 : decode cX7_becomes 49 = .ok (.iconst (-1), 1) := by decide +kernel
theorem dX7_becomes_50 : decode cX7_becomes 50 = .ok (.ireturn, 1) := by decide +kernel
theorem dX7_takes_0 : decode cX7_takes 0 = .ok (.aload_n 0, 1) := by decide +kernel
theorem dX7_takes_1 : decode cX7_takes 1 = .ok (.iload_n 1, 1) := by decide +kernel
theorem dX7_takes_2 : decode cX7_takes 2 = .ok (.invokevirtual 233, 3) := by decide +kernel
theorem dX7_takes_5 : decode cX7_takes 5 = .ok (.ifCond .eq 11, 3) := by decide +kernel
theorem dX7_takes_8 : decode cX7_takes 8 = .ok (.aload_n 0, 1) := by decide +kernel
theorem dX7_takes_9 : decode cX7_takes 9 = .ok (.iload_n 2, 1) := by decide +kernel
theorem dX7_takes_10 : decode cX7_takes 10 = .ok (.invokevirtual 233, 3) := by decide +kernel
theorem dX7_takes_13 : decode cX7_takes 13 = .ok (.ifCond .ne 6, 3) := by decide +kernel
theorem dX7_takes_16 : decode cX7_takes 16 = .ok (.ldc 236, 2) := by decide +kernel
theorem dX7_takes_18 : decode cX7_takes 18 = .ok (.ireturn, 1) := by decide +kernel
theorem dX7_takes_19 : decode cX7_takes 19 = .ok (.aload_n 0, 1) := by decide +kernel
theorem dX7_takes_20 : decode cX7_takes 20 = .ok (.iload_n 1, 1) := by decide +kernel
theorem dX7_takes_21 : decode cX7_takes 21 = .ok (.invokevirtual 206, 3) := by decide +kernel
theorem dX7_takes_24 : decode cX7_takes 24 = .ok (.iload_n 2, 1) := by decide +kernel
theorem dX7_takes_25 : decode cX7_takes 25 = .ok (.invokestatic 163, 3) := by decide +kernel
theorem dX7_takes_28 : decode cX7_takes 28 = .ok (.ifCond .eq 22, 3) := by decide +kernel
theorem dX7_takes_31 : decode cX7_takes 31 = .ok (.aload_n 0, 1) := by decide +kernel
theorem dX7_takes_32 : decode cX7_takes 32 = .ok (.getfield 22, 3) := by decide +kernel
theorem dX7_takes_35 : decode cX7_takes 35 = .ok (.bipush 10, 2) := by decide +kernel
theorem dX7_takes_37 : decode cX7_takes 37 = .ok (.iaload, 1) := by decide +kernel
theorem dX7_takes_38 : decode cX7_takes 38 = .ok (.ifCond .le 12, 3) := by decide +kernel
theorem dX7_takes_41 : decode cX7_takes 41 = .ok (.aload_n 0, 1) := by decide +kernel
theorem dX7_takes_42 : decode cX7_takes 42 = .ok (.iload_n 1, 1) := by decide +kernel
theorem dX7_takes_43 : decode cX7_takes 43 = .ok (.iload_n 2, 1) := by decide +kernel
theorem dX7_takes_44 : decode cX7_takes 44 = .ok (.invokevirtual 218, 3) := by decide +kernel
theorem dX7_takes_47 : decode cX7_takes 47 = .ok (.goto 4, 3) := by decide +kernel
theorem dX7_takes_50 : decode cX7_takes 50 = .ok (.iconst (-1), 1) := by decide +kernel
theorem dX7_takes_51 : decode cX7_takes 51 = .ok (.ireturn, 1) := by decide +kernel
theorem dX7_wordsFor_0 : decode cX7_wordsFor 0 = .ok (.iconst 0, 1) := by decide +kernel
theorem dX7_wordsFor_1 : decode cX7_wordsFor 1 = .ok (.istore 4, 2) := by decide +kernel
theorem dX7_wordsFor_3 : decode cX7_wordsFor 3 = .ok (.iconst 0, 1) := by decide +kernel
theorem dX7_wordsFor_4 : decode cX7_wordsFor 4 = .ok (.istore 5, 2) := by decide +kernel
theorem dX7_wordsFor_6 : decode cX7_wordsFor 6 = .ok (.iload 5, 2) := by decide +kernel
theorem dX7_wordsFor_8 : decode cX7_wordsFor 8 = .ok (.aload_n 0, 1) := by decide +kernel
theorem dX7_wordsFor_9 : decode cX7_wordsFor 9 = .ok (.getfield 88, 3) := by decide +kernel
theorem dX7_wordsFor_12 : decode cX7_wordsFor 12 = .ok (.if_icmp .ge 46, 3) := by decide +kernel
theorem dX7_wordsFor_15 : decode cX7_wordsFor 15 = .ok (.aload_n 0, 1) := by decide +kernel
theorem dX7_wordsFor_16 : decode cX7_wordsFor 16 = .ok (.iload_n 1, 1) := by decide +kernel
theorem dX7_wordsFor_17 : decode cX7_wordsFor 17 = .ok (.invokevirtual 206, 3) := by decide +kernel
theorem dX7_wordsFor_20 : decode cX7_wordsFor 20 = .ok (.iload_n 2, 1) := by decide +kernel
theorem dX7_wordsFor_21 : decode cX7_wordsFor 21 = .ok (.invokestatic 163, 3) := by decide +kernel
theorem dX7_wordsFor_24 : decode cX7_wordsFor 24 = .ok (.ifCond .eq 34, 3) := by decide +kernel
theorem dX7_wordsFor_27 : decode cX7_wordsFor 27 = .ok (.iload 4, 2) := by decide +kernel
theorem dX7_wordsFor_29 : decode cX7_wordsFor 29 = .ok (.aload_n 0, 1) := by decide +kernel
theorem dX7_wordsFor_30 : decode cX7_wordsFor 30 = .ok (.iload_n 1, 1) := by decide +kernel
theorem dX7_wordsFor_31 : decode cX7_wordsFor 31 = .ok (.iload_n 2, 1) := by decide +kernel
theorem dX7_wordsFor_32 : decode cX7_wordsFor 32 = .ok (.iload 5, 2) := by decide +kernel
theorem dX7_wordsFor_34 : decode cX7_wordsFor 34 = .ok (.invokevirtual 215, 3) := by decide +kernel
theorem dX7_wordsFor_37 : decode cX7_wordsFor 37 = .ok (.iload_n 3, 1) := by decide +kernel
theorem dX7_wordsFor_38 : decode cX7_wordsFor 38 = .ok (.if_icmp .ne 10, 3) := by decide +kernel
theorem dX7_wordsFor_41 : decode cX7_wordsFor 41 = .ok (.iconst 1, 1) := by decide +kernel
theorem dX7_wordsFor_42 : decode cX7_wordsFor 42 = .ok (.iload 5, 2) := by decide +kernel
theorem dX7_wordsFor_44 : decode cX7_wordsFor 44 = .ok (.ishl, 1) := by decide +kernel
theorem dX7_wordsFor_45 : decode cX7_wordsFor 45 = .ok (.goto 4, 3) := by decide +kernel
theorem dX7_wordsFor_48 : decode cX7_wordsFor 48 = .ok (.iconst 0, 1) := by decide +kernel
theorem dX7_wordsFor_49 : decode cX7_wordsFor 49 = .ok (.ior, 1) := by decide +kernel
theorem dX7_wordsFor_50 : decode cX7_wordsFor 50 = .ok (.istore 4, 2) := by decide +kernel
theorem dX7_wordsFor_52 : decode cX7_wordsFor 52 = .ok (.iinc 5 1, 3) := by decide +kernel
theorem dX7_wordsFor_55 : decode cX7_wordsFor 55 = .ok (.goto (-49), 3) := by decide +kernel
theorem dX7_wordsFor_58 : decode cX7_wordsFor 58 = .ok (.iload 4, 2) := by decide +kernel
theorem dX7_wordsFor_60 : decode cX7_wordsFor 60 = .ok (.ireturn, 1) := by decide +kernel
theorem dX7_toSay_0 : decode cX7_toSay 0 = .ok (.aload_n 0, 1) := by decide +kernel
theorem dX7_toSay_1 : decode cX7_toSay 1 = .ok (.iload_n 1, 1) := by decide +kernel
theorem dX7_toSay_2 : decode cX7_toSay 2 = .ok (.invokevirtual 233, 3) := by decide +kernel
theorem dX7_toSay_5 : decode cX7_toSay 5 = .ok (.ifCond .eq 29, 3) := by decide +kernel
theorem dX7_toSay_8 : decode cX7_toSay 8 = .ok (.aload_n 0, 1) := by decide +kernel
theorem dX7_toSay_9 : decode cX7_toSay 9 = .ok (.iload_n 2, 1) := by decide +kernel
theorem dX7_toSay_10 : decode cX7_toSay 10 = .ok (.invokevirtual 233, 3) := by decide +kernel
theorem dX7_toSay_13 : decode cX7_toSay 13 = .ok (.ifCond .eq 21, 3) := by decide +kernel
theorem dX7_toSay_16 : decode cX7_toSay 16 = .ok (.aload_n 0, 1) := by decide +kernel
theorem dX7_toSay_17 : decode cX7_toSay 17 = .ok (.iload_n 3, 1) := by decide +kernel
theorem dX7_toSay_18 : decode cX7_toSay 18 = .ok (.invokevirtual 251, 3) := by decide +kernel
theorem dX7_toSay_21 : decode cX7_toSay 21 = .ok (.ifCond .eq 13, 3) := by decide +kernel
theorem dX7_toSay_24 : decode cX7_toSay 24 = .ok (.aload_n 0, 1) := by decide +kernel
theorem dX7_toSay_25 : decode cX7_toSay 25 = .ok (.iload_n 1, 1) := by decide +kernel
theorem dX7_toSay_26 : decode cX7_toSay 26 = .ok (.iload_n 2, 1) := by decide +kernel
theorem dX7_toSay_27 : decode cX7_toSay 27 = .ok (.iload_n 3, 1) := by decide +kernel
theorem dX7_toSay_28 : decode cX7_toSay 28 = .ok (.invokevirtual 276, 3) := by decide +kernel
theorem dX7_toSay_31 : decode cX7_toSay 31 = .ok (.goto 5, 3) := by decide +kernel
theorem dX7_toSay_34 : decode cX7_toSay 34 = .ok (.ldc 236, 2) := by decide +kernel
theorem dX7_toSay_36 : decode cX7_toSay 36 = .ok (.ireturn, 1) := by decide +kernel
theorem dX7_origin_0 : decode cX7_origin 0 = .ok (.aload_n 0, 1) := by decide +kernel
theorem dX7_origin_1 : decode cX7_origin 1 = .ok (.iload_n 1, 1) := by decide +kernel
theorem dX7_origin_2 : decode cX7_origin 2 = .ok (.invokevirtual 233, 3) := by decide +kernel
theorem dX7_origin_5 : decode cX7_origin 5 = .ok (.ifCond .eq 24, 3) := by decide +kernel
theorem dX7_origin_8 : decode cX7_origin 8 = .ok (.aload_n 0, 1) := by decide +kernel
theorem dX7_origin_9 : decode cX7_origin 9 = .ok (.iload_n 2, 1) := by decide +kernel
theorem dX7_origin_10 : decode cX7_origin 10 = .ok (.invokevirtual 251, 3) := by decide +kernel
theorem dX7_origin_13 : decode cX7_origin 13 = .ok (.ifCond .eq 16, 3) := by decide +kernel
theorem dX7_origin_16 : decode cX7_origin 16 = .ok (.iload_n 3, 1) := by decide +kernel
theorem dX7_origin_17 : decode cX7_origin 17 = .ok (.iconst (-1), 1) := by decide +kernel
theorem dX7_origin_18 : decode cX7_origin 18 = .ok (.if_icmp .eq 14, 3) := by decide +kernel
theorem dX7_origin_21 : decode cX7_origin 21 = .ok (.aload_n 0, 1) := by decide +kernel
theorem dX7_origin_22 : decode cX7_origin 22 = .ok (.iload_n 3, 1) := by decide +kernel
theorem dX7_origin_23 : decode cX7_origin 23 = .ok (.invokevirtual 233, 3) := by decide +kernel
theorem dX7_origin_26 : decode cX7_origin 26 = .ok (.ifCond .ne 6, 3) := by decide +kernel
theorem dX7_origin_29 : decode cX7_origin 29 = .ok (.ldc 236, 2) := by decide +kernel
theorem dX7_origin_31 : decode cX7_origin 31 = .ok (.ireturn, 1) := by decide +kernel
theorem dX7_origin_32 : decode cX7_origin 32 = .ok (.iload_n 3, 1) := by decide +kernel
theorem dX7_origin_33 : decode cX7_origin 33 = .ok (.iconst (-1), 1) := by decide +kernel
theorem dX7_origin_34 : decode cX7_origin 34 = .ok (.if_icmp .eq 11, 3) := by decide +kernel
theorem dX7_origin_37 : decode cX7_origin 37 = .ok (.aload_n 0, 1) := by decide +kernel
theorem dX7_origin_38 : decode cX7_origin 38 = .ok (.iload_n 3, 1) := by decide +kernel
theorem dX7_origin_39 : decode cX7_origin 39 = .ok (.iload_n 1, 1) := by decide +kernel
theorem dX7_origin_40 : decode cX7_origin 40 = .ok (.iload_n 2, 1) := by decide +kernel
theorem dX7_origin_41 : decode cX7_origin 41 = .ok (.invokevirtual 276, 3) := by decide +kernel
theorem dX7_origin_44 : decode cX7_origin 44 = .ok (.ireturn, 1) := by decide +kernel
theorem dX7_origin_45 : decode cX7_origin 45 = .ok (.iconst 0, 1) := by decide +kernel
theorem dX7_origin_46 : decode cX7_origin 46 = .ok (.istore 4, 2) := by decide +kernel
theorem dX7_origin_48 : decode cX7_origin 48 = .ok (.iconst 0, 1) := by decide +kernel
theorem dX7_origin_49 : decode cX7_origin 49 = .ok (.istore 5, 2) := by decide +kernel
theorem dX7_origin_51 : decode cX7_origin 51 = .ok (.iload 5, 2) := by decide +kernel
theorem dX7_origin_53 : decode cX7_origin 53 = .ok (.aload_n 0, 1) := by decide +kernel
theorem dX7_origin_54 : decode cX7_origin 54 = .ok (.getfield 81, 3) := by decide +kernel
theorem dX7_origin_57 : decode cX7_origin 57 = .ok (.if_icmp .ge 25, 3) := by decide +kernel
theorem dX7_origin_60 : decode cX7_origin 60 = .ok (.iload 4, 2) := by decide +kernel
theorem dX7_origin_62 : decode cX7_origin 62 = .ok (.aload_n 0, 1) := by decide +kernel
theorem dX7_origin_63 : decode cX7_origin 63 = .ok (.iload 5, 2) := by decide +kernel
theorem dX7_origin_65 : decode cX7_origin 65 = .ok (.iload_n 1, 1) := by decide +kernel
theorem dX7_origin_66 : decode cX7_origin 66 = .ok (.iload_n 2, 1) := by decide +kernel
theorem dX7_origin_67 : decode cX7_origin 67 = .ok (.invokevirtual 276, 3) := by decide +kernel
theorem dX7_origin_70 : decode cX7_origin 70 = .ok (.invokestatic 212, 3) := by decide +kernel
theorem dX7_origin_73 : decode cX7_origin 73 = .ok (.iadd, 1) := by decide +kernel
theorem dX7_origin_74 : decode cX7_origin 74 = .ok (.istore 4, 2) := by decide +kernel
theorem dX7_origin_76 : decode cX7_origin 76 = .ok (.iinc 5 1, 3) := by decide +kernel
theorem dX7_origin_79 : decode cX7_origin 79 = .ok (.goto (-28), 3) := by decide +kernel
theorem dX7_origin_82 : decode cX7_origin 82 = .ok (.iload 4, 2) := by decide +kernel
theorem dX7_origin_84 : decode cX7_origin 84 = .ok (.ireturn, 1) := by decide +kernel
theorem dX7_isSet_0 : decode cX7_isSet 0 = .ok (.iload_n 1, 1) := by decide +kernel
theorem dX7_isSet_1 : decode cX7_isSet 1 = .ok (.i2l, 1) := by decide +kernel
theorem dX7_isSet_2 : decode cX7_isSet 2 = .ok (.lconst 0, 1) := by decide +kernel
theorem dX7_isSet_3 : decode cX7_isSet 3 = .ok (.iconst 1, 1) := by decide +kernel
theorem dX7_isSet_4 : decode cX7_isSet 4 = .ok (.aload_n 0, 1) := by decide +kernel
theorem dX7_isSet_5 : decode cX7_isSet 5 = .ok (.getfield 81, 3) := by decide +kernel
theorem dX7_isSet_8 : decode cX7_isSet 8 = .ok (.ishl, 1) := by decide +kernel
theorem dX7_isSet_9 : decode cX7_isSet 9 = .ok (.iconst 1, 1) := by decide +kernel
theorem dX7_isSet_10 : decode cX7_isSet 10 = .ok (.isub, 1) := by decide +kernel
theorem dX7_isSet_11 : decode cX7_isSet 11 = .ok (.i2l, 1) := by decide +kernel
theorem dX7_isSet_12 : decode cX7_isSet 12 = .ok (.invokestatic 84, 3) := by decide +kernel
theorem dX7_isSet_15 : decode cX7_isSet 15 = .ok (.ireturn, 1) := by decide +kernel
theorem dX7_privately_0 : decode cX7_privately 0 = .ok (.aload_n 0, 1) := by decide +kernel
theorem dX7_privately_1 : decode cX7_privately 1 = .ok (.iload_n 1, 1) := by decide +kernel
theorem dX7_privately_2 : decode cX7_privately 2 = .ok (.invokevirtual 279, 3) := by decide +kernel
theorem dX7_privately_5 : decode cX7_privately 5 = .ok (.ifCond .ne 6, 3) := by decide +kernel
theorem dX7_privately_8 : decode cX7_privately 8 = .ok (.ldc 236, 2) := by decide +kernel
theorem dX7_privately_10 : decode cX7_privately 10 = .ok (.ireturn, 1) := by decide +kernel
theorem dX7_privately_11 : decode cX7_privately 11 = .ok (.iconst 0, 1) := by decide +kernel
theorem dX7_privately_12 : decode cX7_privately 12 = .ok (.istore_n 2, 1) := by decide +kernel
theorem dX7_privately_13 : decode cX7_privately 13 = .ok (.iconst 1, 1) := by decide +kernel
theorem dX7_privately_14 : decode cX7_privately 14 = .ok (.istore_n 3, 1) := by decide +kernel
theorem dX7_privately_15 : decode cX7_privately 15 = .ok (.iload_n 3, 1) := by decide +kernel
theorem dX7_privately_16 : decode cX7_privately 16 = .ok (.aload_n 0, 1) := by decide +kernel
theorem dX7_privately_17 : decode cX7_privately 17 = .ok (.getfield 81, 3) := by decide +kernel
theorem dX7_privately_20 : decode cX7_privately 20 = .ok (.if_icmp .ge 29, 3) := by decide +kernel
theorem dX7_privately_23 : decode cX7_privately 23 = .ok (.iload_n 2, 1) := by decide +kernel
theorem dX7_privately_24 : decode cX7_privately 24 = .ok (.aload_n 0, 1) := by decide +kernel
theorem dX7_privately_25 : decode cX7_privately 25 = .ok (.iload_n 3, 1) := by decide +kernel
theorem dX7_privately_26 : decode cX7_privately 26 = .ok (.invokevirtual 206, 3) := by decide +kernel
theorem dX7_privately_29 : decode cX7_privately 29 = .ok (.iload_n 1, 1) := by decide +kernel
theorem dX7_privately_30 : decode cX7_privately 30 = .ok (.iand, 1) := by decide +kernel
theorem dX7_privately_31 : decode cX7_privately 31 = .ok (.ifCond .ne 9, 3) := by decide +kernel
theorem dX7_privately_34 : decode cX7_privately 34 = .ok (.iconst 1, 1) := by decide +kernel
theorem dX7_privately_35 : decode cX7_privately 35 = .ok (.iload_n 3, 1) := by decide +kernel
theorem dX7_privately_36 : decode cX7_privately 36 = .ok (.ishl, 1) := by decide +kernel
theorem dX7_privately_37 : decode cX7_privately 37 = .ok (.goto 4, 3) := by decide +kernel
theorem dX7_privately_40 : decode cX7_privately 40 = .ok (.iconst 0, 1) := by decide +kernel
theorem dX7_privately_41 : decode cX7_privately 41 = .ok (.ior, 1) := by decide +kernel
theorem dX7_privately_42 : decode cX7_privately 42 = .ok (.istore_n 2, 1) := by decide +kernel
theorem dX7_privately_43 : decode cX7_privately 43 = .ok (.iinc 3 1, 3) := by decide +kernel
theorem dX7_privately_46 : decode cX7_privately 46 = .ok (.goto (-31), 3) := by decide +kernel
theorem dX7_privately_49 : decode cX7_privately 49 = .ok (.iload_n 2, 1) := by decide +kernel
theorem dX7_privately_50 : decode cX7_privately 50 = .ok (.ireturn, 1) := by decide +kernel
theorem dX7_dams_0 : decode cX7_dams 0 = .ok (.aload_n 0, 1) := by decide +kernel
theorem dX7_dams_1 : decode cX7_dams 1 = .ok (.iload_n 1, 1) := by decide +kernel
theorem dX7_dams_2 : decode cX7_dams 2 = .ok (.invokevirtual 233, 3) := by decide +kernel
theorem dX7_dams_5 : decode cX7_dams 5 = .ok (.ifCond .eq 11, 3) := by decide +kernel
theorem dX7_dams_8 : decode cX7_dams 8 = .ok (.aload_n 0, 1) := by decide +kernel
theorem dX7_dams_9 : decode cX7_dams 9 = .ok (.iload_n 2, 1) := by decide +kernel
theorem dX7_dams_10 : decode cX7_dams 10 = .ok (.invokevirtual 279, 3) := by decide +kernel
theorem dX7_dams_13 : decode cX7_dams 13 = .ok (.ifCond .ne 6, 3) := by decide +kernel
theorem dX7_dams_16 : decode cX7_dams 16 = .ok (.ldc 236, 2) := by decide +kernel
theorem dX7_dams_18 : decode cX7_dams 18 = .ok (.ireturn, 1) := by decide +kernel
theorem dX7_dams_19 : decode cX7_dams 19 = .ok (.aload_n 0, 1) := by decide +kernel
theorem dX7_dams_20 : decode cX7_dams 20 = .ok (.getfield 22, 3) := by decide +kernel
theorem dX7_dams_23 : decode cX7_dams 23 = .ok (.bipush 9, 2) := by decide +kernel
theorem dX7_dams_25 : decode cX7_dams 25 = .ok (.iaload, 1) := by decide +kernel
theorem dX7_dams_26 : decode cX7_dams 26 = .ok (.istore_n 3, 1) := by decide +kernel
theorem dX7_dams_27 : decode cX7_dams 27 = .ok (.iconst (-1), 1) := by decide +kernel
theorem dX7_dams_28 : decode cX7_dams 28 = .ok (.istore 4, 2) := by decide +kernel
theorem dX7_dams_30 : decode cX7_dams 30 = .ok (.iconst 0, 1) := by decide +kernel
theorem dX7_dams_31 : decode cX7_dams 31 = .ok (.istore 5, 2) := by decide +kernel
theorem dX7_dams_33 : decode cX7_dams 33 = .ok (.iload 5, 2) := by decide +kernel
theorem dX7_dams_35 : decode cX7_dams 35 = .ok (.iconst 1, 1) := by decide +kernel
theorem dX7_dams_36 : decode cX7_dams 36 = .ok (.aload_n 0, 1) := by decide +kernel
theorem dX7_dams_37 : decode cX7_dams 37 = .ok (.getfield 81, 3) := by decide +kernel
theorem dX7_dams_40 : decode cX7_dams 40 = .ok (.ishl, 1) := by decide +kernel
theorem dX7_dams_41 : decode cX7_dams 41 = .ok (.if_icmp .ge 76, 3) := by decide +kernel
theorem dX7_dams_44 : decode cX7_dams 44 = .ok (.iload 5, 2) := by decide +kernel
theorem dX7_dams_46 : decode cX7_dams 46 = .ok (.iload_n 3, 1) := by decide +kernel
theorem dX7_dams_47 : decode cX7_dams 47 = .ok (.iand, 1) := by decide +kernel
theorem dX7_dams_48 : decode cX7_dams 48 = .ok (.ifCond .ne 25, 3) := by decide +kernel
theorem dX7_dams_51 : decode cX7_dams 51 = .ok (.iload 4, 2) := by decide +kernel
theorem dX7_dams_53 : decode cX7_dams 53 = .ok (.ifCond .lt 16, 3) := by decide +kernel
theorem dX7_dams_56 : decode cX7_dams 56 = .ok (.iload 5, 2) := by decide +kernel
theorem dX7_dams_58 : decode cX7_dams 58 = .ok (.invokestatic 212, 3) := by decide +kernel
theorem dX7_dams_61 : decode cX7_dams 61 = .ok (.iload 4, 2) := by decide +kernel
theorem dX7_dams_63 : decode cX7_dams 63 = .ok (.invokestatic 212, 3) := by decide +kernel
theorem dX7_dams_66 : decode cX7_dams 66 = .ok (.if_icmp .ge 7, 3) := by decide +kernel
theorem dX7_dams_69 : decode cX7_dams 69 = .ok (.iconst 1, 1) := by decide +kernel
theorem dX7_dams_70 : decode cX7_dams 70 = .ok (.goto 4, 3) := by decide +kernel
theorem dX7_dams_73 : decode cX7_dams 73 = .ok (.iconst 0, 1) := by decide +kernel
theorem dX7_dams_74 : decode cX7_dams 74 = .ok (.istore 6, 2) := by decide +kernel
theorem dX7_dams_76 : decode cX7_dams 76 = .ok (.aload_n 0, 1) := by decide +kernel
theorem dX7_dams_77 : decode cX7_dams 77 = .ok (.getfield 22, 3) := by decide +kernel
theorem dX7_dams_80 : decode cX7_dams 80 = .ok (.bipush 9, 2) := by decide +kernel
theorem dX7_dams_82 : decode cX7_dams 82 = .ok (.iload_n 3, 1) := by decide +kernel
theorem dX7_dams_83 : decode cX7_dams 83 = .ok (.iload 5, 2) := by decide +kernel
theorem dX7_dams_85 : decode cX7_dams 85 = .ok (.ior, 1) := by decide +kernel
theorem dX7_dams_86 : decode cX7_dams 86 = .ok (.iastore, 1) := by decide +kernel
theorem dX7_dams_87 : decode cX7_dams 87 = .ok (.iload 6, 2) := by decide +kernel
theorem dX7_dams_89 : decode cX7_dams 89 = .ok (.ifCond .eq 18, 3) := by decide +kernel
theorem dX7_dams_92 : decode cX7_dams 92 = .ok (.aload_n 0, 1) := by decide +kernel
theorem dX7_dams_93 : decode cX7_dams 93 = .ok (.iload_n 1, 1) := by decide +kernel
theorem dX7_dams_94 : decode cX7_dams 94 = .ok (.invokevirtual 206, 3) := by decide +kernel
theorem dX7_dams_97 : decode cX7_dams 97 = .ok (.iload_n 2, 1) := by decide +kernel
theorem dX7_dams_98 : decode cX7_dams 98 = .ok (.iand, 1) := by decide +kernel
theorem dX7_dams_99 : decode cX7_dams 99 = .ok (.ifCond .ne 8, 3) := by decide +kernel
theorem dX7_dams_102 : decode cX7_dams 102 = .ok (.iload 5, 2) := by decide +kernel
theorem dX7_dams_104 : decode cX7_dams 104 = .ok (.goto 5, 3) := by decide +kernel
theorem dX7_dams_107 : decode cX7_dams 107 = .ok (.iload 4, 2) := by decide +kernel
theorem dX7_dams_109 : decode cX7_dams 109 = .ok (.istore 4, 2) := by decide +kernel
theorem dX7_dams_111 : decode cX7_dams 111 = .ok (.iinc 5 2, 3) := by decide +kernel
theorem dX7_dams_114 : decode cX7_dams 114 = .ok (.goto (-81), 3) := by decide +kernel
theorem dX7_dams_117 : decode cX7_dams 117 = .ok (.aload_n 0, 1) := by decide +kernel
theorem dX7_dams_118 : decode cX7_dams 118 = .ok (.getfield 22, 3) := by decide +kernel
theorem dX7_dams_121 : decode cX7_dams 121 = .ok (.bipush 9, 2) := by decide +kernel
theorem dX7_dams_123 : decode cX7_dams 123 = .ok (.iload_n 3, 1) := by decide +kernel
theorem dX7_dams_124 : decode cX7_dams 124 = .ok (.iastore, 1) := by decide +kernel
theorem dX7_dams_125 : decode cX7_dams 125 = .ok (.iload 4, 2) := by decide +kernel
theorem dX7_dams_127 : decode cX7_dams 127 = .ok (.ireturn, 1) := by decide +kernel
theorem dX7_putBack_0 : decode cX7_putBack 0 = .ok (.iconst 0, 1) := by decide +kernel
theorem dX7_putBack_1 : decode cX7_putBack 1 = .ok (.istore_n 1, 1) := by decide +kernel
theorem dX7_putBack_2 : decode cX7_putBack 2 = .ok (.iload_n 1, 1) := by decide +kernel
theorem dX7_putBack_3 : decode cX7_putBack 3 = .ok (.bipush 66, 2) := by decide +kernel
theorem dX7_putBack_5 : decode cX7_putBack 5 = .ok (.if_icmp .ge 21, 3) := by decide +kernel
theorem dX7_putBack_8 : decode cX7_putBack 8 = .ok (.aload_n 0, 1) := by decide +kernel
theorem dX7_putBack_9 : decode cX7_putBack 9 = .ok (.getfield 22, 3) := by decide +kernel
theorem dX7_putBack_12 : decode cX7_putBack 12 = .ok (.iload_n 1, 1) := by decide +kernel
theorem dX7_putBack_13 : decode cX7_putBack 13 = .ok (.aload_n 0, 1) := by decide +kernel
theorem dX7_putBack_14 : decode cX7_putBack 14 = .ok (.getfield 54, 3) := by decide +kernel
theorem dX7_putBack_17 : decode cX7_putBack 17 = .ok (.iload_n 1, 1) := by decide +kernel
theorem dX7_putBack_18 : decode cX7_putBack 18 = .ok (.iaload, 1) := by decide +kernel
theorem dX7_putBack_19 : decode cX7_putBack 19 = .ok (.iastore, 1) := by decide +kernel
theorem dX7_putBack_20 : decode cX7_putBack 20 = .ok (.iinc 1 1, 3) := by decide +kernel
theorem dX7_putBack_23 : decode cX7_putBack 23 = .ok (.goto (-21), 3) := by decide +kernel
theorem dX7_putBack_26 : decode cX7_putBack 26 = .ok (.return_, 1) := by decide +kernel
theorem dX7_keepBefore_0 : decode cX7_keepBefore 0 = .ok (.iconst 0, 1) := by decide +kernel
theorem dX7_keepBefore_1 : decode cX7_keepBefore 1 = .ok (.istore_n 1, 1) := by decide +kernel
theorem dX7_keepBefore_2 : decode cX7_keepBefore 2 = .ok (.iload_n 1, 1) := by decide +kernel
theorem dX7_keepBefore_3 : decode cX7_keepBefore 3 = .ok (.bipush 66, 2) := by decide +kernel
theorem dX7_keepBefore_5 : decode cX7_keepBefore 5 = .ok (.if_icmp .ge 21, 3) := by decide +kernel
theorem dX7_keepBefore_8 : decode cX7_keepBefore 8 = .ok (.aload_n 0, 1) := by decide +kernel
theorem dX7_keepBefore_9 : decode cX7_keepBefore 9 = .ok (.getfield 54, 3) := by decide +kernel
theorem dX7_keepBefore_12 : decode cX7_keepBefore 12 = .ok (.iload_n 1, 1) := by decide +kernel
theorem dX7_keepBefore_13 : decode cX7_keepBefore 13 = .ok (.aload_n 0, 1) := by decide +kernel
theorem dX7_keepBefore_14 : decode cX7_keepBefore 14 = .ok (.getfield 22, 3) := by decide +kernel
theorem dX7_keepBefore_17 : decode cX7_keepBefore 17 = .ok (.iload_n 1, 1) := by decide +kernel
theorem dX7_keepBefore_18 : decode cX7_keepBefore 18 = .ok (.iaload, 1) := by decide +kernel
theorem dX7_keepBefore_19 : decode cX7_keepBefore 19 = .ok (.iastore, 1) := by decide +kernel
theorem dX7_keepBefore_20 : decode cX7_keepBefore 20 = .ok (.iinc 1 1, 3) := by decide +kernel
theorem dX7_keepBefore_23 : decode cX7_keepBefore 23 = .ok (.goto (-21), 3) := by decide +kernel
theorem dX7_keepBefore_26 : decode cX7_keepBefore 26 = .ok (.return_, 1) := by decide +kernel
theorem dX7_willHear_0 : decode cX7_willHear 0 = .ok (.aload_n 0, 1) := by decide +kernel
theorem dX7_willHear_1 : decode cX7_willHear 1 = .ok (.iload_n 1, 1) := by decide +kernel
theorem dX7_willHear_2 : decode cX7_willHear 2 = .ok (.invokevirtual 233, 3) := by decide +kernel
theorem dX7_willHear_5 : decode cX7_willHear 5 = .ok (.ifCond .ne 6, 3) := by decide +kernel
theorem dX7_willHear_8 : decode cX7_willHear 8 = .ok (.ldc 236, 2) := by decide +kernel
theorem dX7_willHear_10 : decode cX7_willHear 10 = .ok (.ireturn, 1) := by decide +kernel
theorem dX7_willHear_11 : decode cX7_willHear 11 = .ok (.iload_n 2, 1) := by decide +kernel
theorem dX7_willHear_12 : decode cX7_willHear 12 = .ok (.i2l, 1) := by decide +kernel
theorem dX7_willHear_13 : decode cX7_willHear 13 = .ok (.lconst 0, 1) := by decide +kernel
theorem dX7_willHear_14 : decode cX7_willHear 14 = .ok (.ldc2_w 282, 3) := by decide +kernel
theorem dX7_willHear_17 : decode cX7_willHear 17 = .ok (.invokestatic 84, 3) := by decide +kernel
theorem dX7_willHear_20 : decode cX7_willHear 20 = .ok (.ifCond .eq 13, 3) := by decide +kernel
theorem dX7_willHear_23 : decode cX7_willHear 23 = .ok (.iload_n 3, 1) := by decide +kernel
theorem dX7_willHear_24 : decode cX7_willHear 24 = .ok (.i2l, 1) := by decide +kernel
theorem dX7_willHear_25 : decode cX7_willHear 25 = .ok (.lconst 0, 1) := by decide +kernel
theorem dX7_willHear_26 : decode cX7_willHear 26 = .ok (.lconst 1, 1) := by decide +kernel
theorem dX7_willHear_27 : decode cX7_willHear 27 = .ok (.invokestatic 84, 3) := by decide +kernel
theorem dX7_willHear_30 : decode cX7_willHear 30 = .ok (.ifCond .ne 6, 3) := by decide +kernel
theorem dX7_willHear_33 : decode cX7_willHear 33 = .ok (.ldc 93, 2) := by decide +kernel
theorem dX7_willHear_35 : decode cX7_willHear 35 = .ok (.ireturn, 1) := by decide +kernel
theorem dX7_willHear_36 : decode cX7_willHear 36 = .ok (.aload_n 0, 1) := by decide +kernel
theorem dX7_willHear_37 : decode cX7_willHear 37 = .ok (.invokevirtual 284, 3) := by decide +kernel
theorem dX7_willHear_40 : decode cX7_willHear 40 = .ok (.aload_n 0, 1) := by decide +kernel
theorem dX7_willHear_41 : decode cX7_willHear 41 = .ok (.getfield 22, 3) := by decide +kernel
theorem dX7_willHear_44 : decode cX7_willHear 44 = .ok (.bipush 23, 2) := by decide +kernel
theorem dX7_willHear_46 : decode cX7_willHear 46 = .ok (.iload_n 1, 1) := by decide +kernel
theorem dX7_willHear_47 : decode cX7_willHear 47 = .ok (.iadd, 1) := by decide +kernel
theorem dX7_willHear_48 : decode cX7_willHear 48 = .ok (.iconst 0, 1) := by decide +kernel
theorem dX7_willHear_49 : decode cX7_willHear 49 = .ok (.iastore, 1) := by decide +kernel
theorem dX7_willHear_50 : decode cX7_willHear 50 = .ok (.iconst 0, 1) := by decide +kernel
theorem dX7_willHear_51 : decode cX7_willHear 51 = .ok (.istore 4, 2) := by decide +kernel
theorem dX7_willHear_53 : decode cX7_willHear 53 = .ok (.iload 4, 2) := by decide +kernel
theorem dX7_willHear_55 : decode cX7_willHear 55 = .ok (.iload_n 2, 1) := by decide +kernel
theorem dX7_willHear_56 : decode cX7_willHear 56 = .ok (.if_icmp .ge 13, 3) := by decide +kernel
theorem dX7_willHear_59 : decode cX7_willHear 59 = .ok (.aload_n 0, 1) := by decide +kernel
theorem dX7_willHear_60 : decode cX7_willHear 60 = .ok (.invokevirtual 248, 3) := by decide +kernel
theorem dX7_willHear_63 : decode cX7_willHear 63 = .ok (.iinc 4 1, 3) := by decide +kernel
theorem dX7_willHear_66 : decode cX7_willHear 66 = .ok (.goto (-13), 3) := by decide +kernel
theorem dX7_willHear_69 : decode cX7_willHear 69 = .ok (.iload_n 3, 1) := by decide +kernel
theorem dX7_willHear_70 : decode cX7_willHear 70 = .ok (.ifCond .ne 15, 3) := by decide +kernel
theorem dX7_willHear_73 : decode cX7_willHear 73 = .ok (.aload_n 0, 1) := by decide +kernel
theorem dX7_willHear_74 : decode cX7_willHear 74 = .ok (.getfield 22, 3) := by decide +kernel
theorem dX7_willHear_77 : decode cX7_willHear 77 = .ok (.bipush 23, 2) := by decide +kernel
theorem dX7_willHear_79 : decode cX7_willHear 79 = .ok (.iload_n 1, 1) := by decide +kernel
theorem dX7_willHear_80 : decode cX7_willHear 80 = .ok (.iadd, 1) := by decide +kernel
theorem dX7_willHear_81 : decode cX7_willHear 81 = .ok (.iaload, 1) := by decide +kernel
theorem dX7_willHear_82 : decode cX7_willHear 82 = .ok (.goto 12, 3) := by decide +kernel
theorem dX7_willHear_85 : decode cX7_willHear 85 = .ok (.aload_n 0, 1) := by decide +kernel
theorem dX7_willHear_86 : decode cX7_willHear 86 = .ok (.getfield 22, 3) := by decide +kernel
theorem dX7_willHear_89 : decode cX7_willHear 89 = .ok (.bipush 14, 2) := by decide +kernel
theorem dX7_willHear_91 : decode cX7_willHear 91 = .ok (.iload_n 1, 1) := by decide +kernel
theorem dX7_willHear_92 : decode cX7_willHear 92 = .ok (.iadd, 1) := by decide +kernel
theorem dX7_willHear_93 : decode cX7_willHear 93 = .ok (.iaload, 1) := by decide +kernel
theorem dX7_willHear_94 : decode cX7_willHear 94 = .ok (.istore 4, 2) := by decide +kernel
theorem dX7_willHear_96 : decode cX7_willHear 96 = .ok (.aload_n 0, 1) := by decide +kernel
theorem dX7_willHear_97 : decode cX7_willHear 97 = .ok (.invokevirtual 287, 3) := by decide +kernel
theorem dX7_willHear_100 : decode cX7_willHear 100 = .ok (.iload 4, 2) := by decide +kernel
theorem dX7_willHear_102 : decode cX7_willHear 102 = .ok (.ireturn, 1) := by decide +kernel
theorem dX7_where_0 : decode cX7_where 0 = .ok (.iload_n 1, 1) := by decide +kernel
theorem dX7_where_1 : decode cX7_where 1 = .ok (.i2l, 1) := by decide +kernel
theorem dX7_where_2 : decode cX7_where 2 = .ok (.lconst 0, 1) := by decide +kernel
theorem dX7_where_3 : decode cX7_where 3 = .ok (.aload_n 0, 1) := by decide +kernel
theorem dX7_where_4 : decode cX7_where 4 = .ok (.getfield 22, 3) := by decide +kernel
theorem dX7_where_7 : decode cX7_where 7 = .ok (.bipush 32, 2) := by decide +kernel
theorem dX7_where_9 : decode cX7_where 9 = .ok (.iaload, 1) := by decide +kernel
theorem dX7_where_10 : decode cX7_where 10 = .ok (.iconst 1, 1) := by decide +kernel
theorem dX7_where_11 : decode cX7_where 11 = .ok (.isub, 1) := by decide +kernel
theorem dX7_where_12 : decode cX7_where 12 = .ok (.i2l, 1) := by decide +kernel
theorem dX7_where_13 : decode cX7_where 13 = .ok (.invokestatic 84, 3) := by decide +kernel
theorem dX7_where_16 : decode cX7_where 16 = .ok (.ifCond .ne 6, 3) := by decide +kernel
theorem dX7_where_19 : decode cX7_where 19 = .ok (.ldc 236, 2) := by decide +kernel
theorem dX7_where_21 : decode cX7_where 21 = .ok (.ireturn, 1) := by decide +kernel
theorem dX7_where_22 : decode cX7_where 22 = .ok (.iload_n 2, 1) := by decide +kernel
theorem dX7_where_23 : decode cX7_where 23 = .ok (.i2l, 1) := by decide +kernel
theorem dX7_where_24 : decode cX7_where 24 = .ok (.lconst 0, 1) := by decide +kernel
theorem dX7_where_25 : decode cX7_where 25 = .ok (.ldc2_w 282, 3) := by decide +kernel
theorem dX7_where_28 : decode cX7_where 28 = .ok (.invokestatic 84, 3) := by decide +kernel
theorem dX7_where_31 : decode cX7_where 31 = .ok (.ifCond .eq 13, 3) := by decide +kernel
theorem dX7_where_34 : decode cX7_where 34 = .ok (.iload_n 3, 1) := by decide +kernel
theorem dX7_where_35 : decode cX7_where 35 = .ok (.i2l, 1) := by decide +kernel
theorem dX7_where_36 : decode cX7_where 36 = .ok (.lconst 0, 1) := by decide +kernel
theorem dX7_where_37 : decode cX7_where 37 = .ok (.lconst 1, 1) := by decide +kernel
theorem dX7_where_38 : decode cX7_where 38 = .ok (.invokestatic 84, 3) := by decide +kernel
theorem dX7_where_41 : decode cX7_where 41 = .ok (.ifCond .ne 6, 3) := by decide +kernel
theorem dX7_where_44 : decode cX7_where 44 = .ok (.ldc 93, 2) := by decide +kernel
theorem dX7_where_46 : decode cX7_where 46 = .ok (.ireturn, 1) := by decide +kernel
theorem dX7_where_47 : decode cX7_where 47 = .ok (.aload_n 0, 1) := by decide +kernel
theorem dX7_where_48 : decode cX7_where 48 = .ok (.invokevirtual 284, 3) := by decide +kernel
theorem dX7_where_51 : decode cX7_where 51 = .ok (.aload_n 0, 1) := by decide +kernel
theorem dX7_where_52 : decode cX7_where 52 = .ok (.getfield 22, 3) := by decide +kernel
theorem dX7_where_55 : decode cX7_where 55 = .ok (.bipush 33, 2) := by decide +kernel
theorem dX7_where_57 : decode cX7_where 57 = .ok (.aload_n 0, 1) := by decide +kernel
theorem dX7_where_58 : decode cX7_where 58 = .ok (.getfield 22, 3) := by decide +kernel
theorem dX7_where_61 : decode cX7_where 61 = .ok (.bipush 33, 2) := by decide +kernel
theorem dX7_where_63 : decode cX7_where 63 = .ok (.iload_n 1, 1) := by decide +kernel
theorem dX7_where_64 : decode cX7_where 64 = .ok (.iadd, 1) := by decide +kernel
theorem dX7_where_65 : decode cX7_where 65 = .ok (.iaload, 1) := by decide +kernel
theorem dX7_where_66 : decode cX7_where 66 = .ok (.iastore, 1) := by decide +kernel
theorem dX7_where_67 : decode cX7_where 67 = .ok (.aload_n 0, 1) := by decide +kernel
theorem dX7_where_68 : decode cX7_where 68 = .ok (.getfield 22, 3) := by decide +kernel
theorem dX7_where_71 : decode cX7_where 71 = .ok (.bipush 32, 2) := by decide +kernel
theorem dX7_where_73 : decode cX7_where 73 = .ok (.iconst 1, 1) := by decide +kernel
theorem dX7_where_74 : decode cX7_where 74 = .ok (.iastore, 1) := by decide +kernel
theorem dX7_where_75 : decode cX7_where 75 = .ok (.iconst 0, 1) := by decide +kernel
theorem dX7_where_76 : decode cX7_where 76 = .ok (.istore 4, 2) := by decide +kernel
theorem dX7_where_78 : decode cX7_where 78 = .ok (.iload 4, 2) := by decide +kernel
theorem dX7_where_80 : decode cX7_where 80 = .ok (.iload_n 2, 1) := by decide +kernel
theorem dX7_where_81 : decode cX7_where 81 = .ok (.if_icmp .ge 13, 3) := by decide +kernel
theorem dX7_where_84 : decode cX7_where 84 = .ok (.aload_n 0, 1) := by decide +kernel
theorem dX7_where_85 : decode cX7_where 85 = .ok (.invokevirtual 248, 3) := by decide +kernel
theorem dX7_where_88 : decode cX7_where 88 = .ok (.iinc 4 1, 3) := by decide +kernel
theorem dX7_where_91 : decode cX7_where 91 = .ok (.goto (-13), 3) := by decide +kernel
theorem dX7_where_94 : decode cX7_where 94 = .ok (.aload_n 0, 1) := by decide +kernel
theorem dX7_where_95 : decode cX7_where 95 = .ok (.getfield 22, 3) := by decide +kernel
theorem dX7_where_98 : decode cX7_where 98 = .ok (.bipush 32, 2) := by decide +kernel
theorem dX7_where_100 : decode cX7_where 100 = .ok (.iaload, 1) := by decide +kernel
theorem dX7_where_101 : decode cX7_where 101 = .ok (.ifCond .ne 7, 3) := by decide +kernel
theorem dX7_where_104 : decode cX7_where 104 = .ok (.iconst (-1), 1) := by decide +kernel
theorem dX7_where_105 : decode cX7_where 105 = .ok (.goto 20, 3) := by decide +kernel
theorem dX7_where_108 : decode cX7_where 108 = .ok (.iload_n 3, 1) := by decide +kernel
theorem dX7_where_109 : decode cX7_where 109 = .ok (.ifCond .ne 11, 3) := by decide +kernel
theorem dX7_where_112 : decode cX7_where 112 = .ok (.aload_n 0, 1) := by decide +kernel
theorem dX7_where_113 : decode cX7_where 113 = .ok (.iconst 0, 1) := by decide +kernel
theorem dX7_where_114 : decode cX7_where 114 = .ok (.invokevirtual 172, 3) := by decide +kernel
theorem dX7_where_117 : decode cX7_where 117 = .ok (.goto 8, 3) := by decide +kernel
theorem dX7_where_120 : decode cX7_where 120 = .ok (.aload_n 0, 1) := by decide +kernel
theorem dX7_where_121 : decode cX7_where 121 = .ok (.iconst 0, 1) := by decide +kernel
theorem dX7_where_122 : decode cX7_where 122 = .ok (.invokevirtual 175, 3) := by decide +kernel
theorem dX7_where_125 : decode cX7_where 125 = .ok (.istore 4, 2) := by decide +kernel
theorem dX7_where_127 : decode cX7_where 127 = .ok (.aload_n 0, 1) := by decide +kernel
theorem dX7_where_128 : decode cX7_where 128 = .ok (.invokevirtual 287, 3) := by decide +kernel
theorem dX7_where_131 : decode cX7_where 131 = .ok (.iload 4, 2) := by decide +kernel
theorem dX7_where_133 : decode cX7_where 133 = .ok (.ireturn, 1) := by decide +kernel
theorem dX7_dry_0 : decode cX7_dry 0 = .ok (.iload_n 1, 1) := by decide +kernel
theorem dX7_dry_1 : decode cX7_dry 1 = .ok (.i2l, 1) := by decide +kernel
theorem dX7_dry_2 : decode cX7_dry 2 = .ok (.lconst 0, 1) := by decide +kernel
theorem dX7_dry_3 : decode cX7_dry 3 = .ok (.ldc2_w 239, 3) := by decide +kernel
theorem dX7_dry_6 : decode cX7_dry 6 = .ok (.invokestatic 84, 3) := by decide +kernel
theorem dX7_dry_9 : decode cX7_dry 9 = .ok (.ifCond .eq 15, 3) := by decide +kernel
theorem dX7_dry_12 : decode cX7_dry 12 = .ok (.iload_n 2, 1) := by decide +kernel
theorem dX7_dry_13 : decode cX7_dry 13 = .ok (.i2l, 1) := by decide +kernel
theorem dX7_dry_14 : decode cX7_dry 14 = .ok (.lconst 0, 1) := by decide +kernel
theorem dX7_dry_15 : decode cX7_dry 15 = .ok (.ldc2_w 282, 3) := by decide +kernel
theorem dX7_dry_18 : decode cX7_dry 18 = .ok (.invokestatic 84, 3) := by decide +kernel
theorem dX7_dry_21 : decode cX7_dry 21 = .ok (.ifCond .ne 6, 3) := by decide +kernel
theorem dX7_dry_24 : decode cX7_dry 24 = .ok (.ldc 93, 2) := by decide +kernel
theorem dX7_dry_26 : decode cX7_dry 26 = .ok (.ireturn, 1) := by decide +kernel
theorem dX7_dry_27 : decode cX7_dry 27 = .ok (.ldc2_w 290, 3) := by decide +kernel
theorem dX7_dry_30 : decode cX7_dry 30 = .ok (.lstore_n 3, 1) := by decide +kernel
theorem dX7_dry_31 : decode cX7_dry 31 = .ok (.iconst 0, 1) := by decide +kernel
theorem dX7_dry_32 : decode cX7_dry 32 = .ok (.istore 5, 2) := by decide +kernel
theorem dX7_dry_34 : decode cX7_dry 34 = .ok (.iload 5, 2) := by decide +kernel
theorem dX7_dry_36 : decode cX7_dry 36 = .ok (.iload_n 1, 1) := by decide +kernel
theorem dX7_dry_37 : decode cX7_dry 37 = .ok (.if_icmp .ge 18, 3) := by decide +kernel
theorem dX7_dry_40 : decode cX7_dry 40 = .ok (.lload_n 3, 1) := by decide +kernel
theorem dX7_dry_41 : decode cX7_dry 41 = .ok (.iload_n 2, 1) := by decide +kernel
theorem dX7_dry_42 : decode cX7_dry 42 = .ok (.i2l, 1) := by decide +kernel
theorem dX7_dry_43 : decode cX7_dry 43 = .ok (.lmul, 1) := by decide +kernel
theorem dX7_dry_44 : decode cX7_dry 44 = .ok (.ldc2_w 282, 3) := by decide +kernel
theorem dX7_dry_47 : decode cX7_dry 47 = .ok (.ldiv, 1) := by decide +kernel
theorem dX7_dry_48 : decode cX7_dry 48 = .ok (.lstore_n 3, 1) := by decide +kernel
theorem dX7_dry_49 : decode cX7_dry 49 = .ok (.iinc 5 1, 3) := by decide +kernel
theorem dX7_dry_52 : decode cX7_dry 52 = .ok (.goto (-18), 3) := by decide +kernel
theorem dX7_dry_55 : decode cX7_dry 55 = .ok (.lload_n 3, 1) := by decide +kernel
theorem dX7_dry_56 : decode cX7_dry 56 = .ok (.l2i, 1) := by decide +kernel
theorem dX7_dry_57 : decode cX7_dry 57 = .ok (.ireturn, 1) := by decide +kernel
theorem dX7_see_0 : decode cX7_see 0 = .ok (.aload_n 0, 1) := by decide +kernel
theorem dX7_see_1 : decode cX7_see 1 = .ok (.iload_n 1, 1) := by decide +kernel
theorem dX7_see_2 : decode cX7_see 2 = .ok (.invokevirtual 251, 3) := by decide +kernel
theorem dX7_see_5 : decode cX7_see 5 = .ok (.ifCond .eq 11, 3) := by decide +kernel
theorem dX7_see_8 : decode cX7_see 8 = .ok (.aload_n 0, 1) := by decide +kernel
theorem dX7_see_9 : decode cX7_see 9 = .ok (.iload_n 2, 1) := by decide +kernel
theorem dX7_see_10 : decode cX7_see 10 = .ok (.invokevirtual 251, 3) := by decide +kernel
theorem dX7_see_13 : decode cX7_see 13 = .ok (.ifCond .ne 6, 3) := by decide +kernel
theorem dX7_see_16 : decode cX7_see 16 = .ok (.ldc 236, 2) := by decide +kernel
theorem dX7_see_18 : decode cX7_see 18 = .ok (.ireturn, 1) := by decide +kernel
theorem dX7_see_19 : decode cX7_see 19 = .ok (.aload_n 0, 1) := by decide +kernel
theorem dX7_see_20 : decode cX7_see 20 = .ok (.getfield 150, 3) := by decide +kernel
theorem dX7_see_23 : decode cX7_see 23 = .ok (.bipush 6, 2) := by decide +kernel
theorem dX7_see_25 : decode cX7_see 25 = .ok (.if_icmp .ne 6, 3) := by decide +kernel
theorem dX7_see_28 : decode cX7_see 28 = .ok (.ldc 97, 2) := by decide +kernel
theorem dX7_see_30 : decode cX7_see 30 = .ok (.ireturn, 1) := by decide +kernel
theorem dX7_see_31 : decode cX7_see 31 = .ok (.aload_n 0, 1) := by decide +kernel
theorem dX7_see_32 : decode cX7_see 32 = .ok (.getfield 57, 3) := by decide +kernel
theorem dX7_see_35 : decode cX7_see 35 = .ok (.aload_n 0, 1) := by decide +kernel
theorem dX7_see_36 : decode cX7_see 36 = .ok (.getfield 150, 3) := by decide +kernel
theorem dX7_see_39 : decode cX7_see 39 = .ok (.iload_n 1, 1) := by decide +kernel
theorem dX7_see_40 : decode cX7_see 40 = .ok (.iastore, 1) := by decide +kernel
theorem dX7_see_41 : decode cX7_see 41 = .ok (.aload_n 0, 1) := by decide +kernel
theorem dX7_see_42 : decode cX7_see 42 = .ok (.getfield 60, 3) := by decide +kernel
theorem dX7_see_45 : decode cX7_see 45 = .ok (.aload_n 0, 1) := by decide +kernel
theorem dX7_see_46 : decode cX7_see 46 = .ok (.getfield 150, 3) := by decide +kernel
theorem dX7_see_49 : decode cX7_see 49 = .ok (.iload_n 2, 1) := by decide +kernel
theorem dX7_see_50 : decode cX7_see 50 = .ok (.iastore, 1) := by decide +kernel
theorem dX7_see_51 : decode cX7_see 51 = .ok (.aload_n 0, 1) := by decide +kernel
theorem dX7_see_52 : decode cX7_see 52 = .ok (.dup, 1) := by decide +kernel
theorem dX7_see_53 : decode cX7_see 53 = .ok (.getfield 150, 3) := by decide +kernel
theorem dX7_see_56 : decode cX7_see 56 = .ok (.iconst 1, 1) := by decide +kernel
theorem dX7_see_57 : decode cX7_see 57 = .ok (.iadd, 1) := by decide +kernel
theorem dX7_see_58 : decode cX7_see 58 = .ok (.putfield 150, 3) := by decide +kernel
theorem dX7_see_61 : decode cX7_see 61 = .ok (.aload_n 0, 1) := by decide +kernel
theorem dX7_see_62 : decode cX7_see 62 = .ok (.getfield 150, 3) := by decide +kernel
theorem dX7_see_65 : decode cX7_see 65 = .ok (.ireturn, 1) := by decide +kernel
theorem dX7_couldFall_0 : decode cX7_couldFall 0 = .ok (.iload_n 1, 1) := by decide +kernel
theorem dX7_couldFall_1 : decode cX7_couldFall 1 = .ok (.bipush 10, 2) := by decide +kernel
theorem dX7_couldFall_3 : decode cX7_couldFall 3 = .ok (.idiv, 1) := by decide +kernel
theorem dX7_couldFall_4 : decode cX7_couldFall 4 = .ok (.istore_n 2, 1) := by decide +kernel
theorem dX7_couldFall_5 : decode cX7_couldFall 5 = .ok (.iload_n 1, 1) := by decide +kernel
theorem dX7_couldFall_6 : decode cX7_couldFall 6 = .ok (.bipush 10, 2) := by decide +kernel
theorem dX7_couldFall_8 : decode cX7_couldFall 8 = .ok (.irem, 1) := by decide +kernel
theorem dX7_couldFall_9 : decode cX7_couldFall 9 = .ok (.istore_n 3, 1) := by decide +kernel
theorem dX7_couldFall_10 : decode cX7_couldFall 10 = .ok (.aload_n 0, 1) := by decide +kernel
theorem dX7_couldFall_11 : decode cX7_couldFall 11 = .ok (.iload_n 3, 1) := by decide +kernel
theorem dX7_couldFall_12 : decode cX7_couldFall 12 = .ok (.invokevirtual 251, 3) := by decide +kernel
theorem dX7_couldFall_15 : decode cX7_couldFall 15 = .ok (.ifCond .eq 45, 3) := by decide +kernel
theorem dX7_couldFall_18 : decode cX7_couldFall 18 = .ok (.iload_n 2, 1) := by decide +kernel
theorem dX7_couldFall_19 : decode cX7_couldFall 19 = .ok (.ifCond .eq 8, 3) := by decide +kernel
theorem dX7_couldFall_22 : decode cX7_couldFall 22 = .ok (.iload_n 2, 1) := by decide +kernel
theorem dX7_couldFall_23 : decode cX7_couldFall 23 = .ok (.iconst 3, 1) := by decide +kernel
theorem dX7_couldFall_24 : decode cX7_couldFall 24 = .ok (.if_icmp .ne 10, 3) := by decide +kernel
theorem dX7_couldFall_27 : decode cX7_couldFall 27 = .ok (.iload_n 3, 1) := by decide +kernel
theorem dX7_couldFall_28 : decode cX7_couldFall 28 = .ok (.ifCond .ne 32, 3) := by decide +kernel
theorem dX7_couldFall_31 : decode cX7_couldFall 31 = .ok (.goto 25, 3) := by decide +kernel
theorem dX7_couldFall_34 : decode cX7_couldFall 34 = .ok (.iload_n 2, 1) := by decide +kernel
theorem dX7_couldFall_35 : decode cX7_couldFall 35 = .ok (.iconst 2, 1) := by decide +kernel
theorem dX7_couldFall_36 : decode cX7_couldFall 36 = .ok (.if_icmp .ne 16, 3) := by decide +kernel
theorem dX7_couldFall_39 : decode cX7_couldFall 39 = .ok (.iload_n 3, 1) := by decide +kernel
theorem dX7_couldFall_40 : decode cX7_couldFall 40 = .ok (.aload_n 0, 1) := by decide +kernel
theorem dX7_couldFall_41 : decode cX7_couldFall 41 = .ok (.getfield 88, 3) := by decide +kernel
theorem dX7_couldFall_44 : decode cX7_couldFall 44 = .ok (.iconst 2, 1) := by decide +kernel
theorem dX7_couldFall_45 : decode cX7_couldFall 45 = .ok (.isub, 1) := by decide +kernel
theorem dX7_couldFall_46 : decode cX7_couldFall 46 = .ok (.if_icmp .gt 14, 3) := by decide +kernel
theorem dX7_couldFall_49 : decode cX7_couldFall 49 = .ok (.goto 7, 3) := by decide +kernel
theorem dX7_couldFall_52 : decode cX7_couldFall 52 = .ok (.iload_n 3, 1) := by decide +kernel
theorem dX7_couldFall_53 : decode cX7_couldFall 53 = .ok (.ifCond .le 7, 3) := by decide +kernel
theorem dX7_couldFall_56 : decode cX7_couldFall 56 = .ok (.iconst 1, 1) := by decide +kernel
theorem dX7_couldFall_57 : decode cX7_couldFall 57 = .ok (.goto 4, 3) := by decide +kernel
theorem dX7_couldFall_60 : decode cX7_couldFall 60 = .ok (.iconst 0, 1) := by decide +kernel
theorem dX7_couldFall_61 : decode cX7_couldFall 61 = .ok (.istore 4, 2) := by decide +kernel
theorem dX7_couldFall_63 : decode cX7_couldFall 63 = .ok (.iconst 0, 1) := by decide +kernel
theorem dX7_couldFall_64 : decode cX7_couldFall 64 = .ok (.istore 5, 2) := by decide +kernel
theorem dX7_couldFall_66 : decode cX7_couldFall 66 = .ok (.iload 5, 2) := by decide +kernel
theorem dX7_couldFall_68 : decode cX7_couldFall 68 = .ok (.aload_n 0, 1) := by decide +kernel
theorem dX7_couldFall_69 : decode cX7_couldFall 69 = .ok (.getfield 150, 3) := by decide +kernel
theorem dX7_couldFall_72 : decode cX7_couldFall 72 = .ok (.if_icmp .ge 44, 3) := by decide +kernel
theorem dX7_couldFall_75 : decode cX7_couldFall 75 = .ok (.iload 4, 2) := by decide +kernel
theorem dX7_couldFall_77 : decode cX7_couldFall 77 = .ok (.ifCond .eq 39, 3) := by decide +kernel
theorem dX7_couldFall_80 : decode cX7_couldFall 80 = .ok (.aload_n 0, 1) := by decide +kernel
theorem dX7_couldFall_81 : decode cX7_couldFall 81 = .ok (.iload_n 2, 1) := by decide +kernel
theorem dX7_couldFall_82 : decode cX7_couldFall 82 = .ok (.iload_n 3, 1) := by decide +kernel
theorem dX7_couldFall_83 : decode cX7_couldFall 83 = .ok (.aload_n 0, 1) := by decide +kernel
theorem dX7_couldFall_84 : decode cX7_couldFall 84 = .ok (.getfield 57, 3) := by decide +kernel
theorem dX7_couldFall_87 : decode cX7_couldFall 87 = .ok (.iload 5, 2) := by decide +kernel
theorem dX7_couldFall_89 : decode cX7_couldFall 89 = .ok (.iaload, 1) := by decide +kernel
theorem dX7_couldFall_90 : decode cX7_couldFall 90 = .ok (.invokevirtual 159, 3) := by decide +kernel
theorem dX7_couldFall_93 : decode cX7_couldFall 93 = .ok (.aload_n 0, 1) := by decide +kernel
theorem dX7_couldFall_94 : decode cX7_couldFall 94 = .ok (.getfield 60, 3) := by decide +kernel
theorem dX7_couldFall_97 : decode cX7_couldFall 97 = .ok (.iload 5, 2) := by decide +kernel
theorem dX7_couldFall_99 : decode cX7_couldFall 99 = .ok (.iaload, 1) := by decide +kernel
theorem dX7_couldFall_100 : decode cX7_couldFall 100 = .ok (.if_icmp .ne 7, 3) := by decide +kernel
theorem dX7_couldFall_103 : decode cX7_couldFall 103 = .ok (.iconst 1, 1) := by decide +kernel
theorem dX7_couldFall_104 : decode cX7_couldFall 104 = .ok (.goto 4, 3) := by decide +kernel
theorem dX7_couldFall_107 : decode cX7_couldFall 107 = .ok (.iconst 0, 1) := by decide +kernel
theorem dX7_couldFall_108 : decode cX7_couldFall 108 = .ok (.istore 4, 2) := by decide +kernel
theorem dX7_couldFall_110 : decode cX7_couldFall 110 = .ok (.iinc 5 1, 3) := by decide +kernel
theorem dX7_couldFall_113 : decode cX7_couldFall 113 = .ok (.goto (-47), 3) := by decide +kernel
theorem dX7_couldFall_116 : decode cX7_couldFall 116 = .ok (.iload 4, 2) := by decide +kernel
theorem dX7_couldFall_118 : decode cX7_couldFall 118 = .ok (.ireturn, 1) := by decide +kernel
theorem dX7_falls_0 : decode cX7_falls 0 = .ok (.iload_n 1, 1) := by decide +kernel
theorem dX7_falls_1 : decode cX7_falls 1 = .ok (.i2l, 1) := by decide +kernel
theorem dX7_falls_2 : decode cX7_falls 2 = .ok (.lconst 0, 1) := by decide +kernel
theorem dX7_falls_3 : decode cX7_falls 3 = .ok (.lconst 1, 1) := by decide +kernel
theorem dX7_falls_4 : decode cX7_falls 4 = .ok (.invokestatic 84, 3) := by decide +kernel
theorem dX7_falls_7 : decode cX7_falls 7 = .ok (.ifCond .ne 6, 3) := by decide +kernel
theorem dX7_falls_10 : decode cX7_falls 10 = .ok (.ldc 93, 2) := by decide +kernel
theorem dX7_falls_12 : decode cX7_falls 12 = .ok (.ireturn, 1) := by decide +kernel
theorem dX7_falls_13 : decode cX7_falls 13 = .ok (.iconst 0, 1) := by decide +kernel
theorem dX7_falls_14 : decode cX7_falls 14 = .ok (.istore_n 2, 1) := by decide +kernel
theorem dX7_falls_15 : decode cX7_falls 15 = .ok (.iconst (-1), 1) := by decide +kernel
theorem dX7_falls_16 : decode cX7_falls 16 = .ok (.istore_n 3, 1) := by decide +kernel
theorem dX7_falls_17 : decode cX7_falls 17 = .ok (.iconst 0, 1) := by decide +kernel
theorem dX7_falls_18 : decode cX7_falls 18 = .ok (.istore 4, 2) := by decide +kernel
theorem dX7_falls_20 : decode cX7_falls 20 = .ok (.iload 4, 2) := by decide +kernel
theorem dX7_falls_22 : decode cX7_falls 22 = .ok (.bipush 50, 2) := by decide +kernel
theorem dX7_falls_24 : decode cX7_falls 24 = .ok (.if_icmp .ge 32, 3) := by decide +kernel
theorem dX7_falls_27 : decode cX7_falls 27 = .ok (.aload_n 0, 1) := by decide +kernel
theorem dX7_falls_28 : decode cX7_falls 28 = .ok (.iload 4, 2) := by decide +kernel
theorem dX7_falls_30 : decode cX7_falls 30 = .ok (.invokevirtual 292, 3) := by decide +kernel
theorem dX7_falls_33 : decode cX7_falls 33 = .ok (.ifCond .eq 17, 3) := by decide +kernel
theorem dX7_falls_36 : decode cX7_falls 36 = .ok (.iload_n 2, 1) := by decide +kernel
theorem dX7_falls_37 : decode cX7_falls 37 = .ok (.ifCond .ne 8, 3) := by decide +kernel
theorem dX7_falls_40 : decode cX7_falls 40 = .ok (.iload 4, 2) := by decide +kernel
theorem dX7_falls_42 : decode cX7_falls 42 = .ok (.goto 4, 3) := by decide +kernel
theorem dX7_falls_45 : decode cX7_falls 45 = .ok (.iload_n 3, 1) := by decide +kernel
theorem dX7_falls_46 : decode cX7_falls 46 = .ok (.istore_n 3, 1) := by decide +kernel
theorem dX7_falls_47 : decode cX7_falls 47 = .ok (.iinc 2 1, 3) := by decide +kernel
theorem dX7_falls_50 : decode cX7_falls 50 = .ok (.iinc 4 1, 3) := by decide +kernel
theorem dX7_falls_53 : decode cX7_falls 53 = .ok (.goto (-33), 3) := by decide +kernel
theorem dX7_falls_56 : decode cX7_falls 56 = .ok (.iload_n 1, 1) := by decide +kernel
theorem dX7_falls_57 : decode cX7_falls 57 = .ok (.ifCond .ne 7, 3) := by decide +kernel
theorem dX7_falls_60 : decode cX7_falls 60 = .ok (.iload_n 2, 1) := by decide +kernel
theorem dX7_falls_61 : decode cX7_falls 61 = .ok (.goto 4, 3) := by decide +kernel
theorem dX7_falls_64 : decode cX7_falls 64 = .ok (.iload_n 3, 1) := by decide +kernel
theorem dX7_falls_65 : decode cX7_falls 65 = .ok (.ireturn, 1) := by decide +kernel
theorem dX7_greatestPart_0 : decode cX7_greatestPart 0 = .ok (.iconst 0, 1) := by decide +kernel
theorem dX7_greatestPart_1 : decode cX7_greatestPart 1 = .ok (.istore_n 2, 1) := by decide +kernel
theorem dX7_greatestPart_2 : decode cX7_greatestPart 2 = .ok (.iconst 0, 1) := by decide +kernel
theorem dX7_greatestPart_3 : decode cX7_greatestPart 3 = .ok (.istore_n 3, 1) := by decide +kernel
theorem dX7_greatestPart_4 : decode cX7_greatestPart 4 = .ok (.iload_n 3, 1) := by decide +kernel
theorem dX7_greatestPart_5 : decode cX7_greatestPart 5 = .ok (.bipush 10, 2) := by decide +kernel
theorem dX7_greatestPart_7 : decode cX7_greatestPart 7 = .ok (.if_icmp .ge 16, 3) := by decide +kernel
theorem dX7_greatestPart_10 : decode cX7_greatestPart 10 = .ok (.aload_n 0, 1) := by decide +kernel
theorem dX7_greatestPart_11 : decode cX7_greatestPart 11 = .ok (.getfield 63, 3) := by decide +kernel
theorem dX7_greatestPart_14 : decode cX7_greatestPart 14 = .ok (.iload_n 3, 1) := by decide +kernel
theorem dX7_greatestPart_15 : decode cX7_greatestPart 15 = .ok (.iconst 0, 1) := by decide +kernel
theorem dX7_greatestPart_16 : decode cX7_greatestPart 16 = .ok (.iastore, 1) := by decide +kernel
theorem dX7_greatestPart_17 : decode cX7_greatestPart 17 = .ok (.iinc 3 1, 3) := by decide +kernel
theorem dX7_greatestPart_20 : decode cX7_greatestPart 20 = .ok (.goto (-16), 3) := by decide +kernel
theorem dX7_greatestPart_23 : decode cX7_greatestPart 23 = .ok (.iconst 0, 1) := by decide +kernel
theorem dX7_greatestPart_24 : decode cX7_greatestPart 24 = .ok (.istore_n 3, 1) := by decide +kernel
theorem dX7_greatestPart_25 : decode cX7_greatestPart 25 = .ok (.iload_n 3, 1) := by decide +kernel
theorem dX7_greatestPart_26 : decode cX7_greatestPart 26 = .ok (.bipush 50, 2) := by decide +kernel
theorem dX7_greatestPart_28 : decode cX7_greatestPart 28 = .ok (.if_icmp .ge 66, 3) := by decide +kernel
theorem dX7_greatestPart_31 : decode cX7_greatestPart 31 = .ok (.aload_n 0, 1) := by decide +kernel
theorem dX7_greatestPart_32 : decode cX7_greatestPart 32 = .ok (.iload_n 3, 1) := by decide +kernel
theorem dX7_greatestPart_33 : decode cX7_greatestPart 33 = .ok (.invokevirtual 292, 3) := by decide +kernel
theorem dX7_greatestPart_36 : decode cX7_greatestPart 36 = .ok (.ifCond .eq 52, 3) := by decide +kernel
theorem dX7_greatestPart_39 : decode cX7_greatestPart 39 = .ok (.aload_n 0, 1) := by decide +kernel
theorem dX7_greatestPart_40 : decode cX7_greatestPart 40 = .ok (.iload_n 3, 1) := by decide +kernel
theorem dX7_greatestPart_41 : decode cX7_greatestPart 41 = .ok (.bipush 10, 2) := by decide +kernel
theorem dX7_greatestPart_43 : decode cX7_greatestPart 43 = .ok (.idiv, 1) := by decide +kernel
theorem dX7_greatestPart_44 : decode cX7_greatestPart 44 = .ok (.iload_n 3, 1) := by decide +kernel
theorem dX7_greatestPart_45 : decode cX7_greatestPart 45 = .ok (.bipush 10, 2) := by decide +kernel
theorem dX7_greatestPart_47 : decode cX7_greatestPart 47 = .ok (.irem, 1) := by decide +kernel
theorem dX7_greatestPart_48 : decode cX7_greatestPart 48 = .ok (.iload_n 1, 1) := by decide +kernel
theorem dX7_greatestPart_49 : decode cX7_greatestPart 49 = .ok (.invokevirtual 159, 3) := by decide +kernel
theorem dX7_greatestPart_52 : decode cX7_greatestPart 52 = .ok (.istore 4, 2) := by decide +kernel
theorem dX7_greatestPart_54 : decode cX7_greatestPart 54 = .ok (.aload_n 0, 1) := by decide +kernel
theorem dX7_greatestPart_55 : decode cX7_greatestPart 55 = .ok (.getfield 63, 3) := by decide +kernel
theorem dX7_greatestPart_58 : decode cX7_greatestPart 58 = .ok (.iload 4, 2) := by decide +kernel
theorem dX7_greatestPart_60 : decode cX7_greatestPart 60 = .ok (.dup2, 1) := by decide +kernel
theorem dX7_greatestPart_61 : decode cX7_greatestPart 61 = .ok (.iaload, 1) := by decide +kernel
theorem dX7_greatestPart_62 : decode cX7_greatestPart 62 = .ok (.iconst 1, 1) := by decide +kernel
theorem dX7_greatestPart_63 : decode cX7_greatestPart 63 = .ok (.iadd, 1) := by decide +kernel
theorem dX7_greatestPart_64 : decode cX7_greatestPart 64 = .ok (.iastore, 1) := by decide +kernel
theorem dX7_greatestPart_65 : decode cX7_greatestPart 65 = .ok (.aload_n 0, 1) := by decide +kernel
theorem dX7_greatestPart_66 : decode cX7_greatestPart 66 = .ok (.getfield 63, 3) := by decide +kernel
theorem dX7_greatestPart_69 : decode cX7_greatestPart 69 = .ok (.iload 4, 2) := by decide +kernel
theorem dX7_greatestPart_71 : decode cX7_greatestPart 71 = .ok (.iaload, 1) := by decide +kernel
theorem dX7_greatestPart_72 : decode cX7_greatestPart 72 = .ok (.iload_n 2, 1) := by decide +kernel
theorem dX7_greatestPart_73 : decode cX7_greatestPart 73 = .ok (.if_icmp .le 13, 3) := by decide +kernel
theorem dX7_greatestPart_76 : decode cX7_greatestPart 76 = .ok (.aload_n 0, 1) := by decide +kernel
theorem dX7_greatestPart_77 : decode cX7_greatestPart 77 = .ok (.getfield 63, 3) := by decide +kernel
theorem dX7_greatestPart_80 : decode cX7_greatestPart 80 = .ok (.iload 4, 2) := by decide +kernel
theorem dX7_greatestPart_82 : decode cX7_greatestPart 82 = .ok (.iaload, 1) := by decide +kernel
theorem dX7_greatestPart_83 : decode cX7_greatestPart 83 = .ok (.goto 4, 3) := by decide +kernel
theorem dX7_greatestPart_86 : decode cX7_greatestPart 86 = .ok (.iload_n 2, 1) := by decide +kernel
theorem dX7_greatestPart_87 : decode cX7_greatestPart 87 = .ok (.istore_n 2, 1) := by decide +kernel
theorem dX7_greatestPart_88 : decode cX7_greatestPart 88 = .ok (.iinc 3 1, 3) := by decide +kernel
theorem dX7_greatestPart_91 : decode cX7_greatestPart 91 = .ok (.goto (-66), 3) := by decide +kernel
theorem dX7_greatestPart_94 : decode cX7_greatestPart 94 = .ok (.iload_n 2, 1) := by decide +kernel
theorem dX7_greatestPart_95 : decode cX7_greatestPart 95 = .ok (.ireturn, 1) := by decide +kernel
theorem dX7_tryNext_0 : decode cX7_tryNext 0 = .ok (.iconst (-1), 1) := by decide +kernel
theorem dX7_tryNext_1 : decode cX7_tryNext 1 = .ok (.istore_n 1, 1) := by decide +kernel
theorem dX7_tryNext_2 : decode cX7_tryNext 2 = .ok (.aload_n 0, 1) := by decide +kernel
theorem dX7_tryNext_3 : decode cX7_tryNext 3 = .ok (.iconst 0, 1) := by decide +kernel
theorem dX7_tryNext_4 : decode cX7_tryNext 4 = .ok (.invokevirtual 295, 3) := by decide +kernel
theorem dX7_tryNext_7 : decode cX7_tryNext 7 = .ok (.istore_n 2, 1) := by decide +kernel
theorem dX7_tryNext_8 : decode cX7_tryNext 8 = .ok (.iconst 0, 1) := by decide +kernel
theorem dX7_tryNext_9 : decode cX7_tryNext 9 = .ok (.istore_n 3, 1) := by decide +kernel
theorem dX7_tryNext_10 : decode cX7_tryNext 10 = .ok (.iload_n 3, 1) := by decide +kernel
theorem dX7_tryNext_11 : decode cX7_tryNext 11 = .ok (.aload_n 0, 1) := by decide +kernel
theorem dX7_tryNext_12 : decode cX7_tryNext 12 = .ok (.getfield 88, 3) := by decide +kernel
theorem dX7_tryNext_15 : decode cX7_tryNext 15 = .ok (.if_icmp .ge 41, 3) := by decide +kernel
theorem dX7_tryNext_18 : decode cX7_tryNext 18 = .ok (.aload_n 0, 1) := by decide +kernel
theorem dX7_tryNext_19 : decode cX7_tryNext 19 = .ok (.iload_n 3, 1) := by decide +kernel
theorem dX7_tryNext_20 : decode cX7_tryNext 20 = .ok (.invokevirtual 298, 3) := by decide +kernel
theorem dX7_tryNext_23 : decode cX7_tryNext 23 = .ok (.istore 4, 2) := by decide +kernel
theorem dX7_tryNext_25 : decode cX7_tryNext 25 = .ok (.iload 4, 2) := by decide +kernel
theorem dX7_tryNext_27 : decode cX7_tryNext 27 = .ok (.iload_n 2, 1) := by decide +kernel
theorem dX7_tryNext_28 : decode cX7_tryNext 28 = .ok (.if_icmp .ge 7, 3) := by decide +kernel
theorem dX7_tryNext_31 : decode cX7_tryNext 31 = .ok (.iload_n 3, 1) := by decide +kernel
theorem dX7_tryNext_32 : decode cX7_tryNext 32 = .ok (.goto 4, 3) := by decide +kernel
theorem dX7_tryNext_35 : decode cX7_tryNext 35 = .ok (.iload_n 1, 1) := by decide +kernel
theorem dX7_tryNext_36 : decode cX7_tryNext 36 = .ok (.istore_n 1, 1) := by decide +kernel
theorem dX7_tryNext_37 : decode cX7_tryNext 37 = .ok (.iload 4, 2) := by decide +kernel
theorem dX7_tryNext_39 : decode cX7_tryNext 39 = .ok (.iload_n 2, 1) := by decide +kernel
theorem dX7_tryNext_40 : decode cX7_tryNext 40 = .ok (.if_icmp .ge 8, 3) := by decide +kernel
theorem dX7_tryNext_43 : decode cX7_tryNext 43 = .ok (.iload 4, 2) := by decide +kernel
theorem dX7_tryNext_45 : decode cX7_tryNext 45 = .ok (.goto 4, 3) := by decide +kernel
theorem dX7_tryNext_48 : decode cX7_tryNext 48 = .ok (.iload_n 2, 1) := by decide +kernel
theorem dX7_tryNext_49 : decode cX7_tryNext 49 = .ok (.istore_n 2, 1) := by decide +kernel
theorem dX7_tryNext_50 : decode cX7_tryNext 50 = .ok (.iinc 3 1, 3) := by decide +kernel
theorem dX7_tryNext_53 : decode cX7_tryNext 53 = .ok (.goto (-43), 3) := by decide +kernel
theorem dX7_tryNext_56 : decode cX7_tryNext 56 = .ok (.iload_n 1, 1) := by decide +kernel
theorem dX7_tryNext_57 : decode cX7_tryNext 57 = .ok (.ireturn, 1) := by decide +kernel
theorem dX7_write_0 : decode cX7_write 0 = .ok (.aload_n 0, 1) := by decide +kernel
theorem dX7_write_1 : decode cX7_write 1 = .ok (.iload_n 1, 1) := by decide +kernel
theorem dX7_write_2 : decode cX7_write 2 = .ok (.invokevirtual 233, 3) := by decide +kernel
theorem dX7_write_5 : decode cX7_write 5 = .ok (.ifCond .eq 16, 3) := by decide +kernel
theorem dX7_write_8 : decode cX7_write 8 = .ok (.iload_n 2, 1) := by decide +kernel
theorem dX7_write_9 : decode cX7_write 9 = .ok (.iconst (-1), 1) := by decide +kernel
theorem dX7_write_10 : decode cX7_write 10 = .ok (.if_icmp .eq 14, 3) := by decide +kernel
theorem dX7_write_13 : decode cX7_write 13 = .ok (.aload_n 0, 1) := by decide +kernel
theorem dX7_write_14 : decode cX7_write 14 = .ok (.iload_n 2, 1) := by decide +kernel
theorem dX7_write_15 : decode cX7_write 15 = .ok (.invokevirtual 251, 3) := by decide +kernel
theorem dX7_write_18 : decode cX7_write 18 = .ok (.ifCond .ne 6, 3) := by decide +kernel
theorem dX7_write_21 : decode cX7_write 21 = .ok (.ldc 236, 2) := by decide +kernel
theorem dX7_write_23 : decode cX7_write 23 = .ok (.ireturn, 1) := by decide +kernel
theorem dX7_write_24 : decode cX7_write 24 = .ok (.aload_n 0, 1) := by decide +kernel
theorem dX7_write_25 : decode cX7_write 25 = .ok (.getfield 153, 3) := by decide +kernel
theorem dX7_write_28 : decode cX7_write 28 = .ok (.bipush 15, 2) := by decide +kernel
theorem dX7_write_30 : decode cX7_write 30 = .ok (.if_icmp .ne 6, 3) := by decide +kernel
theorem dX7_write_33 : decode cX7_write 33 = .ok (.ldc 97, 2) := by decide +kernel
theorem dX7_write_35 : decode cX7_write 35 = .ok (.ireturn, 1) := by decide +kernel
theorem dX7_write_36 : decode cX7_write 36 = .ok (.aload_n 0, 1) := by decide +kernel
theorem dX7_write_37 : decode cX7_write 37 = .ok (.getfield 66, 3) := by decide +kernel
theorem dX7_write_40 : decode cX7_write 40 = .ok (.aload_n 0, 1) := by decide +kernel
theorem dX7_write_41 : decode cX7_write 41 = .ok (.getfield 153, 3) := by decide +kernel
theorem dX7_write_44 : decode cX7_write 44 = .ok (.iload_n 1, 1) := by decide +kernel
theorem dX7_write_45 : decode cX7_write 45 = .ok (.iastore, 1) := by decide +kernel
theorem dX7_write_46 : decode cX7_write 46 = .ok (.aload_n 0, 1) := by decide +kernel
theorem dX7_write_47 : decode cX7_write 47 = .ok (.getfield 69, 3) := by decide +kernel
theorem dX7_write_50 : decode cX7_write 50 = .ok (.aload_n 0, 1) := by decide +kernel
theorem dX7_write_51 : decode cX7_write 51 = .ok (.getfield 153, 3) := by decide +kernel
theorem dX7_write_54 : decode cX7_write 54 = .ok (.iload_n 2, 1) := by decide +kernel
theorem dX7_write_55 : decode cX7_write 55 = .ok (.iastore, 1) := by decide +kernel
theorem dX7_write_56 : decode cX7_write 56 = .ok (.aload_n 0, 1) := by decide +kernel
theorem dX7_write_57 : decode cX7_write 57 = .ok (.dup, 1) := by decide +kernel
theorem dX7_write_58 : decode cX7_write 58 = .ok (.getfield 153, 3) := by decide +kernel
theorem dX7_write_61 : decode cX7_write 61 = .ok (.iconst 1, 1) := by decide +kernel
theorem dX7_write_62 : decode cX7_write 62 = .ok (.iadd, 1) := by decide +kernel
theorem dX7_write_63 : decode cX7_write 63 = .ok (.putfield 153, 3) := by decide +kernel
theorem dX7_write_66 : decode cX7_write 66 = .ok (.aload_n 0, 1) := by decide +kernel
theorem dX7_write_67 : decode cX7_write 67 = .ok (.getfield 153, 3) := by decide +kernel
theorem dX7_write_70 : decode cX7_write 70 = .ok (.ireturn, 1) := by decide +kernel
theorem dX7_tear_0 : decode cX7_tear 0 = .ok (.aload_n 0, 1) := by decide +kernel
theorem dX7_tear_1 : decode cX7_tear 1 = .ok (.getfield 150, 3) := by decide +kernel
theorem dX7_tear_4 : decode cX7_tear 4 = .ok (.aload_n 0, 1) := by decide +kernel
theorem dX7_tear_5 : decode cX7_tear 5 = .ok (.getfield 153, 3) := by decide +kernel
theorem dX7_tear_8 : decode cX7_tear 8 = .ok (.iadd, 1) := by decide +kernel
theorem dX7_tear_9 : decode cX7_tear 9 = .ok (.istore_n 1, 1) := by decide +kernel
theorem dX7_tear_10 : decode cX7_tear 10 = .ok (.aload_n 0, 1) := by decide +kernel
theorem dX7_tear_11 : decode cX7_tear 11 = .ok (.iconst 0, 1) := by decide +kernel
theorem dX7_tear_12 : decode cX7_tear 12 = .ok (.putfield 150, 3) := by decide +kernel
theorem dX7_tear_15 : decode cX7_tear 15 = .ok (.aload_n 0, 1) := by decide +kernel
theorem dX7_tear_16 : decode cX7_tear 16 = .ok (.iconst 0, 1) := by decide +kernel
theorem dX7_tear_17 : decode cX7_tear 17 = .ok (.putfield 153, 3) := by decide +kernel
theorem dX7_tear_20 : decode cX7_tear 20 = .ok (.iload_n 1, 1) := by decide +kernel
theorem dX7_tear_21 : decode cX7_tear 21 = .ok (.ireturn, 1) := by decide +kernel
theorem dX7_judge_0 : decode cX7_judge 0 = .ok (.iconst 0, 1) := by decide +kernel
theorem dX7_judge_1 : decode cX7_judge 1 = .ok (.istore_n 1, 1) := by decide +kernel
theorem dX7_judge_2 : decode cX7_judge 2 = .ok (.iload_n 1, 1) := by decide +kernel
theorem dX7_judge_3 : decode cX7_judge 3 = .ok (.aload_n 0, 1) := by decide +kernel
theorem dX7_judge_4 : decode cX7_judge 4 = .ok (.getfield 153, 3) := by decide +kernel
theorem dX7_judge_7 : decode cX7_judge 7 = .ok (.if_icmp .ge 34, 3) := by decide +kernel
theorem dX7_judge_10 : decode cX7_judge 10 = .ok (.aload_n 0, 1) := by decide +kernel
theorem dX7_judge_11 : decode cX7_judge 11 = .ok (.getfield 22, 3) := by decide +kernel
theorem dX7_judge_14 : decode cX7_judge 14 = .ok (.bipush 14, 2) := by decide +kernel
theorem dX7_judge_16 : decode cX7_judge 16 = .ok (.aload_n 0, 1) := by decide +kernel
theorem dX7_judge_17 : decode cX7_judge 17 = .ok (.getfield 66, 3) := by decide +kernel
theorem dX7_judge_20 : decode cX7_judge 20 = .ok (.iload_n 1, 1) := by decide +kernel
theorem dX7_judge_21 : decode cX7_judge 21 = .ok (.iaload, 1) := by decide +kernel
theorem dX7_judge_22 : decode cX7_judge 22 = .ok (.iadd, 1) := by decide +kernel
theorem dX7_judge_23 : decode cX7_judge 23 = .ok (.iaload, 1) := by decide +kernel
theorem dX7_judge_24 : decode cX7_judge 24 = .ok (.aload_n 0, 1) := by decide +kernel
theorem dX7_judge_25 : decode cX7_judge 25 = .ok (.getfield 69, 3) := by decide +kernel
theorem dX7_judge_28 : decode cX7_judge 28 = .ok (.iload_n 1, 1) := by decide +kernel
theorem dX7_judge_29 : decode cX7_judge 29 = .ok (.iaload, 1) := by decide +kernel
theorem dX7_judge_30 : decode cX7_judge 30 = .ok (.if_icmp .eq 5, 3) := by decide +kernel
theorem dX7_judge_33 : decode cX7_judge 33 = .ok (.iload_n 1, 1) := by decide +kernel
theorem dX7_judge_34 : decode cX7_judge 34 = .ok (.ireturn, 1) := by decide +kernel
theorem dX7_judge_35 : decode cX7_judge 35 = .ok (.iinc 1 1, 3) := by decide +kernel
theorem dX7_judge_38 : decode cX7_judge 38 = .ok (.goto (-36), 3) := by decide +kernel
theorem dX7_judge_41 : decode cX7_judge 41 = .ok (.iconst (-1), 1) := by decide +kernel
theorem dX7_judge_42 : decode cX7_judge 42 = .ok (.ireturn, 1) := by decide +kernel
theorem dX7_seed_0 : decode cX7_seed 0 = .ok (.iload_n 1, 1) := by decide +kernel
theorem dX7_seed_1 : decode cX7_seed 1 = .ok (.ifCond .ge 6, 3) := by decide +kernel
theorem dX7_seed_4 : decode cX7_seed 4 = .ok (.ldc 93, 2) := by decide +kernel
theorem dX7_seed_6 : decode cX7_seed 6 = .ok (.ireturn, 1) := by decide +kernel
theorem dX7_seed_7 : decode cX7_seed 7 = .ok (.aload_n 0, 1) := by decide +kernel
theorem dX7_seed_8 : decode cX7_seed 8 = .ok (.getfield 260, 3) := by decide +kernel
theorem dX7_seed_11 : decode cX7_seed 11 = .ok (.istore_n 2, 1) := by decide +kernel
theorem dX7_seed_12 : decode cX7_seed 12 = .ok (.aload_n 0, 1) := by decide +kernel
theorem dX7_seed_13 : decode cX7_seed 13 = .ok (.iload_n 1, 1) := by decide +kernel
theorem dX7_seed_14 : decode cX7_seed 14 = .ok (.putfield 260, 3) := by decide +kernel
theorem dX7_seed_17 : decode cX7_seed 17 = .ok (.iload_n 2, 1) := by decide +kernel
theorem dX7_seed_18 : decode cX7_seed 18 = .ok (.ireturn, 1) := by decide +kernel
theorem dX7_keep_0 : decode cX7_keep 0 = .ok (.iload_n 1, 1) := by decide +kernel
theorem dX7_keep_1 : decode cX7_keep 1 = .ok (.i2l, 1) := by decide +kernel
theorem dX7_keep_2 : decode cX7_keep 2 = .ok (.lconst 0, 1) := by decide +kernel
theorem dX7_keep_3 : decode cX7_keep 3 = .ok (.lconst 1, 1) := by decide +kernel
theorem dX7_keep_4 : decode cX7_keep 4 = .ok (.invokestatic 84, 3) := by decide +kernel
theorem dX7_keep_7 : decode cX7_keep 7 = .ok (.ifCond .ne 6, 3) := by decide +kernel
theorem dX7_keep_10 : decode cX7_keep 10 = .ok (.ldc 236, 2) := by decide +kernel
theorem dX7_keep_12 : decode cX7_keep 12 = .ok (.ireturn, 1) := by decide +kernel
theorem dX7_keep_13 : decode cX7_keep 13 = .ok (.iconst 0, 1) := by decide +kernel
theorem dX7_keep_14 : decode cX7_keep 14 = .ok (.istore_n 2, 1) := by decide +kernel
theorem dX7_keep_15 : decode cX7_keep 15 = .ok (.iload_n 2, 1) := by decide +kernel
theorem dX7_keep_16 : decode cX7_keep 16 = .ok (.bipush 66, 2) := by decide +kernel
theorem dX7_keep_18 : decode cX7_keep 18 = .ok (.if_icmp .ge 26, 3) := by decide +kernel
theorem dX7_keep_21 : decode cX7_keep 21 = .ok (.aload_n 0, 1) := by decide +kernel
theorem dX7_keep_22 : decode cX7_keep 22 = .ok (.getfield 72, 3) := by decide +kernel
theorem dX7_keep_25 : decode cX7_keep 25 = .ok (.bipush 67, 2) := by decide +kernel
theorem dX7_keep_27 : decode cX7_keep 27 = .ok (.iload_n 1, 1) := by decide +kernel
theorem dX7_keep_28 : decode cX7_keep 28 = .ok (.imul, 1) := by decide +kernel
theorem dX7_keep_29 : decode cX7_keep 29 = .ok (.iload_n 2, 1) := by decide +kernel
theorem dX7_keep_30 : decode cX7_keep 30 = .ok (.iadd, 1) := by decide +kernel
theorem dX7_keep_31 : decode cX7_keep 31 = .ok (.aload_n 0, 1) := by decide +kernel
theorem dX7_keep_32 : decode cX7_keep 32 = .ok (.getfield 22, 3) := by decide +kernel
theorem dX7_keep_35 : decode cX7_keep 35 = .ok (.iload_n 2, 1) := by decide +kernel
theorem dX7_keep_36 : decode cX7_keep 36 = .ok (.iaload, 1) := by decide +kernel
theorem dX7_keep_37 : decode cX7_keep 37 = .ok (.iastore, 1) := by decide +kernel
theorem dX7_keep_38 : decode cX7_keep 38 = .ok (.iinc 2 1, 3) := by decide +kernel
theorem dX7_keep_41 : decode cX7_keep 41 = .ok (.goto (-26), 3) := by decide +kernel
theorem dX7_keep_44 : decode cX7_keep 44 = .ok (.aload_n 0, 1) := by decide +kernel
theorem dX7_keep_45 : decode cX7_keep 45 = .ok (.getfield 72, 3) := by decide +kernel
theorem dX7_keep_48 : decode cX7_keep 48 = .ok (.bipush 67, 2) := by decide +kernel
theorem dX7_keep_50 : decode cX7_keep 50 = .ok (.iload_n 1, 1) := by decide +kernel
theorem dX7_keep_51 : decode cX7_keep 51 = .ok (.imul, 1) := by decide +kernel
theorem dX7_keep_52 : decode cX7_keep 52 = .ok (.bipush 66, 2) := by decide +kernel
theorem dX7_keep_54 : decode cX7_keep 54 = .ok (.iadd, 1) := by decide +kernel
theorem dX7_keep_55 : decode cX7_keep 55 = .ok (.aload_n 0, 1) := by decide +kernel
theorem dX7_keep_56 : decode cX7_keep 56 = .ok (.getfield 260, 3) := by decide +kernel
theorem dX7_keep_59 : decode cX7_keep 59 = .ok (.iastore, 1) := by decide +kernel
theorem dX7_keep_60 : decode cX7_keep 60 = .ok (.aload_n 0, 1) := by decide +kernel
theorem dX7_keep_61 : decode cX7_keep 61 = .ok (.getfield 75, 3) := by decide +kernel
theorem dX7_keep_64 : decode cX7_keep 64 = .ok (.iload_n 1, 1) := by decide +kernel
theorem dX7_keep_65 : decode cX7_keep 65 = .ok (.iconst 1, 1) := by decide +kernel
theorem dX7_keep_66 : decode cX7_keep 66 = .ok (.bastore, 1) := by decide +kernel
theorem dX7_keep_67 : decode cX7_keep 67 = .ok (.aload_n 0, 1) := by decide +kernel
theorem dX7_keep_68 : decode cX7_keep 68 = .ok (.iconst 0, 1) := by decide +kernel
theorem dX7_keep_69 : decode cX7_keep 69 = .ok (.putfield 156, 3) := by decide +kernel
theorem dX7_keep_72 : decode cX7_keep 72 = .ok (.iconst 1, 1) := by decide +kernel
theorem dX7_keep_73 : decode cX7_keep 73 = .ok (.ireturn, 1) := by decide +kernel
theorem dX7_goBack_0 : decode cX7_goBack 0 = .ok (.iload_n 1, 1) := by decide +kernel
theorem dX7_goBack_1 : decode cX7_goBack 1 = .ok (.i2l, 1) := by decide +kernel
theorem dX7_goBack_2 : decode cX7_goBack 2 = .ok (.lconst 0, 1) := by decide +kernel
theorem dX7_goBack_3 : decode cX7_goBack 3 = .ok (.lconst 1, 1) := by decide +kernel
theorem dX7_goBack_4 : decode cX7_goBack 4 = .ok (.invokestatic 84, 3) := by decide +kernel
theorem dX7_goBack_7 : decode cX7_goBack 7 = .ok (.ifCond .ne 6, 3) := by decide +kernel
theorem dX7_goBack_10 : decode cX7_goBack 10 = .ok (.ldc 236, 2) := by decide +kernel
theorem dX7_goBack_12 : decode cX7_goBack 12 = .ok (.ireturn, 1) := by decide +kernel
theorem dX7_goBack_13 : decode cX7_goBack 13 = .ok (.aload_n 0, 1) := by decide +kernel
theorem dX7_goBack_14 : decode cX7_goBack 14 = .ok (.getfield 75, 3) := by decide +kernel
theorem dX7_goBack_17 : decode cX7_goBack 17 = .ok (.iload_n 1, 1) := by decide +kernel
theorem dX7_goBack_18 : decode cX7_goBack 18 = .ok (.baload, 1) := by decide +kernel
theorem dX7_goBack_19 : decode cX7_goBack 19 = .ok (.ifCond .ne 6, 3) := by decide +kernel
theorem dX7_goBack_22 : decode cX7_goBack 22 = .ok (.ldc 241, 2) := by decide +kernel
theorem dX7_goBack_24 : decode cX7_goBack 24 = .ok (.ireturn, 1) := by decide +kernel
theorem dX7_goBack_25 : decode cX7_goBack 25 = .ok (.iconst 0, 1) := by decide +kernel
theorem dX7_goBack_26 : decode cX7_goBack 26 = .ok (.istore_n 2, 1) := by decide +kernel
theorem dX7_goBack_27 : decode cX7_goBack 27 = .ok (.iload_n 2, 1) := by decide +kernel
theorem dX7_goBack_28 : decode cX7_goBack 28 = .ok (.bipush 66, 2) := by decide +kernel
theorem dX7_goBack_30 : decode cX7_goBack 30 = .ok (.if_icmp .ge 26, 3) := by decide +kernel
theorem dX7_goBack_33 : decode cX7_goBack 33 = .ok (.aload_n 0, 1) := by decide +kernel
theorem dX7_goBack_34 : decode cX7_goBack 34 = .ok (.getfield 22, 3) := by decide +kernel
theorem dX7_goBack_37 : decode cX7_goBack 37 = .ok (.iload_n 2, 1) := by decide +kernel
theorem dX7_goBack_38 : decode cX7_goBack 38 = .ok (.aload_n 0, 1) := by decide +kernel
theorem dX7_goBack_39 : decode cX7_goBack 39 = .ok (.getfield 72, 3) := by decide +kernel
theorem dX7_goBack_42 : decode cX7_goBack 42 = .ok (.bipush 67, 2) := by decide +kernel
theorem dX7_goBack_44 : decode cX7_goBack 44 = .ok (.iload_n 1, 1) := by decide +kernel
theorem dX7_goBack_45 : decode cX7_goBack 45 = .ok (.imul, 1) := by decide +kernel
theorem dX7_goBack_46 : decode cX7_goBack 46 = .ok (.iload_n 2, 1) := by decide +kernel
theorem dX7_goBack_47 : decode cX7_goBack 47 = .ok (.iadd, 1) := by decide +kernel
theorem dX7_goBack_48 : decode cX7_goBack 48 = .ok (.iaload, 1) := by decide +kernel
theorem dX7_goBack_49 : decode cX7_goBack 49 = .ok (.iastore, 1) := by decide +kernel
theorem dX7_goBack_50 : decode cX7_goBack 50 = .ok (.iinc 2 1, 3) := by decide +kernel
theorem dX7_goBack_53 : decode cX7_goBack 53 = .ok (.goto (-26), 3) := by decide +kernel
theorem dX7_goBack_56 : decode cX7_goBack 56 = .ok (.aload_n 0, 1) := by decide +kernel
theorem dX7_goBack_57 : decode cX7_goBack 57 = .ok (.aload_n 0, 1) := by decide +kernel
theorem dX7_goBack_58 : decode cX7_goBack 58 = .ok (.getfield 72, 3) := by decide +kernel
theorem dX7_goBack_61 : decode cX7_goBack 61 = .ok (.bipush 67, 2) := by decide +kernel
theorem dX7_goBack_63 : decode cX7_goBack 63 = .ok (.iload_n 1, 1) := by decide +kernel
theorem dX7_goBack_64 : decode cX7_goBack 64 = .ok (.imul, 1) := by decide +kernel
theorem dX7_goBack_65 : decode cX7_goBack 65 = .ok (.bipush 66, 2) := by decide +kernel
theorem dX7_goBack_67 : decode cX7_goBack 67 = .ok (.iadd, 1) := by decide +kernel
theorem dX7_goBack_68 : decode cX7_goBack 68 = .ok (.iaload, 1) := by decide +kernel
theorem dX7_goBack_69 : decode cX7_goBack 69 = .ok (.putfield 260, 3) := by decide +kernel
theorem dX7_goBack_72 : decode cX7_goBack 72 = .ok (.aload_n 0, 1) := by decide +kernel
theorem dX7_goBack_73 : decode cX7_goBack 73 = .ok (.iconst 0, 1) := by decide +kernel
theorem dX7_goBack_74 : decode cX7_goBack 74 = .ok (.putfield 156, 3) := by decide +kernel
theorem dX7_goBack_77 : decode cX7_goBack 77 = .ok (.iconst 1, 1) := by decide +kernel
theorem dX7_goBack_78 : decode cX7_goBack 78 = .ok (.ireturn, 1) := by decide +kernel
end
section
theorem dL_law_0 : decode cL_law 0 = .ok (.new 7, 3) := by decide +kernel
theorem dL_law_3 : decode cL_law 3 = .ok (.dup, 1) := by decide +kernel
theorem dL_law_4 : decode cL_law 4 = .ok (.invokespecial 9, 3) := by decide +kernel
theorem dL_law_7 : decode cL_law 7 = .ok (.astore_n 1, 1) := by decide +kernel
theorem dL_law_8 : decode cL_law 8 = .ok (.new 10, 3) := by decide +kernel
theorem dL_law_11 : decode cL_law 11 = .ok (.dup, 1) := by decide +kernel
theorem dL_law_12 : decode cL_law 12 = .ok (.invokespecial 12, 3) := by decide +kernel
theorem dL_law_15 : decode cL_law 15 = .ok (.astore_n 2, 1) := by decide +kernel
theorem dL_law_16 : decode cL_law 16 = .ok (.iconst 0, 1) := by decide +kernel
theorem dL_law_17 : decode cL_law 17 = .ok (.istore_n 3, 1) := by decide +kernel
theorem dL_law_18 : decode cL_law 18 = .ok (.iload_n 3, 1) := by decide +kernel
theorem dL_law_19 : decode cL_law 19 = .ok (.aload_n 0, 1) := by decide +kernel
theorem dL_law_20 : decode cL_law 20 = .ok (.arraylength, 1) := by decide +kernel
theorem dL_law_21 : decode cL_law 21 = .ok (.iconst 4, 1) := by decide +kernel
theorem dL_law_22 : decode cL_law 22 = .ok (.isub, 1) := by decide +kernel
theorem dL_law_23 : decode cL_law 23 = .ok (.if_icmp .gt 1175, 3) := by decide +kernel
theorem dL_law_26 : decode cL_law 26 = .ok (.aload_n 0, 1) := by decide +kernel
theorem dL_law_27 : decode cL_law 27 = .ok (.iload_n 3, 1) := by decide +kernel
theorem dL_law_28 : decode cL_law 28 = .ok (.iaload, 1) := by decide +kernel
theorem dL_law_29 : decode cL_law 29 = .ok (.bipush 63, 2) := by decide +kernel
theorem dL_law_31 : decode cL_law 31 = .ok (.iand, 1) := by decide +kernel
theorem dL_law_32 : decode cL_law 32 = .ok (.tableswitch 1160 0 35 #[160, 183, 196, 209, 232, 265, 298, 331, 354, 387, 410, 449, 498, 521, 544, 567, 580, 603, 626, 669, 702, 745, 788, 811, 844, 887, 930, 963, 996, 1019, 1032, 1065, 1078, 1091, 1114, 1137], 160) := by decide +kernel
theorem dL_law_192 : decode cL_law 192 = .ok (.aload_n 1, 1) := by decide +kernel
theorem dL_law_193 : decode cL_law 193 = .ok (.aload_n 0, 1) := by decide +kernel
theorem dL_law_194 : decode cL_law 194 = .ok (.iload_n 3, 1) := by decide +kernel
theorem dL_law_195 : decode cL_law 195 = .ok (.iconst 1, 1) := by decide +kernel
theorem dL_law_196 : decode cL_law 196 = .ok (.iadd, 1) := by decide +kernel
theorem dL_law_197 : decode cL_law 197 = .ok (.iaload, 1) := by decide +kernel
theorem dL_law_198 : decode cL_law 198 = .ok (.invokevirtual 13, 3) := by decide +kernel
theorem dL_law_201 : decode cL_law 201 = .ok (.aload_n 2, 1) := by decide +kernel
theorem dL_law_202 : decode cL_law 202 = .ok (.aload_n 0, 1) := by decide +kernel
theorem dL_law_203 : decode cL_law 203 = .ok (.iload_n 3, 1) := by decide +kernel
theorem dL_law_204 : decode cL_law 204 = .ok (.iconst 1, 1) := by decide +kernel
theorem dL_law_205 : decode cL_law 205 = .ok (.iadd, 1) := by decide +kernel
theorem dL_law_206 : decode cL_law 206 = .ok (.iaload, 1) := by decide +kernel
theorem dL_law_207 : decode cL_law 207 = .ok (.invokevirtual 17, 3) := by decide +kernel
theorem dL_law_210 : decode cL_law 210 = .ok (.if_icmp .eq 982, 3) := by decide +kernel
theorem dL_law_213 : decode cL_law 213 = .ok (.iconst 0, 1) := by decide +kernel
theorem dL_law_214 : decode cL_law 214 = .ok (.ireturn, 1) := by decide +kernel
theorem dL_law_215 : decode cL_law 215 = .ok (.aload_n 1, 1) := by decide +kernel
theorem dL_law_216 : decode cL_law 216 = .ok (.invokevirtual 18, 3) := by decide +kernel
theorem dL_law_219 : decode cL_law 219 = .ok (.aload_n 2, 1) := by decide +kernel
theorem dL_law_220 : decode cL_law 220 = .ok (.invokevirtual 22, 3) := by decide +kernel
theorem dL_law_223 : decode cL_law 223 = .ok (.if_icmp .eq 969, 3) := by decide +kernel
theorem dL_law_226 : decode cL_law 226 = .ok (.iconst 0, 1) := by decide +kernel
theorem dL_law_227 : decode cL_law 227 = .ok (.ireturn, 1) := by decide +kernel
theorem dL_law_228 : decode cL_law 228 = .ok (.aload_n 1, 1) := by decide +kernel
theorem dL_law_229 : decode cL_law 229 = .ok (.invokevirtual 23, 3) := by decide +kernel
theorem dL_law_232 : decode cL_law 232 = .ok (.aload_n 2, 1) := by decide +kernel
theorem dL_law_233 : decode cL_law 233 = .ok (.invokevirtual 26, 3) := by decide +kernel
theorem dL_law_236 : decode cL_law 236 = .ok (.if_icmp .eq 956, 3) := by decide +kernel
theorem dL_law_239 : decode cL_law 239 = .ok (.iconst 0, 1) := by decide +kernel
theorem dL_law_240 : decode cL_law 240 = .ok (.ireturn, 1) := by decide +kernel
theorem dL_law_241 : decode cL_law 241 = .ok (.aload_n 1, 1) := by decide +kernel
theorem dL_law_242 : decode cL_law 242 = .ok (.aload_n 0, 1) := by decide +kernel
theorem dL_law_243 : decode cL_law 243 = .ok (.iload_n 3, 1) := by decide +kernel
theorem dL_law_244 : decode cL_law 244 = .ok (.iconst 1, 1) := by decide +kernel
theorem dL_law_245 : decode cL_law 245 = .ok (.iadd, 1) := by decide +kernel
theorem dL_law_246 : decode cL_law 246 = .ok (.iaload, 1) := by decide +kernel
theorem dL_law_247 : decode cL_law 247 = .ok (.invokevirtual 27, 3) := by decide +kernel
theorem dL_law_250 : decode cL_law 250 = .ok (.aload_n 2, 1) := by decide +kernel
theorem dL_law_251 : decode cL_law 251 = .ok (.aload_n 0, 1) := by decide +kernel
theorem dL_law_252 : decode cL_law 252 = .ok (.iload_n 3, 1) := by decide +kernel
theorem dL_law_253 : decode cL_law 253 = .ok (.iconst 1, 1) := by decide +kernel
theorem dL_law_254 : decode cL_law 254 = .ok (.iadd, 1) := by decide +kernel
theorem dL_law_255 : decode cL_law 255 = .ok (.iaload, 1) := by decide +kernel
theorem dL_law_256 : decode cL_law 256 = .ok (.invokevirtual 30, 3) := by decide +kernel
theorem dL_law_259 : decode cL_law 259 = .ok (.if_icmp .eq 933, 3) := by decide +kernel
theorem dL_law_262 : decode cL_law 262 = .ok (.iconst 0, 1) := by decide +kernel
theorem dL_law_263 : decode cL_law 263 = .ok (.ireturn, 1) := by decide +kernel
theorem dL_law_264 : decode cL_law 264 = .ok (.aload_n 1, 1) := by decide +kernel
theorem dL_law_265 : decode cL_law 265 = .ok (.aload_n 0, 1) := by decide +kernel
theorem dL_law_266 : decode cL_law 266 = .ok (.iload_n 3, 1) := by decide +kernel
theorem dL_law_267 : decode cL_law 267 = .ok (.iconst 1, 1) := by decide +kernel
theorem dL_law_268 : decode cL_law 268 = .ok (.iadd, 1) := by decide +kernel
theorem dL_law_269 : decode cL_law 269 = .ok (.iaload, 1) := by decide +kernel
theorem dL_law_270 : decode cL_law 270 = .ok (.aload_n 0, 1) := by decide +kernel
theorem dL_law_271 : decode cL_law 271 = .ok (.iload_n 3, 1) := by decide +kernel
theorem dL_law_272 : decode cL_law 272 = .ok (.iconst 2, 1) := by decide +kernel
theorem dL_law_273 : decode cL_law 273 = .ok (.iadd, 1) := by decide +kernel
theorem dL_law_274 : decode cL_law 274 = .ok (.iaload, 1) := by decide +kernel
theorem dL_law_275 : decode cL_law 275 = .ok (.invokevirtual 31, 3) := by decide +kernel
theorem dL_law_278 : decode cL_law 278 = .ok (.aload_n 2, 1) := by decide +kernel
theorem dL_law_279 : decode cL_law 279 = .ok (.aload_n 0, 1) := by decide +kernel
theorem dL_law_280 : decode cL_law 280 = .ok (.iload_n 3, 1) := by decide +kernel
theorem dL_law_281 : decode cL_law 281 = .ok (.iconst 1, 1) := by decide +kernel
theorem dL_law_282 : decode cL_law 282 = .ok (.iadd, 1) := by decide +kernel
theorem dL_law_283 : decode cL_law 283 = .ok (.iaload, 1) := by decide +kernel
theorem dL_law_284 : decode cL_law 284 = .ok (.aload_n 0, 1) := by decide +kernel
theorem dL_law_285 : decode cL_law 285 = .ok (.iload_n 3, 1) := by decide +kernel
theorem dL_law_286 : decode cL_law 286 = .ok (.iconst 2, 1) := by decide +kernel
theorem dL_law_287 : decode cL_law 287 = .ok (.iadd, 1) := by decide +kernel
theorem dL_law_288 : decode cL_law 288 = .ok (.iaload, 1) := by decide +kernel
theorem dL_law_289 : decode cL_law 289 = .ok (.invokevirtual 35, 3) := by decide +kernel
theorem dL_law_292 : decode cL_law 292 = .ok (.if_icmp .eq 900, 3) := by decide +kernel
theorem dL_law_295 : decode cL_law 295 = .ok (.iconst 0, 1) := by decide +kernel
theorem dL_law_296 : decode cL_law 296 = .ok (.ireturn, 1) := by decide +kernel
theorem dL_law_297 : decode cL_law 297 = .ok (.aload_n 1, 1) := by decide +kernel
theorem dL_law_298 : decode cL_law 298 = .ok (.aload_n 0, 1) := by decide +kernel
theorem dL_law_299 : decode cL_law 299 = .ok (.iload_n 3, 1) := by decide +kernel
theorem dL_law_300 : decode cL_law 300 = .ok (.iconst 1, 1) := by decide +kernel
theorem dL_law_301 : decode cL_law 301 = .ok (.iadd, 1) := by decide +kernel
theorem dL_law_302 : decode cL_law 302 = .ok (.iaload, 1) := by decide +kernel
theorem dL_law_303 : decode cL_law 303 = .ok (.aload_n 0, 1) := by decide +kernel
theorem dL_law_304 : decode cL_law 304 = .ok (.iload_n 3, 1) := by decide +kernel
theorem dL_law_305 : decode cL_law 305 = .ok (.iconst 2, 1) := by decide +kernel
theorem dL_law_306 : decode cL_law 306 = .ok (.iadd, 1) := by decide +kernel
theorem dL_law_307 : decode cL_law 307 = .ok (.iaload, 1) := by decide +kernel
theorem dL_law_308 : decode cL_law 308 = .ok (.invokevirtual 36, 3) := by decide +kernel
theorem dL_law_311 : decode cL_law 311 = .ok (.aload_n 2, 1) := by decide +kernel
theorem dL_law_312 : decode cL_law 312 = .ok (.aload_n 0, 1) := by decide +kernel
theorem dL_law_313 : decode cL_law 313 = .ok (.iload_n 3, 1) := by decide +kernel
theorem dL_law_314 : decode cL_law 314 = .ok (.iconst 1, 1) := by decide +kernel
theorem dL_law_315 : decode cL_law 315 = .ok (.iadd, 1) := by decide +kernel
theorem dL_law_316 : decode cL_law 316 = .ok (.iaload, 1) := by decide +kernel
theorem dL_law_317 : decode cL_law 317 = .ok (.aload_n 0, 1) := by decide +kernel
theorem dL_law_318 : decode cL_law 318 = .ok (.iload_n 3, 1) := by decide +kernel
theorem dL_law_319 : decode cL_law 319 = .ok (.iconst 2, 1) := by decide +kernel
theorem dL_law_320 : decode cL_law 320 = .ok (.iadd, 1) := by decide +kernel
theorem dL_law_321 : decode cL_law 321 = .ok (.iaload, 1) := by decide +kernel
theorem dL_law_322 : decode cL_law 322 = .ok (.invokevirtual 39, 3) := by decide +kernel
theorem dL_law_325 : decode cL_law 325 = .ok (.if_icmp .eq 867, 3) := by decide +kernel
theorem dL_law_328 : decode cL_law 328 = .ok (.iconst 0, 1) := by decide +kernel
theorem dL_law_329 : decode cL_law 329 = .ok (.ireturn, 1) := by decide +kernel
theorem dL_law_330 : decode cL_law 330 = .ok (.aload_n 1, 1) := by decide +kernel
theorem dL_law_331 : decode cL_law 331 = .ok (.aload_n 0, 1) := by decide +kernel
theorem dL_law_332 : decode cL_law 332 = .ok (.iload_n 3, 1) := by decide +kernel
theorem dL_law_333 : decode cL_law 333 = .ok (.iconst 1, 1) := by decide +kernel
theorem dL_law_334 : decode cL_law 334 = .ok (.iadd, 1) := by decide +kernel
theorem dL_law_335 : decode cL_law 335 = .ok (.iaload, 1) := by decide +kernel
theorem dL_law_336 : decode cL_law 336 = .ok (.aload_n 0, 1) := by decide +kernel
theorem dL_law_337 : decode cL_law 337 = .ok (.iload_n 3, 1) := by decide +kernel
theorem dL_law_338 : decode cL_law 338 = .ok (.iconst 2, 1) := by decide +kernel
theorem dL_law_339 : decode cL_law 339 = .ok (.iadd, 1) := by decide +kernel
theorem dL_law_340 : decode cL_law 340 = .ok (.iaload, 1) := by decide +kernel
theorem dL_law_341 : decode cL_law 341 = .ok (.invokevirtual 40, 3) := by decide +kernel
theorem dL_law_344 : decode cL_law 344 = .ok (.aload_n 2, 1) := by decide +kernel
theorem dL_law_345 : decode cL_law 345 = .ok (.aload_n 0, 1) := by decide +kernel
theorem dL_law_346 : decode cL_law 346 = .ok (.iload_n 3, 1) := by decide +kernel
theorem dL_law_347 : decode cL_law 347 = .ok (.iconst 1, 1) := by decide +kernel
theorem dL_law_348 : decode cL_law 348 = .ok (.iadd, 1) := by decide +kernel
theorem dL_law_349 : decode cL_law 349 = .ok (.iaload, 1) := by decide +kernel
theorem dL_law_350 : decode cL_law 350 = .ok (.aload_n 0, 1) := by decide +kernel
theorem dL_law_351 : decode cL_law 351 = .ok (.iload_n 3, 1) := by decide +kernel
theorem dL_law_352 : decode cL_law 352 = .ok (.iconst 2, 1) := by decide +kernel
theorem dL_law_353 : decode cL_law 353 = .ok (.iadd, 1) := by decide +kernel
theorem dL_law_354 : decode cL_law 354 = .ok (.iaload, 1) := by decide +kernel
theorem dL_law_355 : decode cL_law 355 = .ok (.invokevirtual 43, 3) := by decide +kernel
theorem dL_law_358 : decode cL_law 358 = .ok (.if_icmp .eq 834, 3) := by decide +kernel
theorem dL_law_361 : decode cL_law 361 = .ok (.iconst 0, 1) := by decide +kernel
theorem dL_law_362 : decode cL_law 362 = .ok (.ireturn, 1) := by decide +kernel
theorem dL_law_363 : decode cL_law 363 = .ok (.aload_n 1, 1) := by decide +kernel
theorem dL_law_364 : decode cL_law 364 = .ok (.aload_n 0, 1) := by decide +kernel
theorem dL_law_365 : decode cL_law 365 = .ok (.iload_n 3, 1) := by decide +kernel
theorem dL_law_366 : decode cL_law 366 = .ok (.iconst 1, 1) := by decide +kernel
theorem dL_law_367 : decode cL_law 367 = .ok (.iadd, 1) := by decide +kernel
theorem dL_law_368 : decode cL_law 368 = .ok (.iaload, 1) := by decide +kernel
theorem dL_law_369 : decode cL_law 369 = .ok (.invokevirtual 44, 3) := by decide +kernel
theorem dL_law_372 : decode cL_law 372 = .ok (.aload_n 2, 1) := by decide +kernel
theorem dL_law_373 : decode cL_law 373 = .ok (.aload_n 0, 1) := by decide +kernel
theorem dL_law_374 : decode cL_law 374 = .ok (.iload_n 3, 1) := by decide +kernel
theorem dL_law_375 : decode cL_law 375 = .ok (.iconst 1, 1) := by decide +kernel
theorem dL_law_376 : decode cL_law 376 = .ok (.iadd, 1) := by decide +kernel
theorem dL_law_377 : decode cL_law 377 = .ok (.iaload, 1) := by decide +kernel
theorem dL_law_378 : decode cL_law 378 = .ok (.invokevirtual 47, 3) := by decide +kernel
theorem dL_law_381 : decode cL_law 381 = .ok (.if_icmp .eq 811, 3) := by decide +kernel
theorem dL_law_384 : decode cL_law 384 = .ok (.iconst 0, 1) := by decide +kernel
theorem dL_law_385 : decode cL_law 385 = .ok (.ireturn, 1) := by decide +kernel
theorem dL_law_386 : decode cL_law 386 = .ok (.aload_n 1, 1) := by decide +kernel
theorem dL_law_387 : decode cL_law 387 = .ok (.aload_n 0, 1) := by decide +kernel
theorem dL_law_388 : decode cL_law 388 = .ok (.iload_n 3, 1) := by decide +kernel
theorem dL_law_389 : decode cL_law 389 = .ok (.iconst 1, 1) := by decide +kernel
theorem dL_law_390 : decode cL_law 390 = .ok (.iadd, 1) := by decide +kernel
theorem dL_law_391 : decode cL_law 391 = .ok (.iaload, 1) := by decide +kernel
theorem dL_law_392 : decode cL_law 392 = .ok (.aload_n 0, 1) := by decide +kernel
theorem dL_law_393 : decode cL_law 393 = .ok (.iload_n 3, 1) := by decide +kernel
theorem dL_law_394 : decode cL_law 394 = .ok (.iconst 2, 1) := by decide +kernel
theorem dL_law_395 : decode cL_law 395 = .ok (.iadd, 1) := by decide +kernel
theorem dL_law_396 : decode cL_law 396 = .ok (.iaload, 1) := by decide +kernel
theorem dL_law_397 : decode cL_law 397 = .ok (.invokevirtual 48, 3) := by decide +kernel
theorem dL_law_400 : decode cL_law 400 = .ok (.aload_n 2, 1) := by decide +kernel
theorem dL_law_401 : decode cL_law 401 = .ok (.aload_n 0, 1) := by decide +kernel
theorem dL_law_402 : decode cL_law 402 = .ok (.iload_n 3, 1) := by decide +kernel
theorem dL_law_403 : decode cL_law 403 = .ok (.iconst 1, 1) := by decide +kernel
theorem dL_law_404 : decode cL_law 404 = .ok (.iadd, 1) := by decide +kernel
theorem dL_law_405 : decode cL_law 405 = .ok (.iaload, 1) := by decide +kernel
theorem dL_law_406 : decode cL_law 406 = .ok (.aload_n 0, 1) := by decide +kernel
theorem dL_law_407 : decode cL_law 407 = .ok (.iload_n 3, 1) := by decide +kernel
theorem dL_law_408 : decode cL_law 408 = .ok (.iconst 2, 1) := by decide +kernel
theorem dL_law_409 : decode cL_law 409 = .ok (.iadd, 1) := by decide +kernel
theorem dL_law_410 : decode cL_law 410 = .ok (.iaload, 1) := by decide +kernel
theorem dL_law_411 : decode cL_law 411 = .ok (.invokevirtual 51, 3) := by decide +kernel
theorem dL_law_414 : decode cL_law 414 = .ok (.if_icmp .eq 778, 3) := by decide +kernel
theorem dL_law_417 : decode cL_law 417 = .ok (.iconst 0, 1) := by decide +kernel
theorem dL_law_418 : decode cL_law 418 = .ok (.ireturn, 1) := by decide +kernel
theorem dL_law_419 : decode cL_law 419 = .ok (.aload_n 1, 1) := by decide +kernel
theorem dL_law_420 : decode cL_law 420 = .ok (.aload_n 0, 1) := by decide +kernel
theorem dL_law_421 : decode cL_law 421 = .ok (.iload_n 3, 1) := by decide +kernel
theorem dL_law_422 : decode cL_law 422 = .ok (.iconst 1, 1) := by decide +kernel
theorem dL_law_423 : decode cL_law 423 = .ok (.iadd, 1) := by decide +kernel
theorem dL_law_424 : decode cL_law 424 = .ok (.iaload, 1) := by decide +kernel
theorem dL_law_425 : decode cL_law 425 = .ok (.invokevirtual 52, 3) := by decide +kernel
theorem dL_law_428 : decode cL_law 428 = .ok (.aload_n 2, 1) := by decide +kernel
theorem dL_law_429 : decode cL_law 429 = .ok (.aload_n 0, 1) := by decide +kernel
theorem dL_law_430 : decode cL_law 430 = .ok (.iload_n 3, 1) := by decide +kernel
theorem dL_law_431 : decode cL_law 431 = .ok (.iconst 1, 1) := by decide +kernel
theorem dL_law_432 : decode cL_law 432 = .ok (.iadd, 1) := by decide +kernel
theorem dL_law_433 : decode cL_law 433 = .ok (.iaload, 1) := by decide +kernel
theorem dL_law_434 : decode cL_law 434 = .ok (.invokevirtual 55, 3) := by decide +kernel
theorem dL_law_437 : decode cL_law 437 = .ok (.if_icmp .eq 755, 3) := by decide +kernel
theorem dL_law_440 : decode cL_law 440 = .ok (.iconst 0, 1) := by decide +kernel
theorem dL_law_441 : decode cL_law 441 = .ok (.ireturn, 1) := by decide +kernel
theorem dL_law_442 : decode cL_law 442 = .ok (.aload_n 1, 1) := by decide +kernel
theorem dL_law_443 : decode cL_law 443 = .ok (.aload_n 0, 1) := by decide +kernel
theorem dL_law_444 : decode cL_law 444 = .ok (.iload_n 3, 1) := by decide +kernel
theorem dL_law_445 : decode cL_law 445 = .ok (.iconst 1, 1) := by decide +kernel
theorem dL_law_446 : decode cL_law 446 = .ok (.iadd, 1) := by decide +kernel
theorem dL_law_447 : decode cL_law 447 = .ok (.iaload, 1) := by decide +kernel
theorem dL_law_448 : decode cL_law 448 = .ok (.ifCond .eq 7, 3) := by decide +kernel
theorem dL_law_451 : decode cL_law 451 = .ok (.iconst 1, 1) := by decide +kernel
theorem dL_law_452 : decode cL_law 452 = .ok (.goto 4, 3) := by decide +kernel
theorem dL_law_455 : decode cL_law 455 = .ok (.iconst 0, 1) := by decide +kernel
theorem dL_law_456 : decode cL_law 456 = .ok (.invokevirtual 56, 3) := by decide +kernel
theorem dL_law_459 : decode cL_law 459 = .ok (.aload_n 2, 1) := by decide +kernel
theorem dL_law_460 : decode cL_law 460 = .ok (.aload_n 0, 1) := by decide +kernel
theorem dL_law_461 : decode cL_law 461 = .ok (.iload_n 3, 1) := by decide +kernel
theorem dL_law_462 : decode cL_law 462 = .ok (.iconst 1, 1) := by decide +kernel
theorem dL_law_463 : decode cL_law 463 = .ok (.iadd, 1) := by decide +kernel
theorem dL_law_464 : decode cL_law 464 = .ok (.iaload, 1) := by decide +kernel
theorem dL_law_465 : decode cL_law 465 = .ok (.ifCond .eq 7, 3) := by decide +kernel
theorem dL_law_468 : decode cL_law 468 = .ok (.iconst 1, 1) := by decide +kernel
theorem dL_law_469 : decode cL_law 469 = .ok (.goto 4, 3) := by decide +kernel
theorem dL_law_472 : decode cL_law 472 = .ok (.iconst 0, 1) := by decide +kernel
theorem dL_law_473 : decode cL_law 473 = .ok (.invokevirtual 60, 3) := by decide +kernel
theorem dL_law_476 : decode cL_law 476 = .ok (.if_icmp .eq 716, 3) := by decide +kernel
theorem dL_law_479 : decode cL_law 479 = .ok (.iconst 0, 1) := by decide +kernel
theorem dL_law_480 : decode cL_law 480 = .ok (.ireturn, 1) := by decide +kernel
theorem dL_law_481 : decode cL_law 481 = .ok (.aload_n 1, 1) := by decide +kernel
theorem dL_law_482 : decode cL_law 482 = .ok (.aload_n 0, 1) := by decide +kernel
theorem dL_law_483 : decode cL_law 483 = .ok (.iload_n 3, 1) := by decide +kernel
theorem dL_law_484 : decode cL_law 484 = .ok (.iconst 1, 1) := by decide +kernel
theorem dL_law_485 : decode cL_law 485 = .ok (.iadd, 1) := by decide +kernel
theorem dL_law_486 : decode cL_law 486 = .ok (.iaload, 1) := by decide +kernel
theorem dL_law_487 : decode cL_law 487 = .ok (.aload_n 0, 1) := by decide +kernel
theorem dL_law_488 : decode cL_law 488 = .ok (.iload_n 3, 1) := by decide +kernel
theorem dL_law_489 : decode cL_law 489 = .ok (.iconst 2, 1) := by decide +kernel
theorem dL_law_490 : decode cL_law 490 = .ok (.iadd, 1) := by decide +kernel
theorem dL_law_491 : decode cL_law 491 = .ok (.iaload, 1) := by decide +kernel
theorem dL_law_492 : decode cL_law 492 = .ok (.ifCond .eq 7, 3) := by decide +kernel
theorem dL_law_495 : decode cL_law 495 = .ok (.iconst 1, 1) := by decide +kernel
theorem dL_law_496 : decode cL_law 496 = .ok (.goto 4, 3) := by decide +kernel
theorem dL_law_499 : decode cL_law 499 = .ok (.iconst 0, 1) := by decide +kernel
theorem dL_law_500 : decode cL_law 500 = .ok (.invokevirtual 61, 3) := by decide +kernel
theorem dL_law_503 : decode cL_law 503 = .ok (.aload_n 2, 1) := by decide +kernel
theorem dL_law_504 : decode cL_law 504 = .ok (.aload_n 0, 1) := by decide +kernel
theorem dL_law_505 : decode cL_law 505 = .ok (.iload_n 3, 1) := by decide +kernel
theorem dL_law_506 : decode cL_law 506 = .ok (.iconst 1, 1) := by decide +kernel
theorem dL_law_507 : decode cL_law 507 = .ok (.iadd, 1) := by decide +kernel
theorem dL_law_508 : decode cL_law 508 = .ok (.iaload, 1) := by decide +kernel
theorem dL_law_509 : decode cL_law 509 = .ok (.aload_n 0, 1) := by decide +kernel
theorem dL_law_510 : decode cL_law 510 = .ok (.iload_n 3, 1) := by decide +kernel
theorem dL_law_511 : decode cL_law 511 = .ok (.iconst 2, 1) := by decide +kernel
theorem dL_law_512 : decode cL_law 512 = .ok (.iadd, 1) := by decide +kernel
theorem dL_law_513 : decode cL_law 513 = .ok (.iaload, 1) := by decide +kernel
theorem dL_law_514 : decode cL_law 514 = .ok (.ifCond .eq 7, 3) := by decide +kernel
theorem dL_law_517 : decode cL_law 517 = .ok (.iconst 1, 1) := by decide +kernel
theorem dL_law_518 : decode cL_law 518 = .ok (.goto 4, 3) := by decide +kernel
theorem dL_law_521 : decode cL_law 521 = .ok (.iconst 0, 1) := by decide +kernel
theorem dL_law_522 : decode cL_law 522 = .ok (.invokevirtual 65, 3) := by decide +kernel
theorem dL_law_525 : decode cL_law 525 = .ok (.if_icmp .eq 667, 3) := by decide +kernel
theorem dL_law_528 : decode cL_law 528 = .ok (.iconst 0, 1) := by decide +kernel
theorem dL_law_529 : decode cL_law 529 = .ok (.ireturn, 1) := by decide +kernel
theorem dL_law_530 : decode cL_law 530 = .ok (.aload_n 1, 1) := by decide +kernel
theorem dL_law_531 : decode cL_law 531 = .ok (.aload_n 0, 1) := by decide +kernel
theorem dL_law_532 : decode cL_law 532 = .ok (.iload_n 3, 1) := by decide +kernel
theorem dL_law_533 : decode cL_law 533 = .ok (.iconst 1, 1) := by decide +kernel
theorem dL_law_534 : decode cL_law 534 = .ok (.iadd, 1) := by decide +kernel
theorem dL_law_535 : decode cL_law 535 = .ok (.iaload, 1) := by decide +kernel
theorem dL_law_536 : decode cL_law 536 = .ok (.invokevirtual 66, 3) := by decide +kernel
theorem dL_law_539 : decode cL_law 539 = .ok (.aload_n 2, 1) := by decide +kernel
theorem dL_law_540 : decode cL_law 540 = .ok (.aload_n 0, 1) := by decide +kernel
theorem dL_law_541 : decode cL_law 541 = .ok (.iload_n 3, 1) := by decide +kernel
theorem dL_law_542 : decode cL_law 542 = .ok (.iconst 1, 1) := by decide +kernel
theorem dL_law_543 : decode cL_law 543 = .ok (.iadd, 1) := by decide +kernel
theorem dL_law_544 : decode cL_law 544 = .ok (.iaload, 1) := by decide +kernel
theorem dL_law_545 : decode cL_law 545 = .ok (.invokevirtual 69, 3) := by decide +kernel
theorem dL_law_548 : decode cL_law 548 = .ok (.if_icmp .eq 644, 3) := by decide +kernel
theorem dL_law_551 : decode cL_law 551 = .ok (.iconst 0, 1) := by decide +kernel
theorem dL_law_552 : decode cL_law 552 = .ok (.ireturn, 1) := by decide +kernel
theorem dL_law_553 : decode cL_law 553 = .ok (.aload_n 1, 1) := by decide +kernel
theorem dL_law_554 : decode cL_law 554 = .ok (.aload_n 0, 1) := by decide +kernel
theorem dL_law_555 : decode cL_law 555 = .ok (.iload_n 3, 1) := by decide +kernel
theorem dL_law_556 : decode cL_law 556 = .ok (.iconst 1, 1) := by decide +kernel
theorem dL_law_557 : decode cL_law 557 = .ok (.iadd, 1) := by decide +kernel
theorem dL_law_558 : decode cL_law 558 = .ok (.iaload, 1) := by decide +kernel
theorem dL_law_559 : decode cL_law 559 = .ok (.invokevirtual 70, 3) := by decide +kernel
theorem dL_law_562 : decode cL_law 562 = .ok (.aload_n 2, 1) := by decide +kernel
theorem dL_law_563 : decode cL_law 563 = .ok (.aload_n 0, 1) := by decide +kernel
theorem dL_law_564 : decode cL_law 564 = .ok (.iload_n 3, 1) := by decide +kernel
theorem dL_law_565 : decode cL_law 565 = .ok (.iconst 1, 1) := by decide +kernel
theorem dL_law_566 : decode cL_law 566 = .ok (.iadd, 1) := by decide +kernel
theorem dL_law_567 : decode cL_law 567 = .ok (.iaload, 1) := by decide +kernel
theorem dL_law_568 : decode cL_law 568 = .ok (.invokevirtual 73, 3) := by decide +kernel
theorem dL_law_571 : decode cL_law 571 = .ok (.if_icmp .eq 621, 3) := by decide +kernel
theorem dL_law_574 : decode cL_law 574 = .ok (.iconst 0, 1) := by decide +kernel
theorem dL_law_575 : decode cL_law 575 = .ok (.ireturn, 1) := by decide +kernel
theorem dL_law_576 : decode cL_law 576 = .ok (.aload_n 1, 1) := by decide +kernel
theorem dL_law_577 : decode cL_law 577 = .ok (.aload_n 0, 1) := by decide +kernel
theorem dL_law_578 : decode cL_law 578 = .ok (.iload_n 3, 1) := by decide +kernel
theorem dL_law_579 : decode cL_law 579 = .ok (.iconst 1, 1) := by decide +kernel
theorem dL_law_580 : decode cL_law 580 = .ok (.iadd, 1) := by decide +kernel
theorem dL_law_581 : decode cL_law 581 = .ok (.iaload, 1) := by decide +kernel
theorem dL_law_582 : decode cL_law 582 = .ok (.invokevirtual 74, 3) := by decide +kernel
theorem dL_law_585 : decode cL_law 585 = .ok (.aload_n 2, 1) := by decide +kernel
theorem dL_law_586 : decode cL_law 586 = .ok (.aload_n 0, 1) := by decide +kernel
theorem dL_law_587 : decode cL_law 587 = .ok (.iload_n 3, 1) := by decide +kernel
theorem dL_law_588 : decode cL_law 588 = .ok (.iconst 1, 1) := by decide +kernel
theorem dL_law_589 : decode cL_law 589 = .ok (.iadd, 1) := by decide +kernel
theorem dL_law_590 : decode cL_law 590 = .ok (.iaload, 1) := by decide +kernel
theorem dL_law_591 : decode cL_law 591 = .ok (.invokevirtual 77, 3) := by decide +kernel
theorem dL_law_594 : decode cL_law 594 = .ok (.if_icmp .eq 598, 3) := by decide +kernel
theorem dL_law_597 : decode cL_law 597 = .ok (.iconst 0, 1) := by decide +kernel
theorem dL_law_598 : decode cL_law 598 = .ok (.ireturn, 1) := by decide +kernel
theorem dL_law_599 : decode cL_law 599 = .ok (.aload_n 1, 1) := by decide +kernel
theorem dL_law_600 : decode cL_law 600 = .ok (.invokevirtual 78, 3) := by decide +kernel
theorem dL_law_603 : decode cL_law 603 = .ok (.aload_n 2, 1) := by decide +kernel
theorem dL_law_604 : decode cL_law 604 = .ok (.invokevirtual 81, 3) := by decide +kernel
theorem dL_law_607 : decode cL_law 607 = .ok (.if_icmp .eq 585, 3) := by decide +kernel
theorem dL_law_610 : decode cL_law 610 = .ok (.iconst 0, 1) := by decide +kernel
theorem dL_law_611 : decode cL_law 611 = .ok (.ireturn, 1) := by decide +kernel
theorem dL_law_612 : decode cL_law 612 = .ok (.aload_n 1, 1) := by decide +kernel
theorem dL_law_613 : decode cL_law 613 = .ok (.aload_n 0, 1) := by decide +kernel
theorem dL_law_614 : decode cL_law 614 = .ok (.iload_n 3, 1) := by decide +kernel
theorem dL_law_615 : decode cL_law 615 = .ok (.iconst 1, 1) := by decide +kernel
theorem dL_law_616 : decode cL_law 616 = .ok (.iadd, 1) := by decide +kernel
theorem dL_law_617 : decode cL_law 617 = .ok (.iaload, 1) := by decide +kernel
theorem dL_law_618 : decode cL_law 618 = .ok (.invokevirtual 82, 3) := by decide +kernel
theorem dL_law_621 : decode cL_law 621 = .ok (.aload_n 2, 1) := by decide +kernel
theorem dL_law_622 : decode cL_law 622 = .ok (.aload_n 0, 1) := by decide +kernel
theorem dL_law_623 : decode cL_law 623 = .ok (.iload_n 3, 1) := by decide +kernel
theorem dL_law_624 : decode cL_law 624 = .ok (.iconst 1, 1) := by decide +kernel
theorem dL_law_625 : decode cL_law 625 = .ok (.iadd, 1) := by decide +kernel
theorem dL_law_626 : decode cL_law 626 = .ok (.iaload, 1) := by decide +kernel
theorem dL_law_627 : decode cL_law 627 = .ok (.invokevirtual 85, 3) := by decide +kernel
theorem dL_law_630 : decode cL_law 630 = .ok (.if_icmp .eq 562, 3) := by decide +kernel
theorem dL_law_633 : decode cL_law 633 = .ok (.iconst 0, 1) := by decide +kernel
theorem dL_law_634 : decode cL_law 634 = .ok (.ireturn, 1) := by decide +kernel
theorem dL_law_635 : decode cL_law 635 = .ok (.aload_n 1, 1) := by decide +kernel
theorem dL_law_636 : decode cL_law 636 = .ok (.aload_n 0, 1) := by decide +kernel
theorem dL_law_637 : decode cL_law 637 = .ok (.iload_n 3, 1) := by decide +kernel
theorem dL_law_638 : decode cL_law 638 = .ok (.iconst 1, 1) := by decide +kernel
theorem dL_law_639 : decode cL_law 639 = .ok (.iadd, 1) := by decide +kernel
theorem dL_law_640 : decode cL_law 640 = .ok (.iaload, 1) := by decide +kernel
theorem dL_law_641 : decode cL_law 641 = .ok (.invokevirtual 86, 3) := by decide +kernel
theorem dL_law_644 : decode cL_law 644 = .ok (.aload_n 2, 1) := by decide +kernel
theorem dL_law_645 : decode cL_law 645 = .ok (.aload_n 0, 1) := by decide +kernel
theorem dL_law_646 : decode cL_law 646 = .ok (.iload_n 3, 1) := by decide +kernel
theorem dL_law_647 : decode cL_law 647 = .ok (.iconst 1, 1) := by decide +kernel
theorem dL_law_648 : decode cL_law 648 = .ok (.iadd, 1) := by decide +kernel
theorem dL_law_649 : decode cL_law 649 = .ok (.iaload, 1) := by decide +kernel
theorem dL_law_650 : decode cL_law 650 = .ok (.invokevirtual 89, 3) := by decide +kernel
theorem dL_law_653 : decode cL_law 653 = .ok (.if_icmp .eq 539, 3) := by decide +kernel
theorem dL_law_656 : decode cL_law 656 = .ok (.iconst 0, 1) := by decide +kernel
theorem dL_law_657 : decode cL_law 657 = .ok (.ireturn, 1) := by decide +kernel
theorem dL_law_658 : decode cL_law 658 = .ok (.aload_n 1, 1) := by decide +kernel
theorem dL_law_659 : decode cL_law 659 = .ok (.aload_n 0, 1) := by decide +kernel
theorem dL_law_660 : decode cL_law 660 = .ok (.iload_n 3, 1) := by decide +kernel
theorem dL_law_661 : decode cL_law 661 = .ok (.iconst 1, 1) := by decide +kernel
theorem dL_law_662 : decode cL_law 662 = .ok (.iadd, 1) := by decide +kernel
theorem dL_law_663 : decode cL_law 663 = .ok (.iaload, 1) := by decide +kernel
theorem dL_law_664 : decode cL_law 664 = .ok (.aload_n 0, 1) := by decide +kernel
theorem dL_law_665 : decode cL_law 665 = .ok (.iload_n 3, 1) := by decide +kernel
theorem dL_law_666 : decode cL_law 666 = .ok (.iconst 2, 1) := by decide +kernel
theorem dL_law_667 : decode cL_law 667 = .ok (.iadd, 1) := by decide +kernel
theorem dL_law_668 : decode cL_law 668 = .ok (.iaload, 1) := by decide +kernel
theorem dL_law_669 : decode cL_law 669 = .ok (.aload_n 0, 1) := by decide +kernel
theorem dL_law_670 : decode cL_law 670 = .ok (.iload_n 3, 1) := by decide +kernel
theorem dL_law_671 : decode cL_law 671 = .ok (.iconst 3, 1) := by decide +kernel
theorem dL_law_672 : decode cL_law 672 = .ok (.iadd, 1) := by decide +kernel
theorem dL_law_673 : decode cL_law 673 = .ok (.iaload, 1) := by decide +kernel
theorem dL_law_674 : decode cL_law 674 = .ok (.invokevirtual 90, 3) := by decide +kernel
theorem dL_law_677 : decode cL_law 677 = .ok (.aload_n 2, 1) := by decide +kernel
theorem dL_law_678 : decode cL_law 678 = .ok (.aload_n 0, 1) := by decide +kernel
theorem dL_law_679 : decode cL_law 679 = .ok (.iload_n 3, 1) := by decide +kernel
theorem dL_law_680 : decode cL_law 680 = .ok (.iconst 1, 1) := by decide +kernel
theorem dL_law_681 : decode cL_law 681 = .ok (.iadd, 1) := by decide +kernel
theorem dL_law_682 : decode cL_law 682 = .ok (.iaload, 1) := by decide +kernel
theorem dL_law_683 : decode cL_law 683 = .ok (.aload_n 0, 1) := by decide +kernel
theorem dL_law_684 : decode cL_law 684 = .ok (.iload_n 3, 1) := by decide +kernel
theorem dL_law_685 : decode cL_law 685 = .ok (.iconst 2, 1) := by decide +kernel
theorem dL_law_686 : decode cL_law 686 = .ok (.iadd, 1) := by decide +kernel
theorem dL_law_687 : decode cL_law 687 = .ok (.iaload, 1) := by decide +kernel
theorem dL_law_688 : decode cL_law 688 = .ok (.aload_n 0, 1) := by decide +kernel
theorem dL_law_689 : decode cL_law 689 = .ok (.iload_n 3, 1) := by decide +kernel
theorem dL_law_690 : decode cL_law 690 = .ok (.iconst 3, 1) := by decide +kernel
theorem dL_law_691 : decode cL_law 691 = .ok (.iadd, 1) := by decide +kernel
theorem dL_law_692 : decode cL_law 692 = .ok (.iaload, 1) := by decide +kernel
theorem dL_law_693 : decode cL_law 693 = .ok (.invokevirtual 94, 3) := by decide +kernel
theorem dL_law_696 : decode cL_law 696 = .ok (.if_icmp .eq 496, 3) := by decide +kernel
theorem dL_law_699 : decode cL_law 699 = .ok (.iconst 0, 1) := by decide +kernel
theorem dL_law_700 : decode cL_law 700 = .ok (.ireturn, 1) := by decide +kernel
theorem dL_law_701 : decode cL_law 701 = .ok (.aload_n 1, 1) := by decide +kernel
theorem dL_law_702 : decode cL_law 702 = .ok (.aload_n 0, 1) := by decide +kernel
theorem dL_law_703 : decode cL_law 703 = .ok (.iload_n 3, 1) := by decide +kernel
theorem dL_law_704 : decode cL_law 704 = .ok (.iconst 1, 1) := by decide +kernel
theorem dL_law_705 : decode cL_law 705 = .ok (.iadd, 1) := by decide +kernel
theorem dL_law_706 : decode cL_law 706 = .ok (.iaload, 1) := by decide +kernel
theorem dL_law_707 : decode cL_law 707 = .ok (.aload_n 0, 1) := by decide +kernel
theorem dL_law_708 : decode cL_law 708 = .ok (.iload_n 3, 1) := by decide +kernel
theorem dL_law_709 : decode cL_law 709 = .ok (.iconst 2, 1) := by decide +kernel
theorem dL_law_710 : decode cL_law 710 = .ok (.iadd, 1) := by decide +kernel
theorem dL_law_711 : decode cL_law 711 = .ok (.iaload, 1) := by decide +kernel
theorem dL_law_712 : decode cL_law 712 = .ok (.invokevirtual 95, 3) := by decide +kernel
theorem dL_law_715 : decode cL_law 715 = .ok (.aload_n 2, 1) := by decide +kernel
theorem dL_law_716 : decode cL_law 716 = .ok (.aload_n 0, 1) := by decide +kernel
theorem dL_law_717 : decode cL_law 717 = .ok (.iload_n 3, 1) := by decide +kernel
theorem dL_law_718 : decode cL_law 718 = .ok (.iconst 1, 1) := by decide +kernel
theorem dL_law_719 : decode cL_law 719 = .ok (.iadd, 1) := by decide +kernel
theorem dL_law_720 : decode cL_law 720 = .ok (.iaload, 1) := by decide +kernel
theorem dL_law_721 : decode cL_law 721 = .ok (.aload_n 0, 1) := by decide +kernel
theorem dL_law_722 : decode cL_law 722 = .ok (.iload_n 3, 1) := by decide +kernel
theorem dL_law_723 : decode cL_law 723 = .ok (.iconst 2, 1) := by decide +kernel
theorem dL_law_724 : decode cL_law 724 = .ok (.iadd, 1) := by decide +kernel
theorem dL_law_725 : decode cL_law 725 = .ok (.iaload, 1) := by decide +kernel
theorem dL_law_726 : decode cL_law 726 = .ok (.invokevirtual 98, 3) := by decide +kernel
theorem dL_law_729 : decode cL_law 729 = .ok (.if_icmp .eq 463, 3) := by decide +kernel
theorem dL_law_732 : decode cL_law 732 = .ok (.iconst 0, 1) := by decide +kernel
theorem dL_law_733 : decode cL_law 733 = .ok (.ireturn, 1) := by decide +kernel
theorem dL_law_734 : decode cL_law 734 = .ok (.aload_n 1, 1) := by decide +kernel
theorem dL_law_735 : decode cL_law 735 = .ok (.aload_n 0, 1) := by decide +kernel
theorem dL_law_736 : decode cL_law 736 = .ok (.iload_n 3, 1) := by decide +kernel
theorem dL_law_737 : decode cL_law 737 = .ok (.iconst 1, 1) := by decide +kernel
theorem dL_law_738 : decode cL_law 738 = .ok (.iadd, 1) := by decide +kernel
theorem dL_law_739 : decode cL_law 739 = .ok (.iaload, 1) := by decide +kernel
theorem dL_law_740 : decode cL_law 740 = .ok (.aload_n 0, 1) := by decide +kernel
theorem dL_law_741 : decode cL_law 741 = .ok (.iload_n 3, 1) := by decide +kernel
theorem dL_law_742 : decode cL_law 742 = .ok (.iconst 2, 1) := by decide +kernel
theorem dL_law_743 : decode cL_law 743 = .ok (.iadd, 1) := by decide +kernel
theorem dL_law_744 : decode cL_law 744 = .ok (.iaload, 1) := by decide +kernel
theorem dL_law_745 : decode cL_law 745 = .ok (.aload_n 0, 1) := by decide +kernel
theorem dL_law_746 : decode cL_law 746 = .ok (.iload_n 3, 1) := by decide +kernel
theorem dL_law_747 : decode cL_law 747 = .ok (.iconst 3, 1) := by decide +kernel
theorem dL_law_748 : decode cL_law 748 = .ok (.iadd, 1) := by decide +kernel
theorem dL_law_749 : decode cL_law 749 = .ok (.iaload, 1) := by decide +kernel
theorem dL_law_750 : decode cL_law 750 = .ok (.invokevirtual 99, 3) := by decide +kernel
theorem dL_law_753 : decode cL_law 753 = .ok (.aload_n 2, 1) := by decide +kernel
theorem dL_law_754 : decode cL_law 754 = .ok (.aload_n 0, 1) := by decide +kernel
theorem dL_law_755 : decode cL_law 755 = .ok (.iload_n 3, 1) := by decide +kernel
theorem dL_law_756 : decode cL_law 756 = .ok (.iconst 1, 1) := by decide +kernel
theorem dL_law_757 : decode cL_law 757 = .ok (.iadd, 1) := by decide +kernel
theorem dL_law_758 : decode cL_law 758 = .ok (.iaload, 1) := by decide +kernel
theorem dL_law_759 : decode cL_law 759 = .ok (.aload_n 0, 1) := by decide +kernel
theorem dL_law_760 : decode cL_law 760 = .ok (.iload_n 3, 1) := by decide +kernel
theorem dL_law_761 : decode cL_law 761 = .ok (.iconst 2, 1) := by decide +kernel
theorem dL_law_762 : decode cL_law 762 = .ok (.iadd, 1) := by decide +kernel
theorem dL_law_763 : decode cL_law 763 = .ok (.iaload, 1) := by decide +kernel
theorem dL_law_764 : decode cL_law 764 = .ok (.aload_n 0, 1) := by decide +kernel
theorem dL_law_765 : decode cL_law 765 = .ok (.iload_n 3, 1) := by decide +kernel
theorem dL_law_766 : decode cL_law 766 = .ok (.iconst 3, 1) := by decide +kernel
theorem dL_law_767 : decode cL_law 767 = .ok (.iadd, 1) := by decide +kernel
theorem dL_law_768 : decode cL_law 768 = .ok (.iaload, 1) := by decide +kernel
theorem dL_law_769 : decode cL_law 769 = .ok (.invokevirtual 102, 3) := by decide +kernel
theorem dL_law_772 : decode cL_law 772 = .ok (.if_icmp .eq 420, 3) := by decide +kernel
theorem dL_law_775 : decode cL_law 775 = .ok (.iconst 0, 1) := by decide +kernel
theorem dL_law_776 : decode cL_law 776 = .ok (.ireturn, 1) := by decide +kernel
theorem dL_law_777 : decode cL_law 777 = .ok (.aload_n 1, 1) := by decide +kernel
theorem dL_law_778 : decode cL_law 778 = .ok (.aload_n 0, 1) := by decide +kernel
theorem dL_law_779 : decode cL_law 779 = .ok (.iload_n 3, 1) := by decide +kernel
theorem dL_law_780 : decode cL_law 780 = .ok (.iconst 1, 1) := by decide +kernel
theorem dL_law_781 : decode cL_law 781 = .ok (.iadd, 1) := by decide +kernel
theorem dL_law_782 : decode cL_law 782 = .ok (.iaload, 1) := by decide +kernel
theorem dL_law_783 : decode cL_law 783 = .ok (.aload_n 0, 1) := by decide +kernel
theorem dL_law_784 : decode cL_law 784 = .ok (.iload_n 3, 1) := by decide +kernel
theorem dL_law_785 : decode cL_law 785 = .ok (.iconst 2, 1) := by decide +kernel
theorem dL_law_786 : decode cL_law 786 = .ok (.iadd, 1) := by decide +kernel
theorem dL_law_787 : decode cL_law 787 = .ok (.iaload, 1) := by decide +kernel
theorem dL_law_788 : decode cL_law 788 = .ok (.aload_n 0, 1) := by decide +kernel
theorem dL_law_789 : decode cL_law 789 = .ok (.iload_n 3, 1) := by decide +kernel
theorem dL_law_790 : decode cL_law 790 = .ok (.iconst 3, 1) := by decide +kernel
theorem dL_law_791 : decode cL_law 791 = .ok (.iadd, 1) := by decide +kernel
theorem dL_law_792 : decode cL_law 792 = .ok (.iaload, 1) := by decide +kernel
theorem dL_law_793 : decode cL_law 793 = .ok (.invokevirtual 103, 3) := by decide +kernel
theorem dL_law_796 : decode cL_law 796 = .ok (.aload_n 2, 1) := by decide +kernel
theorem dL_law_797 : decode cL_law 797 = .ok (.aload_n 0, 1) := by decide +kernel
theorem dL_law_798 : decode cL_law 798 = .ok (.iload_n 3, 1) := by decide +kernel
theorem dL_law_799 : decode cL_law 799 = .ok (.iconst 1, 1) := by decide +kernel
theorem dL_law_800 : decode cL_law 800 = .ok (.iadd, 1) := by decide +kernel
theorem dL_law_801 : decode cL_law 801 = .ok (.iaload, 1) := by decide +kernel
theorem dL_law_802 : decode cL_law 802 = .ok (.aload_n 0, 1) := by decide +kernel
theorem dL_law_803 : decode cL_law 803 = .ok (.iload_n 3, 1) := by decide +kernel
theorem dL_law_804 : decode cL_law 804 = .ok (.iconst 2, 1) := by decide +kernel
theorem dL_law_805 : decode cL_law 805 = .ok (.iadd, 1) := by decide +kernel
theorem dL_law_806 : decode cL_law 806 = .ok (.iaload, 1) := by decide +kernel
theorem dL_law_807 : decode cL_law 807 = .ok (.aload_n 0, 1) := by decide +kernel
theorem dL_law_808 : decode cL_law 808 = .ok (.iload_n 3, 1) := by decide +kernel
theorem dL_law_809 : decode cL_law 809 = .ok (.iconst 3, 1) := by decide +kernel
theorem dL_law_810 : decode cL_law 810 = .ok (.iadd, 1) := by decide +kernel
theorem dL_law_811 : decode cL_law 811 = .ok (.iaload, 1) := by decide +kernel
theorem dL_law_812 : decode cL_law 812 = .ok (.invokevirtual 106, 3) := by decide +kernel
theorem dL_law_815 : decode cL_law 815 = .ok (.if_icmp .eq 377, 3) := by decide +kernel
theorem dL_law_818 : decode cL_law 818 = .ok (.iconst 0, 1) := by decide +kernel
theorem dL_law_819 : decode cL_law 819 = .ok (.ireturn, 1) := by decide +kernel
theorem dL_law_820 : decode cL_law 820 = .ok (.aload_n 1, 1) := by decide +kernel
theorem dL_law_821 : decode cL_law 821 = .ok (.aload_n 0, 1) := by decide +kernel
theorem dL_law_822 : decode cL_law 822 = .ok (.iload_n 3, 1) := by decide +kernel
theorem dL_law_823 : decode cL_law 823 = .ok (.iconst 1, 1) := by decide +kernel
theorem dL_law_824 : decode cL_law 824 = .ok (.iadd, 1) := by decide +kernel
theorem dL_law_825 : decode cL_law 825 = .ok (.iaload, 1) := by decide +kernel
theorem dL_law_826 : decode cL_law 826 = .ok (.invokevirtual 107, 3) := by decide +kernel
theorem dL_law_829 : decode cL_law 829 = .ok (.aload_n 2, 1) := by decide +kernel
theorem dL_law_830 : decode cL_law 830 = .ok (.aload_n 0, 1) := by decide +kernel
theorem dL_law_831 : decode cL_law 831 = .ok (.iload_n 3, 1) := by decide +kernel
theorem dL_law_832 : decode cL_law 832 = .ok (.iconst 1, 1) := by decide +kernel
theorem dL_law_833 : decode cL_law 833 = .ok (.iadd, 1) := by decide +kernel
theorem dL_law_834 : decode cL_law 834 = .ok (.iaload, 1) := by decide +kernel
theorem dL_law_835 : decode cL_law 835 = .ok (.invokevirtual 110, 3) := by decide +kernel
theorem dL_law_838 : decode cL_law 838 = .ok (.if_icmp .eq 354, 3) := by decide +kernel
theorem dL_law_841 : decode cL_law 841 = .ok (.iconst 0, 1) := by decide +kernel
theorem dL_law_842 : decode cL_law 842 = .ok (.ireturn, 1) := by decide +kernel
theorem dL_law_843 : decode cL_law 843 = .ok (.aload_n 1, 1) := by decide +kernel
theorem dL_law_844 : decode cL_law 844 = .ok (.aload_n 0, 1) := by decide +kernel
theorem dL_law_845 : decode cL_law 845 = .ok (.iload_n 3, 1) := by decide +kernel
theorem dL_law_846 : decode cL_law 846 = .ok (.iconst 1, 1) := by decide +kernel
theorem dL_law_847 : decode cL_law 847 = .ok (.iadd, 1) := by decide +kernel
theorem dL_law_848 : decode cL_law 848 = .ok (.iaload, 1) := by decide +kernel
theorem dL_law_849 : decode cL_law 849 = .ok (.aload_n 0, 1) := by decide +kernel
theorem dL_law_850 : decode cL_law 850 = .ok (.iload_n 3, 1) := by decide +kernel
theorem dL_law_851 : decode cL_law 851 = .ok (.iconst 2, 1) := by decide +kernel
theorem dL_law_852 : decode cL_law 852 = .ok (.iadd, 1) := by decide +kernel
theorem dL_law_853 : decode cL_law 853 = .ok (.iaload, 1) := by decide +kernel
theorem dL_law_854 : decode cL_law 854 = .ok (.invokevirtual 111, 3) := by decide +kernel
theorem dL_law_857 : decode cL_law 857 = .ok (.aload_n 2, 1) := by decide +kernel
theorem dL_law_858 : decode cL_law 858 = .ok (.aload_n 0, 1) := by decide +kernel
theorem dL_law_859 : decode cL_law 859 = .ok (.iload_n 3, 1) := by decide +kernel
theorem dL_law_860 : decode cL_law 860 = .ok (.iconst 1, 1) := by decide +kernel
theorem dL_law_861 : decode cL_law 861 = .ok (.iadd, 1) := by decide +kernel
theorem dL_law_862 : decode cL_law 862 = .ok (.iaload, 1) := by decide +kernel
theorem dL_law_863 : decode cL_law 863 = .ok (.aload_n 0, 1) := by decide +kernel
theorem dL_law_864 : decode cL_law 864 = .ok (.iload_n 3, 1) := by decide +kernel
theorem dL_law_865 : decode cL_law 865 = .ok (.iconst 2, 1) := by decide +kernel
theorem dL_law_866 : decode cL_law 866 = .ok (.iadd, 1) := by decide +kernel
theorem dL_law_867 : decode cL_law 867 = .ok (.iaload, 1) := by decide +kernel
theorem dL_law_868 : decode cL_law 868 = .ok (.invokevirtual 114, 3) := by decide +kernel
theorem dL_law_871 : decode cL_law 871 = .ok (.if_icmp .eq 321, 3) := by decide +kernel
theorem dL_law_874 : decode cL_law 874 = .ok (.iconst 0, 1) := by decide +kernel
theorem dL_law_875 : decode cL_law 875 = .ok (.ireturn, 1) := by decide +kernel
theorem dL_law_876 : decode cL_law 876 = .ok (.aload_n 1, 1) := by decide +kernel
theorem dL_law_877 : decode cL_law 877 = .ok (.aload_n 0, 1) := by decide +kernel
theorem dL_law_878 : decode cL_law 878 = .ok (.iload_n 3, 1) := by decide +kernel
theorem dL_law_879 : decode cL_law 879 = .ok (.iconst 1, 1) := by decide +kernel
theorem dL_law_880 : decode cL_law 880 = .ok (.iadd, 1) := by decide +kernel
theorem dL_law_881 : decode cL_law 881 = .ok (.iaload, 1) := by decide +kernel
theorem dL_law_882 : decode cL_law 882 = .ok (.aload_n 0, 1) := by decide +kernel
theorem dL_law_883 : decode cL_law 883 = .ok (.iload_n 3, 1) := by decide +kernel
theorem dL_law_884 : decode cL_law 884 = .ok (.iconst 2, 1) := by decide +kernel
theorem dL_law_885 : decode cL_law 885 = .ok (.iadd, 1) := by decide +kernel
theorem dL_law_886 : decode cL_law 886 = .ok (.iaload, 1) := by decide +kernel
theorem dL_law_887 : decode cL_law 887 = .ok (.aload_n 0, 1) := by decide +kernel
theorem dL_law_888 : decode cL_law 888 = .ok (.iload_n 3, 1) := by decide +kernel
theorem dL_law_889 : decode cL_law 889 = .ok (.iconst 3, 1) := by decide +kernel
theorem dL_law_890 : decode cL_law 890 = .ok (.iadd, 1) := by decide +kernel
theorem dL_law_891 : decode cL_law 891 = .ok (.iaload, 1) := by decide +kernel
theorem dL_law_892 : decode cL_law 892 = .ok (.invokevirtual 115, 3) := by decide +kernel
theorem dL_law_895 : decode cL_law 895 = .ok (.aload_n 2, 1) := by decide +kernel
theorem dL_law_896 : decode cL_law 896 = .ok (.aload_n 0, 1) := by decide +kernel
theorem dL_law_897 : decode cL_law 897 = .ok (.iload_n 3, 1) := by decide +kernel
theorem dL_law_898 : decode cL_law 898 = .ok (.iconst 1, 1) := by decide +kernel
theorem dL_law_899 : decode cL_law 899 = .ok (.iadd, 1) := by decide +kernel
theorem dL_law_900 : decode cL_law 900 = .ok (.iaload, 1) := by decide +kernel
theorem dL_law_901 : decode cL_law 901 = .ok (.aload_n 0, 1) := by decide +kernel
theorem dL_law_902 : decode cL_law 902 = .ok (.iload_n 3, 1) := by decide +kernel
theorem dL_law_903 : decode cL_law 903 = .ok (.iconst 2, 1) := by decide +kernel
theorem dL_law_904 : decode cL_law 904 = .ok (.iadd, 1) := by decide +kernel
theorem dL_law_905 : decode cL_law 905 = .ok (.iaload, 1) := by decide +kernel
theorem dL_law_906 : decode cL_law 906 = .ok (.aload_n 0, 1) := by decide +kernel
theorem dL_law_907 : decode cL_law 907 = .ok (.iload_n 3, 1) := by decide +kernel
theorem dL_law_908 : decode cL_law 908 = .ok (.iconst 3, 1) := by decide +kernel
theorem dL_law_909 : decode cL_law 909 = .ok (.iadd, 1) := by decide +kernel
theorem dL_law_910 : decode cL_law 910 = .ok (.iaload, 1) := by decide +kernel
theorem dL_law_911 : decode cL_law 911 = .ok (.invokevirtual 118, 3) := by decide +kernel
theorem dL_law_914 : decode cL_law 914 = .ok (.if_icmp .eq 278, 3) := by decide +kernel
theorem dL_law_917 : decode cL_law 917 = .ok (.iconst 0, 1) := by decide +kernel
theorem dL_law_918 : decode cL_law 918 = .ok (.ireturn, 1) := by decide +kernel
theorem dL_law_919 : decode cL_law 919 = .ok (.aload_n 1, 1) := by decide +kernel
theorem dL_law_920 : decode cL_law 920 = .ok (.aload_n 0, 1) := by decide +kernel
theorem dL_law_921 : decode cL_law 921 = .ok (.iload_n 3, 1) := by decide +kernel
theorem dL_law_922 : decode cL_law 922 = .ok (.iconst 1, 1) := by decide +kernel
theorem dL_law_923 : decode cL_law 923 = .ok (.iadd, 1) := by decide +kernel
theorem dL_law_924 : decode cL_law 924 = .ok (.iaload, 1) := by decide +kernel
theorem dL_law_925 : decode cL_law 925 = .ok (.aload_n 0, 1) := by decide +kernel
theorem dL_law_926 : decode cL_law 926 = .ok (.iload_n 3, 1) := by decide +kernel
theorem dL_law_927 : decode cL_law 927 = .ok (.iconst 2, 1) := by decide +kernel
theorem dL_law_928 : decode cL_law 928 = .ok (.iadd, 1) := by decide +kernel
theorem dL_law_929 : decode cL_law 929 = .ok (.iaload, 1) := by decide +kernel
theorem dL_law_930 : decode cL_law 930 = .ok (.aload_n 0, 1) := by decide +kernel
theorem dL_law_931 : decode cL_law 931 = .ok (.iload_n 3, 1) := by decide +kernel
theorem dL_law_932 : decode cL_law 932 = .ok (.iconst 3, 1) := by decide +kernel
theorem dL_law_933 : decode cL_law 933 = .ok (.iadd, 1) := by decide +kernel
theorem dL_law_934 : decode cL_law 934 = .ok (.iaload, 1) := by decide +kernel
theorem dL_law_935 : decode cL_law 935 = .ok (.invokevirtual 119, 3) := by decide +kernel
theorem dL_law_938 : decode cL_law 938 = .ok (.aload_n 2, 1) := by decide +kernel
theorem dL_law_939 : decode cL_law 939 = .ok (.aload_n 0, 1) := by decide +kernel
theorem dL_law_940 : decode cL_law 940 = .ok (.iload_n 3, 1) := by decide +kernel
theorem dL_law_941 : decode cL_law 941 = .ok (.iconst 1, 1) := by decide +kernel
theorem dL_law_942 : decode cL_law 942 = .ok (.iadd, 1) := by decide +kernel
theorem dL_law_943 : decode cL_law 943 = .ok (.iaload, 1) := by decide +kernel
theorem dL_law_944 : decode cL_law 944 = .ok (.aload_n 0, 1) := by decide +kernel
theorem dL_law_945 : decode cL_law 945 = .ok (.iload_n 3, 1) := by decide +kernel
theorem dL_law_946 : decode cL_law 946 = .ok (.iconst 2, 1) := by decide +kernel
theorem dL_law_947 : decode cL_law 947 = .ok (.iadd, 1) := by decide +kernel
theorem dL_law_948 : decode cL_law 948 = .ok (.iaload, 1) := by decide +kernel
theorem dL_law_949 : decode cL_law 949 = .ok (.aload_n 0, 1) := by decide +kernel
theorem dL_law_950 : decode cL_law 950 = .ok (.iload_n 3, 1) := by decide +kernel
theorem dL_law_951 : decode cL_law 951 = .ok (.iconst 3, 1) := by decide +kernel
theorem dL_law_952 : decode cL_law 952 = .ok (.iadd, 1) := by decide +kernel
theorem dL_law_953 : decode cL_law 953 = .ok (.iaload, 1) := by decide +kernel
theorem dL_law_954 : decode cL_law 954 = .ok (.invokevirtual 122, 3) := by decide +kernel
theorem dL_law_957 : decode cL_law 957 = .ok (.if_icmp .eq 235, 3) := by decide +kernel
theorem dL_law_960 : decode cL_law 960 = .ok (.iconst 0, 1) := by decide +kernel
theorem dL_law_961 : decode cL_law 961 = .ok (.ireturn, 1) := by decide +kernel
theorem dL_law_962 : decode cL_law 962 = .ok (.aload_n 1, 1) := by decide +kernel
theorem dL_law_963 : decode cL_law 963 = .ok (.aload_n 0, 1) := by decide +kernel
theorem dL_law_964 : decode cL_law 964 = .ok (.iload_n 3, 1) := by decide +kernel
theorem dL_law_965 : decode cL_law 965 = .ok (.iconst 1, 1) := by decide +kernel
theorem dL_law_966 : decode cL_law 966 = .ok (.iadd, 1) := by decide +kernel
theorem dL_law_967 : decode cL_law 967 = .ok (.iaload, 1) := by decide +kernel
theorem dL_law_968 : decode cL_law 968 = .ok (.aload_n 0, 1) := by decide +kernel
theorem dL_law_969 : decode cL_law 969 = .ok (.iload_n 3, 1) := by decide +kernel
theorem dL_law_970 : decode cL_law 970 = .ok (.iconst 2, 1) := by decide +kernel
theorem dL_law_971 : decode cL_law 971 = .ok (.iadd, 1) := by decide +kernel
theorem dL_law_972 : decode cL_law 972 = .ok (.iaload, 1) := by decide +kernel
theorem dL_law_973 : decode cL_law 973 = .ok (.invokevirtual 123, 3) := by decide +kernel
theorem dL_law_976 : decode cL_law 976 = .ok (.aload_n 2, 1) := by decide +kernel
theorem dL_law_977 : decode cL_law 977 = .ok (.aload_n 0, 1) := by decide +kernel
theorem dL_law_978 : decode cL_law 978 = .ok (.iload_n 3, 1) := by decide +kernel
theorem dL_law_979 : decode cL_law 979 = .ok (.iconst 1, 1) := by decide +kernel
theorem dL_law_980 : decode cL_law 980 = .ok (.iadd, 1) := by decide +kernel
theorem dL_law_981 : decode cL_law 981 = .ok (.iaload, 1) := by decide +kernel
theorem dL_law_982 : decode cL_law 982 = .ok (.aload_n 0, 1) := by decide +kernel
theorem dL_law_983 : decode cL_law 983 = .ok (.iload_n 3, 1) := by decide +kernel
theorem dL_law_984 : decode cL_law 984 = .ok (.iconst 2, 1) := by decide +kernel
theorem dL_law_985 : decode cL_law 985 = .ok (.iadd, 1) := by decide +kernel
theorem dL_law_986 : decode cL_law 986 = .ok (.iaload, 1) := by decide +kernel
theorem dL_law_987 : decode cL_law 987 = .ok (.invokevirtual 126, 3) := by decide +kernel
theorem dL_law_990 : decode cL_law 990 = .ok (.if_icmp .eq 202, 3) := by decide +kernel
theorem dL_law_993 : decode cL_law 993 = .ok (.iconst 0, 1) := by decide +kernel
theorem dL_law_994 : decode cL_law 994 = .ok (.ireturn, 1) := by decide +kernel
theorem dL_law_995 : decode cL_law 995 = .ok (.aload_n 1, 1) := by decide +kernel
theorem dL_law_996 : decode cL_law 996 = .ok (.aload_n 0, 1) := by decide +kernel
theorem dL_law_997 : decode cL_law 997 = .ok (.iload_n 3, 1) := by decide +kernel
theorem dL_law_998 : decode cL_law 998 = .ok (.iconst 1, 1) := by decide +kernel
theorem dL_law_999 : decode cL_law 999 = .ok (.iadd, 1) := by decide +kernel
theorem dL_law_1000 : decode cL_law 1000 = .ok (.iaload, 1) := by decide +kernel
theorem dL_law_1001 : decode cL_law 1001 = .ok (.aload_n 0, 1) := by decide +kernel
theorem dL_law_1002 : decode cL_law 1002 = .ok (.iload_n 3, 1) := by decide +kernel
theorem dL_law_1003 : decode cL_law 1003 = .ok (.iconst 2, 1) := by decide +kernel
theorem dL_law_1004 : decode cL_law 1004 = .ok (.iadd, 1) := by decide +kernel
theorem dL_law_1005 : decode cL_law 1005 = .ok (.iaload, 1) := by decide +kernel
theorem dL_law_1006 : decode cL_law 1006 = .ok (.invokevirtual 127, 3) := by decide +kernel
theorem dL_law_1009 : decode cL_law 1009 = .ok (.aload_n 2, 1) := by decide +kernel
theorem dL_law_1010 : decode cL_law 1010 = .ok (.aload_n 0, 1) := by decide +kernel
theorem dL_law_1011 : decode cL_law 1011 = .ok (.iload_n 3, 1) := by decide +kernel
theorem dL_law_1012 : decode cL_law 1012 = .ok (.iconst 1, 1) := by decide +kernel
theorem dL_law_1013 : decode cL_law 1013 = .ok (.iadd, 1) := by decide +kernel
theorem dL_law_1014 : decode cL_law 1014 = .ok (.iaload, 1) := by decide +kernel
theorem dL_law_1015 : decode cL_law 1015 = .ok (.aload_n 0, 1) := by decide +kernel
theorem dL_law_1016 : decode cL_law 1016 = .ok (.iload_n 3, 1) := by decide +kernel
theorem dL_law_1017 : decode cL_law 1017 = .ok (.iconst 2, 1) := by decide +kernel
theorem dL_law_1018 : decode cL_law 1018 = .ok (.iadd, 1) := by decide +kernel
theorem dL_law_1019 : decode cL_law 1019 = .ok (.iaload, 1) := by decide +kernel
theorem dL_law_1020 : decode cL_law 1020 = .ok (.invokevirtual 130, 3) := by decide +kernel
theorem dL_law_1023 : decode cL_law 1023 = .ok (.if_icmp .eq 169, 3) := by decide +kernel
theorem dL_law_1026 : decode cL_law 1026 = .ok (.iconst 0, 1) := by decide +kernel
theorem dL_law_1027 : decode cL_law 1027 = .ok (.ireturn, 1) := by decide +kernel
theorem dL_law_1028 : decode cL_law 1028 = .ok (.aload_n 1, 1) := by decide +kernel
theorem dL_law_1029 : decode cL_law 1029 = .ok (.aload_n 0, 1) := by decide +kernel
theorem dL_law_1030 : decode cL_law 1030 = .ok (.iload_n 3, 1) := by decide +kernel
theorem dL_law_1031 : decode cL_law 1031 = .ok (.iconst 1, 1) := by decide +kernel
theorem dL_law_1032 : decode cL_law 1032 = .ok (.iadd, 1) := by decide +kernel
theorem dL_law_1033 : decode cL_law 1033 = .ok (.iaload, 1) := by decide +kernel
theorem dL_law_1034 : decode cL_law 1034 = .ok (.invokevirtual 131, 3) := by decide +kernel
theorem dL_law_1037 : decode cL_law 1037 = .ok (.aload_n 2, 1) := by decide +kernel
theorem dL_law_1038 : decode cL_law 1038 = .ok (.aload_n 0, 1) := by decide +kernel
theorem dL_law_1039 : decode cL_law 1039 = .ok (.iload_n 3, 1) := by decide +kernel
theorem dL_law_1040 : decode cL_law 1040 = .ok (.iconst 1, 1) := by decide +kernel
theorem dL_law_1041 : decode cL_law 1041 = .ok (.iadd, 1) := by decide +kernel
theorem dL_law_1042 : decode cL_law 1042 = .ok (.iaload, 1) := by decide +kernel
theorem dL_law_1043 : decode cL_law 1043 = .ok (.invokevirtual 134, 3) := by decide +kernel
theorem dL_law_1046 : decode cL_law 1046 = .ok (.if_icmp .eq 146, 3) := by decide +kernel
theorem dL_law_1049 : decode cL_law 1049 = .ok (.iconst 0, 1) := by decide +kernel
theorem dL_law_1050 : decode cL_law 1050 = .ok (.ireturn, 1) := by decide +kernel
theorem dL_law_1051 : decode cL_law 1051 = .ok (.aload_n 1, 1) := by decide +kernel
theorem dL_law_1052 : decode cL_law 1052 = .ok (.invokevirtual 135, 3) := by decide +kernel
theorem dL_law_1055 : decode cL_law 1055 = .ok (.aload_n 2, 1) := by decide +kernel
theorem dL_law_1056 : decode cL_law 1056 = .ok (.invokevirtual 138, 3) := by decide +kernel
theorem dL_law_1059 : decode cL_law 1059 = .ok (.if_icmp .eq 133, 3) := by decide +kernel
theorem dL_law_1062 : decode cL_law 1062 = .ok (.iconst 0, 1) := by decide +kernel
theorem dL_law_1063 : decode cL_law 1063 = .ok (.ireturn, 1) := by decide +kernel
theorem dL_law_1064 : decode cL_law 1064 = .ok (.aload_n 1, 1) := by decide +kernel
theorem dL_law_1065 : decode cL_law 1065 = .ok (.aload_n 0, 1) := by decide +kernel
theorem dL_law_1066 : decode cL_law 1066 = .ok (.iload_n 3, 1) := by decide +kernel
theorem dL_law_1067 : decode cL_law 1067 = .ok (.iconst 1, 1) := by decide +kernel
theorem dL_law_1068 : decode cL_law 1068 = .ok (.iadd, 1) := by decide +kernel
theorem dL_law_1069 : decode cL_law 1069 = .ok (.iaload, 1) := by decide +kernel
theorem dL_law_1070 : decode cL_law 1070 = .ok (.aload_n 0, 1) := by decide +kernel
theorem dL_law_1071 : decode cL_law 1071 = .ok (.iload_n 3, 1) := by decide +kernel
theorem dL_law_1072 : decode cL_law 1072 = .ok (.iconst 2, 1) := by decide +kernel
theorem dL_law_1073 : decode cL_law 1073 = .ok (.iadd, 1) := by decide +kernel
theorem dL_law_1074 : decode cL_law 1074 = .ok (.iaload, 1) := by decide +kernel
theorem dL_law_1075 : decode cL_law 1075 = .ok (.invokevirtual 139, 3) := by decide +kernel
theorem dL_law_1078 : decode cL_law 1078 = .ok (.aload_n 2, 1) := by decide +kernel
theorem dL_law_1079 : decode cL_law 1079 = .ok (.aload_n 0, 1) := by decide +kernel
theorem dL_law_1080 : decode cL_law 1080 = .ok (.iload_n 3, 1) := by decide +kernel
theorem dL_law_1081 : decode cL_law 1081 = .ok (.iconst 1, 1) := by decide +kernel
theorem dL_law_1082 : decode cL_law 1082 = .ok (.iadd, 1) := by decide +kernel
theorem dL_law_1083 : decode cL_law 1083 = .ok (.iaload, 1) := by decide +kernel
theorem dL_law_1084 : decode cL_law 1084 = .ok (.aload_n 0, 1) := by decide +kernel
theorem dL_law_1085 : decode cL_law 1085 = .ok (.iload_n 3, 1) := by decide +kernel
theorem dL_law_1086 : decode cL_law 1086 = .ok (.iconst 2, 1) := by decide +kernel
theorem dL_law_1087 : decode cL_law 1087 = .ok (.iadd, 1) := by decide +kernel
theorem dL_law_1088 : decode cL_law 1088 = .ok (.iaload, 1) := by decide +kernel
theorem dL_law_1089 : decode cL_law 1089 = .ok (.invokevirtual 142, 3) := by decide +kernel
theorem dL_law_1092 : decode cL_law 1092 = .ok (.if_icmp .eq 100, 3) := by decide +kernel
theorem dL_law_1095 : decode cL_law 1095 = .ok (.iconst 0, 1) := by decide +kernel
theorem dL_law_1096 : decode cL_law 1096 = .ok (.ireturn, 1) := by decide +kernel
theorem dL_law_1097 : decode cL_law 1097 = .ok (.aload_n 1, 1) := by decide +kernel
theorem dL_law_1098 : decode cL_law 1098 = .ok (.invokevirtual 143, 3) := by decide +kernel
theorem dL_law_1101 : decode cL_law 1101 = .ok (.aload_n 2, 1) := by decide +kernel
theorem dL_law_1102 : decode cL_law 1102 = .ok (.invokevirtual 146, 3) := by decide +kernel
theorem dL_law_1105 : decode cL_law 1105 = .ok (.if_icmp .eq 87, 3) := by decide +kernel
theorem dL_law_1108 : decode cL_law 1108 = .ok (.iconst 0, 1) := by decide +kernel
theorem dL_law_1109 : decode cL_law 1109 = .ok (.ireturn, 1) := by decide +kernel
theorem dL_law_1110 : decode cL_law 1110 = .ok (.aload_n 1, 1) := by decide +kernel
theorem dL_law_1111 : decode cL_law 1111 = .ok (.invokevirtual 147, 3) := by decide +kernel
theorem dL_law_1114 : decode cL_law 1114 = .ok (.aload_n 2, 1) := by decide +kernel
theorem dL_law_1115 : decode cL_law 1115 = .ok (.invokevirtual 150, 3) := by decide +kernel
theorem dL_law_1118 : decode cL_law 1118 = .ok (.if_icmp .eq 74, 3) := by decide +kernel
theorem dL_law_1121 : decode cL_law 1121 = .ok (.iconst 0, 1) := by decide +kernel
theorem dL_law_1122 : decode cL_law 1122 = .ok (.ireturn, 1) := by decide +kernel
theorem dL_law_1123 : decode cL_law 1123 = .ok (.aload_n 1, 1) := by decide +kernel
theorem dL_law_1124 : decode cL_law 1124 = .ok (.aload_n 0, 1) := by decide +kernel
theorem dL_law_1125 : decode cL_law 1125 = .ok (.iload_n 3, 1) := by decide +kernel
theorem dL_law_1126 : decode cL_law 1126 = .ok (.iconst 1, 1) := by decide +kernel
theorem dL_law_1127 : decode cL_law 1127 = .ok (.iadd, 1) := by decide +kernel
theorem dL_law_1128 : decode cL_law 1128 = .ok (.iaload, 1) := by decide +kernel
theorem dL_law_1129 : decode cL_law 1129 = .ok (.invokevirtual 151, 3) := by decide +kernel
theorem dL_law_1132 : decode cL_law 1132 = .ok (.aload_n 2, 1) := by decide +kernel
theorem dL_law_1133 : decode cL_law 1133 = .ok (.aload_n 0, 1) := by decide +kernel
theorem dL_law_1134 : decode cL_law 1134 = .ok (.iload_n 3, 1) := by decide +kernel
theorem dL_law_1135 : decode cL_law 1135 = .ok (.iconst 1, 1) := by decide +kernel
theorem dL_law_1136 : decode cL_law 1136 = .ok (.iadd, 1) := by decide +kernel
theorem dL_law_1137 : decode cL_law 1137 = .ok (.iaload, 1) := by decide +kernel
theorem dL_law_1138 : decode cL_law 1138 = .ok (.invokevirtual 154, 3) := by decide +kernel
theorem dL_law_1141 : decode cL_law 1141 = .ok (.if_icmp .eq 51, 3) := by decide +kernel
theorem dL_law_1144 : decode cL_law 1144 = .ok (.iconst 0, 1) := by decide +kernel
theorem dL_law_1145 : decode cL_law 1145 = .ok (.ireturn, 1) := by decide +kernel
theorem dL_law_1146 : decode cL_law 1146 = .ok (.aload_n 1, 1) := by decide +kernel
theorem dL_law_1147 : decode cL_law 1147 = .ok (.aload_n 0, 1) := by decide +kernel
theorem dL_law_1148 : decode cL_law 1148 = .ok (.iload_n 3, 1) := by decide +kernel
theorem dL_law_1149 : decode cL_law 1149 = .ok (.iconst 1, 1) := by decide +kernel
theorem dL_law_1150 : decode cL_law 1150 = .ok (.iadd, 1) := by decide +kernel
theorem dL_law_1151 : decode cL_law 1151 = .ok (.iaload, 1) := by decide +kernel
theorem dL_law_1152 : decode cL_law 1152 = .ok (.invokevirtual 155, 3) := by decide +kernel
theorem dL_law_1155 : decode cL_law 1155 = .ok (.aload_n 2, 1) := by decide +kernel
theorem dL_law_1156 : decode cL_law 1156 = .ok (.aload_n 0, 1) := by decide +kernel
theorem dL_law_1157 : decode cL_law 1157 = .ok (.iload_n 3, 1) := by decide +kernel
theorem dL_law_1158 : decode cL_law 1158 = .ok (.iconst 1, 1) := by decide +kernel
theorem dL_law_1159 : decode cL_law 1159 = .ok (.iadd, 1) := by decide +kernel
theorem dL_law_1160 : decode cL_law 1160 = .ok (.iaload, 1) := by decide +kernel
theorem dL_law_1161 : decode cL_law 1161 = .ok (.invokevirtual 158, 3) := by decide +kernel
theorem dL_law_1164 : decode cL_law 1164 = .ok (.if_icmp .eq 28, 3) := by decide +kernel
theorem dL_law_1167 : decode cL_law 1167 = .ok (.iconst 0, 1) := by decide +kernel
theorem dL_law_1168 : decode cL_law 1168 = .ok (.ireturn, 1) := by decide +kernel
theorem dL_law_1169 : decode cL_law 1169 = .ok (.aload_n 1, 1) := by decide +kernel
theorem dL_law_1170 : decode cL_law 1170 = .ok (.aload_n 0, 1) := by decide +kernel
theorem dL_law_1171 : decode cL_law 1171 = .ok (.iload_n 3, 1) := by decide +kernel
theorem dL_law_1172 : decode cL_law 1172 = .ok (.iconst 1, 1) := by decide +kernel
theorem dL_law_1173 : decode cL_law 1173 = .ok (.iadd, 1) := by decide +kernel
theorem dL_law_1174 : decode cL_law 1174 = .ok (.iaload, 1) := by decide +kernel
theorem dL_law_1175 : decode cL_law 1175 = .ok (.invokevirtual 159, 3) := by decide +kernel
theorem dL_law_1178 : decode cL_law 1178 = .ok (.aload_n 2, 1) := by decide +kernel
theorem dL_law_1179 : decode cL_law 1179 = .ok (.aload_n 0, 1) := by decide +kernel
theorem dL_law_1180 : decode cL_law 1180 = .ok (.iload_n 3, 1) := by decide +kernel
theorem dL_law_1181 : decode cL_law 1181 = .ok (.iconst 1, 1) := by decide +kernel
theorem dL_law_1182 : decode cL_law 1182 = .ok (.iadd, 1) := by decide +kernel
theorem dL_law_1183 : decode cL_law 1183 = .ok (.iaload, 1) := by decide +kernel
theorem dL_law_1184 : decode cL_law 1184 = .ok (.invokevirtual 162, 3) := by decide +kernel
theorem dL_law_1187 : decode cL_law 1187 = .ok (.if_icmp .eq 5, 3) := by decide +kernel
theorem dL_law_1190 : decode cL_law 1190 = .ok (.iconst 0, 1) := by decide +kernel
theorem dL_law_1191 : decode cL_law 1191 = .ok (.ireturn, 1) := by decide +kernel
theorem dL_law_1192 : decode cL_law 1192 = .ok (.iinc 3 4, 3) := by decide +kernel
theorem dL_law_1195 : decode cL_law 1195 = .ok (.goto (-1177), 3) := by decide +kernel
theorem dL_law_1198 : decode cL_law 1198 = .ok (.iconst 1, 1) := by decide +kernel
theorem dL_law_1199 : decode cL_law 1199 = .ok (.ireturn, 1) := by decide +kernel
end
section
/-! The abstract memory: a whole number at (cell, place); which cells there are, and of what kind, is fixed (sh). -/
abbrev MM : Type := Nat → Nat → Int32
def up2 (μ : MM) (r k : Nat) (v : Int32) : MM := fun r' k' => if r' = r ∧ k' = k then v else μ r' k'
abbrev Sh : Type := (Nat × List (Option Nat)) ⊕ ((Nat × Nat) ⊕ List Nat)
abbrev GT : Type := (Nat → Nat) × va_G × (ClassId × ClassId × ClassId) × Launch
abbrev MI : Type := String × ByteArray × Nat × Option FieldType × MethodName
def fsDale (r : Nat) : List (Option Nat) := [none, none, none, some (r + 1), some (r + 2), some (r + 3), some (r + 4)]
def fsWorld (r : Nat) : List (Option Nat) := [none, none, none, none, none, none, none, none, some (r + 1), some (r + 2), some (r + 3), some (r + 4), some (r + 5)]
def shW (r k : Nat) : Sh := match k with
  | 0 => .inl (5, fsWorld r)
  | 1 => .inr (.inl (0, 48))
  | 2 => .inr (.inl (0, 80))
  | _ => .inr (.inl (0, 9))
def shS (k : Nat) : Sh := match k with
  | 0 => .inl (6, [some 1, some 3, some 8, some 24, some 30, some 13, some 15, some 16, none, none, some 17, some 21])
  | 1 => .inl (4, [some 2, none, none, none, none])
  | 2 => .inr (.inl (0, 240))
  | 3 => .inl (1, fsDale 3)
  | 8 => .inl (1, fsDale 8)
  | 13 => .inl (3, [some 14, none, none])
  | 14 => .inr (.inr [48, 54, 60, 66, 72, 78, 84, 90, 96, 102, 108, 114, 120, 126, 132, 138])
  | 15 => .inr (.inr [36, 42])
  | 16 => .inr (.inl (0, 2))
  | 17 => .inl (2, [some 18, some 19, some 20, none])
  | 18 => .inr (.inl (0, 6))
  | 19 => .inr (.inl (0, 6))
  | 20 => .inr (.inl (0, 9))
  | 21 => .inl (0, [some 22, some 23, none])
  | 22 => .inr (.inl (0, 15))
  | 23 => .inr (.inl (0, 15))
  | _ => .inr (.inl (0, 9))
def shM (k : Nat) : Sh := match k with
  | 0 => .inl (7, [none, none, none, some 145, some 146, some 147, some 148, some 149, none, some 150, none, none, none, none, none, none, none, none, some 151, some 152, some 153, some 154, some 155, some 156, none, some 157, some 158, none, some 159, some 160, some 161, none, some 162, some 163, some 164, some 165])
  | 1 => .inr (.inl (0, 9))
  | 2 => .inr (.inl (0, 9))
  | 3 => .inr (.inl (0, 9))
  | 4 => .inr (.inl (0, 9))
  | 5 => .inr (.inl (0, 66))
  | 6 => .inr (.inl (0, 240))
  | 7 => .inr (.inl (0, 9))
  | 8 => .inr (.inl (0, 9))
  | 9 => .inr (.inl (0, 9))
  | 10 => .inr (.inl (0, 9))
  | 11 => .inr (.inl (0, 9))
  | 12 => .inr (.inl (1, 9))
  | 13 => .inr (.inl (0, 1056))
  | 14 => .inr (.inl (0, 66))
  | 15 => .inr (.inl (0, 6))
  | 16 => .inr (.inl (0, 6))
  | 17 => .inr (.inl (0, 10))
  | 18 => .inr (.inl (0, 15))
  | 19 => .inr (.inl (0, 15))
  | 20 => .inr (.inl (0, 134))
  | _ => .inr (.inl (1, 2))
def NC : Nat := 166
def sh (k : Nat) : Sh := if k < 24 then shS k else if k < 144 then shW (24 + 6 * ((k - 24) / 6)) ((k - 24) % 6) else shM (k - 144)


def wG : List Cond := lw_tbl.filter goodWord
def nestW : List Cond := tables_1.filter (fun w => match w with | .methodLinkNest .. => true | _ => false)
def tysG (g : GT) : List (ClassId × FieldType) := [(g.2.2.1.1, .int), (g.2.2.1.2.1, .boolean), (g.2.2.1.2.2, .object "BeckTalk$World")]
def cv (g : GT) : Value → Value
  | .ref k => .ref (g.1 k)
  | v => v
def eF (g : GT) (μ : MM) (r : Nat) : Nat → List (Option Nat) → List Value
  | _, [] => []
  | j, none :: fs => .int (μ r j) :: eF g μ r (j + 1) fs
  | j, some q :: fs => .ref (g.1 q) :: eF g μ r (j + 1) fs
def eC' (g : GT) (μ : MM) (k : Nat) (s : Sh) : va_E := match s with
  | .inl (ci, fs) => .inr (ci, eF g μ k 0 fs)
  | .inr (.inl (t, n)) => .inl ((if t = 0 then g.2.2.1.1 else g.2.2.1.2.1), n, .inl (μ k))
  | .inr (.inr qs) => .inl (g.2.2.1.2.2, qs.length, .inr (.inr (.inr (.inr (fun i => (qs[i]?).map g.1)))))
def eC (g : GT) (μ : MM) (k : Nat) : va_E := eC' g μ k (sh k)
def eW (g : GT) (μ : MM) : va_W := (List.range NC).map fun k => (g.1 k, eC g μ k)
def inA (g : GT) : Nat → Prop := fun q => ∃ k, k < NC ∧ q = g.1 k
def INJ (g : GT) : Prop := ∀ i j, i < NC → j < NC → g.1 i = g.1 j → i = j
def SK (g : GT) (U : State) : Prop := va_K g.2.1 vwCl (tysG g) U ∧ ∀ w ∈ nestW, va_Nw w U
def VP (g : GT) (μ : MM) (H : Heap) : Prop := va_P g.2.1 vwCl (eW g μ) H
def rmD (d : Nat) : Room := { frames := d, cells := 0, slots := 0, locals := 36 * d }
def QcA (g : GT) (Q : Option Value → MM → Prop) : Array Value → State → Outcome → State → Prop := fun _ st oc t => (∃ (rv : Option Value) (μ' : MM), oc = .returned (rv.map (cv g)) ∧ Q rv μ' ∧ VP g μ' t.heap ∧ SK g t) ∧ va_F (inA g) st t
def Ct (g : GT) (d : Nat) (mi : MI) (as : List Value) (μ : MM) (Q : Option Value → MM → Prop) : Prop :=
  Met g.2.2.2 mi.2.2.2.2 (.code mi.2.2.2.2 mi.2.1 mi.2.2.1 mi.2.2.2.1 :: wG) (rmD d) (va_Pc (as.map (cv g)) (fun U => VP g μ U.heap ∧ SK g U)) (QcA g Q) 0 0 (inA g)
def AtM (g : GT) (mi : MI) (p : Program) (s : State) (m : MethodId) (args : Array Value) (meth : Method) (c : Code) : Prop :=
  p.tables.exec = Jvm.exec ∧ c.code = mi.2.1 ∧ c.maxLocals = mi.2.2.1 ∧ s.vm.findClass mi.1 = some m.cls ∧ (∀ w ∈ wG, w.before args s = true) ∧ SK g s ∧ INJ g ∧ meth.sig.returnType = mi.2.2.2.1 ∧ meth.locks = false
def lsC (g : GT) : Nat → List (Option Value) → List (Nat × Value)
  | _, [] => []
  | i, none :: r => lsC g (i + 1) r
  | i, some v :: r => (i, cv g v) :: lsC g (i + 1) r
def WA (g : GT) (d : Nat) (mi : MI) (pc : Nat) (ls : List (Option Value)) (st : List Value) (μ : MM) (Q : Option Value → MM → Prop) : Prop :=
  ∀ (p : Program) (e : Env) (s : State) (m : MethodId) (args : Array Value) (below : List Frame) (meth : Method) (c : Code) (H : Heap) (locs : List Loc) (lsA : Array Slot),
    AtM g mi p s m args meth c → VP g μ H → va_S (inA g) s.heap H locs → lv_has lsA mi.2.2.1 (lsC g 0 ls) →
    W p g.2.2.2 e (rmD d) s m args below meth c H locs 0 0 (MQ below (QcA g Q) args s 0 0 (inA g)) (F0 m pc lsA (st.map (cv g)))
/-! plain facts of these words -/
theorem eW_get (g : GT) (μ : MM) {k : Nat} (h : k < NC) : (eW g μ)[k]? = some (g.1 k, eC g μ k) := by
  simp [eW, List.getElem?_map, List.getElem?_range h]
theorem eW_D {g : GT} (hi : INJ g) (μ : MM) : va_D (inA g) (eW g μ) := by
  have key : ∀ (k : Nat) (q : Nat × va_E), (eW g μ)[k]? = some q → k < NC ∧ q.1 = g.1 k := by
    intro k q h
    have hk : k < NC := by
      have := (List.getElem?_eq_some_iff.mp h).1
      simpa [eW] using this
    rw [eW_get g μ hk] at h
    exact ⟨hk, by rw [← Option.some.inj h]⟩
  refine ⟨fun i j p q hp hq hpq => ?_, fun k q h => ?_⟩
  · obtain ⟨h1, h2⟩ := key i p hp
    obtain ⟨h3, h4⟩ := key j q hq
    exact hi i j h1 h3 (by rw [← h2, ← h4]; exact hpq)
  · obtain ⟨h1, h2⟩ := key k q h
    exact ⟨k, h1, h2⟩
theorem eF_get (g : GT) (μ : MM) (r : Nat) : ∀ (fs : List (Option Nat)) (j k : Nat), (eF g μ r j fs)[k]? = (fs[k]?).map (fun f => match f with | none => Value.int (μ r (j + k)) | some q => .ref (g.1 q))
  | [], j, k => by simp [eF]
  | f :: fs, j, 0 => by cases f <;> simp [eF]
  | f :: fs, j, k + 1 => by
    cases f
    · simp only [eF, List.getElem?_cons_succ]
      rw [eF_get g μ r fs (j + 1) k]
      rw [show j + 1 + k = j + (k + 1) by omega]
    · simp only [eF, List.getElem?_cons_succ]
      rw [eF_get g μ r fs (j + 1) k]
      rw [show j + 1 + k = j + (k + 1) by omega]
theorem eF_len (g : GT) (μ : MM) (r : Nat) : ∀ (fs : List (Option Nat)) (j : Nat), (eF g μ r j fs).length = fs.length
  | [], j => rfl
  | none :: fs, j => by simp [eF, eF_len g μ r fs (j + 1)]
  | some q :: fs, j => by simp [eF, eF_len g μ r fs (j + 1)]
theorem eF_up (g : GT) (μ : MM) (r k : Nat) (v : Int32) (fs : List (Option Nat)) (hk : fs[k]? = some none) : eF g (up2 μ r k v) r 0 fs = (eF g μ r 0 fs).set k (.int v) := by
  apply List.ext_getElem?
  intro i
  rw [List.getElem?_set, eF_get, eF_get, eF_len]
  have hkl : k < fs.length := (List.getElem?_eq_some_iff.mp hk).1
  by_cases h : k = i
  · subst h
    rw [if_pos rfl, if_pos hkl, hk]
    simp [up2]
  · rw [if_neg h]
    cases fs[i]? with
    | none => rfl
    | some f =>
      cases f with
      | none => simp [up2, Ne.symm h]
      | some q => rfl
theorem eF_off (g : GT) (μ : MM) (r r' k : Nat) (v : Int32) (h : r' ≠ r) : ∀ (fs : List (Option Nat)) (j : Nat), eF g (up2 μ r k v) r' j fs = eF g μ r' j fs
  | [], j => rfl
  | none :: fs, j => by simp [eF, eF_off g μ r r' k v h fs (j + 1), up2, h]
  | some q :: fs, j => by simp [eF, eF_off g μ r r' k v h fs (j + 1)]
theorem eC_off (g : GT) (μ : MM) (r r' k : Nat) (v : Int32) (h : r' ≠ r) : eC g (up2 μ r k v) r' = eC g μ r' := by
  unfold eC
  rcases sh r' with ⟨ci, fs⟩ | ⟨t, n⟩ | qs
  · simp only [eC']; rw [eF_off g μ r r' k v h]
  · simp only [eC']
    have : up2 μ r k v r' = μ r' := by funext x; simp [up2, h]
    rw [this]
  · rfl
theorem eW_set {g : GT} {μ : MM} {r k : Nat} {v : Int32} {x : va_E} (hr : r < NC) (h : eC g (up2 μ r k v) r = x) : (eW g μ).set r (g.1 r, x) = eW g (up2 μ r k v) := by
  apply List.ext_getElem?
  intro i
  rw [List.getElem?_set]
  have hl : (eW g μ).length = NC := by simp [eW]
  by_cases hi : r = i
  · subst hi
    rw [if_pos rfl, if_pos (by rw [hl]; exact hr), eW_get _ _ hr, h]
  · rw [if_neg hi]
    by_cases hin : i < NC
    · rw [eW_get _ _ hin, eW_get _ _ hin, eC_off _ _ _ _ _ _ (Ne.symm hi)]
    · rw [List.getElem?_eq_none (by rw [hl]; omega), List.getElem?_eq_none (by simp [eW]; omega)]
theorem SK.moved {g : GT} {s U : State} (hW : s.WarmedH U.vm) (h : SK g s) : SK g U := by
  refine ⟨va_K.moved hW.alike h.1, fun w hw => ?_⟩
  have h1 := h.2 w hw
  have h2 := (List.mem_filter.mp hw).2
  cases w with
  | methodLinkNest a i x b => exact va_Nw.warmM hW h1
  | _ => exact absurd h2 (by simp)
theorem lsC_mem (g : GT) : ∀ (ls : List (Option Value)) (i k : Nat) (v : Value), ls[k]? = some (some v) → (i + k, cv g v) ∈ lsC g i ls
  | [], i, k, v, h => by simp at h
  | none :: r, i, 0, v, h => by simp at h
  | none :: r, i, k + 1, v, h => by
    have := lsC_mem g r (i + 1) k v (by simpa using h)
    rw [show i + (k + 1) = i + 1 + k by omega]
    simpa [lsC] using this
  | some u :: r, i, 0, v, h => by
    have e : u = v := by simpa using h
    subst e
    simp [lsC]
  | some u :: r, i, k + 1, v, h => by
    have := lsC_mem g r (i + 1) k v (by simpa using h)
    rw [show i + (k + 1) = i + 1 + k by omega]
    simp only [lsC]
    exact List.mem_cons_of_mem _ this
theorem lsC_inv (g : GT) : ∀ (ls : List (Option Value)) (i : Nat) (q : Nat × Value), q ∈ lsC g i ls → ∃ (k : Nat) (v : Value), ls[k]? = some (some v) ∧ q = (i + k, cv g v)
  | [], i, q, h => by simp [lsC] at h
  | none :: r, i, q, h => by
    obtain ⟨k, v, h1, h2⟩ := lsC_inv g r (i + 1) q (by simpa [lsC] using h)
    exact ⟨k + 1, v, by simpa using h1, by rw [h2, show i + (k + 1) = i + 1 + k by omega]⟩
  | some u :: r, i, q, h => by
    rcases List.mem_cons.mp (by simpa only [lsC] using h) with h | h
    · exact ⟨0, u, rfl, h⟩
    · obtain ⟨k, v, h1, h2⟩ := lsC_inv g r (i + 1) q h
      exact ⟨k + 1, v, by simpa using h1, by rw [h2, show i + (k + 1) = i + 1 + k by omega]⟩
theorem lv_has.le {ls : Array Slot} {n : Nat} {l l' : List (Nat × Value)} (h : lv_has ls n l) (hs : ∀ q ∈ l', q ∈ l) : lv_has ls n l' := ⟨h.1, h.2.1, fun q hq => h.2.2 q (hs q hq)⟩
theorem cv_cat (g : GT) (v : Value) : (cv g v).category = v.category := by cases v <;> rfl
theorem cv_sum (g : GT) : ∀ st : List Value, ((st.map (cv g)).map fun v => v.category).sum = (st.map fun v => v.category).sum
  | [] => rfl
  | v :: r => by
    have := cv_sum g r
    simp only [List.map_cons, List.sum_cons, cv_cat, this]
def nl : Option Value → Bool
  | some v => v.category == 1
  | none => true
theorem nl_prev {x : Option Value} {u : Value} (hq : nl x = true) (e : x = some u) : u.category = 1 := by rw [e] at hq; exact eq_of_beq hq
theorem lsC_st1 {g : GT} {ls : List (Option Value)} {k : Nat} {v : Value} (hk : k < ls.length) (hp : ∀ j, j + 1 = k → ∀ u, ls[j]? = some (some u) → u.category = 1) : ∀ q ∈ lsC g 0 (ls.set k (some v)), q ∈ (k, cv g v) :: (lsC g 0 ls).filter (fun q => !(q.1 == k) && !(q.1 + 1 == k && q.2.category == 2)) := by
  intro q hq
  obtain ⟨i, u, h1, h2⟩ := lsC_inv g _ 0 q hq
  rw [Nat.zero_add] at h2
  rw [List.getElem?_set] at h1
  by_cases h : k = i
  · subst h
    rw [if_pos rfl, if_pos hk] at h1
    have e : v = u := Option.some.inj (Option.some.inj h1)
    rw [h2, ← e]
    exact List.mem_cons_self
  · rw [if_neg h] at h1
    refine List.mem_cons_of_mem _ (List.mem_filter.mpr ⟨?_, ?_⟩)
    · rw [h2]; have := lsC_mem g ls 0 i u h1; rwa [Nat.zero_add] at this
    · rw [h2]
      have h3 : ¬ (i = k) := fun e => h e.symm
      by_cases h4 : i + 1 = k
      · have := hp i h4 u h1
        simp [h3, cv_cat, this]
      · simp [h3, h4]
theorem lsC_st2 {g : GT} {ls : List (Option Value)} {k : Nat} {v : Value} (hk : k + 1 < ls.length) (hp : ∀ j, j + 1 = k → ∀ u, ls[j]? = some (some u) → u.category = 1) : ∀ q ∈ lsC g 0 ((ls.set k (some v)).set (k + 1) none), q ∈ (k, cv g v) :: (lsC g 0 ls).filter (fun q => !(q.1 == k) && (!(q.1 == k + 1) && !(q.1 + 1 == k && q.2.category == 2))) := by
  intro q hq
  obtain ⟨i, u, h1, h2⟩ := lsC_inv g _ 0 q hq
  rw [Nat.zero_add] at h2
  rw [List.getElem?_set] at h1
  by_cases h9 : k + 1 = i
  · subst h9
    rw [if_pos rfl] at h1
    simp at h1
  · rw [if_neg h9, List.getElem?_set] at h1
    by_cases h : k = i
    · subst h
      rw [if_pos rfl, if_pos (by omega)] at h1
      have e : v = u := Option.some.inj (Option.some.inj h1)
      rw [h2, ← e]
      exact List.mem_cons_self
    · rw [if_neg h] at h1
      refine List.mem_cons_of_mem _ (List.mem_filter.mpr ⟨?_, ?_⟩)
      · rw [h2]; have := lsC_mem g ls 0 i u h1; rwa [Nat.zero_add] at this
      · rw [h2]
        have h3 : ¬ (i = k) := fun e => h e.symm
        have h5 : ¬ (i = k + 1) := fun e => h9 e.symm
        by_cases h4 : i + 1 = k
        · have := hp i h4 u h1
          simp [h3, h5, cv_cat, this]
        · simp [h3, h4, h5]

section AROWS
variable {g : GT} {d : Nat} {mi : MI} {pc : Nat} {ls : List (Option Value)} {st : List Value} {μ : MM} {Q : Option Value → MM → Prop}
theorem a_iadd {x y : Int32} (hd : decode mi.2.1 pc = .ok (.iadd, 1)) (k : WA g d mi (pc + 1) ls (.int (x + y) :: st) μ Q) : WA g d mi pc ls (.int y :: .int x :: st) μ Q := by
  intro p e s m args below meth c H locs lsA A hP hS hl
  exact lv_iadd A.1 A.2.1 hd (k p e s m args below meth c H locs lsA A hP hS hl)
theorem a_isub {x y : Int32} (hd : decode mi.2.1 pc = .ok (.isub, 1)) (k : WA g d mi (pc + 1) ls (.int (x - y) :: st) μ Q) : WA g d mi pc ls (.int y :: .int x :: st) μ Q := by
  intro p e s m args below meth c H locs lsA A hP hS hl
  exact lv_isub A.1 A.2.1 hd (k p e s m args below meth c H locs lsA A hP hS hl)
theorem a_imul {x y : Int32} (hd : decode mi.2.1 pc = .ok (.imul, 1)) (k : WA g d mi (pc + 1) ls (.int (x * y) :: st) μ Q) : WA g d mi pc ls (.int y :: .int x :: st) μ Q := by
  intro p e s m args below meth c H locs lsA A hP hS hl
  exact lv_imul A.1 A.2.1 hd (k p e s m args below meth c H locs lsA A hP hS hl)
theorem a_iand {x y : Int32} (hd : decode mi.2.1 pc = .ok (.iand, 1)) (k : WA g d mi (pc + 1) ls (.int (x &&& y) :: st) μ Q) : WA g d mi pc ls (.int y :: .int x :: st) μ Q := by
  intro p e s m args below meth c H locs lsA A hP hS hl
  exact lv_iand A.1 A.2.1 hd (k p e s m args below meth c H locs lsA A hP hS hl)
theorem a_ior {x y : Int32} (hd : decode mi.2.1 pc = .ok (.ior, 1)) (k : WA g d mi (pc + 1) ls (.int (x ||| y) :: st) μ Q) : WA g d mi pc ls (.int y :: .int x :: st) μ Q := by
  intro p e s m args below meth c H locs lsA A hP hS hl
  exact lv_ior A.1 A.2.1 hd (k p e s m args below meth c H locs lsA A hP hS hl)
theorem a_ixor {x y : Int32} (hd : decode mi.2.1 pc = .ok (.ixor, 1)) (k : WA g d mi (pc + 1) ls (.int (x ^^^ y) :: st) μ Q) : WA g d mi pc ls (.int y :: .int x :: st) μ Q := by
  intro p e s m args below meth c H locs lsA A hP hS hl
  exact lv_ixor A.1 A.2.1 hd (k p e s m args below meth c H locs lsA A hP hS hl)
theorem a_idiv {x y : Int32} (hd : decode mi.2.1 pc = .ok (.idiv, 1)) (hne : ¬ y = 0) (k : WA g d mi (pc + 1) ls (.int (x / y) :: st) μ Q) : WA g d mi pc ls (.int y :: .int x :: st) μ Q := by
  intro p e s m args below meth c H locs lsA A hP hS hl
  exact lv_idiv A.1 A.2.1 hd hne (k p e s m args below meth c H locs lsA A hP hS hl)
theorem a_irem {x y : Int32} (hd : decode mi.2.1 pc = .ok (.irem, 1)) (hne : ¬ y = 0) (k : WA g d mi (pc + 1) ls (.int (x - x / y * y) :: st) μ Q) : WA g d mi pc ls (.int y :: .int x :: st) μ Q := by
  intro p e s m args below meth c H locs lsA A hP hS hl
  exact lv_irem A.1 A.2.1 hd hne (k p e s m args below meth c H locs lsA A hP hS hl)
theorem a_ineg {x : Int32} (hd : decode mi.2.1 pc = .ok (.ineg, 1)) (k : WA g d mi (pc + 1) ls (.int (-x) :: st) μ Q) : WA g d mi pc ls (.int x :: st) μ Q := by
  intro p e s m args below meth c H locs lsA A hP hS hl
  exact lv_ineg A.1 A.2.1 hd (k p e s m args below meth c H locs lsA A hP hS hl)
theorem a_ishl {x y : Int32} (hd : decode mi.2.1 pc = .ok (.ishl, 1)) (k : WA g d mi (pc + 1) ls (.int (x <<< (y &&& 31)) :: st) μ Q) : WA g d mi pc ls (.int y :: .int x :: st) μ Q := by
  intro p e s m args below meth c H locs lsA A hP hS hl
  exact lv_ishl A.1 A.2.1 hd (k p e s m args below meth c H locs lsA A hP hS hl)
theorem a_ishr {x y : Int32} (hd : decode mi.2.1 pc = .ok (.ishr, 1)) (k : WA g d mi (pc + 1) ls (.int (x >>> (y &&& 31)) :: st) μ Q) : WA g d mi pc ls (.int y :: .int x :: st) μ Q := by
  intro p e s m args below meth c H locs lsA A hP hS hl
  exact lv_ishr A.1 A.2.1 hd (k p e s m args below meth c H locs lsA A hP hS hl)
theorem a_iushr {x y : Int32} (hd : decode mi.2.1 pc = .ok (.iushr, 1)) (k : WA g d mi (pc + 1) ls (.int ((x.toUInt32 >>> (y.toUInt32 &&& Int32.toUInt32 31)).toInt32) :: st) μ Q) : WA g d mi pc ls (.int y :: .int x :: st) μ Q := by
  intro p e s m args below meth c H locs lsA A hP hS hl
  exact lv_iushr A.1 A.2.1 hd rfl (k p e s m args below meth c H locs lsA A hP hS hl)
theorem a_ladd {x y : Int64} (hd : decode mi.2.1 pc = .ok (.ladd, 1)) (k : WA g d mi (pc + 1) ls (.long (x + y) :: st) μ Q) : WA g d mi pc ls (.long y :: .long x :: st) μ Q := by
  intro p e s m args below meth c H locs lsA A hP hS hl
  exact lv_ladd A.1 A.2.1 hd (k p e s m args below meth c H locs lsA A hP hS hl)
theorem a_lmul {x y : Int64} (hd : decode mi.2.1 pc = .ok (.lmul, 1)) (k : WA g d mi (pc + 1) ls (.long (x * y) :: st) μ Q) : WA g d mi pc ls (.long y :: .long x :: st) μ Q := by
  intro p e s m args below meth c H locs lsA A hP hS hl
  exact lv_lmul A.1 A.2.1 hd (k p e s m args below meth c H locs lsA A hP hS hl)
theorem a_land {x y : Int64} (hd : decode mi.2.1 pc = .ok (.land, 1)) (k : WA g d mi (pc + 1) ls (.long (x &&& y) :: st) μ Q) : WA g d mi pc ls (.long y :: .long x :: st) μ Q := by
  intro p e s m args below meth c H locs lsA A hP hS hl
  exact lv_land A.1 A.2.1 hd (k p e s m args below meth c H locs lsA A hP hS hl)
theorem a_ldiv {x y : Int64} (hd : decode mi.2.1 pc = .ok (.ldiv, 1)) (hne : ¬ y = 0) (k : WA g d mi (pc + 1) ls (.long (x / y) :: st) μ Q) : WA g d mi pc ls (.long y :: .long x :: st) μ Q := by
  intro p e s m args below meth c H locs lsA A hP hS hl
  exact lv_ldiv A.1 A.2.1 hd hne (k p e s m args below meth c H locs lsA A hP hS hl)
theorem a_lrem {x y : Int64} (hd : decode mi.2.1 pc = .ok (.lrem, 1)) (hne : ¬ y = 0) (k : WA g d mi (pc + 1) ls (.long (x - x / y * y) :: st) μ Q) : WA g d mi pc ls (.long y :: .long x :: st) μ Q := by
  intro p e s m args below meth c H locs lsA A hP hS hl
  exact lv_lrem A.1 A.2.1 hd hne (k p e s m args below meth c H locs lsA A hP hS hl)
theorem a_i2l {x : Int32} (hd : decode mi.2.1 pc = .ok (.i2l, 1)) (k : WA g d mi (pc + 1) ls (.long x.toInt64 :: st) μ Q) : WA g d mi pc ls (.int x :: st) μ Q := by
  intro p e s m args below meth c H locs lsA A hP hS hl
  exact lv_i2l A.1 A.2.1 hd rfl (k p e s m args below meth c H locs lsA A hP hS hl)
theorem a_l2i {x : Int64} (hd : decode mi.2.1 pc = .ok (.l2i, 1)) (k : WA g d mi (pc + 1) ls (.int x.toInt32 :: st) μ Q) : WA g d mi pc ls (.long x :: st) μ Q := by
  intro p e s m args below meth c H locs lsA A hP hS hl
  exact lv_l2i A.1 A.2.1 hd rfl (k p e s m args below meth c H locs lsA A hP hS hl)
theorem a_lcmp {x y : Int64} (hd : decode mi.2.1 pc = .ok (.lcmp, 1)) (k : WA g d mi (pc + 1) ls (.int (lg_cmp x y) :: st) μ Q) : WA g d mi pc ls (.long y :: .long x :: st) μ Q := by
  intro p e s m args below meth c H locs lsA A hP hS hl
  exact W.lcmp A.1 A.2.1 hd (k p e s m args below meth c H locs lsA A hP hS hl)
theorem a_iconst {n : Int} {v : Int32} (hd : decode mi.2.1 pc = .ok (.iconst n, 1)) (hv : Int32.ofInt n = v) (k : WA g d mi (pc + 1) ls (.int v :: st) μ Q) : WA g d mi pc ls (st) μ Q := by
  intro p e s m args below meth c H locs lsA A hP hS hl
  exact lv_iconst A.1 A.2.1 hd hv (k p e s m args below meth c H locs lsA A hP hS hl)
theorem a_bipush {n : Int} {v : Int32} (hd : decode mi.2.1 pc = .ok (.bipush n, 2)) (hv : (Int8.ofInt n).toInt32 = v) (k : WA g d mi (pc + 2) ls (.int v :: st) μ Q) : WA g d mi pc ls (st) μ Q := by
  intro p e s m args below meth c H locs lsA A hP hS hl
  exact lv_bipush A.1 A.2.1 hd hv (k p e s m args below meth c H locs lsA A hP hS hl)
theorem a_sipush {n : Int} {v : Int32} (hd : decode mi.2.1 pc = .ok (.sipush n, 3)) (hv : (Int16.ofInt n).toInt32 = v) (k : WA g d mi (pc + 3) ls (.int v :: st) μ Q) : WA g d mi pc ls (st) μ Q := by
  intro p e s m args below meth c H locs lsA A hP hS hl
  exact lv_sipush A.1 A.2.1 hd hv (k p e s m args below meth c H locs lsA A hP hS hl)
theorem a_lconst {n : Fin 2} {v : Int64} (hd : decode mi.2.1 pc = .ok (.lconst n, 1)) (hv : Int64.ofNat (n : Nat) = v) (k : WA g d mi (pc + 1) ls (.long v :: st) μ Q) : WA g d mi pc ls (st) μ Q := by
  intro p e s m args below meth c H locs lsA A hP hS hl
  exact lv_lconst A.1 A.2.1 hd hv (k p e s m args below meth c H locs lsA A hP hS hl)
theorem a_null  (hd : decode mi.2.1 pc = .ok (.aconst_null, 1)) (k : WA g d mi (pc + 1) ls (.null :: st) μ Q) : WA g d mi pc ls (st) μ Q := by
  intro p e s m args below meth c H locs lsA A hP hS hl
  exact lv_null A.1 A.2.1 hd (k p e s m args below meth c H locs lsA A hP hS hl)
theorem a_ldc {i : Nat} {v : Int32} (hd : decode mi.2.1 pc = .ok (.ldc i, 2)) (hw : Cond.constant mi.1 i v ∈ wG) (k : WA g d mi (pc + 2) ls (.int v :: st) μ Q) : WA g d mi pc ls st μ Q := by
  intro p e s m args below meth c H locs lsA A hP hS hl
  exact lv_ldc A.1 A.2.1 A.2.2.2.1 (A.2.2.2.2.1 _ hw) hd (k p e s m args below meth c H locs lsA A hP hS hl)
theorem a_ldcw {i : Nat} {v : Int32} (hd : decode mi.2.1 pc = .ok (.ldc_w i, 3)) (hw : Cond.constant mi.1 i v ∈ wG) (k : WA g d mi (pc + 3) ls (.int v :: st) μ Q) : WA g d mi pc ls st μ Q := by
  intro p e s m args below meth c H locs lsA A hP hS hl
  exact lv_ldcw A.1 A.2.1 A.2.2.2.1 (A.2.2.2.2.1 _ hw) hd (k p e s m args below meth c H locs lsA A hP hS hl)
theorem a_ldc2 {i : Nat} {v : Int64} (hd : decode mi.2.1 pc = .ok (.ldc2_w i, 3)) (hw : Cond.constantLong mi.1 i v ∈ wG) (k : WA g d mi (pc + 3) ls (.long v :: st) μ Q) : WA g d mi pc ls st μ Q := by
  intro p e s m args below meth c H locs lsA A hP hS hl
  exact lv_ldc2 A.1 A.2.1 A.2.2.2.1 (A.2.2.2.2.1 _ hw) hd (k p e s m args below meth c H locs lsA A hP hS hl)
theorem a_dup {v : Value} (hd : decode mi.2.1 pc = .ok (.dup, 1)) (hc : v.category = 1) (k : WA g d mi (pc + 1) ls (v :: v :: st) μ Q) : WA g d mi pc ls (v :: st) μ Q := by
  intro p e s m args below meth c H locs lsA A hP hS hl
  exact lv_dup A.1 A.2.1 hd ((cv_cat g v).trans hc) (k p e s m args below meth c H locs lsA A hP hS hl)
theorem a_pop {v : Value} (hd : decode mi.2.1 pc = .ok (.pop, 1)) (hc : v.category = 1) (k : WA g d mi (pc + 1) ls st μ Q) : WA g d mi pc ls (v :: st) μ Q := by
  intro p e s m args below meth c H locs lsA A hP hS hl
  exact lv_pop A.1 A.2.1 hd ((cv_cat g v).trans hc) (k p e s m args below meth c H locs lsA A hP hS hl)
theorem a_dup2 {u v : Value} (hd : decode mi.2.1 pc = .ok (.dup2, 1)) (hc : v.category = 1) (hu : u.category = 1) (k : WA g d mi (pc + 1) ls (v :: u :: v :: u :: st) μ Q) : WA g d mi pc ls (v :: u :: st) μ Q := by
  intro p e s m args below meth c H locs lsA A hP hS hl
  exact lv_dup2_11 A.1 A.2.1 hd ((cv_cat g v).trans hc) ((cv_cat g u).trans hu) (k p e s m args below meth c H locs lsA A hP hS hl)
theorem a_goto {off : Int} {tgt : Nat} (hd : decode mi.2.1 pc = .ok (.goto off, 3)) (ht : (pc : Int) + off = (tgt : Int)) (k : WA g d mi tgt ls st μ Q) : WA g d mi pc ls st μ Q := by
  intro p e s m args below meth c H locs lsA A hP hS hl
  exact lv_goto A.1 A.2.1 hd ht (k p e s m args below meth c H locs lsA A hP hS hl)
theorem a_if_eq {x : Int32} {off : Int} {tgt : Nat} (hd : decode mi.2.1 pc = .ok (.ifCond .eq off, 3)) (ht : (pc : Int) + off = (tgt : Int)) (kt : x = 0 → WA g d mi tgt ls st μ Q) (kf : ¬ (x = 0) → WA g d mi (pc + 3) ls st μ Q) : WA g d mi pc ls (.int x :: st) μ Q := by
  intro p e s m args below meth c H locs lsA A hP hS hl
  exact lv_if_eq A.1 A.2.1 hd ht (fun h => kt h p e s m args below meth c H locs lsA A hP hS hl) (fun h => kf h p e s m args below meth c H locs lsA A hP hS hl)
theorem a_icmp_eq {x y : Int32} {off : Int} {tgt : Nat} (hd : decode mi.2.1 pc = .ok (.if_icmp .eq off, 3)) (ht : (pc : Int) + off = (tgt : Int)) (kt : x = y → WA g d mi tgt ls st μ Q) (kf : ¬ (x = y) → WA g d mi (pc + 3) ls st μ Q) : WA g d mi pc ls (.int y :: .int x :: st) μ Q := by
  intro p e s m args below meth c H locs lsA A hP hS hl
  exact lv_icmp_eq A.1 A.2.1 hd ht (fun h => kt h p e s m args below meth c H locs lsA A hP hS hl) (fun h => kf h p e s m args below meth c H locs lsA A hP hS hl)
theorem a_if_ne {x : Int32} {off : Int} {tgt : Nat} (hd : decode mi.2.1 pc = .ok (.ifCond .ne off, 3)) (ht : (pc : Int) + off = (tgt : Int)) (kt : ¬ x = 0 → WA g d mi tgt ls st μ Q) (kf : x = 0 → WA g d mi (pc + 3) ls st μ Q) : WA g d mi pc ls (.int x :: st) μ Q := by
  intro p e s m args below meth c H locs lsA A hP hS hl
  exact lv_if_ne A.1 A.2.1 hd ht (fun h => kt h p e s m args below meth c H locs lsA A hP hS hl) (fun h => kf h p e s m args below meth c H locs lsA A hP hS hl)
theorem a_icmp_ne {x y : Int32} {off : Int} {tgt : Nat} (hd : decode mi.2.1 pc = .ok (.if_icmp .ne off, 3)) (ht : (pc : Int) + off = (tgt : Int)) (kt : ¬ x = y → WA g d mi tgt ls st μ Q) (kf : x = y → WA g d mi (pc + 3) ls st μ Q) : WA g d mi pc ls (.int y :: .int x :: st) μ Q := by
  intro p e s m args below meth c H locs lsA A hP hS hl
  exact lv_icmp_ne A.1 A.2.1 hd ht (fun h => kt h p e s m args below meth c H locs lsA A hP hS hl) (fun h => kf h p e s m args below meth c H locs lsA A hP hS hl)
theorem a_if_lt {x : Int32} {off : Int} {tgt : Nat} (hd : decode mi.2.1 pc = .ok (.ifCond .lt off, 3)) (ht : (pc : Int) + off = (tgt : Int)) (kt : x < 0 → WA g d mi tgt ls st μ Q) (kf : ¬ (x < 0) → WA g d mi (pc + 3) ls st μ Q) : WA g d mi pc ls (.int x :: st) μ Q := by
  intro p e s m args below meth c H locs lsA A hP hS hl
  exact lv_if_lt A.1 A.2.1 hd ht (fun h => kt h p e s m args below meth c H locs lsA A hP hS hl) (fun h => kf h p e s m args below meth c H locs lsA A hP hS hl)
theorem a_icmp_lt {x y : Int32} {off : Int} {tgt : Nat} (hd : decode mi.2.1 pc = .ok (.if_icmp .lt off, 3)) (ht : (pc : Int) + off = (tgt : Int)) (kt : x < y → WA g d mi tgt ls st μ Q) (kf : ¬ (x < y) → WA g d mi (pc + 3) ls st μ Q) : WA g d mi pc ls (.int y :: .int x :: st) μ Q := by
  intro p e s m args below meth c H locs lsA A hP hS hl
  exact lv_icmp_lt A.1 A.2.1 hd ht (fun h => kt h p e s m args below meth c H locs lsA A hP hS hl) (fun h => kf h p e s m args below meth c H locs lsA A hP hS hl)
theorem a_if_ge {x : Int32} {off : Int} {tgt : Nat} (hd : decode mi.2.1 pc = .ok (.ifCond .ge off, 3)) (ht : (pc : Int) + off = (tgt : Int)) (kt : 0 ≤ x → WA g d mi tgt ls st μ Q) (kf : ¬ (0 ≤ x) → WA g d mi (pc + 3) ls st μ Q) : WA g d mi pc ls (.int x :: st) μ Q := by
  intro p e s m args below meth c H locs lsA A hP hS hl
  exact lv_if_ge A.1 A.2.1 hd ht (fun h => kt h p e s m args below meth c H locs lsA A hP hS hl) (fun h => kf h p e s m args below meth c H locs lsA A hP hS hl)
theorem a_icmp_ge {x y : Int32} {off : Int} {tgt : Nat} (hd : decode mi.2.1 pc = .ok (.if_icmp .ge off, 3)) (ht : (pc : Int) + off = (tgt : Int)) (kt : y ≤ x → WA g d mi tgt ls st μ Q) (kf : ¬ (y ≤ x) → WA g d mi (pc + 3) ls st μ Q) : WA g d mi pc ls (.int y :: .int x :: st) μ Q := by
  intro p e s m args below meth c H locs lsA A hP hS hl
  exact lv_icmp_ge A.1 A.2.1 hd ht (fun h => kt h p e s m args below meth c H locs lsA A hP hS hl) (fun h => kf h p e s m args below meth c H locs lsA A hP hS hl)
theorem a_if_gt {x : Int32} {off : Int} {tgt : Nat} (hd : decode mi.2.1 pc = .ok (.ifCond .gt off, 3)) (ht : (pc : Int) + off = (tgt : Int)) (kt : 0 < x → WA g d mi tgt ls st μ Q) (kf : ¬ (0 < x) → WA g d mi (pc + 3) ls st μ Q) : WA g d mi pc ls (.int x :: st) μ Q := by
  intro p e s m args below meth c H locs lsA A hP hS hl
  exact lv_if_gt A.1 A.2.1 hd ht (fun h => kt h p e s m args below meth c H locs lsA A hP hS hl) (fun h => kf h p e s m args below meth c H locs lsA A hP hS hl)
theorem a_icmp_gt {x y : Int32} {off : Int} {tgt : Nat} (hd : decode mi.2.1 pc = .ok (.if_icmp .gt off, 3)) (ht : (pc : Int) + off = (tgt : Int)) (kt : y < x → WA g d mi tgt ls st μ Q) (kf : ¬ (y < x) → WA g d mi (pc + 3) ls st μ Q) : WA g d mi pc ls (.int y :: .int x :: st) μ Q := by
  intro p e s m args below meth c H locs lsA A hP hS hl
  exact lv_icmp_gt A.1 A.2.1 hd ht (fun h => kt h p e s m args below meth c H locs lsA A hP hS hl) (fun h => kf h p e s m args below meth c H locs lsA A hP hS hl)
theorem a_if_le {x : Int32} {off : Int} {tgt : Nat} (hd : decode mi.2.1 pc = .ok (.ifCond .le off, 3)) (ht : (pc : Int) + off = (tgt : Int)) (kt : x ≤ 0 → WA g d mi tgt ls st μ Q) (kf : ¬ (x ≤ 0) → WA g d mi (pc + 3) ls st μ Q) : WA g d mi pc ls (.int x :: st) μ Q := by
  intro p e s m args below meth c H locs lsA A hP hS hl
  exact lv_if_le A.1 A.2.1 hd ht (fun h => kt h p e s m args below meth c H locs lsA A hP hS hl) (fun h => kf h p e s m args below meth c H locs lsA A hP hS hl)
theorem a_icmp_le {x y : Int32} {off : Int} {tgt : Nat} (hd : decode mi.2.1 pc = .ok (.if_icmp .le off, 3)) (ht : (pc : Int) + off = (tgt : Int)) (kt : x ≤ y → WA g d mi tgt ls st μ Q) (kf : ¬ (x ≤ y) → WA g d mi (pc + 3) ls st μ Q) : WA g d mi pc ls (.int y :: .int x :: st) μ Q := by
  intro p e s m args below meth c H locs lsA A hP hS hl
  exact lv_icmp_le A.1 A.2.1 hd ht (fun h => kt h p e s m args below meth c H locs lsA A hP hS hl) (fun h => kf h p e s m args below meth c H locs lsA A hP hS hl)
theorem a_ifnonnull {x : Nat} {off : Int} {tgt : Nat} (hd : decode mi.2.1 pc = .ok (.ifnonnull off, 3)) (ht : (pc : Int) + off = (tgt : Int)) (k : WA g d mi tgt ls st μ Q) : WA g d mi pc ls (.ref x :: st) μ Q := by
  intro p e s m args below meth c H locs lsA A hP hS hl
  exact lv_ifnonnull A.1 A.2.1 hd ht (k p e s m args below meth c H locs lsA A hP hS hl)
theorem a_ifnull {x : Nat} {off : Int} (hd : decode mi.2.1 pc = .ok (.ifnull off, 3)) (k : WA g d mi (pc + 3) ls st μ Q) : WA g d mi pc ls (.ref x :: st) μ Q := by
  intro p e s m args below meth c H locs lsA A hP hS hl
  exact lv_ifnull A.1 A.2.1 hd (k p e s m args below meth c H locs lsA A hP hS hl)
theorem a_ifnullN {off : Int} {tgt : Nat} (hd : decode mi.2.1 pc = .ok (.ifnull off, 3)) (ht : (pc : Int) + off = (tgt : Int)) (k : WA g d mi tgt ls st μ Q) : WA g d mi pc ls (.null :: st) μ Q := by
  intro p e s m args below meth c H locs lsA A hP hS hl
  exact lv_ifnullN A.1 A.2.1 hd ht (k p e s m args below meth c H locs lsA A hP hS hl)
theorem a_ifnonnullN {off : Int} (hd : decode mi.2.1 pc = .ok (.ifnonnull off, 3)) (k : WA g d mi (pc + 3) ls st μ Q) : WA g d mi pc ls (.null :: st) μ Q := by
  intro p e s m args below meth c H locs lsA A hP hS hl
  exact lv_ifnonnullN A.1 A.2.1 hd (k p e s m args below meth c H locs lsA A hP hS hl)
theorem lsC_at {lsA : Array Slot} {n : Nat} (hl : lv_has lsA n (lsC g 0 ls)) {k : Nat} {v : Value} (hk : ls[k]? = some (some v)) : lsA[k]? = some (.val (cv g v)) := by
  have := hl.2.2 _ (lsC_mem g ls 0 k v hk)
  rwa [Nat.zero_add] at this
theorem a_iloadN {f : Fin 4} {i : Nat} {x : Int32} (hd : decode mi.2.1 pc = .ok (.iload_n f, 1)) (hi : (f : Nat) = i) (h : ls[i]? = some (some (.int x))) (k : WA g d mi (pc + 1) ls (.int x :: st) μ Q) : WA g d mi pc ls st μ Q := by
  intro p e s m args below meth c H locs lsA A hP hS hl
  exact lv_iload_n A.1 A.2.1 hd hi (lsC_at hl h) (k p e s m args below meth c H locs lsA A hP hS hl)
theorem a_iloadW {i : Nat} {x : Int32} (hd : decode mi.2.1 pc = .ok (.iload i, 2)) (h : ls[i]? = some (some (.int x))) (k : WA g d mi (pc + 2) ls (.int x :: st) μ Q) : WA g d mi pc ls st μ Q := by
  intro p e s m args below meth c H locs lsA A hP hS hl
  exact lv_iload A.1 A.2.1 hd (lsC_at hl h) (k p e s m args below meth c H locs lsA A hP hS hl)
theorem a_lloadN {f : Fin 4} {i : Nat} {x : Int64} (hd : decode mi.2.1 pc = .ok (.lload_n f, 1)) (hi : (f : Nat) = i) (h : ls[i]? = some (some (.long x))) (k : WA g d mi (pc + 1) ls (.long x :: st) μ Q) : WA g d mi pc ls st μ Q := by
  intro p e s m args below meth c H locs lsA A hP hS hl
  exact lv_lload_n A.1 A.2.1 hd hi (lsC_at hl h) (k p e s m args below meth c H locs lsA A hP hS hl)
theorem a_lloadW {i : Nat} {x : Int64} (hd : decode mi.2.1 pc = .ok (.lload i, 2)) (h : ls[i]? = some (some (.long x))) (k : WA g d mi (pc + 2) ls (.long x :: st) μ Q) : WA g d mi pc ls st μ Q := by
  intro p e s m args below meth c H locs lsA A hP hS hl
  exact lv_lload A.1 A.2.1 hd (lsC_at hl h) (k p e s m args below meth c H locs lsA A hP hS hl)
theorem a_aloadN {f : Fin 4} {i : Nat} {x : Nat} (hd : decode mi.2.1 pc = .ok (.aload_n f, 1)) (hi : (f : Nat) = i) (h : ls[i]? = some (some (.ref x))) (k : WA g d mi (pc + 1) ls (.ref x :: st) μ Q) : WA g d mi pc ls st μ Q := by
  intro p e s m args below meth c H locs lsA A hP hS hl
  exact lv_aload_n A.1 A.2.1 hd hi (lsC_at hl h) (k p e s m args below meth c H locs lsA A hP hS hl)
theorem a_aloadW {i : Nat} {x : Nat} (hd : decode mi.2.1 pc = .ok (.aload i, 2)) (h : ls[i]? = some (some (.ref x))) (k : WA g d mi (pc + 2) ls (.ref x :: st) μ Q) : WA g d mi pc ls st μ Q := by
  intro p e s m args below meth c H locs lsA A hP hS hl
  exact lv_aload A.1 A.2.1 hd (lsC_at hl h) (k p e s m args below meth c H locs lsA A hP hS hl)
theorem a_istoreN {f : Fin 4} {i : Nat} {x : Int32} (hd : decode mi.2.1 pc = .ok (.istore_n f, 1)) (hi : (f : Nat) = i) (hn : i < mi.2.2.1) (hk : i < ls.length) (hp : ∀ j, j + 1 = i → ∀ u, ls[j]? = some (some u) → u.category = 1) (k : WA g d mi (pc + 1) (ls.set i (some (.int x))) st μ Q) : WA g d mi pc ls (.int x :: st) μ Q := by
  intro p e s m args below meth c H locs lsA A hP hS hl
  exact lv_istore_n A.1 A.2.1 hd hi hl hn rfl (fun lsB hB => k p e s m args below meth c H locs lsB A hP hS (hB.le (lsC_st1 hk hp)))
theorem a_istoreW {i : Nat} {x : Int32} (hd : decode mi.2.1 pc = .ok (.istore i, 2)) (hn : i < mi.2.2.1) (hk : i < ls.length) (hp : ∀ j, j + 1 = i → ∀ u, ls[j]? = some (some u) → u.category = 1) (k : WA g d mi (pc + 2) (ls.set i (some (.int x))) st μ Q) : WA g d mi pc ls (.int x :: st) μ Q := by
  intro p e s m args below meth c H locs lsA A hP hS hl
  exact lv_istore A.1 A.2.1 hd hl hn rfl (fun lsB hB => k p e s m args below meth c H locs lsB A hP hS (hB.le (lsC_st1 hk hp)))
theorem a_astoreN {f : Fin 4} {i : Nat} {x : Nat} (hd : decode mi.2.1 pc = .ok (.astore_n f, 1)) (hi : (f : Nat) = i) (hn : i < mi.2.2.1) (hk : i < ls.length) (hp : ∀ j, j + 1 = i → ∀ u, ls[j]? = some (some u) → u.category = 1) (k : WA g d mi (pc + 1) (ls.set i (some (.ref x))) st μ Q) : WA g d mi pc ls (.ref x :: st) μ Q := by
  intro p e s m args below meth c H locs lsA A hP hS hl
  exact lv_astore_n A.1 A.2.1 hd hi hl hn rfl (fun lsB hB => k p e s m args below meth c H locs lsB A hP hS (hB.le (lsC_st1 hk hp)))
theorem a_astoreW {i : Nat} {x : Nat} (hd : decode mi.2.1 pc = .ok (.astore i, 2)) (hn : i < mi.2.2.1) (hk : i < ls.length) (hp : ∀ j, j + 1 = i → ∀ u, ls[j]? = some (some u) → u.category = 1) (k : WA g d mi (pc + 2) (ls.set i (some (.ref x))) st μ Q) : WA g d mi pc ls (.ref x :: st) μ Q := by
  intro p e s m args below meth c H locs lsA A hP hS hl
  exact lv_astore A.1 A.2.1 hd hl hn rfl (fun lsB hB => k p e s m args below meth c H locs lsB A hP hS (hB.le (lsC_st1 hk hp)))
theorem a_lstoreN {f : Fin 4} {i : Nat} {x : Int64} (hd : decode mi.2.1 pc = .ok (.lstore_n f, 1)) (hi : (f : Nat) = i) (hn : i + 1 < mi.2.2.1) (hk : i + 1 < ls.length) (hp : ∀ j, j + 1 = i → ∀ u, ls[j]? = some (some u) → u.category = 1) (k : WA g d mi (pc + 1) ((ls.set i (some (.long x))).set (i + 1) none) st μ Q) : WA g d mi pc ls (.long x :: st) μ Q := by
  intro p e s m args below meth c H locs lsA A hP hS hl
  exact lv_lstore_n A.1 A.2.1 hd hi hl hn rfl (fun lsB hB => k p e s m args below meth c H locs lsB A hP hS (hB.le (lsC_st2 hk hp)))
theorem a_lstoreW {i : Nat} {x : Int64} (hd : decode mi.2.1 pc = .ok (.lstore i, 2)) (hn : i + 1 < mi.2.2.1) (hk : i + 1 < ls.length) (hp : ∀ j, j + 1 = i → ∀ u, ls[j]? = some (some u) → u.category = 1) (k : WA g d mi (pc + 2) ((ls.set i (some (.long x))).set (i + 1) none) st μ Q) : WA g d mi pc ls (.long x :: st) μ Q := by
  intro p e s m args below meth c H locs lsA A hP hS hl
  exact lv_lstore A.1 A.2.1 hd hl hn rfl (fun lsB hB => k p e s m args below meth c H locs lsB A hP hS (hB.le (lsC_st2 hk hp)))
theorem a_iincW {i : Nat} {n : Int} {x c0 : Int32} (hd : decode mi.2.1 pc = .ok (.iinc i n, 3)) (hx : ls[i]? = some (some (.int x))) (hc : Int32.ofInt n = c0) (hn : i < mi.2.2.1) (hp : ∀ j, j + 1 = i → ∀ u, ls[j]? = some (some u) → u.category = 1) (k : WA g d mi (pc + 3) (ls.set i (some (.int (x + c0)))) st μ Q) : WA g d mi pc ls st μ Q := by
  intro p e s m args below meth c H locs lsA A hP hS hl
  have hk : i < ls.length := (List.getElem?_eq_some_iff.mp hx).1
  have hm := lsC_mem g ls 0 i _ hx
  rw [Nat.zero_add] at hm
  obtain ⟨q, hq⟩ := List.mem_iff_getElem?.mp hm
  exact lv_iinc (v := x + c0) A.1 A.2.1 hd hl hq (by rw [hc]) hn rfl (fun lsB hB => k p e s m args below meth c H locs lsB A hP hS (hB.le (lsC_st1 hk hp)))
theorem a_istore_0 {x0 : Option Value} {r : List (Option Value)} {x : Int32} (hd : decode mi.2.1 pc = .ok (.istore_n 0, 1)) (hn : 0 < mi.2.2.1) (k : WA g d mi (pc + 1) (some (.int x) :: r) st μ Q) : WA g d mi pc (x0 :: r) (.int x :: st) μ Q :=
  a_istoreN (i := 0) (ls := x0 :: r) hd rfl hn (by simp) (fun j h u hu => absurd h (Nat.succ_ne_zero j)) k
theorem a_iload_0 {r : List (Option Value)} {x : Int32} (hd : decode mi.2.1 pc = .ok (.iload_n 0, 1)) (k : WA g d mi (pc + 1) (some (.int x) :: r) (.int x :: st) μ Q) : WA g d mi pc (some (.int x) :: r) st μ Q :=
  a_iloadN (i := 0) hd rfl (rfl) k
theorem a_astore_0 {x0 : Option Value} {r : List (Option Value)} {x : Nat} (hd : decode mi.2.1 pc = .ok (.astore_n 0, 1)) (hn : 0 < mi.2.2.1) (k : WA g d mi (pc + 1) (some (.ref x) :: r) st μ Q) : WA g d mi pc (x0 :: r) (.ref x :: st) μ Q :=
  a_astoreN (i := 0) (ls := x0 :: r) hd rfl hn (by simp) (fun j h u hu => absurd h (Nat.succ_ne_zero j)) k
theorem a_aload_0 {r : List (Option Value)} {x : Nat} (hd : decode mi.2.1 pc = .ok (.aload_n 0, 1)) (k : WA g d mi (pc + 1) (some (.ref x) :: r) (.ref x :: st) μ Q) : WA g d mi pc (some (.ref x) :: r) st μ Q :=
  a_aloadN (i := 0) hd rfl (rfl) k
theorem a_iinc_0 {r : List (Option Value)} {n : Int} {x c0 : Int32} (hd : decode mi.2.1 pc = .ok (.iinc 0 n, 3)) (hc : Int32.ofInt n = c0) (hn : 0 < mi.2.2.1) (k : WA g d mi (pc + 3) (some (.int (x + c0)) :: r) st μ Q) : WA g d mi pc (some (.int x) :: r) st μ Q :=
  a_iincW (i := 0) (ls := some (.int x) :: r) hd rfl hc hn (fun j h u hu => absurd h (Nat.succ_ne_zero j)) k
theorem a_istore_1 {x0 x1 : Option Value} {r : List (Option Value)} {x : Int32} (hd : decode mi.2.1 pc = .ok (.istore_n 1, 1)) (hn : 1 < mi.2.2.1) (hq : nl x0 = true) (k : WA g d mi (pc + 1) (x0 :: some (.int x) :: r) st μ Q) : WA g d mi pc (x0 :: x1 :: r) (.int x :: st) μ Q :=
  a_istoreN (i := 1) (ls := x0 :: x1 :: r) hd rfl hn (by simp) (fun j h u hu => nl_prev hq (by obtain rfl : j = 0 := Nat.succ.inj h; exact Option.some.inj hu)) k
theorem a_iload_1 {x0 : Option Value} {r : List (Option Value)} {x : Int32} (hd : decode mi.2.1 pc = .ok (.iload_n 1, 1)) (k : WA g d mi (pc + 1) (x0 :: some (.int x) :: r) (.int x :: st) μ Q) : WA g d mi pc (x0 :: some (.int x) :: r) st μ Q :=
  a_iloadN (i := 1) hd rfl (rfl) k
theorem a_astore_1 {x0 x1 : Option Value} {r : List (Option Value)} {x : Nat} (hd : decode mi.2.1 pc = .ok (.astore_n 1, 1)) (hn : 1 < mi.2.2.1) (hq : nl x0 = true) (k : WA g d mi (pc + 1) (x0 :: some (.ref x) :: r) st μ Q) : WA g d mi pc (x0 :: x1 :: r) (.ref x :: st) μ Q :=
  a_astoreN (i := 1) (ls := x0 :: x1 :: r) hd rfl hn (by simp) (fun j h u hu => nl_prev hq (by obtain rfl : j = 0 := Nat.succ.inj h; exact Option.some.inj hu)) k
theorem a_aload_1 {x0 : Option Value} {r : List (Option Value)} {x : Nat} (hd : decode mi.2.1 pc = .ok (.aload_n 1, 1)) (k : WA g d mi (pc + 1) (x0 :: some (.ref x) :: r) (.ref x :: st) μ Q) : WA g d mi pc (x0 :: some (.ref x) :: r) st μ Q :=
  a_aloadN (i := 1) hd rfl (rfl) k
theorem a_iinc_1 {x0 : Option Value} {r : List (Option Value)} {n : Int} {x c0 : Int32} (hd : decode mi.2.1 pc = .ok (.iinc 1 n, 3)) (hc : Int32.ofInt n = c0) (hn : 1 < mi.2.2.1) (hq : nl x0 = true) (k : WA g d mi (pc + 3) (x0 :: some (.int (x + c0)) :: r) st μ Q) : WA g d mi pc (x0 :: some (.int x) :: r) st μ Q :=
  a_iincW (i := 1) (ls := x0 :: some (.int x) :: r) hd rfl hc hn (fun j h u hu => nl_prev hq (by obtain rfl : j = 0 := Nat.succ.inj h; exact Option.some.inj hu)) k
theorem a_istore_2 {x0 x1 x2 : Option Value} {r : List (Option Value)} {x : Int32} (hd : decode mi.2.1 pc = .ok (.istore_n 2, 1)) (hn : 2 < mi.2.2.1) (hq : nl x1 = true) (k : WA g d mi (pc + 1) (x0 :: x1 :: some (.int x) :: r) st μ Q) : WA g d mi pc (x0 :: x1 :: x2 :: r) (.int x :: st) μ Q :=
  a_istoreN (i := 2) (ls := x0 :: x1 :: x2 :: r) hd rfl hn (by simp) (fun j h u hu => nl_prev hq (by obtain rfl : j = 1 := Nat.succ.inj h; exact Option.some.inj hu)) k
theorem a_iload_2 {x0 x1 : Option Value} {r : List (Option Value)} {x : Int32} (hd : decode mi.2.1 pc = .ok (.iload_n 2, 1)) (k : WA g d mi (pc + 1) (x0 :: x1 :: some (.int x) :: r) (.int x :: st) μ Q) : WA g d mi pc (x0 :: x1 :: some (.int x) :: r) st μ Q :=
  a_iloadN (i := 2) hd rfl (rfl) k
theorem a_astore_2 {x0 x1 x2 : Option Value} {r : List (Option Value)} {x : Nat} (hd : decode mi.2.1 pc = .ok (.astore_n 2, 1)) (hn : 2 < mi.2.2.1) (hq : nl x1 = true) (k : WA g d mi (pc + 1) (x0 :: x1 :: some (.ref x) :: r) st μ Q) : WA g d mi pc (x0 :: x1 :: x2 :: r) (.ref x :: st) μ Q :=
  a_astoreN (i := 2) (ls := x0 :: x1 :: x2 :: r) hd rfl hn (by simp) (fun j h u hu => nl_prev hq (by obtain rfl : j = 1 := Nat.succ.inj h; exact Option.some.inj hu)) k
theorem a_aload_2 {x0 x1 : Option Value} {r : List (Option Value)} {x : Nat} (hd : decode mi.2.1 pc = .ok (.aload_n 2, 1)) (k : WA g d mi (pc + 1) (x0 :: x1 :: some (.ref x) :: r) (.ref x :: st) μ Q) : WA g d mi pc (x0 :: x1 :: some (.ref x) :: r) st μ Q :=
  a_aloadN (i := 2) hd rfl (rfl) k
theorem a_iinc_2 {x0 x1 : Option Value} {r : List (Option Value)} {n : Int} {x c0 : Int32} (hd : decode mi.2.1 pc = .ok (.iinc 2 n, 3)) (hc : Int32.ofInt n = c0) (hn : 2 < mi.2.2.1) (hq : nl x1 = true) (k : WA g d mi (pc + 3) (x0 :: x1 :: some (.int (x + c0)) :: r) st μ Q) : WA g d mi pc (x0 :: x1 :: some (.int x) :: r) st μ Q :=
  a_iincW (i := 2) (ls := x0 :: x1 :: some (.int x) :: r) hd rfl hc hn (fun j h u hu => nl_prev hq (by obtain rfl : j = 1 := Nat.succ.inj h; exact Option.some.inj hu)) k
theorem a_istore_3 {x0 x1 x2 x3 : Option Value} {r : List (Option Value)} {x : Int32} (hd : decode mi.2.1 pc = .ok (.istore_n 3, 1)) (hn : 3 < mi.2.2.1) (hq : nl x2 = true) (k : WA g d mi (pc + 1) (x0 :: x1 :: x2 :: some (.int x) :: r) st μ Q) : WA g d mi pc (x0 :: x1 :: x2 :: x3 :: r) (.int x :: st) μ Q :=
  a_istoreN (i := 3) (ls := x0 :: x1 :: x2 :: x3 :: r) hd rfl hn (by simp) (fun j h u hu => nl_prev hq (by obtain rfl : j = 2 := Nat.succ.inj h; exact Option.some.inj hu)) k
theorem a_iload_3 {x0 x1 x2 : Option Value} {r : List (Option Value)} {x : Int32} (hd : decode mi.2.1 pc = .ok (.iload_n 3, 1)) (k : WA g d mi (pc + 1) (x0 :: x1 :: x2 :: some (.int x) :: r) (.int x :: st) μ Q) : WA g d mi pc (x0 :: x1 :: x2 :: some (.int x) :: r) st μ Q :=
  a_iloadN (i := 3) hd rfl (rfl) k
theorem a_astore_3 {x0 x1 x2 x3 : Option Value} {r : List (Option Value)} {x : Nat} (hd : decode mi.2.1 pc = .ok (.astore_n 3, 1)) (hn : 3 < mi.2.2.1) (hq : nl x2 = true) (k : WA g d mi (pc + 1) (x0 :: x1 :: x2 :: some (.ref x) :: r) st μ Q) : WA g d mi pc (x0 :: x1 :: x2 :: x3 :: r) (.ref x :: st) μ Q :=
  a_astoreN (i := 3) (ls := x0 :: x1 :: x2 :: x3 :: r) hd rfl hn (by simp) (fun j h u hu => nl_prev hq (by obtain rfl : j = 2 := Nat.succ.inj h; exact Option.some.inj hu)) k
theorem a_aload_3 {x0 x1 x2 : Option Value} {r : List (Option Value)} {x : Nat} (hd : decode mi.2.1 pc = .ok (.aload_n 3, 1)) (k : WA g d mi (pc + 1) (x0 :: x1 :: x2 :: some (.ref x) :: r) (.ref x :: st) μ Q) : WA g d mi pc (x0 :: x1 :: x2 :: some (.ref x) :: r) st μ Q :=
  a_aloadN (i := 3) hd rfl (rfl) k
theorem a_iinc_3 {x0 x1 x2 : Option Value} {r : List (Option Value)} {n : Int} {x c0 : Int32} (hd : decode mi.2.1 pc = .ok (.iinc 3 n, 3)) (hc : Int32.ofInt n = c0) (hn : 3 < mi.2.2.1) (hq : nl x2 = true) (k : WA g d mi (pc + 3) (x0 :: x1 :: x2 :: some (.int (x + c0)) :: r) st μ Q) : WA g d mi pc (x0 :: x1 :: x2 :: some (.int x) :: r) st μ Q :=
  a_iincW (i := 3) (ls := x0 :: x1 :: x2 :: some (.int x) :: r) hd rfl hc hn (fun j h u hu => nl_prev hq (by obtain rfl : j = 2 := Nat.succ.inj h; exact Option.some.inj hu)) k
theorem a_istore_4 {x0 x1 x2 x3 x4 : Option Value} {r : List (Option Value)} {x : Int32} (hd : decode mi.2.1 pc = .ok (.istore 4, 2)) (hn : 4 < mi.2.2.1) (hq : nl x3 = true) (k : WA g d mi (pc + 2) (x0 :: x1 :: x2 :: x3 :: some (.int x) :: r) st μ Q) : WA g d mi pc (x0 :: x1 :: x2 :: x3 :: x4 :: r) (.int x :: st) μ Q :=
  a_istoreW (i := 4) (ls := x0 :: x1 :: x2 :: x3 :: x4 :: r) hd hn (by simp) (fun j h u hu => nl_prev hq (by obtain rfl : j = 3 := Nat.succ.inj h; exact Option.some.inj hu)) k
theorem a_iload_4 {x0 x1 x2 x3 : Option Value} {r : List (Option Value)} {x : Int32} (hd : decode mi.2.1 pc = .ok (.iload 4, 2)) (k : WA g d mi (pc + 2) (x0 :: x1 :: x2 :: x3 :: some (.int x) :: r) (.int x :: st) μ Q) : WA g d mi pc (x0 :: x1 :: x2 :: x3 :: some (.int x) :: r) st μ Q :=
  a_iloadW (i := 4) hd (rfl) k
theorem a_astore_4 {x0 x1 x2 x3 x4 : Option Value} {r : List (Option Value)} {x : Nat} (hd : decode mi.2.1 pc = .ok (.astore 4, 2)) (hn : 4 < mi.2.2.1) (hq : nl x3 = true) (k : WA g d mi (pc + 2) (x0 :: x1 :: x2 :: x3 :: some (.ref x) :: r) st μ Q) : WA g d mi pc (x0 :: x1 :: x2 :: x3 :: x4 :: r) (.ref x :: st) μ Q :=
  a_astoreW (i := 4) (ls := x0 :: x1 :: x2 :: x3 :: x4 :: r) hd hn (by simp) (fun j h u hu => nl_prev hq (by obtain rfl : j = 3 := Nat.succ.inj h; exact Option.some.inj hu)) k
theorem a_aload_4 {x0 x1 x2 x3 : Option Value} {r : List (Option Value)} {x : Nat} (hd : decode mi.2.1 pc = .ok (.aload 4, 2)) (k : WA g d mi (pc + 2) (x0 :: x1 :: x2 :: x3 :: some (.ref x) :: r) (.ref x :: st) μ Q) : WA g d mi pc (x0 :: x1 :: x2 :: x3 :: some (.ref x) :: r) st μ Q :=
  a_aloadW (i := 4) hd (rfl) k
theorem a_iinc_4 {x0 x1 x2 x3 : Option Value} {r : List (Option Value)} {n : Int} {x c0 : Int32} (hd : decode mi.2.1 pc = .ok (.iinc 4 n, 3)) (hc : Int32.ofInt n = c0) (hn : 4 < mi.2.2.1) (hq : nl x3 = true) (k : WA g d mi (pc + 3) (x0 :: x1 :: x2 :: x3 :: some (.int (x + c0)) :: r) st μ Q) : WA g d mi pc (x0 :: x1 :: x2 :: x3 :: some (.int x) :: r) st μ Q :=
  a_iincW (i := 4) (ls := x0 :: x1 :: x2 :: x3 :: some (.int x) :: r) hd rfl hc hn (fun j h u hu => nl_prev hq (by obtain rfl : j = 3 := Nat.succ.inj h; exact Option.some.inj hu)) k
theorem a_istore_5 {x0 x1 x2 x3 x4 x5 : Option Value} {r : List (Option Value)} {x : Int32} (hd : decode mi.2.1 pc = .ok (.istore 5, 2)) (hn : 5 < mi.2.2.1) (hq : nl x4 = true) (k : WA g d mi (pc + 2) (x0 :: x1 :: x2 :: x3 :: x4 :: some (.int x) :: r) st μ Q) : WA g d mi pc (x0 :: x1 :: x2 :: x3 :: x4 :: x5 :: r) (.int x :: st) μ Q :=
  a_istoreW (i := 5) (ls := x0 :: x1 :: x2 :: x3 :: x4 :: x5 :: r) hd hn (by simp) (fun j h u hu => nl_prev hq (by obtain rfl : j = 4 := Nat.succ.inj h; exact Option.some.inj hu)) k
theorem a_iload_5 {x0 x1 x2 x3 x4 : Option Value} {r : List (Option Value)} {x : Int32} (hd : decode mi.2.1 pc = .ok (.iload 5, 2)) (k : WA g d mi (pc + 2) (x0 :: x1 :: x2 :: x3 :: x4 :: some (.int x) :: r) (.int x :: st) μ Q) : WA g d mi pc (x0 :: x1 :: x2 :: x3 :: x4 :: some (.int x) :: r) st μ Q :=
  a_iloadW (i := 5) hd (rfl) k
theorem a_astore_5 {x0 x1 x2 x3 x4 x5 : Option Value} {r : List (Option Value)} {x : Nat} (hd : decode mi.2.1 pc = .ok (.astore 5, 2)) (hn : 5 < mi.2.2.1) (hq : nl x4 = true) (k : WA g d mi (pc + 2) (x0 :: x1 :: x2 :: x3 :: x4 :: some (.ref x) :: r) st μ Q) : WA g d mi pc (x0 :: x1 :: x2 :: x3 :: x4 :: x5 :: r) (.ref x :: st) μ Q :=
  a_astoreW (i := 5) (ls := x0 :: x1 :: x2 :: x3 :: x4 :: x5 :: r) hd hn (by simp) (fun j h u hu => nl_prev hq (by obtain rfl : j = 4 := Nat.succ.inj h; exact Option.some.inj hu)) k
theorem a_aload_5 {x0 x1 x2 x3 x4 : Option Value} {r : List (Option Value)} {x : Nat} (hd : decode mi.2.1 pc = .ok (.aload 5, 2)) (k : WA g d mi (pc + 2) (x0 :: x1 :: x2 :: x3 :: x4 :: some (.ref x) :: r) (.ref x :: st) μ Q) : WA g d mi pc (x0 :: x1 :: x2 :: x3 :: x4 :: some (.ref x) :: r) st μ Q :=
  a_aloadW (i := 5) hd (rfl) k
theorem a_iinc_5 {x0 x1 x2 x3 x4 : Option Value} {r : List (Option Value)} {n : Int} {x c0 : Int32} (hd : decode mi.2.1 pc = .ok (.iinc 5 n, 3)) (hc : Int32.ofInt n = c0) (hn : 5 < mi.2.2.1) (hq : nl x4 = true) (k : WA g d mi (pc + 3) (x0 :: x1 :: x2 :: x3 :: x4 :: some (.int (x + c0)) :: r) st μ Q) : WA g d mi pc (x0 :: x1 :: x2 :: x3 :: x4 :: some (.int x) :: r) st μ Q :=
  a_iincW (i := 5) (ls := x0 :: x1 :: x2 :: x3 :: x4 :: some (.int x) :: r) hd rfl hc hn (fun j h u hu => nl_prev hq (by obtain rfl : j = 4 := Nat.succ.inj h; exact Option.some.inj hu)) k
theorem a_istore_6 {x0 x1 x2 x3 x4 x5 x6 : Option Value} {r : List (Option Value)} {x : Int32} (hd : decode mi.2.1 pc = .ok (.istore 6, 2)) (hn : 6 < mi.2.2.1) (hq : nl x5 = true) (k : WA g d mi (pc + 2) (x0 :: x1 :: x2 :: x3 :: x4 :: x5 :: some (.int x) :: r) st μ Q) : WA g d mi pc (x0 :: x1 :: x2 :: x3 :: x4 :: x5 :: x6 :: r) (.int x :: st) μ Q :=
  a_istoreW (i := 6) (ls := x0 :: x1 :: x2 :: x3 :: x4 :: x5 :: x6 :: r) hd hn (by simp) (fun j h u hu => nl_prev hq (by obtain rfl : j = 5 := Nat.succ.inj h; exact Option.some.inj hu)) k
theorem a_iload_6 {x0 x1 x2 x3 x4 x5 : Option Value} {r : List (Option Value)} {x : Int32} (hd : decode mi.2.1 pc = .ok (.iload 6, 2)) (k : WA g d mi (pc + 2) (x0 :: x1 :: x2 :: x3 :: x4 :: x5 :: some (.int x) :: r) (.int x :: st) μ Q) : WA g d mi pc (x0 :: x1 :: x2 :: x3 :: x4 :: x5 :: some (.int x) :: r) st μ Q :=
  a_iloadW (i := 6) hd (rfl) k
theorem a_astore_6 {x0 x1 x2 x3 x4 x5 x6 : Option Value} {r : List (Option Value)} {x : Nat} (hd : decode mi.2.1 pc = .ok (.astore 6, 2)) (hn : 6 < mi.2.2.1) (hq : nl x5 = true) (k : WA g d mi (pc + 2) (x0 :: x1 :: x2 :: x3 :: x4 :: x5 :: some (.ref x) :: r) st μ Q) : WA g d mi pc (x0 :: x1 :: x2 :: x3 :: x4 :: x5 :: x6 :: r) (.ref x :: st) μ Q :=
  a_astoreW (i := 6) (ls := x0 :: x1 :: x2 :: x3 :: x4 :: x5 :: x6 :: r) hd hn (by simp) (fun j h u hu => nl_prev hq (by obtain rfl : j = 5 := Nat.succ.inj h; exact Option.some.inj hu)) k
theorem a_aload_6 {x0 x1 x2 x3 x4 x5 : Option Value} {r : List (Option Value)} {x : Nat} (hd : decode mi.2.1 pc = .ok (.aload 6, 2)) (k : WA g d mi (pc + 2) (x0 :: x1 :: x2 :: x3 :: x4 :: x5 :: some (.ref x) :: r) (.ref x :: st) μ Q) : WA g d mi pc (x0 :: x1 :: x2 :: x3 :: x4 :: x5 :: some (.ref x) :: r) st μ Q :=
  a_aloadW (i := 6) hd (rfl) k
theorem a_iinc_6 {x0 x1 x2 x3 x4 x5 : Option Value} {r : List (Option Value)} {n : Int} {x c0 : Int32} (hd : decode mi.2.1 pc = .ok (.iinc 6 n, 3)) (hc : Int32.ofInt n = c0) (hn : 6 < mi.2.2.1) (hq : nl x5 = true) (k : WA g d mi (pc + 3) (x0 :: x1 :: x2 :: x3 :: x4 :: x5 :: some (.int (x + c0)) :: r) st μ Q) : WA g d mi pc (x0 :: x1 :: x2 :: x3 :: x4 :: x5 :: some (.int x) :: r) st μ Q :=
  a_iincW (i := 6) (ls := x0 :: x1 :: x2 :: x3 :: x4 :: x5 :: some (.int x) :: r) hd rfl hc hn (fun j h u hu => nl_prev hq (by obtain rfl : j = 5 := Nat.succ.inj h; exact Option.some.inj hu)) k
theorem a_istore_7 {x0 x1 x2 x3 x4 x5 x6 x7 : Option Value} {r : List (Option Value)} {x : Int32} (hd : decode mi.2.1 pc = .ok (.istore 7, 2)) (hn : 7 < mi.2.2.1) (hq : nl x6 = true) (k : WA g d mi (pc + 2) (x0 :: x1 :: x2 :: x3 :: x4 :: x5 :: x6 :: some (.int x) :: r) st μ Q) : WA g d mi pc (x0 :: x1 :: x2 :: x3 :: x4 :: x5 :: x6 :: x7 :: r) (.int x :: st) μ Q :=
  a_istoreW (i := 7) (ls := x0 :: x1 :: x2 :: x3 :: x4 :: x5 :: x6 :: x7 :: r) hd hn (by simp) (fun j h u hu => nl_prev hq (by obtain rfl : j = 6 := Nat.succ.inj h; exact Option.some.inj hu)) k
theorem a_iload_7 {x0 x1 x2 x3 x4 x5 x6 : Option Value} {r : List (Option Value)} {x : Int32} (hd : decode mi.2.1 pc = .ok (.iload 7, 2)) (k : WA g d mi (pc + 2) (x0 :: x1 :: x2 :: x3 :: x4 :: x5 :: x6 :: some (.int x) :: r) (.int x :: st) μ Q) : WA g d mi pc (x0 :: x1 :: x2 :: x3 :: x4 :: x5 :: x6 :: some (.int x) :: r) st μ Q :=
  a_iloadW (i := 7) hd (rfl) k
theorem a_astore_7 {x0 x1 x2 x3 x4 x5 x6 x7 : Option Value} {r : List (Option Value)} {x : Nat} (hd : decode mi.2.1 pc = .ok (.astore 7, 2)) (hn : 7 < mi.2.2.1) (hq : nl x6 = true) (k : WA g d mi (pc + 2) (x0 :: x1 :: x2 :: x3 :: x4 :: x5 :: x6 :: some (.ref x) :: r) st μ Q) : WA g d mi pc (x0 :: x1 :: x2 :: x3 :: x4 :: x5 :: x6 :: x7 :: r) (.ref x :: st) μ Q :=
  a_astoreW (i := 7) (ls := x0 :: x1 :: x2 :: x3 :: x4 :: x5 :: x6 :: x7 :: r) hd hn (by simp) (fun j h u hu => nl_prev hq (by obtain rfl : j = 6 := Nat.succ.inj h; exact Option.some.inj hu)) k
theorem a_aload_7 {x0 x1 x2 x3 x4 x5 x6 : Option Value} {r : List (Option Value)} {x : Nat} (hd : decode mi.2.1 pc = .ok (.aload 7, 2)) (k : WA g d mi (pc + 2) (x0 :: x1 :: x2 :: x3 :: x4 :: x5 :: x6 :: some (.ref x) :: r) (.ref x :: st) μ Q) : WA g d mi pc (x0 :: x1 :: x2 :: x3 :: x4 :: x5 :: x6 :: some (.ref x) :: r) st μ Q :=
  a_aloadW (i := 7) hd (rfl) k
theorem a_iinc_7 {x0 x1 x2 x3 x4 x5 x6 : Option Value} {r : List (Option Value)} {n : Int} {x c0 : Int32} (hd : decode mi.2.1 pc = .ok (.iinc 7 n, 3)) (hc : Int32.ofInt n = c0) (hn : 7 < mi.2.2.1) (hq : nl x6 = true) (k : WA g d mi (pc + 3) (x0 :: x1 :: x2 :: x3 :: x4 :: x5 :: x6 :: some (.int (x + c0)) :: r) st μ Q) : WA g d mi pc (x0 :: x1 :: x2 :: x3 :: x4 :: x5 :: x6 :: some (.int x) :: r) st μ Q :=
  a_iincW (i := 7) (ls := x0 :: x1 :: x2 :: x3 :: x4 :: x5 :: x6 :: some (.int x) :: r) hd rfl hc hn (fun j h u hu => nl_prev hq (by obtain rfl : j = 6 := Nat.succ.inj h; exact Option.some.inj hu)) k
theorem a_istore_8 {x0 x1 x2 x3 x4 x5 x6 x7 x8 : Option Value} {r : List (Option Value)} {x : Int32} (hd : decode mi.2.1 pc = .ok (.istore 8, 2)) (hn : 8 < mi.2.2.1) (hq : nl x7 = true) (k : WA g d mi (pc + 2) (x0 :: x1 :: x2 :: x3 :: x4 :: x5 :: x6 :: x7 :: some (.int x) :: r) st μ Q) : WA g d mi pc (x0 :: x1 :: x2 :: x3 :: x4 :: x5 :: x6 :: x7 :: x8 :: r) (.int x :: st) μ Q :=
  a_istoreW (i := 8) (ls := x0 :: x1 :: x2 :: x3 :: x4 :: x5 :: x6 :: x7 :: x8 :: r) hd hn (by simp) (fun j h u hu => nl_prev hq (by obtain rfl : j = 7 := Nat.succ.inj h; exact Option.some.inj hu)) k
theorem a_iload_8 {x0 x1 x2 x3 x4 x5 x6 x7 : Option Value} {r : List (Option Value)} {x : Int32} (hd : decode mi.2.1 pc = .ok (.iload 8, 2)) (k : WA g d mi (pc + 2) (x0 :: x1 :: x2 :: x3 :: x4 :: x5 :: x6 :: x7 :: some (.int x) :: r) (.int x :: st) μ Q) : WA g d mi pc (x0 :: x1 :: x2 :: x3 :: x4 :: x5 :: x6 :: x7 :: some (.int x) :: r) st μ Q :=
  a_iloadW (i := 8) hd (rfl) k
theorem a_astore_8 {x0 x1 x2 x3 x4 x5 x6 x7 x8 : Option Value} {r : List (Option Value)} {x : Nat} (hd : decode mi.2.1 pc = .ok (.astore 8, 2)) (hn : 8 < mi.2.2.1) (hq : nl x7 = true) (k : WA g d mi (pc + 2) (x0 :: x1 :: x2 :: x3 :: x4 :: x5 :: x6 :: x7 :: some (.ref x) :: r) st μ Q) : WA g d mi pc (x0 :: x1 :: x2 :: x3 :: x4 :: x5 :: x6 :: x7 :: x8 :: r) (.ref x :: st) μ Q :=
  a_astoreW (i := 8) (ls := x0 :: x1 :: x2 :: x3 :: x4 :: x5 :: x6 :: x7 :: x8 :: r) hd hn (by simp) (fun j h u hu => nl_prev hq (by obtain rfl : j = 7 := Nat.succ.inj h; exact Option.some.inj hu)) k
theorem a_aload_8 {x0 x1 x2 x3 x4 x5 x6 x7 : Option Value} {r : List (Option Value)} {x : Nat} (hd : decode mi.2.1 pc = .ok (.aload 8, 2)) (k : WA g d mi (pc + 2) (x0 :: x1 :: x2 :: x3 :: x4 :: x5 :: x6 :: x7 :: some (.ref x) :: r) (.ref x :: st) μ Q) : WA g d mi pc (x0 :: x1 :: x2 :: x3 :: x4 :: x5 :: x6 :: x7 :: some (.ref x) :: r) st μ Q :=
  a_aloadW (i := 8) hd (rfl) k
theorem a_iinc_8 {x0 x1 x2 x3 x4 x5 x6 x7 : Option Value} {r : List (Option Value)} {n : Int} {x c0 : Int32} (hd : decode mi.2.1 pc = .ok (.iinc 8 n, 3)) (hc : Int32.ofInt n = c0) (hn : 8 < mi.2.2.1) (hq : nl x7 = true) (k : WA g d mi (pc + 3) (x0 :: x1 :: x2 :: x3 :: x4 :: x5 :: x6 :: x7 :: some (.int (x + c0)) :: r) st μ Q) : WA g d mi pc (x0 :: x1 :: x2 :: x3 :: x4 :: x5 :: x6 :: x7 :: some (.int x) :: r) st μ Q :=
  a_iincW (i := 8) (ls := x0 :: x1 :: x2 :: x3 :: x4 :: x5 :: x6 :: x7 :: some (.int x) :: r) hd rfl hc hn (fun j h u hu => nl_prev hq (by obtain rfl : j = 7 := Nat.succ.inj h; exact Option.some.inj hu)) k
theorem a_istore_9 {x0 x1 x2 x3 x4 x5 x6 x7 x8 x9 : Option Value} {r : List (Option Value)} {x : Int32} (hd : decode mi.2.1 pc = .ok (.istore 9, 2)) (hn : 9 < mi.2.2.1) (hq : nl x8 = true) (k : WA g d mi (pc + 2) (x0 :: x1 :: x2 :: x3 :: x4 :: x5 :: x6 :: x7 :: x8 :: some (.int x) :: r) st μ Q) : WA g d mi pc (x0 :: x1 :: x2 :: x3 :: x4 :: x5 :: x6 :: x7 :: x8 :: x9 :: r) (.int x :: st) μ Q :=
  a_istoreW (i := 9) (ls := x0 :: x1 :: x2 :: x3 :: x4 :: x5 :: x6 :: x7 :: x8 :: x9 :: r) hd hn (by simp) (fun j h u hu => nl_prev hq (by obtain rfl : j = 8 := Nat.succ.inj h; exact Option.some.inj hu)) k
theorem a_iload_9 {x0 x1 x2 x3 x4 x5 x6 x7 x8 : Option Value} {r : List (Option Value)} {x : Int32} (hd : decode mi.2.1 pc = .ok (.iload 9, 2)) (k : WA g d mi (pc + 2) (x0 :: x1 :: x2 :: x3 :: x4 :: x5 :: x6 :: x7 :: x8 :: some (.int x) :: r) (.int x :: st) μ Q) : WA g d mi pc (x0 :: x1 :: x2 :: x3 :: x4 :: x5 :: x6 :: x7 :: x8 :: some (.int x) :: r) st μ Q :=
  a_iloadW (i := 9) hd (rfl) k
theorem a_astore_9 {x0 x1 x2 x3 x4 x5 x6 x7 x8 x9 : Option Value} {r : List (Option Value)} {x : Nat} (hd : decode mi.2.1 pc = .ok (.astore 9, 2)) (hn : 9 < mi.2.2.1) (hq : nl x8 = true) (k : WA g d mi (pc + 2) (x0 :: x1 :: x2 :: x3 :: x4 :: x5 :: x6 :: x7 :: x8 :: some (.ref x) :: r) st μ Q) : WA g d mi pc (x0 :: x1 :: x2 :: x3 :: x4 :: x5 :: x6 :: x7 :: x8 :: x9 :: r) (.ref x :: st) μ Q :=
  a_astoreW (i := 9) (ls := x0 :: x1 :: x2 :: x3 :: x4 :: x5 :: x6 :: x7 :: x8 :: x9 :: r) hd hn (by simp) (fun j h u hu => nl_prev hq (by obtain rfl : j = 8 := Nat.succ.inj h; exact Option.some.inj hu)) k
theorem a_aload_9 {x0 x1 x2 x3 x4 x5 x6 x7 x8 : Option Value} {r : List (Option Value)} {x : Nat} (hd : decode mi.2.1 pc = .ok (.aload 9, 2)) (k : WA g d mi (pc + 2) (x0 :: x1 :: x2 :: x3 :: x4 :: x5 :: x6 :: x7 :: x8 :: some (.ref x) :: r) (.ref x :: st) μ Q) : WA g d mi pc (x0 :: x1 :: x2 :: x3 :: x4 :: x5 :: x6 :: x7 :: x8 :: some (.ref x) :: r) st μ Q :=
  a_aloadW (i := 9) hd (rfl) k
theorem a_iinc_9 {x0 x1 x2 x3 x4 x5 x6 x7 x8 : Option Value} {r : List (Option Value)} {n : Int} {x c0 : Int32} (hd : decode mi.2.1 pc = .ok (.iinc 9 n, 3)) (hc : Int32.ofInt n = c0) (hn : 9 < mi.2.2.1) (hq : nl x8 = true) (k : WA g d mi (pc + 3) (x0 :: x1 :: x2 :: x3 :: x4 :: x5 :: x6 :: x7 :: x8 :: some (.int (x + c0)) :: r) st μ Q) : WA g d mi pc (x0 :: x1 :: x2 :: x3 :: x4 :: x5 :: x6 :: x7 :: x8 :: some (.int x) :: r) st μ Q :=
  a_iincW (i := 9) (ls := x0 :: x1 :: x2 :: x3 :: x4 :: x5 :: x6 :: x7 :: x8 :: some (.int x) :: r) hd rfl hc hn (fun j h u hu => nl_prev hq (by obtain rfl : j = 8 := Nat.succ.inj h; exact Option.some.inj hu)) k
theorem a_istore_10 {x0 x1 x2 x3 x4 x5 x6 x7 x8 x9 x10 : Option Value} {r : List (Option Value)} {x : Int32} (hd : decode mi.2.1 pc = .ok (.istore 10, 2)) (hn : 10 < mi.2.2.1) (hq : nl x9 = true) (k : WA g d mi (pc + 2) (x0 :: x1 :: x2 :: x3 :: x4 :: x5 :: x6 :: x7 :: x8 :: x9 :: some (.int x) :: r) st μ Q) : WA g d mi pc (x0 :: x1 :: x2 :: x3 :: x4 :: x5 :: x6 :: x7 :: x8 :: x9 :: x10 :: r) (.int x :: st) μ Q :=
  a_istoreW (i := 10) (ls := x0 :: x1 :: x2 :: x3 :: x4 :: x5 :: x6 :: x7 :: x8 :: x9 :: x10 :: r) hd hn (by simp) (fun j h u hu => nl_prev hq (by obtain rfl : j = 9 := Nat.succ.inj h; exact Option.some.inj hu)) k
theorem a_iload_10 {x0 x1 x2 x3 x4 x5 x6 x7 x8 x9 : Option Value} {r : List (Option Value)} {x : Int32} (hd : decode mi.2.1 pc = .ok (.iload 10, 2)) (k : WA g d mi (pc + 2) (x0 :: x1 :: x2 :: x3 :: x4 :: x5 :: x6 :: x7 :: x8 :: x9 :: some (.int x) :: r) (.int x :: st) μ Q) : WA g d mi pc (x0 :: x1 :: x2 :: x3 :: x4 :: x5 :: x6 :: x7 :: x8 :: x9 :: some (.int x) :: r) st μ Q :=
  a_iloadW (i := 10) hd (rfl) k
theorem a_astore_10 {x0 x1 x2 x3 x4 x5 x6 x7 x8 x9 x10 : Option Value} {r : List (Option Value)} {x : Nat} (hd : decode mi.2.1 pc = .ok (.astore 10, 2)) (hn : 10 < mi.2.2.1) (hq : nl x9 = true) (k : WA g d mi (pc + 2) (x0 :: x1 :: x2 :: x3 :: x4 :: x5 :: x6 :: x7 :: x8 :: x9 :: some (.ref x) :: r) st μ Q) : WA g d mi pc (x0 :: x1 :: x2 :: x3 :: x4 :: x5 :: x6 :: x7 :: x8 :: x9 :: x10 :: r) (.ref x :: st) μ Q :=
  a_astoreW (i := 10) (ls := x0 :: x1 :: x2 :: x3 :: x4 :: x5 :: x6 :: x7 :: x8 :: x9 :: x10 :: r) hd hn (by simp) (fun j h u hu => nl_prev hq (by obtain rfl : j = 9 := Nat.succ.inj h; exact Option.some.inj hu)) k
theorem a_aload_10 {x0 x1 x2 x3 x4 x5 x6 x7 x8 x9 : Option Value} {r : List (Option Value)} {x : Nat} (hd : decode mi.2.1 pc = .ok (.aload 10, 2)) (k : WA g d mi (pc + 2) (x0 :: x1 :: x2 :: x3 :: x4 :: x5 :: x6 :: x7 :: x8 :: x9 :: some (.ref x) :: r) (.ref x :: st) μ Q) : WA g d mi pc (x0 :: x1 :: x2 :: x3 :: x4 :: x5 :: x6 :: x7 :: x8 :: x9 :: some (.ref x) :: r) st μ Q :=
  a_aloadW (i := 10) hd (rfl) k
theorem a_iinc_10 {x0 x1 x2 x3 x4 x5 x6 x7 x8 x9 : Option Value} {r : List (Option Value)} {n : Int} {x c0 : Int32} (hd : decode mi.2.1 pc = .ok (.iinc 10 n, 3)) (hc : Int32.ofInt n = c0) (hn : 10 < mi.2.2.1) (hq : nl x9 = true) (k : WA g d mi (pc + 3) (x0 :: x1 :: x2 :: x3 :: x4 :: x5 :: x6 :: x7 :: x8 :: x9 :: some (.int (x + c0)) :: r) st μ Q) : WA g d mi pc (x0 :: x1 :: x2 :: x3 :: x4 :: x5 :: x6 :: x7 :: x8 :: x9 :: some (.int x) :: r) st μ Q :=
  a_iincW (i := 10) (ls := x0 :: x1 :: x2 :: x3 :: x4 :: x5 :: x6 :: x7 :: x8 :: x9 :: some (.int x) :: r) hd rfl hc hn (fun j h u hu => nl_prev hq (by obtain rfl : j = 9 := Nat.succ.inj h; exact Option.some.inj hu)) k
theorem a_istore_11 {x0 x1 x2 x3 x4 x5 x6 x7 x8 x9 x10 x11 : Option Value} {r : List (Option Value)} {x : Int32} (hd : decode mi.2.1 pc = .ok (.istore 11, 2)) (hn : 11 < mi.2.2.1) (hq : nl x10 = true) (k : WA g d mi (pc + 2) (x0 :: x1 :: x2 :: x3 :: x4 :: x5 :: x6 :: x7 :: x8 :: x9 :: x10 :: some (.int x) :: r) st μ Q) : WA g d mi pc (x0 :: x1 :: x2 :: x3 :: x4 :: x5 :: x6 :: x7 :: x8 :: x9 :: x10 :: x11 :: r) (.int x :: st) μ Q :=
  a_istoreW (i := 11) (ls := x0 :: x1 :: x2 :: x3 :: x4 :: x5 :: x6 :: x7 :: x8 :: x9 :: x10 :: x11 :: r) hd hn (by simp) (fun j h u hu => nl_prev hq (by obtain rfl : j = 10 := Nat.succ.inj h; exact Option.some.inj hu)) k
theorem a_iload_11 {x0 x1 x2 x3 x4 x5 x6 x7 x8 x9 x10 : Option Value} {r : List (Option Value)} {x : Int32} (hd : decode mi.2.1 pc = .ok (.iload 11, 2)) (k : WA g d mi (pc + 2) (x0 :: x1 :: x2 :: x3 :: x4 :: x5 :: x6 :: x7 :: x8 :: x9 :: x10 :: some (.int x) :: r) (.int x :: st) μ Q) : WA g d mi pc (x0 :: x1 :: x2 :: x3 :: x4 :: x5 :: x6 :: x7 :: x8 :: x9 :: x10 :: some (.int x) :: r) st μ Q :=
  a_iloadW (i := 11) hd (rfl) k
theorem a_astore_11 {x0 x1 x2 x3 x4 x5 x6 x7 x8 x9 x10 x11 : Option Value} {r : List (Option Value)} {x : Nat} (hd : decode mi.2.1 pc = .ok (.astore 11, 2)) (hn : 11 < mi.2.2.1) (hq : nl x10 = true) (k : WA g d mi (pc + 2) (x0 :: x1 :: x2 :: x3 :: x4 :: x5 :: x6 :: x7 :: x8 :: x9 :: x10 :: some (.ref x) :: r) st μ Q) : WA g d mi pc (x0 :: x1 :: x2 :: x3 :: x4 :: x5 :: x6 :: x7 :: x8 :: x9 :: x10 :: x11 :: r) (.ref x :: st) μ Q :=
  a_astoreW (i := 11) (ls := x0 :: x1 :: x2 :: x3 :: x4 :: x5 :: x6 :: x7 :: x8 :: x9 :: x10 :: x11 :: r) hd hn (by simp) (fun j h u hu => nl_prev hq (by obtain rfl : j = 10 := Nat.succ.inj h; exact Option.some.inj hu)) k
theorem a_aload_11 {x0 x1 x2 x3 x4 x5 x6 x7 x8 x9 x10 : Option Value} {r : List (Option Value)} {x : Nat} (hd : decode mi.2.1 pc = .ok (.aload 11, 2)) (k : WA g d mi (pc + 2) (x0 :: x1 :: x2 :: x3 :: x4 :: x5 :: x6 :: x7 :: x8 :: x9 :: x10 :: some (.ref x) :: r) (.ref x :: st) μ Q) : WA g d mi pc (x0 :: x1 :: x2 :: x3 :: x4 :: x5 :: x6 :: x7 :: x8 :: x9 :: x10 :: some (.ref x) :: r) st μ Q :=
  a_aloadW (i := 11) hd (rfl) k
theorem a_iinc_11 {x0 x1 x2 x3 x4 x5 x6 x7 x8 x9 x10 : Option Value} {r : List (Option Value)} {n : Int} {x c0 : Int32} (hd : decode mi.2.1 pc = .ok (.iinc 11 n, 3)) (hc : Int32.ofInt n = c0) (hn : 11 < mi.2.2.1) (hq : nl x10 = true) (k : WA g d mi (pc + 3) (x0 :: x1 :: x2 :: x3 :: x4 :: x5 :: x6 :: x7 :: x8 :: x9 :: x10 :: some (.int (x + c0)) :: r) st μ Q) : WA g d mi pc (x0 :: x1 :: x2 :: x3 :: x4 :: x5 :: x6 :: x7 :: x8 :: x9 :: x10 :: some (.int x) :: r) st μ Q :=
  a_iincW (i := 11) (ls := x0 :: x1 :: x2 :: x3 :: x4 :: x5 :: x6 :: x7 :: x8 :: x9 :: x10 :: some (.int x) :: r) hd rfl hc hn (fun j h u hu => nl_prev hq (by obtain rfl : j = 10 := Nat.succ.inj h; exact Option.some.inj hu)) k
theorem a_istore_12 {x0 x1 x2 x3 x4 x5 x6 x7 x8 x9 x10 x11 x12 : Option Value} {r : List (Option Value)} {x : Int32} (hd : decode mi.2.1 pc = .ok (.istore 12, 2)) (hn : 12 < mi.2.2.1) (hq : nl x11 = true) (k : WA g d mi (pc + 2) (x0 :: x1 :: x2 :: x3 :: x4 :: x5 :: x6 :: x7 :: x8 :: x9 :: x10 :: x11 :: some (.int x) :: r) st μ Q) : WA g d mi pc (x0 :: x1 :: x2 :: x3 :: x4 :: x5 :: x6 :: x7 :: x8 :: x9 :: x10 :: x11 :: x12 :: r) (.int x :: st) μ Q :=
  a_istoreW (i := 12) (ls := x0 :: x1 :: x2 :: x3 :: x4 :: x5 :: x6 :: x7 :: x8 :: x9 :: x10 :: x11 :: x12 :: r) hd hn (by simp) (fun j h u hu => nl_prev hq (by obtain rfl : j = 11 := Nat.succ.inj h; exact Option.some.inj hu)) k
theorem a_iload_12 {x0 x1 x2 x3 x4 x5 x6 x7 x8 x9 x10 x11 : Option Value} {r : List (Option Value)} {x : Int32} (hd : decode mi.2.1 pc = .ok (.iload 12, 2)) (k : WA g d mi (pc + 2) (x0 :: x1 :: x2 :: x3 :: x4 :: x5 :: x6 :: x7 :: x8 :: x9 :: x10 :: x11 :: some (.int x) :: r) (.int x :: st) μ Q) : WA g d mi pc (x0 :: x1 :: x2 :: x3 :: x4 :: x5 :: x6 :: x7 :: x8 :: x9 :: x10 :: x11 :: some (.int x) :: r) st μ Q :=
  a_iloadW (i := 12) hd (rfl) k
theorem a_astore_12 {x0 x1 x2 x3 x4 x5 x6 x7 x8 x9 x10 x11 x12 : Option Value} {r : List (Option Value)} {x : Nat} (hd : decode mi.2.1 pc = .ok (.astore 12, 2)) (hn : 12 < mi.2.2.1) (hq : nl x11 = true) (k : WA g d mi (pc + 2) (x0 :: x1 :: x2 :: x3 :: x4 :: x5 :: x6 :: x7 :: x8 :: x9 :: x10 :: x11 :: some (.ref x) :: r) st μ Q) : WA g d mi pc (x0 :: x1 :: x2 :: x3 :: x4 :: x5 :: x6 :: x7 :: x8 :: x9 :: x10 :: x11 :: x12 :: r) (.ref x :: st) μ Q :=
  a_astoreW (i := 12) (ls := x0 :: x1 :: x2 :: x3 :: x4 :: x5 :: x6 :: x7 :: x8 :: x9 :: x10 :: x11 :: x12 :: r) hd hn (by simp) (fun j h u hu => nl_prev hq (by obtain rfl : j = 11 := Nat.succ.inj h; exact Option.some.inj hu)) k
theorem a_aload_12 {x0 x1 x2 x3 x4 x5 x6 x7 x8 x9 x10 x11 : Option Value} {r : List (Option Value)} {x : Nat} (hd : decode mi.2.1 pc = .ok (.aload 12, 2)) (k : WA g d mi (pc + 2) (x0 :: x1 :: x2 :: x3 :: x4 :: x5 :: x6 :: x7 :: x8 :: x9 :: x10 :: x11 :: some (.ref x) :: r) (.ref x :: st) μ Q) : WA g d mi pc (x0 :: x1 :: x2 :: x3 :: x4 :: x5 :: x6 :: x7 :: x8 :: x9 :: x10 :: x11 :: some (.ref x) :: r) st μ Q :=
  a_aloadW (i := 12) hd (rfl) k
theorem a_iinc_12 {x0 x1 x2 x3 x4 x5 x6 x7 x8 x9 x10 x11 : Option Value} {r : List (Option Value)} {n : Int} {x c0 : Int32} (hd : decode mi.2.1 pc = .ok (.iinc 12 n, 3)) (hc : Int32.ofInt n = c0) (hn : 12 < mi.2.2.1) (hq : nl x11 = true) (k : WA g d mi (pc + 3) (x0 :: x1 :: x2 :: x3 :: x4 :: x5 :: x6 :: x7 :: x8 :: x9 :: x10 :: x11 :: some (.int (x + c0)) :: r) st μ Q) : WA g d mi pc (x0 :: x1 :: x2 :: x3 :: x4 :: x5 :: x6 :: x7 :: x8 :: x9 :: x10 :: x11 :: some (.int x) :: r) st μ Q :=
  a_iincW (i := 12) (ls := x0 :: x1 :: x2 :: x3 :: x4 :: x5 :: x6 :: x7 :: x8 :: x9 :: x10 :: x11 :: some (.int x) :: r) hd rfl hc hn (fun j h u hu => nl_prev hq (by obtain rfl : j = 11 := Nat.succ.inj h; exact Option.some.inj hu)) k
theorem a_istore_13 {x0 x1 x2 x3 x4 x5 x6 x7 x8 x9 x10 x11 x12 x13 : Option Value} {r : List (Option Value)} {x : Int32} (hd : decode mi.2.1 pc = .ok (.istore 13, 2)) (hn : 13 < mi.2.2.1) (hq : nl x12 = true) (k : WA g d mi (pc + 2) (x0 :: x1 :: x2 :: x3 :: x4 :: x5 :: x6 :: x7 :: x8 :: x9 :: x10 :: x11 :: x12 :: some (.int x) :: r) st μ Q) : WA g d mi pc (x0 :: x1 :: x2 :: x3 :: x4 :: x5 :: x6 :: x7 :: x8 :: x9 :: x10 :: x11 :: x12 :: x13 :: r) (.int x :: st) μ Q :=
  a_istoreW (i := 13) (ls := x0 :: x1 :: x2 :: x3 :: x4 :: x5 :: x6 :: x7 :: x8 :: x9 :: x10 :: x11 :: x12 :: x13 :: r) hd hn (by simp) (fun j h u hu => nl_prev hq (by obtain rfl : j = 12 := Nat.succ.inj h; exact Option.some.inj hu)) k
theorem a_iload_13 {x0 x1 x2 x3 x4 x5 x6 x7 x8 x9 x10 x11 x12 : Option Value} {r : List (Option Value)} {x : Int32} (hd : decode mi.2.1 pc = .ok (.iload 13, 2)) (k : WA g d mi (pc + 2) (x0 :: x1 :: x2 :: x3 :: x4 :: x5 :: x6 :: x7 :: x8 :: x9 :: x10 :: x11 :: x12 :: some (.int x) :: r) (.int x :: st) μ Q) : WA g d mi pc (x0 :: x1 :: x2 :: x3 :: x4 :: x5 :: x6 :: x7 :: x8 :: x9 :: x10 :: x11 :: x12 :: some (.int x) :: r) st μ Q :=
  a_iloadW (i := 13) hd (rfl) k
theorem a_astore_13 {x0 x1 x2 x3 x4 x5 x6 x7 x8 x9 x10 x11 x12 x13 : Option Value} {r : List (Option Value)} {x : Nat} (hd : decode mi.2.1 pc = .ok (.astore 13, 2)) (hn : 13 < mi.2.2.1) (hq : nl x12 = true) (k : WA g d mi (pc + 2) (x0 :: x1 :: x2 :: x3 :: x4 :: x5 :: x6 :: x7 :: x8 :: x9 :: x10 :: x11 :: x12 :: some (.ref x) :: r) st μ Q) : WA g d mi pc (x0 :: x1 :: x2 :: x3 :: x4 :: x5 :: x6 :: x7 :: x8 :: x9 :: x10 :: x11 :: x12 :: x13 :: r) (.ref x :: st) μ Q :=
  a_astoreW (i := 13) (ls := x0 :: x1 :: x2 :: x3 :: x4 :: x5 :: x6 :: x7 :: x8 :: x9 :: x10 :: x11 :: x12 :: x13 :: r) hd hn (by simp) (fun j h u hu => nl_prev hq (by obtain rfl : j = 12 := Nat.succ.inj h; exact Option.some.inj hu)) k
theorem a_aload_13 {x0 x1 x2 x3 x4 x5 x6 x7 x8 x9 x10 x11 x12 : Option Value} {r : List (Option Value)} {x : Nat} (hd : decode mi.2.1 pc = .ok (.aload 13, 2)) (k : WA g d mi (pc + 2) (x0 :: x1 :: x2 :: x3 :: x4 :: x5 :: x6 :: x7 :: x8 :: x9 :: x10 :: x11 :: x12 :: some (.ref x) :: r) (.ref x :: st) μ Q) : WA g d mi pc (x0 :: x1 :: x2 :: x3 :: x4 :: x5 :: x6 :: x7 :: x8 :: x9 :: x10 :: x11 :: x12 :: some (.ref x) :: r) st μ Q :=
  a_aloadW (i := 13) hd (rfl) k
theorem a_iinc_13 {x0 x1 x2 x3 x4 x5 x6 x7 x8 x9 x10 x11 x12 : Option Value} {r : List (Option Value)} {n : Int} {x c0 : Int32} (hd : decode mi.2.1 pc = .ok (.iinc 13 n, 3)) (hc : Int32.ofInt n = c0) (hn : 13 < mi.2.2.1) (hq : nl x12 = true) (k : WA g d mi (pc + 3) (x0 :: x1 :: x2 :: x3 :: x4 :: x5 :: x6 :: x7 :: x8 :: x9 :: x10 :: x11 :: x12 :: some (.int (x + c0)) :: r) st μ Q) : WA g d mi pc (x0 :: x1 :: x2 :: x3 :: x4 :: x5 :: x6 :: x7 :: x8 :: x9 :: x10 :: x11 :: x12 :: some (.int x) :: r) st μ Q :=
  a_iincW (i := 13) (ls := x0 :: x1 :: x2 :: x3 :: x4 :: x5 :: x6 :: x7 :: x8 :: x9 :: x10 :: x11 :: x12 :: some (.int x) :: r) hd rfl hc hn (fun j h u hu => nl_prev hq (by obtain rfl : j = 12 := Nat.succ.inj h; exact Option.some.inj hu)) k
theorem a_lload_0 {r : List (Option Value)} {x : Int64} (hd : decode mi.2.1 pc = .ok (.lload_n 0, 1)) (k : WA g d mi (pc + 1) (some (.long x) :: r) (.long x :: st) μ Q) : WA g d mi pc (some (.long x) :: r) st μ Q :=
  a_lloadN (i := 0) hd rfl (rfl) k
theorem a_lstore_0 {r : List (Option Value)} {y0 y1 : Option Value} {x : Int64} (hd : decode mi.2.1 pc = .ok (.lstore_n 0, 1)) (hn : 1 < mi.2.2.1) (k : WA g d mi (pc + 1) (some (.long x) :: none :: r) st μ Q) : WA g d mi pc (y0 :: y1 :: r) (.long x :: st) μ Q :=
  a_lstoreN (i := 0) (ls := y0 :: y1 :: r) hd rfl hn (by simp) (fun j h u hu => absurd h (Nat.succ_ne_zero j)) k
theorem a_lload_1 {x0 : Option Value} {r : List (Option Value)} {x : Int64} (hd : decode mi.2.1 pc = .ok (.lload_n 1, 1)) (k : WA g d mi (pc + 1) (x0 :: some (.long x) :: r) (.long x :: st) μ Q) : WA g d mi pc (x0 :: some (.long x) :: r) st μ Q :=
  a_lloadN (i := 1) hd rfl (rfl) k
theorem a_lstore_1 {x0 : Option Value} {r : List (Option Value)} {y0 y1 : Option Value} {x : Int64} (hd : decode mi.2.1 pc = .ok (.lstore_n 1, 1)) (hn : 2 < mi.2.2.1) (hq : nl x0 = true) (k : WA g d mi (pc + 1) (x0 :: some (.long x) :: none :: r) st μ Q) : WA g d mi pc (x0 :: y0 :: y1 :: r) (.long x :: st) μ Q :=
  a_lstoreN (i := 1) (ls := x0 :: y0 :: y1 :: r) hd rfl hn (by simp) (fun j h u hu => nl_prev hq (by obtain rfl : j = 0 := Nat.succ.inj h; exact Option.some.inj hu)) k
theorem a_lload_2 {x0 x1 : Option Value} {r : List (Option Value)} {x : Int64} (hd : decode mi.2.1 pc = .ok (.lload_n 2, 1)) (k : WA g d mi (pc + 1) (x0 :: x1 :: some (.long x) :: r) (.long x :: st) μ Q) : WA g d mi pc (x0 :: x1 :: some (.long x) :: r) st μ Q :=
  a_lloadN (i := 2) hd rfl (rfl) k
theorem a_lstore_2 {x0 x1 : Option Value} {r : List (Option Value)} {y0 y1 : Option Value} {x : Int64} (hd : decode mi.2.1 pc = .ok (.lstore_n 2, 1)) (hn : 3 < mi.2.2.1) (hq : nl x1 = true) (k : WA g d mi (pc + 1) (x0 :: x1 :: some (.long x) :: none :: r) st μ Q) : WA g d mi pc (x0 :: x1 :: y0 :: y1 :: r) (.long x :: st) μ Q :=
  a_lstoreN (i := 2) (ls := x0 :: x1 :: y0 :: y1 :: r) hd rfl hn (by simp) (fun j h u hu => nl_prev hq (by obtain rfl : j = 1 := Nat.succ.inj h; exact Option.some.inj hu)) k
theorem a_lload_3 {x0 x1 x2 : Option Value} {r : List (Option Value)} {x : Int64} (hd : decode mi.2.1 pc = .ok (.lload_n 3, 1)) (k : WA g d mi (pc + 1) (x0 :: x1 :: x2 :: some (.long x) :: r) (.long x :: st) μ Q) : WA g d mi pc (x0 :: x1 :: x2 :: some (.long x) :: r) st μ Q :=
  a_lloadN (i := 3) hd rfl (rfl) k
theorem a_lstore_3 {x0 x1 x2 : Option Value} {r : List (Option Value)} {y0 y1 : Option Value} {x : Int64} (hd : decode mi.2.1 pc = .ok (.lstore_n 3, 1)) (hn : 4 < mi.2.2.1) (hq : nl x2 = true) (k : WA g d mi (pc + 1) (x0 :: x1 :: x2 :: some (.long x) :: none :: r) st μ Q) : WA g d mi pc (x0 :: x1 :: x2 :: y0 :: y1 :: r) (.long x :: st) μ Q :=
  a_lstoreN (i := 3) (ls := x0 :: x1 :: x2 :: y0 :: y1 :: r) hd rfl hn (by simp) (fun j h u hu => nl_prev hq (by obtain rfl : j = 2 := Nat.succ.inj h; exact Option.some.inj hu)) k
theorem a_lload_4 {x0 x1 x2 x3 : Option Value} {r : List (Option Value)} {x : Int64} (hd : decode mi.2.1 pc = .ok (.lload 4, 2)) (k : WA g d mi (pc + 2) (x0 :: x1 :: x2 :: x3 :: some (.long x) :: r) (.long x :: st) μ Q) : WA g d mi pc (x0 :: x1 :: x2 :: x3 :: some (.long x) :: r) st μ Q :=
  a_lloadW (i := 4) hd (rfl) k
theorem a_lstore_4 {x0 x1 x2 x3 : Option Value} {r : List (Option Value)} {y0 y1 : Option Value} {x : Int64} (hd : decode mi.2.1 pc = .ok (.lstore 4, 2)) (hn : 5 < mi.2.2.1) (hq : nl x3 = true) (k : WA g d mi (pc + 2) (x0 :: x1 :: x2 :: x3 :: some (.long x) :: none :: r) st μ Q) : WA g d mi pc (x0 :: x1 :: x2 :: x3 :: y0 :: y1 :: r) (.long x :: st) μ Q :=
  a_lstoreW (i := 4) (ls := x0 :: x1 :: x2 :: x3 :: y0 :: y1 :: r) hd hn (by simp) (fun j h u hu => nl_prev hq (by obtain rfl : j = 3 := Nat.succ.inj h; exact Option.some.inj hu)) k
theorem a_lload_5 {x0 x1 x2 x3 x4 : Option Value} {r : List (Option Value)} {x : Int64} (hd : decode mi.2.1 pc = .ok (.lload 5, 2)) (k : WA g d mi (pc + 2) (x0 :: x1 :: x2 :: x3 :: x4 :: some (.long x) :: r) (.long x :: st) μ Q) : WA g d mi pc (x0 :: x1 :: x2 :: x3 :: x4 :: some (.long x) :: r) st μ Q :=
  a_lloadW (i := 5) hd (rfl) k
theorem a_lstore_5 {x0 x1 x2 x3 x4 : Option Value} {r : List (Option Value)} {y0 y1 : Option Value} {x : Int64} (hd : decode mi.2.1 pc = .ok (.lstore 5, 2)) (hn : 6 < mi.2.2.1) (hq : nl x4 = true) (k : WA g d mi (pc + 2) (x0 :: x1 :: x2 :: x3 :: x4 :: some (.long x) :: none :: r) st μ Q) : WA g d mi pc (x0 :: x1 :: x2 :: x3 :: x4 :: y0 :: y1 :: r) (.long x :: st) μ Q :=
  a_lstoreW (i := 5) (ls := x0 :: x1 :: x2 :: x3 :: x4 :: y0 :: y1 :: r) hd hn (by simp) (fun j h u hu => nl_prev hq (by obtain rfl : j = 4 := Nat.succ.inj h; exact Option.some.inj hu)) k
theorem a_lload_6 {x0 x1 x2 x3 x4 x5 : Option Value} {r : List (Option Value)} {x : Int64} (hd : decode mi.2.1 pc = .ok (.lload 6, 2)) (k : WA g d mi (pc + 2) (x0 :: x1 :: x2 :: x3 :: x4 :: x5 :: some (.long x) :: r) (.long x :: st) μ Q) : WA g d mi pc (x0 :: x1 :: x2 :: x3 :: x4 :: x5 :: some (.long x) :: r) st μ Q :=
  a_lloadW (i := 6) hd (rfl) k
theorem a_lstore_6 {x0 x1 x2 x3 x4 x5 : Option Value} {r : List (Option Value)} {y0 y1 : Option Value} {x : Int64} (hd : decode mi.2.1 pc = .ok (.lstore 6, 2)) (hn : 7 < mi.2.2.1) (hq : nl x5 = true) (k : WA g d mi (pc + 2) (x0 :: x1 :: x2 :: x3 :: x4 :: x5 :: some (.long x) :: none :: r) st μ Q) : WA g d mi pc (x0 :: x1 :: x2 :: x3 :: x4 :: x5 :: y0 :: y1 :: r) (.long x :: st) μ Q :=
  a_lstoreW (i := 6) (ls := x0 :: x1 :: x2 :: x3 :: x4 :: x5 :: y0 :: y1 :: r) hd hn (by simp) (fun j h u hu => nl_prev hq (by obtain rfl : j = 5 := Nat.succ.inj h; exact Option.some.inj hu)) k
theorem a_lload_7 {x0 x1 x2 x3 x4 x5 x6 : Option Value} {r : List (Option Value)} {x : Int64} (hd : decode mi.2.1 pc = .ok (.lload 7, 2)) (k : WA g d mi (pc + 2) (x0 :: x1 :: x2 :: x3 :: x4 :: x5 :: x6 :: some (.long x) :: r) (.long x :: st) μ Q) : WA g d mi pc (x0 :: x1 :: x2 :: x3 :: x4 :: x5 :: x6 :: some (.long x) :: r) st μ Q :=
  a_lloadW (i := 7) hd (rfl) k
theorem a_lstore_7 {x0 x1 x2 x3 x4 x5 x6 : Option Value} {r : List (Option Value)} {y0 y1 : Option Value} {x : Int64} (hd : decode mi.2.1 pc = .ok (.lstore 7, 2)) (hn : 8 < mi.2.2.1) (hq : nl x6 = true) (k : WA g d mi (pc + 2) (x0 :: x1 :: x2 :: x3 :: x4 :: x5 :: x6 :: some (.long x) :: none :: r) st μ Q) : WA g d mi pc (x0 :: x1 :: x2 :: x3 :: x4 :: x5 :: x6 :: y0 :: y1 :: r) (.long x :: st) μ Q :=
  a_lstoreW (i := 7) (ls := x0 :: x1 :: x2 :: x3 :: x4 :: x5 :: x6 :: y0 :: y1 :: r) hd hn (by simp) (fun j h u hu => nl_prev hq (by obtain rfl : j = 6 := Nat.succ.inj h; exact Option.some.inj hu)) k
end AROWS
end
section
/-! Rows for fields, arrays, calls, ends; a contract out of a walk. -/
def CLS (ci : Nat) (C : String) (T : u_T) (N : Nat) (ty : Nat → FieldType) : Prop := vwCl[ci]? = some (C, T, N) ∧ (∀ w ∈ u_ws C T N, w ∈ wG) ∧ (∀ k, k < N → parseFieldDescriptor (T k).2.2.1 = some (ty k)) ∧ (∀ a, a < N → ∀ b, b < N → a ≠ b → (T a).2.1 ≠ (T b).2.1)
/-- getfield number idx of the class own reads field k of the class number ci -/
def FA (own : String) (idx ci k : Nat) : Prop := ∃ (C : String) (T : u_T) (N : Nat) (ty : Nat → FieldType), CLS ci C T N ty ∧ k < N ∧ Cond.fieldLink own idx (T k).1 (T k).2.1 (T k).2.2.1 ∈ wG
def FP (own : String) (idx ci k : Nat) (t : FieldType) : Prop := ∃ (C : String) (T : u_T) (N : Nat) (ty : Nat → FieldType), CLS ci C T N ty ∧ k < N ∧ Cond.fieldLink own idx (T k).1 (T k).2.1 (T k).2.2.1 ∈ wG ∧ (T k).2.2.2 = false ∧ ty k = t
theorem in_wG {w : Cond} (h : w ∈ lw_tbl) (hg : goodWord w = true) : w ∈ wG := List.mem_filter.mpr ⟨h, hg⟩
theorem eC_obj {g : GT} {μ : MM} {r ci : Nat} {fs : List (Option Nat)} (hs : sh r = .inl (ci, fs)) : eC g μ r = .inr (ci, eF g μ r 0 fs) := by unfold eC; rw [hs]; rfl
theorem eC_arr {g : GT} {μ : MM} {r t n : Nat} (hs : sh r = .inr (.inl (t, n))) : eC g μ r = .inl ((if t = 0 then g.2.2.1.1 else g.2.2.1.2.1), n, .inl (μ r)) := by unfold eC; rw [hs]; rfl
theorem eC_refs {g : GT} {μ : MM} {r : Nat} {qs : List Nat} (hs : sh r = .inr (.inr qs)) : eC g μ r = .inl (g.2.2.1.2.2, qs.length, .inr (.inr (.inr (.inr (fun i => (qs[i]?).map g.1))))) := by unfold eC; rw [hs]; rfl
theorem eC_congr {g : GT} {μ μ' : MM} {r : Nat} (h : μ' r = μ r) : eC g μ' r = eC g μ r := by
  have key : ∀ (fs : List (Option Nat)) (j : Nat), eF g μ' r j fs = eF g μ r j fs := by
    intro fs
    induction fs with
    | nil => intro j; rfl
    | cons f fs ih => intro j; cases f <;> simp [eF, ih, h]
  unfold eC
  rcases sh r with ⟨ci, fs⟩ | ⟨t, n⟩ | qs
  · simp only [eC']; rw [key]
  · simp only [eC', h]
  · rfl
theorem eW_setG {g : GT} {μ μ' : MM} {r : Nat} {x : va_E} (hr : r < NC) (ho : ∀ q, q ≠ r → μ' q = μ q) (h : eC g μ' r = x) : (eW g μ).set r (g.1 r, x) = eW g μ' := by
  apply List.ext_getElem?
  intro i
  rw [List.getElem?_set]
  have hl : (eW g μ).length = NC := by simp [eW]
  by_cases hi : r = i
  · subst hi
    rw [if_pos rfl, if_pos (by rw [hl]; exact hr), eW_get _ _ hr, h]
  · rw [if_neg hi]
    by_cases hin : i < NC
    · rw [eW_get _ _ hin, eW_get _ _ hin, eC_congr (ho i (Ne.symm hi))]
    · rw [List.getElem?_eq_none (by rw [hl]; omega), List.getElem?_eq_none (by simp [eW]; omega)]
theorem up2_off {μ : MM} {r k : Nat} {v : Int32} {q : Nat} (h : q ≠ r) : up2 μ r k v q = μ q := by funext x; simp [up2, h]
theorem up2_on {μ : MM} {r k : Nat} {v : Int32} : up2 μ r k v r = upd (μ r) k v := by funext x; simp [up2, upd]
/-- row r0's first n places into row r1 -/
def cpy (μ : MM) (r0 r1 n : Nat) : MM := fun r k => if r = r1 ∧ k < n then μ r0 k else μ r k
theorem cpy_off {μ : MM} {r0 r1 n q : Nat} (h : q ≠ r1) : cpy μ r0 r1 n q = μ q := by funext x; simp [cpy, h]
theorem cpy_on {μ : MM} {r0 r1 n : Nat} : cpy μ r0 r1 n r1 = va_cpy (μ r0) (μ r1) 0 0 n := by funext x; simp [cpy, va_cpy]
section BROWS
variable {g : GT} {d : Nat} {mi : MI} {pc : Nat} {ls : List (Option Value)} {st : List Value} {μ : MM} {Q : Option Value → MM → Prop}
theorem a_getI {r ci k idx : Nat} {fs : List (Option Nat)} (hd : decode mi.2.1 pc = .ok (.getfield idx, 3)) (hf : FA mi.1 idx ci k) (hr : r < NC) (hs : sh r = .inl (ci, fs)) (hk : fs[k]? = some none) (kk : WA g d mi (pc + 3) ls (.int (μ r k) :: st) μ Q) : WA g d mi pc ls (.ref r :: st) μ Q := by
  intro p e s m args below meth c H locs lsA A hP hS hl
  obtain ⟨C, T, N, ty, ⟨hc, hin, hty, hnm⟩, hkN, hw⟩ := hf
  have hg := eW_get g μ hr
  rw [eC_obj hs] at hg
  exact va_get (v := .int (μ r k)) A.1 A.2.1 A.2.2.2.2.1 hin A.2.2.2.1 A.2.2.2.2.2.1.1 hP r hg hc k hkN (A.2.2.2.2.1 _ hw) (fun _ h => h) (by rw [eF_get, hk]; simp) hd (kk p e s m args below meth c H locs lsA A hP hS hl)
theorem a_getR {r ci k idx q : Nat} {fs : List (Option Nat)} (hd : decode mi.2.1 pc = .ok (.getfield idx, 3)) (hf : FA mi.1 idx ci k) (hr : r < NC) (hs : sh r = .inl (ci, fs)) (hk : fs[k]? = some (some q)) (kk : WA g d mi (pc + 3) ls (.ref q :: st) μ Q) : WA g d mi pc ls (.ref r :: st) μ Q := by
  intro p e s m args below meth c H locs lsA A hP hS hl
  obtain ⟨C, T, N, ty, ⟨hc, hin, hty, hnm⟩, hkN, hw⟩ := hf
  have hg := eW_get g μ hr
  rw [eC_obj hs] at hg
  exact va_get (v := .ref (g.1 q)) A.1 A.2.1 A.2.2.2.2.1 hin A.2.2.2.1 A.2.2.2.2.2.1.1 hP r hg hc k hkN (A.2.2.2.2.1 _ hw) (fun _ h => h) (by rw [eF_get, hk]; rfl) hd (kk p e s m args below meth c H locs lsA A hP hS hl)
theorem a_put {r ci k idx : Nat} {t : FieldType} {v : Int32} {fs : List (Option Nat)} (hd : decode mi.2.1 pc = .ok (.putfield idx, 3)) (hf : FP mi.1 idx ci k t) (hn : narrow t (.int v) = .int v) (hfit : fits t (.int v) = true) (hr : r < NC) (hs : sh r = .inl (ci, fs)) (hk : fs[k]? = some none) (kk : WA g d mi (pc + 3) ls st (up2 μ r k v) Q) : WA g d mi pc ls (.int v :: .ref r :: st) μ Q := by
  intro p e s m args below meth c H locs lsA A hP hS hl
  obtain ⟨C, T, N, ty, ⟨hc, hin, hty, hnm⟩, hkN, hw, hfin, ht⟩ := hf
  have hg := eW_get g μ hr
  rw [eC_obj hs] at hg
  have hkl : k < fs.length := (List.getElem?_eq_some_iff.mp hk).1
  refine va_put (v := .int v) (ty := t) A.1 A.2.1 A.2.2.2.2.1 hin ty hty hnm A.2.2.2.1 A.2.2.2.2.2.1.1 hP (eW_D A.2.2.2.2.2.2.1 μ) hS r hg hc k hkN (A.2.2.2.2.1 _ hw) (fun _ h => h) hfin (by rw [hty k hkN, ht]) hn hfit (by rw [eF_len]; exact hkl) hd (fun H1 locs1 hP1 hD1 hS1 => ?_)
  refine kk p e s m args below meth c H1 locs1 lsA A ?_ hS1 hl
  have e1 : (eW g μ).set r (g.1 r, .inr (ci, (eF g μ r 0 fs).set k (.int v))) = eW g (up2 μ r k v) := eW_set hr (by rw [eC_obj hs, eF_up g μ r k v fs hk])
  unfold VP
  rw [← e1]
  exact hP1
theorem a_putI {r ci k idx : Nat} {v : Int32} {fs : List (Option Nat)} (hd : decode mi.2.1 pc = .ok (.putfield idx, 3)) (hf : FP mi.1 idx ci k .int) (hr : r < NC) (hs : sh r = .inl (ci, fs)) (hk : fs[k]? = some none) (kk : WA g d mi (pc + 3) ls st (up2 μ r k v) Q) : WA g d mi pc ls (.int v :: .ref r :: st) μ Q := a_put hd hf rfl rfl hr hs hk kk
theorem nb_of {v : Int32} (h : v = 0 ∨ v = 1) : narrow .boolean (.int v) = .int v := by rcases h with rfl | rfl <;> decide +kernel
theorem nf_of {v : Int32} (h : v = 0 ∨ v = 1) : fits .boolean (.int v) = true := by rcases h with rfl | rfl <;> decide +kernel
theorem vb_of {v : Int32} (h : v = 0 ∨ v = 1) : vp_nar .boolean v = v := by rcases h with rfl | rfl <;> decide +kernel
theorem a_putZ {r ci k idx : Nat} {v : Int32} {fs : List (Option Nat)} (hd : decode mi.2.1 pc = .ok (.putfield idx, 3)) (hf : FP mi.1 idx ci k .boolean) (hv : v = 0 ∨ v = 1) (hr : r < NC) (hs : sh r = .inl (ci, fs)) (hk : fs[k]? = some none) (kk : WA g d mi (pc + 3) ls st (up2 μ r k v) Q) : WA g d mi pc ls (.int v :: .ref r :: st) μ Q := a_put hd hf (nb_of hv) (nf_of hv) hr hs hk kk
theorem a_iald {r n : Nat} {i : Int32} (hd : decode mi.2.1 pc = .ok (.iaload, 1)) (hr : r < NC) (hs : sh r = .inr (.inl (0, n))) (hi : vp_in i n) (kk : WA g d mi (pc + 1) ls (.int (μ r i.toNatClampNeg) :: st) μ Q) : WA g d mi pc ls (.int i :: .ref r :: st) μ Q := by
  intro p e s m args below meth c H locs lsA A hP hS hl
  have hg := eW_get g μ hr
  rw [eC_arr hs] at hg
  exact va_iald A.1 A.2.1 A.2.2.2.2.2.1.1 hP r 0 hg rfl hi hd (kk p e s m args below meth c H locs lsA A hP hS hl)
theorem a_zald {r n : Nat} {i : Int32} (hd : decode mi.2.1 pc = .ok (.baload, 1)) (hr : r < NC) (hs : sh r = .inr (.inl (1, n))) (hi : vp_in i n) (kk : WA g d mi (pc + 1) ls (.int (μ r i.toNatClampNeg) :: st) μ Q) : WA g d mi pc ls (.int i :: .ref r :: st) μ Q := by
  intro p e s m args below meth c H locs lsA A hP hS hl
  have hg := eW_get g μ hr
  rw [eC_arr hs] at hg
  exact va_zald A.1 A.2.1 A.2.2.2.2.2.1.1 hP r 1 hg rfl hi hd (kk p e s m args below meth c H locs lsA A hP hS hl)
theorem a_iast {r n : Nat} {i x : Int32} (hd : decode mi.2.1 pc = .ok (.iastore, 1)) (hr : r < NC) (hs : sh r = .inr (.inl (0, n))) (hi : vp_in i n) (kk : WA g d mi (pc + 1) ls st (up2 μ r i.toNatClampNeg x) Q) : WA g d mi pc ls (.int x :: .int i :: .ref r :: st) μ Q := by
  intro p e s m args below meth c H locs lsA A hP hS hl
  have hg := eW_get g μ hr
  rw [eC_arr hs] at hg
  refine va_iast A.1 A.2.1 A.2.2.2.2.2.1.1 hP (eW_D A.2.2.2.2.2.2.1 μ) hS r 0 hg rfl hi hd (fun H1 locs1 hP1 hD1 hS1 => ?_)
  refine kk p e s m args below meth c H1 locs1 lsA A ?_ hS1 hl
  unfold VP
  rw [← eW_setG (μ := μ) hr (fun q h => up2_off h) (by rw [eC_arr hs, up2_on])]
  exact hP1
theorem a_zast {r n : Nat} {i x : Int32} (hd : decode mi.2.1 pc = .ok (.bastore, 1)) (hr : r < NC) (hs : sh r = .inr (.inl (1, n))) (hi : vp_in i n) (kk : WA g d mi (pc + 1) ls st (up2 μ r i.toNatClampNeg (vp_nar .boolean x)) Q) : WA g d mi pc ls (.int x :: .int i :: .ref r :: st) μ Q := by
  intro p e s m args below meth c H locs lsA A hP hS hl
  have hg := eW_get g μ hr
  rw [eC_arr hs] at hg
  refine va_zast A.1 A.2.1 A.2.2.2.2.2.1.1 hP (eW_D A.2.2.2.2.2.2.1 μ) hS r 1 hg rfl hi hd (fun H1 locs1 hP1 hD1 hS1 => ?_)
  refine kk p e s m args below meth c H1 locs1 lsA A ?_ hS1 hl
  unfold VP
  rw [← eW_setG (μ := μ) hr (fun q h => up2_off h) (by rw [eC_arr hs, up2_on])]
  exact hP1
theorem a_alen {r n : Nat} (hd : decode mi.2.1 pc = .ok (.arraylength, 1)) (hr : r < NC) (hs : sh r = .inr (.inl (0, n))) (kk : WA g d mi (pc + 1) ls (.int (Int32.ofNat n) :: st) μ Q) : WA g d mi pc ls (.ref r :: st) μ Q := by
  intro p e s m args below meth c H locs lsA A hP hS hl
  have hg := eW_get g μ hr
  rw [eC_arr hs] at hg
  exact va_alen A.1 A.2.1 A.2.2.2.2.2.1.1 hP r 0 hg rfl rfl hd (kk p e s m args below meth c H locs lsA A hP hS hl)
theorem a_alenR {r : Nat} {qs : List Nat} (hd : decode mi.2.1 pc = .ok (.arraylength, 1)) (hr : r < NC) (hs : sh r = .inr (.inr qs)) (kk : WA g d mi (pc + 1) ls (.int (Int32.ofNat qs.length) :: st) μ Q) : WA g d mi pc ls (.ref r :: st) μ Q := by
  intro p e s m args below meth c H locs lsA A hP hS hl
  have hg := eW_get g μ hr
  rw [eC_refs hs] at hg
  exact va_alen A.1 A.2.1 A.2.2.2.2.2.1.1 hP r 2 hg rfl rfl hd (kk p e s m args below meth c H locs lsA A hP hS hl)
theorem a_aald {r q : Nat} {qs : List Nat} {i : Int32} (hd : decode mi.2.1 pc = .ok (.aaload, 1)) (hr : r < NC) (hs : sh r = .inr (.inr qs)) (hi : vp_in i qs.length) (hq : qs[i.toNatClampNeg]? = some q) (kk : WA g d mi (pc + 1) ls (.ref q :: st) μ Q) : WA g d mi pc ls (.int i :: .ref r :: st) μ Q := by
  intro p e s m args below meth c H locs lsA A hP hS hl
  have hg := eW_get g μ hr
  rw [eC_refs hs] at hg
  refine va_aldq A.1 A.2.1 A.2.2.2.2.2.1.1 hP r 2 hg rfl hi hd ?_
  rw [hq]
  exact kk p e s m args below meth c H locs lsA A hP hS hl
theorem a_copy {r0 r1 n0 n1 n idx : Nat} {z0 z1 k : Int32} (hd : decode mi.2.1 pc = .ok (.invokestatic idx, 3)) (hw : Cond.methodLink mi.1 idx arraycopyName ∈ wG) (hw1 : Cond.native arraycopyName ∈ wG) (hw2 : Cond.static arraycopyName ∈ wG) (hw3 : Cond.initialized "java/lang/System" ∈ wG)
    (hr0 : r0 < NC) (hr1 : r1 < NC) (hs0 : sh r0 = .inr (.inl (0, n0))) (hs1 : sh r1 = .inr (.inl (0, n1))) (hz0 : z0 = 0) (hz1 : z1 = 0) (hk : k = nI n) (hn : n < 2 ^ 31) (hn0 : n ≤ n0) (hn1 : n ≤ n1) (hst : st = []) (hdd : 1 ≤ d)
    (kk : WA g d mi (pc + 3) ls st (cpy μ r0 r1 n) Q) : WA g d mi pc ls (.int k :: .int z1 :: .ref r1 :: .int z0 :: .ref r0 :: st) μ Q := by
  intro p e s m args below meth c H locs lsA A hP hS hl
  have hg0 := eW_get g μ hr0
  rw [eC_arr hs0] at hg0
  have hg1 := eW_get g μ hr1
  rw [eC_arr hs1] at hg1
  subst hz0; subst hz1; subst hk; subst hst
  have hc : (nI n).toNatClampNeg = n := nI_clamp hn
  have h0 : (0 : Int32).toNatClampNeg = 0 := by decide
  refine va_copyi (n := nI n) A.1 A.2.1 (by rw [A.2.2.1]; exact hl.1.symm) A.2.2.2.1 (A.2.2.2.2.1 _ hw) (A.2.2.2.2.1 _ hw1) (A.2.2.2.2.1 _ hw2) (A.2.2.2.2.1 _ hw3) A.2.2.2.2.2.1.1 hP (eW_D A.2.2.2.2.2.2.1 μ) hS r0 r1 0 0 hg0 hg1 rfl rfl rfl (by decide) (by decide) (nI_pos hn) (by rw [hc, h0]; omega) (by rw [hc, h0]; omega) (fun i hi => rfl) hdd ?_ hd (fun H1 locs1 hP1 hD1 hS1 => ?_)
  · have e1 : nativeFrameWords "java/lang/System" "arraycopy" 5 + 11 ≤ 36 := by decide +kernel
    show 0 + _ ≤ 36 * d
    omega
  · refine kk p e s m args below meth c H1 locs1 lsA A ?_ hS1 hl
    rw [hc, h0] at hP1
    unfold VP
    rw [← eW_setG (μ := μ) hr1 (fun q h => cpy_off h) (by rw [eC_arr hs1, cpy_on])]
    exact hP1
/-! ends -/
theorem a_iret {v : Int32} (hd : decode mi.2.1 pc = .ok (.ireturn, 1)) (hr : mi.2.2.2.1 = some .int) (hq : Q (some (.int v)) μ) : WA g d mi pc ls [.int v] μ Q := by
  intro p e s m args below meth c H locs lsA A hP hS hl
  exact W.iret A.1 A.2.1 (A.2.2.2.2.2.2.2.1.trans hr) (fun t ht hW => ⟨⟨some (.int v), μ, rfl, hq, by rw [ht]; exact hP, SK.moved hW A.2.2.2.2.2.1⟩, hS.F ht⟩) hS.2.2 hd A.2.2.2.2.2.2.2.2
theorem a_zret {v : Int32} (hd : decode mi.2.1 pc = .ok (.ireturn, 1)) (hr : mi.2.2.2.1 = some .boolean) (hv : v = 0 ∨ v = 1) (hq : Q (some (.int v)) μ) : WA g d mi pc ls [.int v] μ Q := by
  intro p e s m args below meth c H locs lsA A hP hS hl
  exact W.zret A.1 A.2.1 (A.2.2.2.2.2.2.2.1.trans hr) (nb_of hv) (fun t ht hW => ⟨⟨some (.int v), μ, rfl, hq, by rw [ht]; exact hP, SK.moved hW A.2.2.2.2.2.1⟩, hS.F ht⟩) hS.2.2 hd A.2.2.2.2.2.2.2.2
theorem a_vret (hd : decode mi.2.1 pc = .ok (.return_, 1)) (hr : mi.2.2.2.1 = none) (hq : Q none μ) : WA g d mi pc ls [] μ Q := by
  intro p e s m args below meth c H locs lsA A hP hS hl
  exact W.vret A.1 A.2.1 (A.2.2.2.2.2.2.2.1.trans hr) (fun t ht hW => ⟨⟨none, μ, rfl, hq, by rw [ht]; exact hP, SK.moved hW A.2.2.2.2.2.1⟩, hS.F ht⟩) hS.2.2 hd A.2.2.2.2.2.2.2.2
theorem a_aret {n : String} {v : Value} (hd : decode mi.2.1 pc = .ok (.areturn, 1)) (hr : mi.2.2.2.1 = some (.object n)) (hv : v = .null ∨ ∃ a, v = .ref a) (hq : Q (some v) μ) : WA g d mi pc ls [v] μ Q := by
  intro p e s m args below meth c H locs lsA A hP hS hl
  exact W.aret A.1 A.2.1 (A.2.2.2.2.2.2.2.1.trans hr) (Or.inl ⟨n, rfl⟩) (by rcases hv with rfl | ⟨a, rfl⟩; exact Or.inl rfl; exact Or.inr ⟨_, rfl⟩) (fun t ht hW => ⟨⟨some v, μ, rfl, hq, by rw [ht]; exact hP, SK.moved hW A.2.2.2.2.2.1⟩, hS.F ht⟩) hS.2.2 hd A.2.2.2.2.2.2.2.2
/-! calls -/
theorem blindA {as : List Value} : FrameBlind (va_Pc (as.map (cv g)) (fun U => VP g μ U.heap ∧ SK g U)) := by
  intro a U f mk h
  obtain ⟨h1, h2, h3, h4⟩ := h
  refine ⟨h1, h2, va_K.moved (u := U) (U := U.calling f mk a) (Vm.Alike.refl U.vm) h3, fun w hw => ?_⟩
  have h5 := h4 w hw
  have h6 := (List.mem_filter.mp hw).2
  cases w with
  | methodLinkNest a1 i x b => exact va_Nw.same (u := U) rfl rfl h5
  | _ => exact absurd h6 (by simp)
theorem a_after {Q' : Option Value → MM → Prop} {st0 : List Value} {p : Program} {e : Env} {s : State} {m : MethodId} {args : Array Value} {below : List Frame} {meth : Method} {c : Code} {H : Heap} {locs : List Loc} {lsA : Array Slot} {aa : Array Value}
    (A : AtM g mi p s m args meth c) (hS : va_S (inA g) s.heap H locs) (hl : lv_has lsA mi.2.2.1 (lsC g 0 ls))
    (hr : va_Run p g.2.2.2 e (rmD d) s m args below meth c H locs 0 0 0 0 (F0 m pc lsA st0) (st.map (cv g)) (QcA g Q' aa) (inA g))
    (kk : ∀ rv μ', Q' rv μ' → WA g d mi (pc + 3) ls (rv.toList ++ st) μ' Q) : W p g.2.2.2 e (rmD d) s m args below meth c H locs 0 0 (MQ below (QcA g Q) args s 0 0 (inA g)) (F0 m pc lsA st0) := by
  intro T hT X
  obtain ⟨v, st₀, t, T', L, h0, X', hL, e1, e2, ⟨⟨rv, μ', hv, hq, hP', hK'⟩, hz, hk⟩, st9⟩ := hr T hT X
  cases hv
  rw [h0] at hz hk
  have hS' : va_S (inA g) s.heap T'.heap (locs ++ L) := ⟨Nat.le_trans hS.1 (by rw [e1]; exact hz), fun q h1 h2 => by rw [e1, hk q (Nat.lt_of_lt_of_le h1 hS.1) h2]; exact hS.2.1 q h1 h2, fun q hq => by
      rcases List.mem_append.mp hq with h | h
      · exact hS.2.2 q h
      · exact hL q h⟩
  obtain ⟨t2, a1, b1⟩ := kk rv μ' hq p e s m args below meth c T'.heap (locs ++ L) lsA A (by rw [e1]; exact hP') hS' hl T' rfl X'
  refine ⟨t2, st9 t2 ?_, b1⟩
  have e3 : (rv.map (cv g)).toList ++ st.map (cv g) = (rv.toList ++ st).map (cv g) := by cases rv <;> simp
  rw [e3]
  exact a1
theorem good_wG {w : Cond} (h : w ∈ wG) : w ∈ wG ∧ ((w.onTables && w.keeps) = true ∨ ∃ ty, w = .arrayClass ty) := ⟨h, good_of_word (List.mem_filter.mp h).2⟩
abbrev DD (cal : MI) (d' d : Nat) : Prop := d' + 1 ≤ d ∧ 8 + (cal.2.2.1 + 11) + 36 * d' ≤ 36 * d
/-- an invokevirtual of cal, n arguments besides the object, of the class number ci -/
def CV (own : String) (idx ci n : Nat) (cal : MI) : Prop := (∃ (T : u_T) (N : Nat), vwCl[ci]? = some (cal.1, T, N)) ∧ Cond.methodLink own idx cal.2.2.2.2 ∈ wG ∧ Cond.instanceMethod cal.2.2.2.2 ∈ wG ∧ Cond.selects cal.1 cal.2.2.2.2 cal.2.2.2.2 ∈ wG ∧ Cond.initialized cal.1 ∈ wG ∧ Cond.code cal.2.2.2.2 cal.2.1 cal.2.2.1 cal.2.2.2.1 ∈ wG ∧
  (cal.2.2.2.2.cls = cal.1 ∧ cal.2.2.2.2.cls ≠ "java/lang/invoke/MethodHandle" ∧ cal.2.2.2.2.cls ≠ "java/lang/invoke/VarHandle" ∧ (parseMethodDescriptor cal.2.2.2.2.desc).map (fun d => d.parameters.length) = some n)
theorem a_callV {d' idx ci n b : Nat} {cal : MI} {As : List Value} {fs : List (Option Nat)} {Q' : Option Value → MM → Prop} (hd : decode mi.2.1 pc = .ok (.invokevirtual idx, 3)) (hw : CV mi.1 idx ci n cal) (hct : Ct g d' cal (.ref b :: As) μ Q') (hdd : DD cal d' d) (hb : b < NC) (hs : sh b = .inl (ci, fs)) (hn : As.length = n) (hst : (st.map fun v => v.category).sum ≤ 8)
    (kk : ∀ rv μ', Q' rv μ' → WA g d mi (pc + 3) ls (rv.toList ++ st) μ' Q) : WA g d mi pc ls (As.reverse ++ .ref b :: st) μ Q := by
  intro p e s m args below meth c H locs lsA A hP hS hl
  obtain ⟨⟨T, N, hci⟩, w1, w2, w3, w4, w5, hy⟩ := hw
  have hG : GoodIn wG (wsV mi.1 idx cal.1 cal.2.2.2.2 (.code cal.2.2.2.2 cal.2.1 cal.2.2.1 cal.2.2.2.1 :: wG)) := by
    intro w h
    unfold wsV at h
    simp only [List.cons_append, List.nil_append, List.mem_cons] at h
    rcases h with rfl | rfl | rfl | rfl | rfl | h
    · exact good_wG w1
    · exact good_wG w2
    · exact good_wG w3
    · exact good_wG w4
    · exact good_wG w5
    · exact good_wG h
  have cw := cwV (R := rmD d) (own := mi.1) (index := idx) (rm := rmD d') (mc := 0) (ms := 0) n A.2.2.2.2.1 hG rfl rfl rfl hy ⟨hdd.1, hdd.2⟩
  have hg := eW_get g μ hb
  rw [eC_obj hs] at hg
  have hrecv := va_recv A.2.2.2.2.2.1.1 hP hci hg
  have hrun := va_runV (cc := mi.2.1) (nL := mi.2.2.1) (Ts := wG) (own := mi.1) (As := As.map (cv g)) (rest := st.map (cv g)) (p := p) (e := e) (below := below) (meth := meth) (locs := locs) (cells := 0) (slots := 0) (g := F0 m pc lsA ((As.reverse ++ .ref b :: st).map (cv g))) ⟨A.1, A.2.1, A.2.2.1, A.2.2.2.1, A.2.2.2.2.1⟩ hct cw ⟨blindA (as := .ref b :: As), hrecv, fun U hU hW => ⟨rfl, by rw [hU]; exact hP, SK.moved hW A.2.2.2.2.2.1⟩⟩ rfl (by rw [List.length_map]; exact hn) hl.1 (by simp [F0, cv]) (lv_room (by rw [cv_sum]; exact hst)) hd ⟨Nat.le_refl _, Nat.le_refl _⟩
  exact a_after A hS hl hrun kk
/-- an invokestatic of cal of any class that is no nest mate's private one -/
def CS (own : String) (idx n : Nat) (cal : MI) : Prop := Cond.methodLink own idx cal.2.2.2.2 ∈ wG ∧ Cond.static cal.2.2.2.2 ∈ wG ∧ Cond.initialized cal.2.2.2.2.cls ∈ wG ∧ Cond.code cal.2.2.2.2 cal.2.1 cal.2.2.1 cal.2.2.2.1 ∈ wG ∧
  (cal.2.2.2.2.cls ≠ "java/lang/invoke/MethodHandle" ∧ cal.2.2.2.2.cls ≠ "java/lang/invoke/VarHandle" ∧ (parseMethodDescriptor cal.2.2.2.2.desc).map (fun d => d.parameters.length) = some n)
theorem a_callS {d' idx n : Nat} {cal : MI} {As : List Value} {Q' : Option Value → MM → Prop} (hd : decode mi.2.1 pc = .ok (.invokestatic idx, 3)) (hw : CS mi.1 idx n cal) (hct : Ct g d' cal As μ Q') (hdd : DD cal d' d) (hn : As.length = n) (hst : (st.map fun v => v.category).sum ≤ 8)
    (kk : ∀ rv μ', Q' rv μ' → WA g d mi (pc + 3) ls (rv.toList ++ st) μ' Q) : WA g d mi pc ls (As.reverse ++ st) μ Q := by
  intro p e s m args below meth c H locs lsA A hP hS hl
  obtain ⟨w1, w2, w3, w4, hy⟩ := hw
  have hG : GoodIn wG (va_wsS mi.1 idx cal.2.2.2.2 (.code cal.2.2.2.2 cal.2.1 cal.2.2.1 cal.2.2.2.1 :: wG)) := by
    intro w h
    unfold va_wsS at h
    simp only [List.cons_append, List.nil_append, List.mem_cons] at h
    rcases h with rfl | rfl | rfl | rfl | h
    · exact good_wG w1
    · exact good_wG w2
    · exact good_wG w3
    · exact good_wG w4
    · exact good_wG h
  have cw := va_cwS (R := rmD d) (own := mi.1) (index := idx) (rm := rmD d') (mc := 0) (ms := 0) n A.2.2.2.2.1 hG rfl rfl rfl hy ⟨hdd.1, hdd.2⟩
  have hrun := va_runS (cc := mi.2.1) (nL := mi.2.2.1) (Ts := wG) (own := mi.1) (As := As.map (cv g)) (rest := st.map (cv g)) (p := p) (e := e) (below := below) (meth := meth) (locs := locs) (cells := 0) (slots := 0) (H := H) (g := F0 m pc lsA ((As.reverse ++ st).map (cv g))) ⟨A.1, A.2.1, A.2.2.1, A.2.2.2.1, A.2.2.2.2.1⟩ hct cw ⟨blindA (as := As), fun U hU hW => ⟨rfl, by rw [hU]; exact hP, SK.moved hW A.2.2.2.2.2.1⟩⟩ rfl (by rw [List.length_map]; exact hn) hl.1 (by simp [F0]) (lv_room (by rw [cv_sum]; exact hst)) hd ⟨Nat.le_refl _, Nat.le_refl _⟩
  exact a_after A hS hl hrun kk
/-- an invokestatic of a nest mate's private method -/
def CN (own : String) (idx n : Nat) (cal : MI) : Prop := (∃ host, Cond.methodLinkNest own idx cal.2.2.2.2 host ∈ nestW) ∧ Cond.static cal.2.2.2.2 ∈ wG ∧ Cond.initialized cal.2.2.2.2.cls ∈ wG ∧ Cond.code cal.2.2.2.2 cal.2.1 cal.2.2.1 cal.2.2.2.1 ∈ wG ∧
  (cal.2.2.2.2.cls ≠ "java/lang/invoke/MethodHandle" ∧ cal.2.2.2.2.cls ≠ "java/lang/invoke/VarHandle" ∧ (parseMethodDescriptor cal.2.2.2.2.desc).map (fun d => d.parameters.length) = some n)
theorem a_callN {d' idx n : Nat} {cal : MI} {As : List Value} {Q' : Option Value → MM → Prop} (hd : decode mi.2.1 pc = .ok (.invokestatic idx, 3)) (hw : CN mi.1 idx n cal) (hct : Ct g d' cal As μ Q') (hdd : DD cal d' d) (hn : As.length = n) (hst : (st.map fun v => v.category).sum ≤ 8)
    (kk : ∀ rv μ', Q' rv μ' → WA g d mi (pc + 3) ls (rv.toList ++ st) μ' Q) : WA g d mi pc ls (As.reverse ++ st) μ Q := by
  intro p e s m args below meth c H locs lsA A hP hS hl
  obtain ⟨⟨host, w1⟩, w2, w3, w4, hy⟩ := hw
  have hG : GoodIn wG (.code cal.2.2.2.2 cal.2.1 cal.2.2.1 cal.2.2.2.1 :: wG) := by
    intro w h
    rcases List.mem_cons.mp h with rfl | h
    · exact good_wG w4
    · exact good_wG h
  have cw := va_cnB (R := rmD d) (own := mi.1) (index := idx) (rm := rmD d') (mc := 0) (ms := 0) n A.2.2.2.2.1 hG rfl rfl rfl (A.2.2.2.2.2.1.2 _ w1) (A.2.2.2.2.1 _ w3) hy ⟨hdd.1, hdd.2⟩
  have hrun := va_runSN (cc := mi.2.1) (nL := mi.2.2.1) (Ts := wG) (own := mi.1) (As := As.map (cv g)) (rest := st.map (cv g)) (p := p) (e := e) (below := below) (meth := meth) (locs := locs) (cells := 0) (slots := 0) (H := H) (g := F0 m pc lsA ((As.reverse ++ st).map (cv g))) ⟨A.1, A.2.1, A.2.2.1, A.2.2.2.1, A.2.2.2.2.1⟩ hct ⟨cw, A.2.2.2.2.1 _ w2, trivial⟩ ⟨blindA (as := As), fun U hU hW => ⟨rfl, by rw [hU]; exact hP, SK.moved hW A.2.2.2.2.2.1⟩⟩ rfl (by rw [List.length_map]; exact hn) hl.1 (by simp [F0]) (lv_room (by rw [cv_sum]; exact hst)) hd ⟨Nat.le_refl _, Nat.le_refl _⟩
  exact a_after A hS hl hrun kk
/-! a contract out of a walk from the entry -/
def enL : List Value → List (Option Value)
  | [] => []
  | v :: r => if v.category = 2 then some v :: none :: enL r else some v :: enL r
theorem lsC_app (g : GT) : ∀ (a b : List (Option Value)) (i : Nat), lsC g i (a ++ b) = lsC g i a ++ lsC g (i + a.length) b
  | [], b, i => rfl
  | none :: r, b, i => by
    simp only [List.cons_append, lsC]
    rw [lsC_app g r b (i + 1)]
    rw [show i + 1 + r.length = i + (none :: r).length by simp; omega]
  | some v :: r, b, i => by
    simp only [List.cons_append, lsC]
    rw [lsC_app g r b (i + 1)]
    rw [show i + 1 + r.length = i + (some v :: r).length by simp; omega]
theorem lsC_none (g : GT) : ∀ (n i : Nat), lsC g i (List.replicate n none) = []
  | 0, i => rfl
  | n + 1, i => by rw [List.replicate_succ]; exact lsC_none g n (i + 1)
theorem lsC_en (g : GT) : ∀ (as : List Value) (i : Nat), lsC g i (enL as) = lv_args i (as.map (cv g))
  | [], i => rfl
  | v :: r, i => by
    by_cases h : v.category = 2
    · simp only [enL, h, if_true, lsC, List.map_cons, lv_args, cv_cat]
      rw [lsC_en g r (i + 1 + 1)]
    · simp only [enL, h, if_false, lsC, List.map_cons, lv_args, cv_cat]
      rw [lsC_en g r (i + 1)]
theorem sl_len (g : GT) : ∀ as : List Value, (lg_sl (as.map (cv g))).length = (enL as).length
  | [] => rfl
  | v :: r => by
    have := sl_len g r
    by_cases h : v.category = 2
    · simp only [lg_sl, List.map_cons, List.flatMap_cons, cv_cat, h, if_true, enL] at *
      simp [this]
    · simp only [lg_sl, List.map_cons, List.flatMap_cons, cv_cat, h, if_false, enL] at *
      simp [this]
theorem ct_of {as : List Value} {k : Nat} (hy : plainName mi.2.2.2.2.cls = true) (hc : mi.2.2.2.2.cls = mi.1) (hi : INJ g) (hn : (enL as).length + k = mi.2.2.1) (h : WA g d mi 0 (enL as ++ List.replicate k none) [] μ Q) : Ct g d mi as μ Q := by
  refine Met.ofW (cc := mi.2.1) (maxL := mi.2.2.1) (ret := mi.2.2.2.1) hy rfl ?_
  intro p e s m args below meth c s₁ B hml hv
  obtain ⟨rfl, hP, hK⟩ := hv
  have hts := atoms_spec (ws := .code mi.2.2.2.2 mi.2.1 mi.2.2.1 mi.2.2.2.1 :: wG) B.pre
  have hl := lv_entry (as.map (cv g)) (n := mi.2.2.1) (by rw [sl_len]; omega)
  rw [lg_entry_eq]
  refine h p e s m _ below meth c s.heap [] _ ⟨B.exec, B.bytes, hml, ?_, fun w hw => hts w (List.mem_cons_of_mem _ hw), hK, hi, B.returns, B.notSynchronized⟩ hP va_S.rf ?_
  · rw [← hc]; exact findClass_of_methodNamed B.named
  · rw [lsC_app, lsC_none, List.append_nil, lsC_en]
    exact hl
/-! calls by the number of their arguments -/
theorem a_cV0 {d' idx ci b : Nat} {cal : MI} {fs : List (Option Nat)} {Q' : Option Value → MM → Prop} (hd : decode mi.2.1 pc = .ok (.invokevirtual idx, 3)) (hw : CV mi.1 idx ci 0 cal) (hct : Ct g d' cal (.ref b :: []) μ Q') (hdd : DD cal d' d) (hb : b < NC) (hs : sh b = .inl (ci, fs)) (hst : (st.map fun v => v.category).sum ≤ 8)
    (kk : ∀ rv μ', Q' rv μ' → WA g d mi (pc + 3) ls (rv.toList ++ st) μ' Q) : WA g d mi pc ls (.ref b :: st) μ Q := a_callV (As := []) hd hw hct hdd hb hs rfl hst kk
theorem a_cS0 {d' idx : Nat} {cal : MI} {Q' : Option Value → MM → Prop} (hd : decode mi.2.1 pc = .ok (.invokestatic idx, 3)) (hw : CS mi.1 idx 0 cal) (hct : Ct g d' cal [] μ Q') (hdd : DD cal d' d) (hst : (st.map fun v => v.category).sum ≤ 8)
    (kk : ∀ rv μ', Q' rv μ' → WA g d mi (pc + 3) ls (rv.toList ++ st) μ' Q) : WA g d mi pc ls (st) μ Q := a_callS (As := []) hd hw hct hdd rfl hst kk
theorem a_cN0 {d' idx : Nat} {cal : MI} {Q' : Option Value → MM → Prop} (hd : decode mi.2.1 pc = .ok (.invokestatic idx, 3)) (hw : CN mi.1 idx 0 cal) (hct : Ct g d' cal [] μ Q') (hdd : DD cal d' d) (hst : (st.map fun v => v.category).sum ≤ 8)
    (kk : ∀ rv μ', Q' rv μ' → WA g d mi (pc + 3) ls (rv.toList ++ st) μ' Q) : WA g d mi pc ls (st) μ Q := a_callN (As := []) hd hw hct hdd rfl hst kk
theorem a_cV1 {x0 : Value} {d' idx ci b : Nat} {cal : MI} {fs : List (Option Nat)} {Q' : Option Value → MM → Prop} (hd : decode mi.2.1 pc = .ok (.invokevirtual idx, 3)) (hw : CV mi.1 idx ci 1 cal) (hct : Ct g d' cal (.ref b :: [x0]) μ Q') (hdd : DD cal d' d) (hb : b < NC) (hs : sh b = .inl (ci, fs)) (hst : (st.map fun v => v.category).sum ≤ 8)
    (kk : ∀ rv μ', Q' rv μ' → WA g d mi (pc + 3) ls (rv.toList ++ st) μ' Q) : WA g d mi pc ls (x0 :: .ref b :: st) μ Q := a_callV (As := [x0]) hd hw hct hdd hb hs rfl hst kk
theorem a_cS1 {x0 : Value} {d' idx : Nat} {cal : MI} {Q' : Option Value → MM → Prop} (hd : decode mi.2.1 pc = .ok (.invokestatic idx, 3)) (hw : CS mi.1 idx 1 cal) (hct : Ct g d' cal [x0] μ Q') (hdd : DD cal d' d) (hst : (st.map fun v => v.category).sum ≤ 8)
    (kk : ∀ rv μ', Q' rv μ' → WA g d mi (pc + 3) ls (rv.toList ++ st) μ' Q) : WA g d mi pc ls (x0 :: st) μ Q := a_callS (As := [x0]) hd hw hct hdd rfl hst kk
theorem a_cN1 {x0 : Value} {d' idx : Nat} {cal : MI} {Q' : Option Value → MM → Prop} (hd : decode mi.2.1 pc = .ok (.invokestatic idx, 3)) (hw : CN mi.1 idx 1 cal) (hct : Ct g d' cal [x0] μ Q') (hdd : DD cal d' d) (hst : (st.map fun v => v.category).sum ≤ 8)
    (kk : ∀ rv μ', Q' rv μ' → WA g d mi (pc + 3) ls (rv.toList ++ st) μ' Q) : WA g d mi pc ls (x0 :: st) μ Q := a_callN (As := [x0]) hd hw hct hdd rfl hst kk
theorem a_cV2 {x0 x1 : Value} {d' idx ci b : Nat} {cal : MI} {fs : List (Option Nat)} {Q' : Option Value → MM → Prop} (hd : decode mi.2.1 pc = .ok (.invokevirtual idx, 3)) (hw : CV mi.1 idx ci 2 cal) (hct : Ct g d' cal (.ref b :: [x0, x1]) μ Q') (hdd : DD cal d' d) (hb : b < NC) (hs : sh b = .inl (ci, fs)) (hst : (st.map fun v => v.category).sum ≤ 8)
    (kk : ∀ rv μ', Q' rv μ' → WA g d mi (pc + 3) ls (rv.toList ++ st) μ' Q) : WA g d mi pc ls (x1 :: x0 :: .ref b :: st) μ Q := a_callV (As := [x0, x1]) hd hw hct hdd hb hs rfl hst kk
theorem a_cS2 {x0 x1 : Value} {d' idx : Nat} {cal : MI} {Q' : Option Value → MM → Prop} (hd : decode mi.2.1 pc = .ok (.invokestatic idx, 3)) (hw : CS mi.1 idx 2 cal) (hct : Ct g d' cal [x0, x1] μ Q') (hdd : DD cal d' d) (hst : (st.map fun v => v.category).sum ≤ 8)
    (kk : ∀ rv μ', Q' rv μ' → WA g d mi (pc + 3) ls (rv.toList ++ st) μ' Q) : WA g d mi pc ls (x1 :: x0 :: st) μ Q := a_callS (As := [x0, x1]) hd hw hct hdd rfl hst kk
theorem a_cN2 {x0 x1 : Value} {d' idx : Nat} {cal : MI} {Q' : Option Value → MM → Prop} (hd : decode mi.2.1 pc = .ok (.invokestatic idx, 3)) (hw : CN mi.1 idx 2 cal) (hct : Ct g d' cal [x0, x1] μ Q') (hdd : DD cal d' d) (hst : (st.map fun v => v.category).sum ≤ 8)
    (kk : ∀ rv μ', Q' rv μ' → WA g d mi (pc + 3) ls (rv.toList ++ st) μ' Q) : WA g d mi pc ls (x1 :: x0 :: st) μ Q := a_callN (As := [x0, x1]) hd hw hct hdd rfl hst kk
theorem a_cV3 {x0 x1 x2 : Value} {d' idx ci b : Nat} {cal : MI} {fs : List (Option Nat)} {Q' : Option Value → MM → Prop} (hd : decode mi.2.1 pc = .ok (.invokevirtual idx, 3)) (hw : CV mi.1 idx ci 3 cal) (hct : Ct g d' cal (.ref b :: [x0, x1, x2]) μ Q') (hdd : DD cal d' d) (hb : b < NC) (hs : sh b = .inl (ci, fs)) (hst : (st.map fun v => v.category).sum ≤ 8)
    (kk : ∀ rv μ', Q' rv μ' → WA g d mi (pc + 3) ls (rv.toList ++ st) μ' Q) : WA g d mi pc ls (x2 :: x1 :: x0 :: .ref b :: st) μ Q := a_callV (As := [x0, x1, x2]) hd hw hct hdd hb hs rfl hst kk
theorem a_cS3 {x0 x1 x2 : Value} {d' idx : Nat} {cal : MI} {Q' : Option Value → MM → Prop} (hd : decode mi.2.1 pc = .ok (.invokestatic idx, 3)) (hw : CS mi.1 idx 3 cal) (hct : Ct g d' cal [x0, x1, x2] μ Q') (hdd : DD cal d' d) (hst : (st.map fun v => v.category).sum ≤ 8)
    (kk : ∀ rv μ', Q' rv μ' → WA g d mi (pc + 3) ls (rv.toList ++ st) μ' Q) : WA g d mi pc ls (x2 :: x1 :: x0 :: st) μ Q := a_callS (As := [x0, x1, x2]) hd hw hct hdd rfl hst kk
theorem a_cN3 {x0 x1 x2 : Value} {d' idx : Nat} {cal : MI} {Q' : Option Value → MM → Prop} (hd : decode mi.2.1 pc = .ok (.invokestatic idx, 3)) (hw : CN mi.1 idx 3 cal) (hct : Ct g d' cal [x0, x1, x2] μ Q') (hdd : DD cal d' d) (hst : (st.map fun v => v.category).sum ≤ 8)
    (kk : ∀ rv μ', Q' rv μ' → WA g d mi (pc + 3) ls (rv.toList ++ st) μ' Q) : WA g d mi pc ls (x2 :: x1 :: x0 :: st) μ Q := a_callN (As := [x0, x1, x2]) hd hw hct hdd rfl hst kk
theorem a_cV4 {x0 x1 x2 x3 : Value} {d' idx ci b : Nat} {cal : MI} {fs : List (Option Nat)} {Q' : Option Value → MM → Prop} (hd : decode mi.2.1 pc = .ok (.invokevirtual idx, 3)) (hw : CV mi.1 idx ci 4 cal) (hct : Ct g d' cal (.ref b :: [x0, x1, x2, x3]) μ Q') (hdd : DD cal d' d) (hb : b < NC) (hs : sh b = .inl (ci, fs)) (hst : (st.map fun v => v.category).sum ≤ 8)
    (kk : ∀ rv μ', Q' rv μ' → WA g d mi (pc + 3) ls (rv.toList ++ st) μ' Q) : WA g d mi pc ls (x3 :: x2 :: x1 :: x0 :: .ref b :: st) μ Q := a_callV (As := [x0, x1, x2, x3]) hd hw hct hdd hb hs rfl hst kk
theorem a_cS4 {x0 x1 x2 x3 : Value} {d' idx : Nat} {cal : MI} {Q' : Option Value → MM → Prop} (hd : decode mi.2.1 pc = .ok (.invokestatic idx, 3)) (hw : CS mi.1 idx 4 cal) (hct : Ct g d' cal [x0, x1, x2, x3] μ Q') (hdd : DD cal d' d) (hst : (st.map fun v => v.category).sum ≤ 8)
    (kk : ∀ rv μ', Q' rv μ' → WA g d mi (pc + 3) ls (rv.toList ++ st) μ' Q) : WA g d mi pc ls (x3 :: x2 :: x1 :: x0 :: st) μ Q := a_callS (As := [x0, x1, x2, x3]) hd hw hct hdd rfl hst kk
theorem a_cN4 {x0 x1 x2 x3 : Value} {d' idx : Nat} {cal : MI} {Q' : Option Value → MM → Prop} (hd : decode mi.2.1 pc = .ok (.invokestatic idx, 3)) (hw : CN mi.1 idx 4 cal) (hct : Ct g d' cal [x0, x1, x2, x3] μ Q') (hdd : DD cal d' d) (hst : (st.map fun v => v.category).sum ≤ 8)
    (kk : ∀ rv μ', Q' rv μ' → WA g d mi (pc + 3) ls (rv.toList ++ st) μ' Q) : WA g d mi pc ls (x3 :: x2 :: x1 :: x0 :: st) μ Q := a_callN (As := [x0, x1, x2, x3]) hd hw hct hdd rfl hst kk
theorem a_cV5 {x0 x1 x2 x3 x4 : Value} {d' idx ci b : Nat} {cal : MI} {fs : List (Option Nat)} {Q' : Option Value → MM → Prop} (hd : decode mi.2.1 pc = .ok (.invokevirtual idx, 3)) (hw : CV mi.1 idx ci 5 cal) (hct : Ct g d' cal (.ref b :: [x0, x1, x2, x3, x4]) μ Q') (hdd : DD cal d' d) (hb : b < NC) (hs : sh b = .inl (ci, fs)) (hst : (st.map fun v => v.category).sum ≤ 8)
    (kk : ∀ rv μ', Q' rv μ' → WA g d mi (pc + 3) ls (rv.toList ++ st) μ' Q) : WA g d mi pc ls (x4 :: x3 :: x2 :: x1 :: x0 :: .ref b :: st) μ Q := a_callV (As := [x0, x1, x2, x3, x4]) hd hw hct hdd hb hs rfl hst kk
theorem a_cS5 {x0 x1 x2 x3 x4 : Value} {d' idx : Nat} {cal : MI} {Q' : Option Value → MM → Prop} (hd : decode mi.2.1 pc = .ok (.invokestatic idx, 3)) (hw : CS mi.1 idx 5 cal) (hct : Ct g d' cal [x0, x1, x2, x3, x4] μ Q') (hdd : DD cal d' d) (hst : (st.map fun v => v.category).sum ≤ 8)
    (kk : ∀ rv μ', Q' rv μ' → WA g d mi (pc + 3) ls (rv.toList ++ st) μ' Q) : WA g d mi pc ls (x4 :: x3 :: x2 :: x1 :: x0 :: st) μ Q := a_callS (As := [x0, x1, x2, x3, x4]) hd hw hct hdd rfl hst kk
theorem a_cN5 {x0 x1 x2 x3 x4 : Value} {d' idx : Nat} {cal : MI} {Q' : Option Value → MM → Prop} (hd : decode mi.2.1 pc = .ok (.invokestatic idx, 3)) (hw : CN mi.1 idx 5 cal) (hct : Ct g d' cal [x0, x1, x2, x3, x4] μ Q') (hdd : DD cal d' d) (hst : (st.map fun v => v.category).sum ≤ 8)
    (kk : ∀ rv μ', Q' rv μ' → WA g d mi (pc + 3) ls (rv.toList ++ st) μ' Q) : WA g d mi pc ls (x4 :: x3 :: x2 :: x1 :: x0 :: st) μ Q := a_callN (As := [x0, x1, x2, x3, x4]) hd hw hct hdd rfl hst kk
theorem a_cV6 {x0 x1 x2 x3 x4 x5 : Value} {d' idx ci b : Nat} {cal : MI} {fs : List (Option Nat)} {Q' : Option Value → MM → Prop} (hd : decode mi.2.1 pc = .ok (.invokevirtual idx, 3)) (hw : CV mi.1 idx ci 6 cal) (hct : Ct g d' cal (.ref b :: [x0, x1, x2, x3, x4, x5]) μ Q') (hdd : DD cal d' d) (hb : b < NC) (hs : sh b = .inl (ci, fs)) (hst : (st.map fun v => v.category).sum ≤ 8)
    (kk : ∀ rv μ', Q' rv μ' → WA g d mi (pc + 3) ls (rv.toList ++ st) μ' Q) : WA g d mi pc ls (x5 :: x4 :: x3 :: x2 :: x1 :: x0 :: .ref b :: st) μ Q := a_callV (As := [x0, x1, x2, x3, x4, x5]) hd hw hct hdd hb hs rfl hst kk
theorem a_cS6 {x0 x1 x2 x3 x4 x5 : Value} {d' idx : Nat} {cal : MI} {Q' : Option Value → MM → Prop} (hd : decode mi.2.1 pc = .ok (.invokestatic idx, 3)) (hw : CS mi.1 idx 6 cal) (hct : Ct g d' cal [x0, x1, x2, x3, x4, x5] μ Q') (hdd : DD cal d' d) (hst : (st.map fun v => v.category).sum ≤ 8)
    (kk : ∀ rv μ', Q' rv μ' → WA g d mi (pc + 3) ls (rv.toList ++ st) μ' Q) : WA g d mi pc ls (x5 :: x4 :: x3 :: x2 :: x1 :: x0 :: st) μ Q := a_callS (As := [x0, x1, x2, x3, x4, x5]) hd hw hct hdd rfl hst kk
theorem a_cN6 {x0 x1 x2 x3 x4 x5 : Value} {d' idx : Nat} {cal : MI} {Q' : Option Value → MM → Prop} (hd : decode mi.2.1 pc = .ok (.invokestatic idx, 3)) (hw : CN mi.1 idx 6 cal) (hct : Ct g d' cal [x0, x1, x2, x3, x4, x5] μ Q') (hdd : DD cal d' d) (hst : (st.map fun v => v.category).sum ≤ 8)
    (kk : ∀ rv μ', Q' rv μ' → WA g d mi (pc + 3) ls (rv.toList ++ st) μ' Q) : WA g d mi pc ls (x5 :: x4 :: x3 :: x2 :: x1 :: x0 :: st) μ Q := a_callN (As := [x0, x1, x2, x3, x4, x5]) hd hw hct hdd rfl hst kk
end BROWS
/-! naming steps -/
def bd {α β : Type} (x : α) (f : α → β) : β := f x
theorem bd_e {α β : Type} {x : α} {f : α → β} {r : β} (h : bd x f = r) : ∃ z, z = x ∧ f z = r := ⟨x, rfl, h⟩
theorem ob_e {α β : Type} {x : Option α} {f : α → Option β} {r : β} (h : x.bind f = some r) : ∃ z, x = some z ∧ f z = some r := by
  cases x with
  | none => cases h
  | some z => exact ⟨z, rfl, h⟩
end
section
/-! Rows as the decompiler uses them: named results, typed calls, switches; the kinds of cells. -/
theorem in_ix {w : Cond} (i : Nat) (h : lw_tbl[i]? = some w) (hg : goodWord w = true) : w ∈ wG := in_wG (List.mem_of_getElem? h) hg
def rm (x y : Int32) : Int32 := x - x / y * y
def rmL (x y : Int64) : Int64 := x - x / y * y
def sl (x y : Int32) : Int32 := x <<< (y &&& 31)
def sr (x y : Int32) : Int32 := x >>> (y &&& 31)
def usr (x y : Int32) : Int32 := (x.toUInt32 >>> (y.toUInt32 &&& Int32.toUInt32 31)).toInt32
def aln (r : Nat) : Nat := match sh r with
  | .inr (.inl (_, n)) => n
  | _ => 0
def isI (r : Nat) : Prop := r < NC ∧ sh r = .inr (.inl (0, aln r))
def isD (r : Nat) : Prop := r = 3 ∨ r = 8
def isW (r : Nat) : Prop := ∃ i, i < 20 ∧ r = 24 + 6 * i
theorem isD_lt {r : Nat} (h : isD r) : r < NC := by rcases h with rfl | rfl <;> decide
theorem isD_sh {r : Nat} (h : isD r) : sh r = .inl (1, fsDale r) := by rcases h with rfl | rfl <;> rfl
theorem isW_shk {r : Nat} (h : isW r) {k : Nat} (hk : k < 6) : sh (r + k) = shW r k := by
  obtain ⟨i, hi, rfl⟩ := h
  unfold sh
  rw [if_neg (by omega), if_pos (by omega)]
  have e1 : (24 + 6 * i + k - 24) / 6 = i := by omega
  have e2 : (24 + 6 * i + k - 24) % 6 = k := by omega
  rw [e1, e2]
theorem isW_ltk {r : Nat} (h : isW r) {k : Nat} (hk : k < 6) : r + k < NC := by
  obtain ⟨i, hi, rfl⟩ := h
  show _ < 166
  omega
theorem isW_lt {r : Nat} (h : isW r) : r < NC := isW_ltk h (k := 0) (by decide)
theorem isW_sh {r : Nat} (h : isW r) : sh r = .inl (5, fsWorld r) := isW_shk h (k := 0) (by decide)
theorem isI_of {r n : Nat} (h : r < NC) (hs : sh r = .inr (.inl (0, n))) : isI r := ⟨h, by unfold aln; rw [hs]⟩
theorem isW_lt1 {r : Nat} (h : isW r) : r + 1 < NC := isW_ltk h (by decide)
theorem isW_sh1 {r : Nat} (h : isW r) : sh (r + 1) = .inr (.inl (0, 48)) := isW_shk h (by decide)
theorem isW_i1 {r : Nat} (h : isW r) : isI (r + 1) := isI_of (isW_lt1 h) (isW_sh1 h)
theorem isW_n1 {r : Nat} (h : isW r) : aln (r + 1) = 48 := by unfold aln; rw [isW_sh1 h]
theorem isW_lt2 {r : Nat} (h : isW r) : r + 2 < NC := isW_ltk h (by decide)
theorem isW_sh2 {r : Nat} (h : isW r) : sh (r + 2) = .inr (.inl (0, 80)) := isW_shk h (by decide)
theorem isW_i2 {r : Nat} (h : isW r) : isI (r + 2) := isI_of (isW_lt2 h) (isW_sh2 h)
theorem isW_n2 {r : Nat} (h : isW r) : aln (r + 2) = 80 := by unfold aln; rw [isW_sh2 h]
theorem isW_lt3 {r : Nat} (h : isW r) : r + 3 < NC := isW_ltk h (by decide)
theorem isW_sh3 {r : Nat} (h : isW r) : sh (r + 3) = .inr (.inl (0, 9)) := isW_shk h (by decide)
theorem isW_i3 {r : Nat} (h : isW r) : isI (r + 3) := isI_of (isW_lt3 h) (isW_sh3 h)
theorem isW_n3 {r : Nat} (h : isW r) : aln (r + 3) = 9 := by unfold aln; rw [isW_sh3 h]
theorem isW_lt4 {r : Nat} (h : isW r) : r + 4 < NC := isW_ltk h (by decide)
theorem isW_sh4 {r : Nat} (h : isW r) : sh (r + 4) = .inr (.inl (0, 9)) := isW_shk h (by decide)
theorem isW_i4 {r : Nat} (h : isW r) : isI (r + 4) := isI_of (isW_lt4 h) (isW_sh4 h)
theorem isW_n4 {r : Nat} (h : isW r) : aln (r + 4) = 9 := by unfold aln; rw [isW_sh4 h]
theorem isW_lt5 {r : Nat} (h : isW r) : r + 5 < NC := isW_ltk h (by decide)
theorem isW_sh5 {r : Nat} (h : isW r) : sh (r + 5) = .inr (.inl (0, 9)) := isW_shk h (by decide)
theorem isW_i5 {r : Nat} (h : isW r) : isI (r + 5) := isI_of (isW_lt5 h) (isW_sh5 h)
theorem isW_n5 {r : Nat} (h : isW r) : aln (r + 5) = 9 := by unfold aln; rw [isW_sh5 h]
theorem isD_lt1 {r : Nat} (h : isD r) : r + 1 < NC := by rcases h with rfl | rfl <;> decide
theorem isD_sh1 {r : Nat} (h : isD r) : sh (r + 1) = .inr (.inl (0, 9)) := by rcases h with rfl | rfl <;> rfl
theorem isD_i1 {r : Nat} (h : isD r) : isI (r + 1) := isI_of (isD_lt1 h) (isD_sh1 h)
theorem isD_n1 {r : Nat} (h : isD r) : aln (r + 1) = 9 := by unfold aln; rw [isD_sh1 h]
theorem isD_lt2 {r : Nat} (h : isD r) : r + 2 < NC := by rcases h with rfl | rfl <;> decide
theorem isD_sh2 {r : Nat} (h : isD r) : sh (r + 2) = .inr (.inl (0, 9)) := by rcases h with rfl | rfl <;> rfl
theorem isD_i2 {r : Nat} (h : isD r) : isI (r + 2) := isI_of (isD_lt2 h) (isD_sh2 h)
theorem isD_n2 {r : Nat} (h : isD r) : aln (r + 2) = 9 := by unfold aln; rw [isD_sh2 h]
theorem isD_lt3 {r : Nat} (h : isD r) : r + 3 < NC := by rcases h with rfl | rfl <;> decide
theorem isD_sh3 {r : Nat} (h : isD r) : sh (r + 3) = .inr (.inl (0, 9)) := by rcases h with rfl | rfl <;> rfl
theorem isD_i3 {r : Nat} (h : isD r) : isI (r + 3) := isI_of (isD_lt3 h) (isD_sh3 h)
theorem isD_n3 {r : Nat} (h : isD r) : aln (r + 3) = 9 := by unfold aln; rw [isD_sh3 h]
theorem isD_lt4 {r : Nat} (h : isD r) : r + 4 < NC := by rcases h with rfl | rfl <;> decide
theorem isD_sh4 {r : Nat} (h : isD r) : sh (r + 4) = .inr (.inl (0, 9)) := by rcases h with rfl | rfl <;> rfl
theorem isD_i4 {r : Nat} (h : isD r) : isI (r + 4) := isI_of (isD_lt4 h) (isD_sh4 h)
theorem isD_n4 {r : Nat} (h : isD r) : aln (r + 4) = 9 := by unfold aln; rw [isD_sh4 h]
theorem vi {i : Int32} {n : Nat} (h : (!(decide (i < 0) || decide (n ≤ i.toNatClampNeg))) = true) : vp_in i n := by
  intro q
  rcases q with q | q <;> simp [q] at h
def gd {α : Type} (c : Prop) [Decidable c] (x : Option α) : Option α := if c then x else none
theorem gd_e {α : Type} {c : Prop} [Decidable c] {x : Option α} {r : α} (h : gd c x = some r) : c ∧ x = some r := by
  unfold gd at h
  by_cases hc : c
  · rw [if_pos hc] at h; exact ⟨hc, h⟩
  · rw [if_neg hc] at h; cases h
def QI (r : Int32) (μ : MM) : Option Value → MM → Prop := fun rv m => rv = some (.int r) ∧ m = μ
def QV (μ : MM) : Option Value → MM → Prop := fun rv m => rv = none ∧ m = μ
/-- at most what is known of the locals is forgotten -/
def wk : List (Option Value) → List (Option Value) → Prop
  | [], [] => True
  | a :: r, b :: r' => (b = none ∨ b = a) ∧ wk r r'
  | _, _ => False
section CROWS
variable {g : GT} {d : Nat} {mi : MI} {pc : Nat} {ls : List (Option Value)} {st : List Value} {μ μ' : MM} {Q : Option Value → MM → Prop}
theorem wk_mem {g : GT} : ∀ (a b : List (Option Value)) (i : Nat), wk a b → ∀ q ∈ lsC g i b, q ∈ lsC g i a
  | [], [], i, h, q, hq => hq
  | [], _ :: _, i, h, q, hq => h.elim
  | _ :: _, [], i, h, q, hq => h.elim
  | x :: r, y :: r', i, h, q, hq => by
    obtain ⟨h1, h2⟩ := h
    have ih := wk_mem (g := g) r r' (i + 1) h2 q
    rcases h1 with rfl | rfl
    · cases x with
      | none => exact ih hq
      | some v => exact List.mem_cons_of_mem _ (ih hq)
    · cases y with
      | none => exact ih hq
      | some v =>
        rcases List.mem_cons.mp hq with h | h
        · rw [h]; exact List.mem_cons_self
        · exact List.mem_cons_of_mem _ (ih h)
theorem a_wk {ls' : List (Option Value)} (h : wk ls ls') (k : WA g d mi pc ls' st μ Q) : WA g d mi pc ls st μ Q :=
  fun p e s m args below meth c H locs lsA A hP hS hl => k p e s m args below meth c H locs lsA A hP hS (hl.le (wk_mem ls ls' 0 h))
theorem a_nm {x e : Int32} (he : x = e) (k : WA g d mi pc ls (.int x :: st) μ Q) : WA g d mi pc ls (.int e :: st) μ Q := he ▸ k
theorem a_nmL {x e : Int64} (he : x = e) (k : WA g d mi pc ls (.long x :: st) μ Q) : WA g d mi pc ls (.long e :: st) μ Q := he ▸ k
theorem a_rem {x y : Int32} (hd : decode mi.2.1 pc = .ok (.irem, 1)) (hne : ¬ y = 0) (k : WA g d mi (pc + 1) ls (.int (rm x y) :: st) μ Q) : WA g d mi pc ls (.int y :: .int x :: st) μ Q := a_irem hd hne k
theorem a_remL {x y : Int64} (hd : decode mi.2.1 pc = .ok (.lrem, 1)) (hne : ¬ y = 0) (k : WA g d mi (pc + 1) ls (.long (rmL x y) :: st) μ Q) : WA g d mi pc ls (.long y :: .long x :: st) μ Q := a_lrem hd hne k
theorem a_shl {x y : Int32} (hd : decode mi.2.1 pc = .ok (.ishl, 1)) (k : WA g d mi (pc + 1) ls (.int (sl x y) :: st) μ Q) : WA g d mi pc ls (.int y :: .int x :: st) μ Q := a_ishl hd k
theorem a_shr {x y : Int32} (hd : decode mi.2.1 pc = .ok (.ishr, 1)) (k : WA g d mi (pc + 1) ls (.int (sr x y) :: st) μ Q) : WA g d mi pc ls (.int y :: .int x :: st) μ Q := a_ishr hd k
theorem a_ushr {x y : Int32} (hd : decode mi.2.1 pc = .ok (.iushr, 1)) (k : WA g d mi (pc + 1) ls (.int (usr x y) :: st) μ Q) : WA g d mi pc ls (.int y :: .int x :: st) μ Q := a_iushr hd k
theorem a_pI {r ci k idx : Nat} {v : Int32} {fs : List (Option Nat)} (he : μ' = up2 μ r k v) (hd : decode mi.2.1 pc = .ok (.putfield idx, 3)) (hf : FP mi.1 idx ci k .int) (hr : r < NC) (hs : sh r = .inl (ci, fs)) (hk : fs[k]? = some none) (kk : WA g d mi (pc + 3) ls st μ' Q) : WA g d mi pc ls (.int v :: .ref r :: st) μ Q := a_putI hd hf hr hs hk (he ▸ kk)
theorem a_pZ {r ci k idx : Nat} {v : Int32} {fs : List (Option Nat)} (he : μ' = up2 μ r k v) (hd : decode mi.2.1 pc = .ok (.putfield idx, 3)) (hf : FP mi.1 idx ci k .boolean) (hv : v = 0 ∨ v = 1) (hr : r < NC) (hs : sh r = .inl (ci, fs)) (hk : fs[k]? = some none) (kk : WA g d mi (pc + 3) ls st μ' Q) : WA g d mi pc ls (.int v :: .ref r :: st) μ Q := a_putZ hd hf hv hr hs hk (he ▸ kk)
theorem a_ldC {r n j : Nat} {i : Int32} (hd : decode mi.2.1 pc = .ok (.iaload, 1)) (hr : r < NC) (hs : sh r = .inr (.inl (0, n))) (hi : vp_in i n) (hj : i.toNatClampNeg = j) (kk : WA g d mi (pc + 1) ls (.int (μ r j) :: st) μ Q) : WA g d mi pc ls (.int i :: .ref r :: st) μ Q := a_iald hd hr hs hi (hj ▸ kk)
theorem a_zldC {r n j : Nat} {i : Int32} (hd : decode mi.2.1 pc = .ok (.baload, 1)) (hr : r < NC) (hs : sh r = .inr (.inl (1, n))) (hi : vp_in i n) (hj : i.toNatClampNeg = j) (kk : WA g d mi (pc + 1) ls (.int (μ r j) :: st) μ Q) : WA g d mi pc ls (.int i :: .ref r :: st) μ Q := a_zald hd hr hs hi (hj ▸ kk)
theorem a_sI {r n j : Nat} {i x : Int32} (he : μ' = up2 μ r j x) (hd : decode mi.2.1 pc = .ok (.iastore, 1)) (hr : r < NC) (hs : sh r = .inr (.inl (0, n))) (hi : vp_in i n) (hj : i.toNatClampNeg = j) (kk : WA g d mi (pc + 1) ls st μ' Q) : WA g d mi pc ls (.int x :: .int i :: .ref r :: st) μ Q := a_iast hd hr hs hi (by rw [hj]; exact he ▸ kk)
theorem a_sZ {r n j : Nat} {i x : Int32} (he : μ' = up2 μ r j (vp_nar .boolean x)) (hd : decode mi.2.1 pc = .ok (.bastore, 1)) (hr : r < NC) (hs : sh r = .inr (.inl (1, n))) (hi : vp_in i n) (hj : i.toNatClampNeg = j) (kk : WA g d mi (pc + 1) ls st μ' Q) : WA g d mi pc ls (.int x :: .int i :: .ref r :: st) μ Q := a_zast hd hr hs hi (by rw [hj]; exact he ▸ kk)
theorem a_cp {r0 r1 n0 n1 n idx : Nat} {z0 z1 k : Int32} (he : μ' = cpy μ r0 r1 n) (hd : decode mi.2.1 pc = .ok (.invokestatic idx, 3)) (hw : Cond.methodLink mi.1 idx arraycopyName ∈ wG ∧ Cond.native arraycopyName ∈ wG ∧ Cond.static arraycopyName ∈ wG ∧ Cond.initialized "java/lang/System" ∈ wG)
    (hr0 : r0 < NC) (hs0 : sh r0 = .inr (.inl (0, n0))) (hr1 : r1 < NC) (hs1 : sh r1 = .inr (.inl (0, n1))) (hz0 : z0 = 0) (hz1 : z1 = 0) (hk : k = nI n) (hn : n < 2 ^ 31) (hn0 : n ≤ n0) (hn1 : n ≤ n1) (hst : st = []) (hdd : 1 ≤ d)
    (kk : WA g d mi (pc + 3) ls st μ' Q) : WA g d mi pc ls (.int k :: .int z1 :: .ref r1 :: .int z0 :: .ref r0 :: st) μ Q := a_copy hd hw.1 hw.2.1 hw.2.2.1 hw.2.2.2 hr0 hr1 hs0 hs1 hz0 hz1 hk hn hn0 hn1 hst hdd (he ▸ kk)
theorem a_tsIn {x k : Int32} {dflt lo hi off : Int} {offs : Array Int} {len tgt : Nat} (hd : decode mi.2.1 pc = .ok (.tableswitch dflt lo hi offs, len)) (hx : x = k) (h1 : ¬ k.toInt < lo) (h2 : ¬ hi < k.toInt) (ho : offs[(k.toInt - lo).toNat]? = some off) (ht : (pc : Int) + off = (tgt : Int)) (kk : WA g d mi tgt ls st μ Q) : WA g d mi pc ls (.int x :: st) μ Q := by
  subst hx
  intro p e s m args below meth c H locs lsA A hP hS hl
  exact lv_tableIn A.1 A.2.1 hd h1 h2 ho ht (kk p e s m args below meth c H locs lsA A hP hS hl)
theorem a_tsOut {x : Int32} {dflt lo hi : Int} {offs : Array Int} {len tgt : Nat} (hd : decode mi.2.1 pc = .ok (.tableswitch dflt lo hi offs, len)) (h : x.toInt < lo ∨ hi < x.toInt) (ht : (pc : Int) + dflt = (tgt : Int)) (kk : WA g d mi tgt ls st μ Q) : WA g d mi pc ls (.int x :: st) μ Q := by
  intro p e s m args below meth c H locs lsA A hP hS hl
  exact lv_tableOut A.1 A.2.1 hd h ht (kk p e s m args below meth c H locs lsA A hP hS hl)
theorem a_iV0 {rr : Int32} {d' idx ci b : Nat} {cal : MI} {fs : List (Option Nat)} (hd : decode mi.2.1 pc = .ok (.invokevirtual idx, 3)) (hw : CV mi.1 idx ci 0 cal) (hct : Ct g d' cal (.ref b :: []) μ (QI rr μ')) (hdd : DD cal d' d) (hb : b < NC) (hs : sh b = .inl (ci, fs)) (hst : (st.map fun v => v.category).sum ≤ 8) (kk : WA g d mi (pc + 3) ls (.int rr :: st) μ' Q) : WA g d mi pc ls (.ref b :: st) μ Q := a_cV0 hd hw hct hdd hb hs hst (fun rv m h => by obtain ⟨rfl, rfl⟩ := h; exact kk)
theorem a_iS0 {rr : Int32} {d' idx : Nat} {cal : MI} (hd : decode mi.2.1 pc = .ok (.invokestatic idx, 3)) (hw : CS mi.1 idx 0 cal) (hct : Ct g d' cal [] μ (QI rr μ')) (hdd : DD cal d' d) (hst : (st.map fun v => v.category).sum ≤ 8) (kk : WA g d mi (pc + 3) ls (.int rr :: st) μ' Q) : WA g d mi pc ls (st) μ Q := a_cS0 hd hw hct hdd hst (fun rv m h => by obtain ⟨rfl, rfl⟩ := h; exact kk)
theorem a_iN0 {rr : Int32} {d' idx : Nat} {cal : MI} (hd : decode mi.2.1 pc = .ok (.invokestatic idx, 3)) (hw : CN mi.1 idx 0 cal) (hct : Ct g d' cal [] μ (QI rr μ')) (hdd : DD cal d' d) (hst : (st.map fun v => v.category).sum ≤ 8) (kk : WA g d mi (pc + 3) ls (.int rr :: st) μ' Q) : WA g d mi pc ls (st) μ Q := a_cN0 hd hw hct hdd hst (fun rv m h => by obtain ⟨rfl, rfl⟩ := h; exact kk)
theorem a_vV0 {d' idx ci b : Nat} {cal : MI} {fs : List (Option Nat)} (hd : decode mi.2.1 pc = .ok (.invokevirtual idx, 3)) (hw : CV mi.1 idx ci 0 cal) (hct : Ct g d' cal (.ref b :: []) μ (QV μ')) (hdd : DD cal d' d) (hb : b < NC) (hs : sh b = .inl (ci, fs)) (hst : (st.map fun v => v.category).sum ≤ 8) (kk : WA g d mi (pc + 3) ls (st) μ' Q) : WA g d mi pc ls (.ref b :: st) μ Q := a_cV0 hd hw hct hdd hb hs hst (fun rv m h => by obtain ⟨rfl, rfl⟩ := h; exact kk)
theorem a_vS0 {d' idx : Nat} {cal : MI} (hd : decode mi.2.1 pc = .ok (.invokestatic idx, 3)) (hw : CS mi.1 idx 0 cal) (hct : Ct g d' cal [] μ (QV μ')) (hdd : DD cal d' d) (hst : (st.map fun v => v.category).sum ≤ 8) (kk : WA g d mi (pc + 3) ls (st) μ' Q) : WA g d mi pc ls (st) μ Q := a_cS0 hd hw hct hdd hst (fun rv m h => by obtain ⟨rfl, rfl⟩ := h; exact kk)
theorem a_vN0 {d' idx : Nat} {cal : MI} (hd : decode mi.2.1 pc = .ok (.invokestatic idx, 3)) (hw : CN mi.1 idx 0 cal) (hct : Ct g d' cal [] μ (QV μ')) (hdd : DD cal d' d) (hst : (st.map fun v => v.category).sum ≤ 8) (kk : WA g d mi (pc + 3) ls (st) μ' Q) : WA g d mi pc ls (st) μ Q := a_cN0 hd hw hct hdd hst (fun rv m h => by obtain ⟨rfl, rfl⟩ := h; exact kk)
theorem a_iV1 {x0 : Value} {rr : Int32} {d' idx ci b : Nat} {cal : MI} {fs : List (Option Nat)} (hd : decode mi.2.1 pc = .ok (.invokevirtual idx, 3)) (hw : CV mi.1 idx ci 1 cal) (hct : Ct g d' cal (.ref b :: [x0]) μ (QI rr μ')) (hdd : DD cal d' d) (hb : b < NC) (hs : sh b = .inl (ci, fs)) (hst : (st.map fun v => v.category).sum ≤ 8) (kk : WA g d mi (pc + 3) ls (.int rr :: st) μ' Q) : WA g d mi pc ls (x0 :: .ref b :: st) μ Q := a_cV1 hd hw hct hdd hb hs hst (fun rv m h => by obtain ⟨rfl, rfl⟩ := h; exact kk)
theorem a_iS1 {x0 : Value} {rr : Int32} {d' idx : Nat} {cal : MI} (hd : decode mi.2.1 pc = .ok (.invokestatic idx, 3)) (hw : CS mi.1 idx 1 cal) (hct : Ct g d' cal [x0] μ (QI rr μ')) (hdd : DD cal d' d) (hst : (st.map fun v => v.category).sum ≤ 8) (kk : WA g d mi (pc + 3) ls (.int rr :: st) μ' Q) : WA g d mi pc ls (x0 :: st) μ Q := a_cS1 hd hw hct hdd hst (fun rv m h => by obtain ⟨rfl, rfl⟩ := h; exact kk)
theorem a_iN1 {x0 : Value} {rr : Int32} {d' idx : Nat} {cal : MI} (hd : decode mi.2.1 pc = .ok (.invokestatic idx, 3)) (hw : CN mi.1 idx 1 cal) (hct : Ct g d' cal [x0] μ (QI rr μ')) (hdd : DD cal d' d) (hst : (st.map fun v => v.category).sum ≤ 8) (kk : WA g d mi (pc + 3) ls (.int rr :: st) μ' Q) : WA g d mi pc ls (x0 :: st) μ Q := a_cN1 hd hw hct hdd hst (fun rv m h => by obtain ⟨rfl, rfl⟩ := h; exact kk)
theorem a_vV1 {x0 : Value} {d' idx ci b : Nat} {cal : MI} {fs : List (Option Nat)} (hd : decode mi.2.1 pc = .ok (.invokevirtual idx, 3)) (hw : CV mi.1 idx ci 1 cal) (hct : Ct g d' cal (.ref b :: [x0]) μ (QV μ')) (hdd : DD cal d' d) (hb : b < NC) (hs : sh b = .inl (ci, fs)) (hst : (st.map fun v => v.category).sum ≤ 8) (kk : WA g d mi (pc + 3) ls (st) μ' Q) : WA g d mi pc ls (x0 :: .ref b :: st) μ Q := a_cV1 hd hw hct hdd hb hs hst (fun rv m h => by obtain ⟨rfl, rfl⟩ := h; exact kk)
theorem a_vS1 {x0 : Value} {d' idx : Nat} {cal : MI} (hd : decode mi.2.1 pc = .ok (.invokestatic idx, 3)) (hw : CS mi.1 idx 1 cal) (hct : Ct g d' cal [x0] μ (QV μ')) (hdd : DD cal d' d) (hst : (st.map fun v => v.category).sum ≤ 8) (kk : WA g d mi (pc + 3) ls (st) μ' Q) : WA g d mi pc ls (x0 :: st) μ Q := a_cS1 hd hw hct hdd hst (fun rv m h => by obtain ⟨rfl, rfl⟩ := h; exact kk)
theorem a_vN1 {x0 : Value} {d' idx : Nat} {cal : MI} (hd : decode mi.2.1 pc = .ok (.invokestatic idx, 3)) (hw : CN mi.1 idx 1 cal) (hct : Ct g d' cal [x0] μ (QV μ')) (hdd : DD cal d' d) (hst : (st.map fun v => v.category).sum ≤ 8) (kk : WA g d mi (pc + 3) ls (st) μ' Q) : WA g d mi pc ls (x0 :: st) μ Q := a_cN1 hd hw hct hdd hst (fun rv m h => by obtain ⟨rfl, rfl⟩ := h; exact kk)
theorem a_iV2 {x0 x1 : Value} {rr : Int32} {d' idx ci b : Nat} {cal : MI} {fs : List (Option Nat)} (hd : decode mi.2.1 pc = .ok (.invokevirtual idx, 3)) (hw : CV mi.1 idx ci 2 cal) (hct : Ct g d' cal (.ref b :: [x0, x1]) μ (QI rr μ')) (hdd : DD cal d' d) (hb : b < NC) (hs : sh b = .inl (ci, fs)) (hst : (st.map fun v => v.category).sum ≤ 8) (kk : WA g d mi (pc + 3) ls (.int rr :: st) μ' Q) : WA g d mi pc ls (x1 :: x0 :: .ref b :: st) μ Q := a_cV2 hd hw hct hdd hb hs hst (fun rv m h => by obtain ⟨rfl, rfl⟩ := h; exact kk)
theorem a_iS2 {x0 x1 : Value} {rr : Int32} {d' idx : Nat} {cal : MI} (hd : decode mi.2.1 pc = .ok (.invokestatic idx, 3)) (hw : CS mi.1 idx 2 cal) (hct : Ct g d' cal [x0, x1] μ (QI rr μ')) (hdd : DD cal d' d) (hst : (st.map fun v => v.category).sum ≤ 8) (kk : WA g d mi (pc + 3) ls (.int rr :: st) μ' Q) : WA g d mi pc ls (x1 :: x0 :: st) μ Q := a_cS2 hd hw hct hdd hst (fun rv m h => by obtain ⟨rfl, rfl⟩ := h; exact kk)
theorem a_iN2 {x0 x1 : Value} {rr : Int32} {d' idx : Nat} {cal : MI} (hd : decode mi.2.1 pc = .ok (.invokestatic idx, 3)) (hw : CN mi.1 idx 2 cal) (hct : Ct g d' cal [x0, x1] μ (QI rr μ')) (hdd : DD cal d' d) (hst : (st.map fun v => v.category).sum ≤ 8) (kk : WA g d mi (pc + 3) ls (.int rr :: st) μ' Q) : WA g d mi pc ls (x1 :: x0 :: st) μ Q := a_cN2 hd hw hct hdd hst (fun rv m h => by obtain ⟨rfl, rfl⟩ := h; exact kk)
theorem a_vV2 {x0 x1 : Value} {d' idx ci b : Nat} {cal : MI} {fs : List (Option Nat)} (hd : decode mi.2.1 pc = .ok (.invokevirtual idx, 3)) (hw : CV mi.1 idx ci 2 cal) (hct : Ct g d' cal (.ref b :: [x0, x1]) μ (QV μ')) (hdd : DD cal d' d) (hb : b < NC) (hs : sh b = .inl (ci, fs)) (hst : (st.map fun v => v.category).sum ≤ 8) (kk : WA g d mi (pc + 3) ls (st) μ' Q) : WA g d mi pc ls (x1 :: x0 :: .ref b :: st) μ Q := a_cV2 hd hw hct hdd hb hs hst (fun rv m h => by obtain ⟨rfl, rfl⟩ := h; exact kk)
theorem a_vS2 {x0 x1 : Value} {d' idx : Nat} {cal : MI} (hd : decode mi.2.1 pc = .ok (.invokestatic idx, 3)) (hw : CS mi.1 idx 2 cal) (hct : Ct g d' cal [x0, x1] μ (QV μ')) (hdd : DD cal d' d) (hst : (st.map fun v => v.category).sum ≤ 8) (kk : WA g d mi (pc + 3) ls (st) μ' Q) : WA g d mi pc ls (x1 :: x0 :: st) μ Q := a_cS2 hd hw hct hdd hst (fun rv m h => by obtain ⟨rfl, rfl⟩ := h; exact kk)
theorem a_vN2 {x0 x1 : Value} {d' idx : Nat} {cal : MI} (hd : decode mi.2.1 pc = .ok (.invokestatic idx, 3)) (hw : CN mi.1 idx 2 cal) (hct : Ct g d' cal [x0, x1] μ (QV μ')) (hdd : DD cal d' d) (hst : (st.map fun v => v.category).sum ≤ 8) (kk : WA g d mi (pc + 3) ls (st) μ' Q) : WA g d mi pc ls (x1 :: x0 :: st) μ Q := a_cN2 hd hw hct hdd hst (fun rv m h => by obtain ⟨rfl, rfl⟩ := h; exact kk)
theorem a_iV3 {x0 x1 x2 : Value} {rr : Int32} {d' idx ci b : Nat} {cal : MI} {fs : List (Option Nat)} (hd : decode mi.2.1 pc = .ok (.invokevirtual idx, 3)) (hw : CV mi.1 idx ci 3 cal) (hct : Ct g d' cal (.ref b :: [x0, x1, x2]) μ (QI rr μ')) (hdd : DD cal d' d) (hb : b < NC) (hs : sh b = .inl (ci, fs)) (hst : (st.map fun v => v.category).sum ≤ 8) (kk : WA g d mi (pc + 3) ls (.int rr :: st) μ' Q) : WA g d mi pc ls (x2 :: x1 :: x0 :: .ref b :: st) μ Q := a_cV3 hd hw hct hdd hb hs hst (fun rv m h => by obtain ⟨rfl, rfl⟩ := h; exact kk)
theorem a_iS3 {x0 x1 x2 : Value} {rr : Int32} {d' idx : Nat} {cal : MI} (hd : decode mi.2.1 pc = .ok (.invokestatic idx, 3)) (hw : CS mi.1 idx 3 cal) (hct : Ct g d' cal [x0, x1, x2] μ (QI rr μ')) (hdd : DD cal d' d) (hst : (st.map fun v => v.category).sum ≤ 8) (kk : WA g d mi (pc + 3) ls (.int rr :: st) μ' Q) : WA g d mi pc ls (x2 :: x1 :: x0 :: st) μ Q := a_cS3 hd hw hct hdd hst (fun rv m h => by obtain ⟨rfl, rfl⟩ := h; exact kk)
theorem a_iN3 {x0 x1 x2 : Value} {rr : Int32} {d' idx : Nat} {cal : MI} (hd : decode mi.2.1 pc = .ok (.invokestatic idx, 3)) (hw : CN mi.1 idx 3 cal) (hct : Ct g d' cal [x0, x1, x2] μ (QI rr μ')) (hdd : DD cal d' d) (hst : (st.map fun v => v.category).sum ≤ 8) (kk : WA g d mi (pc + 3) ls (.int rr :: st) μ' Q) : WA g d mi pc ls (x2 :: x1 :: x0 :: st) μ Q := a_cN3 hd hw hct hdd hst (fun rv m h => by obtain ⟨rfl, rfl⟩ := h; exact kk)
theorem a_vV3 {x0 x1 x2 : Value} {d' idx ci b : Nat} {cal : MI} {fs : List (Option Nat)} (hd : decode mi.2.1 pc = .ok (.invokevirtual idx, 3)) (hw : CV mi.1 idx ci 3 cal) (hct : Ct g d' cal (.ref b :: [x0, x1, x2]) μ (QV μ')) (hdd : DD cal d' d) (hb : b < NC) (hs : sh b = .inl (ci, fs)) (hst : (st.map fun v => v.category).sum ≤ 8) (kk : WA g d mi (pc + 3) ls (st) μ' Q) : WA g d mi pc ls (x2 :: x1 :: x0 :: .ref b :: st) μ Q := a_cV3 hd hw hct hdd hb hs hst (fun rv m h => by obtain ⟨rfl, rfl⟩ := h; exact kk)
theorem a_vS3 {x0 x1 x2 : Value} {d' idx : Nat} {cal : MI} (hd : decode mi.2.1 pc = .ok (.invokestatic idx, 3)) (hw : CS mi.1 idx 3 cal) (hct : Ct g d' cal [x0, x1, x2] μ (QV μ')) (hdd : DD cal d' d) (hst : (st.map fun v => v.category).sum ≤ 8) (kk : WA g d mi (pc + 3) ls (st) μ' Q) : WA g d mi pc ls (x2 :: x1 :: x0 :: st) μ Q := a_cS3 hd hw hct hdd hst (fun rv m h => by obtain ⟨rfl, rfl⟩ := h; exact kk)
theorem a_vN3 {x0 x1 x2 : Value} {d' idx : Nat} {cal : MI} (hd : decode mi.2.1 pc = .ok (.invokestatic idx, 3)) (hw : CN mi.1 idx 3 cal) (hct : Ct g d' cal [x0, x1, x2] μ (QV μ')) (hdd : DD cal d' d) (hst : (st.map fun v => v.category).sum ≤ 8) (kk : WA g d mi (pc + 3) ls (st) μ' Q) : WA g d mi pc ls (x2 :: x1 :: x0 :: st) μ Q := a_cN3 hd hw hct hdd hst (fun rv m h => by obtain ⟨rfl, rfl⟩ := h; exact kk)
theorem a_iV4 {x0 x1 x2 x3 : Value} {rr : Int32} {d' idx ci b : Nat} {cal : MI} {fs : List (Option Nat)} (hd : decode mi.2.1 pc = .ok (.invokevirtual idx, 3)) (hw : CV mi.1 idx ci 4 cal) (hct : Ct g d' cal (.ref b :: [x0, x1, x2, x3]) μ (QI rr μ')) (hdd : DD cal d' d) (hb : b < NC) (hs : sh b = .inl (ci, fs)) (hst : (st.map fun v => v.category).sum ≤ 8) (kk : WA g d mi (pc + 3) ls (.int rr :: st) μ' Q) : WA g d mi pc ls (x3 :: x2 :: x1 :: x0 :: .ref b :: st) μ Q := a_cV4 hd hw hct hdd hb hs hst (fun rv m h => by obtain ⟨rfl, rfl⟩ := h; exact kk)
theorem a_iS4 {x0 x1 x2 x3 : Value} {rr : Int32} {d' idx : Nat} {cal : MI} (hd : decode mi.2.1 pc = .ok (.invokestatic idx, 3)) (hw : CS mi.1 idx 4 cal) (hct : Ct g d' cal [x0, x1, x2, x3] μ (QI rr μ')) (hdd : DD cal d' d) (hst : (st.map fun v => v.category).sum ≤ 8) (kk : WA g d mi (pc + 3) ls (.int rr :: st) μ' Q) : WA g d mi pc ls (x3 :: x2 :: x1 :: x0 :: st) μ Q := a_cS4 hd hw hct hdd hst (fun rv m h => by obtain ⟨rfl, rfl⟩ := h; exact kk)
theorem a_iN4 {x0 x1 x2 x3 : Value} {rr : Int32} {d' idx : Nat} {cal : MI} (hd : decode mi.2.1 pc = .ok (.invokestatic idx, 3)) (hw : CN mi.1 idx 4 cal) (hct : Ct g d' cal [x0, x1, x2, x3] μ (QI rr μ')) (hdd : DD cal d' d) (hst : (st.map fun v => v.category).sum ≤ 8) (kk : WA g d mi (pc + 3) ls (.int rr :: st) μ' Q) : WA g d mi pc ls (x3 :: x2 :: x1 :: x0 :: st) μ Q := a_cN4 hd hw hct hdd hst (fun rv m h => by obtain ⟨rfl, rfl⟩ := h; exact kk)
theorem a_vV4 {x0 x1 x2 x3 : Value} {d' idx ci b : Nat} {cal : MI} {fs : List (Option Nat)} (hd : decode mi.2.1 pc = .ok (.invokevirtual idx, 3)) (hw : CV mi.1 idx ci 4 cal) (hct : Ct g d' cal (.ref b :: [x0, x1, x2, x3]) μ (QV μ')) (hdd : DD cal d' d) (hb : b < NC) (hs : sh b = .inl (ci, fs)) (hst : (st.map fun v => v.category).sum ≤ 8) (kk : WA g d mi (pc + 3) ls (st) μ' Q) : WA g d mi pc ls (x3 :: x2 :: x1 :: x0 :: .ref b :: st) μ Q := a_cV4 hd hw hct hdd hb hs hst (fun rv m h => by obtain ⟨rfl, rfl⟩ := h; exact kk)
theorem a_vS4 {x0 x1 x2 x3 : Value} {d' idx : Nat} {cal : MI} (hd : decode mi.2.1 pc = .ok (.invokestatic idx, 3)) (hw : CS mi.1 idx 4 cal) (hct : Ct g d' cal [x0, x1, x2, x3] μ (QV μ')) (hdd : DD cal d' d) (hst : (st.map fun v => v.category).sum ≤ 8) (kk : WA g d mi (pc + 3) ls (st) μ' Q) : WA g d mi pc ls (x3 :: x2 :: x1 :: x0 :: st) μ Q := a_cS4 hd hw hct hdd hst (fun rv m h => by obtain ⟨rfl, rfl⟩ := h; exact kk)
theorem a_vN4 {x0 x1 x2 x3 : Value} {d' idx : Nat} {cal : MI} (hd : decode mi.2.1 pc = .ok (.invokestatic idx, 3)) (hw : CN mi.1 idx 4 cal) (hct : Ct g d' cal [x0, x1, x2, x3] μ (QV μ')) (hdd : DD cal d' d) (hst : (st.map fun v => v.category).sum ≤ 8) (kk : WA g d mi (pc + 3) ls (st) μ' Q) : WA g d mi pc ls (x3 :: x2 :: x1 :: x0 :: st) μ Q := a_cN4 hd hw hct hdd hst (fun rv m h => by obtain ⟨rfl, rfl⟩ := h; exact kk)
theorem a_iV5 {x0 x1 x2 x3 x4 : Value} {rr : Int32} {d' idx ci b : Nat} {cal : MI} {fs : List (Option Nat)} (hd : decode mi.2.1 pc = .ok (.invokevirtual idx, 3)) (hw : CV mi.1 idx ci 5 cal) (hct : Ct g d' cal (.ref b :: [x0, x1, x2, x3, x4]) μ (QI rr μ')) (hdd : DD cal d' d) (hb : b < NC) (hs : sh b = .inl (ci, fs)) (hst : (st.map fun v => v.category).sum ≤ 8) (kk : WA g d mi (pc + 3) ls (.int rr :: st) μ' Q) : WA g d mi pc ls (x4 :: x3 :: x2 :: x1 :: x0 :: .ref b :: st) μ Q := a_cV5 hd hw hct hdd hb hs hst (fun rv m h => by obtain ⟨rfl, rfl⟩ := h; exact kk)
theorem a_iS5 {x0 x1 x2 x3 x4 : Value} {rr : Int32} {d' idx : Nat} {cal : MI} (hd : decode mi.2.1 pc = .ok (.invokestatic idx, 3)) (hw : CS mi.1 idx 5 cal) (hct : Ct g d' cal [x0, x1, x2, x3, x4] μ (QI rr μ')) (hdd : DD cal d' d) (hst : (st.map fun v => v.category).sum ≤ 8) (kk : WA g d mi (pc + 3) ls (.int rr :: st) μ' Q) : WA g d mi pc ls (x4 :: x3 :: x2 :: x1 :: x0 :: st) μ Q := a_cS5 hd hw hct hdd hst (fun rv m h => by obtain ⟨rfl, rfl⟩ := h; exact kk)
theorem a_iN5 {x0 x1 x2 x3 x4 : Value} {rr : Int32} {d' idx : Nat} {cal : MI} (hd : decode mi.2.1 pc = .ok (.invokestatic idx, 3)) (hw : CN mi.1 idx 5 cal) (hct : Ct g d' cal [x0, x1, x2, x3, x4] μ (QI rr μ')) (hdd : DD cal d' d) (hst : (st.map fun v => v.category).sum ≤ 8) (kk : WA g d mi (pc + 3) ls (.int rr :: st) μ' Q) : WA g d mi pc ls (x4 :: x3 :: x2 :: x1 :: x0 :: st) μ Q := a_cN5 hd hw hct hdd hst (fun rv m h => by obtain ⟨rfl, rfl⟩ := h; exact kk)
theorem a_vV5 {x0 x1 x2 x3 x4 : Value} {d' idx ci b : Nat} {cal : MI} {fs : List (Option Nat)} (hd : decode mi.2.1 pc = .ok (.invokevirtual idx, 3)) (hw : CV mi.1 idx ci 5 cal) (hct : Ct g d' cal (.ref b :: [x0, x1, x2, x3, x4]) μ (QV μ')) (hdd : DD cal d' d) (hb : b < NC) (hs : sh b = .inl (ci, fs)) (hst : (st.map fun v => v.category).sum ≤ 8) (kk : WA g d mi (pc + 3) ls (st) μ' Q) : WA g d mi pc ls (x4 :: x3 :: x2 :: x1 :: x0 :: .ref b :: st) μ Q := a_cV5 hd hw hct hdd hb hs hst (fun rv m h => by obtain ⟨rfl, rfl⟩ := h; exact kk)
theorem a_vS5 {x0 x1 x2 x3 x4 : Value} {d' idx : Nat} {cal : MI} (hd : decode mi.2.1 pc = .ok (.invokestatic idx, 3)) (hw : CS mi.1 idx 5 cal) (hct : Ct g d' cal [x0, x1, x2, x3, x4] μ (QV μ')) (hdd : DD cal d' d) (hst : (st.map fun v => v.category).sum ≤ 8) (kk : WA g d mi (pc + 3) ls (st) μ' Q) : WA g d mi pc ls (x4 :: x3 :: x2 :: x1 :: x0 :: st) μ Q := a_cS5 hd hw hct hdd hst (fun rv m h => by obtain ⟨rfl, rfl⟩ := h; exact kk)
theorem a_vN5 {x0 x1 x2 x3 x4 : Value} {d' idx : Nat} {cal : MI} (hd : decode mi.2.1 pc = .ok (.invokestatic idx, 3)) (hw : CN mi.1 idx 5 cal) (hct : Ct g d' cal [x0, x1, x2, x3, x4] μ (QV μ')) (hdd : DD cal d' d) (hst : (st.map fun v => v.category).sum ≤ 8) (kk : WA g d mi (pc + 3) ls (st) μ' Q) : WA g d mi pc ls (x4 :: x3 :: x2 :: x1 :: x0 :: st) μ Q := a_cN5 hd hw hct hdd hst (fun rv m h => by obtain ⟨rfl, rfl⟩ := h; exact kk)
theorem a_iV6 {x0 x1 x2 x3 x4 x5 : Value} {rr : Int32} {d' idx ci b : Nat} {cal : MI} {fs : List (Option Nat)} (hd : decode mi.2.1 pc = .ok (.invokevirtual idx, 3)) (hw : CV mi.1 idx ci 6 cal) (hct : Ct g d' cal (.ref b :: [x0, x1, x2, x3, x4, x5]) μ (QI rr μ')) (hdd : DD cal d' d) (hb : b < NC) (hs : sh b = .inl (ci, fs)) (hst : (st.map fun v => v.category).sum ≤ 8) (kk : WA g d mi (pc + 3) ls (.int rr :: st) μ' Q) : WA g d mi pc ls (x5 :: x4 :: x3 :: x2 :: x1 :: x0 :: .ref b :: st) μ Q := a_cV6 hd hw hct hdd hb hs hst (fun rv m h => by obtain ⟨rfl, rfl⟩ := h; exact kk)
theorem a_iS6 {x0 x1 x2 x3 x4 x5 : Value} {rr : Int32} {d' idx : Nat} {cal : MI} (hd : decode mi.2.1 pc = .ok (.invokestatic idx, 3)) (hw : CS mi.1 idx 6 cal) (hct : Ct g d' cal [x0, x1, x2, x3, x4, x5] μ (QI rr μ')) (hdd : DD cal d' d) (hst : (st.map fun v => v.category).sum ≤ 8) (kk : WA g d mi (pc + 3) ls (.int rr :: st) μ' Q) : WA g d mi pc ls (x5 :: x4 :: x3 :: x2 :: x1 :: x0 :: st) μ Q := a_cS6 hd hw hct hdd hst (fun rv m h => by obtain ⟨rfl, rfl⟩ := h; exact kk)
theorem a_iN6 {x0 x1 x2 x3 x4 x5 : Value} {rr : Int32} {d' idx : Nat} {cal : MI} (hd : decode mi.2.1 pc = .ok (.invokestatic idx, 3)) (hw : CN mi.1 idx 6 cal) (hct : Ct g d' cal [x0, x1, x2, x3, x4, x5] μ (QI rr μ')) (hdd : DD cal d' d) (hst : (st.map fun v => v.category).sum ≤ 8) (kk : WA g d mi (pc + 3) ls (.int rr :: st) μ' Q) : WA g d mi pc ls (x5 :: x4 :: x3 :: x2 :: x1 :: x0 :: st) μ Q := a_cN6 hd hw hct hdd hst (fun rv m h => by obtain ⟨rfl, rfl⟩ := h; exact kk)
theorem a_vV6 {x0 x1 x2 x3 x4 x5 : Value} {d' idx ci b : Nat} {cal : MI} {fs : List (Option Nat)} (hd : decode mi.2.1 pc = .ok (.invokevirtual idx, 3)) (hw : CV mi.1 idx ci 6 cal) (hct : Ct g d' cal (.ref b :: [x0, x1, x2, x3, x4, x5]) μ (QV μ')) (hdd : DD cal d' d) (hb : b < NC) (hs : sh b = .inl (ci, fs)) (hst : (st.map fun v => v.category).sum ≤ 8) (kk : WA g d mi (pc + 3) ls (st) μ' Q) : WA g d mi pc ls (x5 :: x4 :: x3 :: x2 :: x1 :: x0 :: .ref b :: st) μ Q := a_cV6 hd hw hct hdd hb hs hst (fun rv m h => by obtain ⟨rfl, rfl⟩ := h; exact kk)
theorem a_vS6 {x0 x1 x2 x3 x4 x5 : Value} {d' idx : Nat} {cal : MI} (hd : decode mi.2.1 pc = .ok (.invokestatic idx, 3)) (hw : CS mi.1 idx 6 cal) (hct : Ct g d' cal [x0, x1, x2, x3, x4, x5] μ (QV μ')) (hdd : DD cal d' d) (hst : (st.map fun v => v.category).sum ≤ 8) (kk : WA g d mi (pc + 3) ls (st) μ' Q) : WA g d mi pc ls (x5 :: x4 :: x3 :: x2 :: x1 :: x0 :: st) μ Q := a_cS6 hd hw hct hdd hst (fun rv m h => by obtain ⟨rfl, rfl⟩ := h; exact kk)
theorem a_vN6 {x0 x1 x2 x3 x4 x5 : Value} {d' idx : Nat} {cal : MI} (hd : decode mi.2.1 pc = .ok (.invokestatic idx, 3)) (hw : CN mi.1 idx 6 cal) (hct : Ct g d' cal [x0, x1, x2, x3, x4, x5] μ (QV μ')) (hdd : DD cal d' d) (hst : (st.map fun v => v.category).sum ≤ 8) (kk : WA g d mi (pc + 3) ls (st) μ' Q) : WA g d mi pc ls (x5 :: x4 :: x3 :: x2 :: x1 :: x0 :: st) μ Q := a_cN6 hd hw hct hdd hst (fun rv m h => by obtain ⟨rfl, rfl⟩ := h; exact kk)
end CROWS
end
section
/-! what the tables say of each field, method and call, by program -/
theorem cls_X0 : CLS 0 RX0 TX0 3 tyX0 := ⟨rfl, fun w hw => in_wG ((by decide +kernel : ∀ w ∈ u_ws RX0 TX0 3, w ∈ lw_tbl) w hw) ((by decide +kernel : ∀ w ∈ u_ws RX0 TX0 3, goodWord w = true) w hw), tyX0_ok, nmX0⟩
theorem cls_X1 : CLS 1 RX1 TX1 7 tyX1 := ⟨rfl, fun w hw => in_wG ((by decide +kernel : ∀ w ∈ u_ws RX1 TX1 7, w ∈ lw_tbl) w hw) ((by decide +kernel : ∀ w ∈ u_ws RX1 TX1 7, goodWord w = true) w hw), tyX1_ok, nmX1⟩
theorem cls_X2 : CLS 2 RX2 TX2 4 tyX2 := ⟨rfl, fun w hw => in_wG ((by decide +kernel : ∀ w ∈ u_ws RX2 TX2 4, w ∈ lw_tbl) w hw) ((by decide +kernel : ∀ w ∈ u_ws RX2 TX2 4, goodWord w = true) w hw), tyX2_ok, nmX2⟩
theorem cls_X3 : CLS 3 RX3 TX3 3 tyX3 := ⟨rfl, fun w hw => in_wG ((by decide +kernel : ∀ w ∈ u_ws RX3 TX3 3, w ∈ lw_tbl) w hw) ((by decide +kernel : ∀ w ∈ u_ws RX3 TX3 3, goodWord w = true) w hw), tyX3_ok, nmX3⟩
theorem cls_X4 : CLS 4 RX4 TX4 5 tyX4 := ⟨rfl, fun w hw => in_wG ((by decide +kernel : ∀ w ∈ u_ws RX4 TX4 5, w ∈ lw_tbl) w hw) ((by decide +kernel : ∀ w ∈ u_ws RX4 TX4 5, goodWord w = true) w hw), tyX4_ok, nmX4⟩
theorem cls_X5 : CLS 5 RX5 TX5 13 tyX5 := ⟨rfl, fun w hw => in_wG ((by decide +kernel : ∀ w ∈ u_ws RX5 TX5 13, w ∈ lw_tbl) w hw) ((by decide +kernel : ∀ w ∈ u_ws RX5 TX5 13, goodWord w = true) w hw), tyX5_ok, nmX5⟩
theorem cls_X6 : CLS 6 RX6 TX6 12 tyX6 := ⟨rfl, fun w hw => in_wG ((by decide +kernel : ∀ w ∈ u_ws RX6 TX6 12, w ∈ lw_tbl) w hw) ((by decide +kernel : ∀ w ∈ u_ws RX6 TX6 12, goodWord w = true) w hw), tyX6_ok, nmX6⟩
theorem cls_X7 : CLS 7 RX7 TX7 36 tyX7 := ⟨rfl, fun w hw => in_wG ((by decide +kernel : ∀ w ∈ u_ws RX7 TX7 36, w ∈ lw_tbl) w hw) ((by decide +kernel : ∀ w ∈ u_ws RX7 TX7 36, goodWord w = true) w hw), tyX7_ok, nmX7⟩
theorem fa_X0_9 : FA RX0 9 0 0 := ⟨RX0, TX0, 3, tyX0, cls_X0, by decide, in_ix 267 (by decide +kernel) rfl⟩
theorem fa_X0_15 : FA RX0 15 0 1 := ⟨RX0, TX0, 3, tyX0, cls_X0, by decide, in_ix 268 (by decide +kernel) rfl⟩
theorem fa_X0_18 : FA RX0 18 0 2 := ⟨RX0, TX0, 3, tyX0, cls_X0, by decide, in_ix 269 (by decide +kernel) rfl⟩
theorem fp_X0_18 : FP RX0 18 0 2 .int := ⟨RX0, TX0, 3, tyX0, cls_X0, by decide, in_ix 269 (by decide +kernel) rfl, rfl, rfl⟩
theorem fa_X1_9 : FA RX1 9 1 3 := ⟨RX1, TX1, 7, tyX1, cls_X1, by decide, in_ix 140 (by decide +kernel) rfl⟩
theorem fa_X1_15 : FA RX1 15 1 4 := ⟨RX1, TX1, 7, tyX1, cls_X1, by decide, in_ix 143 (by decide +kernel) rfl⟩
theorem fa_X1_18 : FA RX1 18 1 5 := ⟨RX1, TX1, 7, tyX1, cls_X1, by decide, in_ix 145 (by decide +kernel) rfl⟩
theorem fa_X1_21 : FA RX1 21 1 6 := ⟨RX1, TX1, 7, tyX1, cls_X1, by decide, in_ix 147 (by decide +kernel) rfl⟩
theorem fa_X1_24 : FA RX1 24 1 0 := ⟨RX1, TX1, 7, tyX1, cls_X1, by decide, in_ix 130 (by decide +kernel) rfl⟩
theorem fp_X1_24 : FP RX1 24 1 0 .int := ⟨RX1, TX1, 7, tyX1, cls_X1, by decide, in_ix 130 (by decide +kernel) rfl, rfl, rfl⟩
theorem fa_X1_28 : FA RX1 28 1 1 := ⟨RX1, TX1, 7, tyX1, cls_X1, by decide, in_ix 135 (by decide +kernel) rfl⟩
theorem fp_X1_28 : FP RX1 28 1 1 .int := ⟨RX1, TX1, 7, tyX1, cls_X1, by decide, in_ix 135 (by decide +kernel) rfl, rfl, rfl⟩
theorem fa_X1_31 : FA RX1 31 1 2 := ⟨RX1, TX1, 7, tyX1, cls_X1, by decide, in_ix 137 (by decide +kernel) rfl⟩
theorem fp_X1_31 : FP RX1 31 1 2 .int := ⟨RX1, TX1, 7, tyX1, cls_X1, by decide, in_ix 137 (by decide +kernel) rfl, rfl, rfl⟩
theorem fa_X2_9 : FA RX2 9 2 0 := ⟨RX2, TX2, 4, tyX2, cls_X2, by decide, in_ix 247 (by decide +kernel) rfl⟩
theorem fa_X2_15 : FA RX2 15 2 1 := ⟨RX2, TX2, 4, tyX2, cls_X2, by decide, in_ix 248 (by decide +kernel) rfl⟩
theorem fa_X2_18 : FA RX2 18 2 2 := ⟨RX2, TX2, 4, tyX2, cls_X2, by decide, in_ix 249 (by decide +kernel) rfl⟩
theorem fa_X2_21 : FA RX2 21 2 3 := ⟨RX2, TX2, 4, tyX2, cls_X2, by decide, in_ix 250 (by decide +kernel) rfl⟩
theorem fp_X2_21 : FP RX2 21 2 3 .int := ⟨RX2, TX2, 4, tyX2, cls_X2, by decide, in_ix 250 (by decide +kernel) rfl, rfl, rfl⟩
theorem fa_X3_11 : FA RX3 11 3 0 := ⟨RX3, TX3, 3, tyX3, cls_X3, by decide, in_ix 230 (by decide +kernel) rfl⟩
theorem fa_X3_18 : FA RX3 18 3 1 := ⟨RX3, TX3, 3, tyX3, cls_X3, by decide, in_ix 231 (by decide +kernel) rfl⟩
theorem fp_X3_18 : FP RX3 18 3 1 .int := ⟨RX3, TX3, 3, tyX3, cls_X3, by decide, in_ix 231 (by decide +kernel) rfl, rfl, rfl⟩
theorem fa_X3_30 : FA RX3 30 3 2 := ⟨RX3, TX3, 3, tyX3, cls_X3, by decide, in_ix 232 (by decide +kernel) rfl⟩
theorem fp_X3_30 : FP RX3 30 3 2 .int := ⟨RX3, TX3, 3, tyX3, cls_X3, by decide, in_ix 232 (by decide +kernel) rfl, rfl, rfl⟩
theorem fa_X4_9 : FA RX4 9 4 0 := ⟨RX4, TX4, 5, tyX4, cls_X4, by decide, in_ix 103 (by decide +kernel) rfl⟩
theorem fp_X4_15 : FP RX4 15 4 4 .int := ⟨RX4, TX4, 5, tyX4, cls_X4, by decide, in_ix 110 (by decide +kernel) rfl, rfl, rfl⟩
theorem fa_X4_24 : FA RX4 24 4 2 := ⟨RX4, TX4, 5, tyX4, cls_X4, by decide, in_ix 107 (by decide +kernel) rfl⟩
theorem fp_X4_24 : FP RX4 24 4 2 .int := ⟨RX4, TX4, 5, tyX4, cls_X4, by decide, in_ix 107 (by decide +kernel) rfl, rfl, rfl⟩
theorem fa_X4_27 : FA RX4 27 4 3 := ⟨RX4, TX4, 5, tyX4, cls_X4, by decide, in_ix 108 (by decide +kernel) rfl⟩
theorem fp_X4_27 : FP RX4 27 4 3 .int := ⟨RX4, TX4, 5, tyX4, cls_X4, by decide, in_ix 108 (by decide +kernel) rfl, rfl, rfl⟩
theorem fa_X4_33 : FA RX4 33 4 1 := ⟨RX4, TX4, 5, tyX4, cls_X4, by decide, in_ix 106 (by decide +kernel) rfl⟩
theorem fa_X4_44 : FA RX4 44 1 2 := ⟨RX1, TX1, 7, tyX1, cls_X1, by decide, in_ix 138 (by decide +kernel) rfl⟩
theorem fa_X4_64 : FA RX4 64 1 0 := ⟨RX1, TX1, 7, tyX1, cls_X1, by decide, in_ix 131 (by decide +kernel) rfl⟩
theorem fp_X4_64 : FP RX4 64 1 0 .int := ⟨RX1, TX1, 7, tyX1, cls_X1, by decide, in_ix 131 (by decide +kernel) rfl, rfl, rfl⟩
theorem fp_X4_67 : FP RX4 67 1 1 .int := ⟨RX1, TX1, 7, tyX1, cls_X1, by decide, in_ix 136 (by decide +kernel) rfl, rfl, rfl⟩
theorem fa_X5_9 : FA RX5 9 5 8 := ⟨RX5, TX5, 13, tyX5, cls_X5, by decide, in_ix 186 (by decide +kernel) rfl⟩
theorem fa_X5_15 : FA RX5 15 5 9 := ⟨RX5, TX5, 13, tyX5, cls_X5, by decide, in_ix 187 (by decide +kernel) rfl⟩
theorem fa_X5_18 : FA RX5 18 5 10 := ⟨RX5, TX5, 13, tyX5, cls_X5, by decide, in_ix 188 (by decide +kernel) rfl⟩
theorem fa_X5_21 : FA RX5 21 5 11 := ⟨RX5, TX5, 13, tyX5, cls_X5, by decide, in_ix 190 (by decide +kernel) rfl⟩
theorem fa_X5_24 : FA RX5 24 5 12 := ⟨RX5, TX5, 13, tyX5, cls_X5, by decide, in_ix 192 (by decide +kernel) rfl⟩
theorem fa_X5_27 : FA RX5 27 5 0 := ⟨RX5, TX5, 13, tyX5, cls_X5, by decide, in_ix 171 (by decide +kernel) rfl⟩
theorem fp_X5_27 : FP RX5 27 5 0 .int := ⟨RX5, TX5, 13, tyX5, cls_X5, by decide, in_ix 171 (by decide +kernel) rfl, rfl, rfl⟩
theorem fa_X5_31 : FA RX5 31 1 1 := ⟨RX1, TX1, 7, tyX1, cls_X1, by decide, in_ix 134 (by decide +kernel) rfl⟩
theorem fa_X5_36 : FA RX5 36 5 1 := ⟨RX5, TX5, 13, tyX5, cls_X5, by decide, in_ix 173 (by decide +kernel) rfl⟩
theorem fp_X5_36 : FP RX5 36 5 1 .int := ⟨RX5, TX5, 13, tyX5, cls_X5, by decide, in_ix 173 (by decide +kernel) rfl, rfl, rfl⟩
theorem fa_X5_37 : FA RX5 37 5 2 := ⟨RX5, TX5, 13, tyX5, cls_X5, by decide, in_ix 175 (by decide +kernel) rfl⟩
theorem fp_X5_37 : FP RX5 37 5 2 .boolean := ⟨RX5, TX5, 13, tyX5, cls_X5, by decide, in_ix 175 (by decide +kernel) rfl, rfl, rfl⟩
theorem fa_X5_41 : FA RX5 41 5 3 := ⟨RX5, TX5, 13, tyX5, cls_X5, by decide, in_ix 177 (by decide +kernel) rfl⟩
theorem fp_X5_41 : FP RX5 41 5 3 .int := ⟨RX5, TX5, 13, tyX5, cls_X5, by decide, in_ix 177 (by decide +kernel) rfl, rfl, rfl⟩
theorem fa_X5_44 : FA RX5 44 5 4 := ⟨RX5, TX5, 13, tyX5, cls_X5, by decide, in_ix 179 (by decide +kernel) rfl⟩
theorem fp_X5_44 : FP RX5 44 5 4 .int := ⟨RX5, TX5, 13, tyX5, cls_X5, by decide, in_ix 179 (by decide +kernel) rfl, rfl, rfl⟩
theorem fa_X5_47 : FA RX5 47 5 5 := ⟨RX5, TX5, 13, tyX5, cls_X5, by decide, in_ix 181 (by decide +kernel) rfl⟩
theorem fp_X5_47 : FP RX5 47 5 5 .int := ⟨RX5, TX5, 13, tyX5, cls_X5, by decide, in_ix 181 (by decide +kernel) rfl, rfl, rfl⟩
theorem fa_X5_50 : FA RX5 50 5 6 := ⟨RX5, TX5, 13, tyX5, cls_X5, by decide, in_ix 183 (by decide +kernel) rfl⟩
theorem fp_X5_50 : FP RX5 50 5 6 .int := ⟨RX5, TX5, 13, tyX5, cls_X5, by decide, in_ix 183 (by decide +kernel) rfl, rfl, rfl⟩
theorem fa_X5_53 : FA RX5 53 5 7 := ⟨RX5, TX5, 13, tyX5, cls_X5, by decide, in_ix 185 (by decide +kernel) rfl⟩
theorem fp_X5_53 : FP RX5 53 5 7 .int := ⟨RX5, TX5, 13, tyX5, cls_X5, by decide, in_ix 185 (by decide +kernel) rfl, rfl, rfl⟩
theorem fa_X5_56 : FA RX5 56 1 5 := ⟨RX1, TX1, 7, tyX1, cls_X1, by decide, in_ix 146 (by decide +kernel) rfl⟩
theorem fa_X5_96 : FA RX5 96 1 3 := ⟨RX1, TX1, 7, tyX1, cls_X1, by decide, in_ix 142 (by decide +kernel) rfl⟩
theorem fa_X5_125 : FA RX5 125 1 6 := ⟨RX1, TX1, 7, tyX1, cls_X1, by decide, in_ix 149 (by decide +kernel) rfl⟩
theorem fa_X5_128 : FA RX5 128 1 0 := ⟨RX1, TX1, 7, tyX1, cls_X1, by decide, in_ix 133 (by decide +kernel) rfl⟩
theorem fa_X6_10 : FA RX6 10 6 0 := ⟨RX6, TX6, 12, tyX6, cls_X6, by decide, in_ix 288 (by decide +kernel) rfl⟩
theorem fa_X6_19 : FA RX6 19 6 1 := ⟨RX6, TX6, 12, tyX6, cls_X6, by decide, in_ix 289 (by decide +kernel) rfl⟩
theorem fa_X6_23 : FA RX6 23 6 2 := ⟨RX6, TX6, 12, tyX6, cls_X6, by decide, in_ix 290 (by decide +kernel) rfl⟩
theorem fa_X6_29 : FA RX6 29 6 3 := ⟨RX6, TX6, 12, tyX6, cls_X6, by decide, in_ix 291 (by decide +kernel) rfl⟩
theorem fa_X6_33 : FA RX6 33 6 4 := ⟨RX6, TX6, 12, tyX6, cls_X6, by decide, in_ix 292 (by decide +kernel) rfl⟩
theorem fa_X6_39 : FA RX6 39 6 5 := ⟨RX6, TX6, 12, tyX6, cls_X6, by decide, in_ix 293 (by decide +kernel) rfl⟩
theorem fa_X6_43 : FA RX6 43 6 6 := ⟨RX6, TX6, 12, tyX6, cls_X6, by decide, in_ix 294 (by decide +kernel) rfl⟩
theorem fa_X6_47 : FA RX6 47 6 7 := ⟨RX6, TX6, 12, tyX6, cls_X6, by decide, in_ix 295 (by decide +kernel) rfl⟩
theorem fa_X6_54 : FA RX6 54 6 10 := ⟨RX6, TX6, 12, tyX6, cls_X6, by decide, in_ix 298 (by decide +kernel) rfl⟩
theorem fa_X6_61 : FA RX6 61 6 11 := ⟨RX6, TX6, 12, tyX6, cls_X6, by decide, in_ix 299 (by decide +kernel) rfl⟩
theorem fa_X6_70 : FA RX6 70 4 1 := ⟨RX4, TX4, 5, tyX4, cls_X4, by decide, in_ix 105 (by decide +kernel) rfl⟩
theorem fp_X6_70 : FP RX6 70 4 1 .int := ⟨RX4, TX4, 5, tyX4, cls_X4, by decide, in_ix 105 (by decide +kernel) rfl, rfl, rfl⟩
theorem fa_X6_75 : FA RX6 75 4 0 := ⟨RX4, TX4, 5, tyX4, cls_X4, by decide, in_ix 104 (by decide +kernel) rfl⟩
theorem fa_X6_85 : FA RX6 85 4 3 := ⟨RX4, TX4, 5, tyX4, cls_X4, by decide, in_ix 109 (by decide +kernel) rfl⟩
theorem fa_X6_91 : FA RX6 91 2 3 := ⟨RX2, TX2, 4, tyX2, cls_X2, by decide, in_ix 251 (by decide +kernel) rfl⟩
theorem fp_X6_91 : FP RX6 91 2 3 .int := ⟨RX2, TX2, 4, tyX2, cls_X2, by decide, in_ix 251 (by decide +kernel) rfl, rfl, rfl⟩
theorem fa_X6_94 : FA RX6 94 0 2 := ⟨RX0, TX0, 3, tyX0, cls_X0, by decide, in_ix 270 (by decide +kernel) rfl⟩
theorem fp_X6_94 : FP RX6 94 0 2 .int := ⟨RX0, TX0, 3, tyX0, cls_X0, by decide, in_ix 270 (by decide +kernel) rfl, rfl, rfl⟩
theorem fa_X6_95 : FA RX6 95 6 8 := ⟨RX6, TX6, 12, tyX6, cls_X6, by decide, in_ix 296 (by decide +kernel) rfl⟩
theorem fp_X6_95 : FP RX6 95 6 8 .int := ⟨RX6, TX6, 12, tyX6, cls_X6, by decide, in_ix 296 (by decide +kernel) rfl, rfl, rfl⟩
theorem fa_X6_98 : FA RX6 98 3 2 := ⟨RX3, TX3, 3, tyX3, cls_X3, by decide, in_ix 233 (by decide +kernel) rfl⟩
theorem fp_X6_98 : FP RX6 98 3 2 .int := ⟨RX3, TX3, 3, tyX3, cls_X3, by decide, in_ix 233 (by decide +kernel) rfl, rfl, rfl⟩
theorem fa_X6_99 : FA RX6 99 1 2 := ⟨RX1, TX1, 7, tyX1, cls_X1, by decide, in_ix 139 (by decide +kernel) rfl⟩
theorem fa_X6_102 : FA RX6 102 4 4 := ⟨RX4, TX4, 5, tyX4, cls_X4, by decide, in_ix 111 (by decide +kernel) rfl⟩
theorem fa_X6_105 : FA RX6 105 1 0 := ⟨RX1, TX1, 7, tyX1, cls_X1, by decide, in_ix 132 (by decide +kernel) rfl⟩
theorem fa_X6_108 : FA RX6 108 5 0 := ⟨RX5, TX5, 13, tyX5, cls_X5, by decide, in_ix 172 (by decide +kernel) rfl⟩
theorem fa_X6_111 : FA RX6 111 5 1 := ⟨RX5, TX5, 13, tyX5, cls_X5, by decide, in_ix 174 (by decide +kernel) rfl⟩
theorem fp_X6_111 : FP RX6 111 5 1 .int := ⟨RX5, TX5, 13, tyX5, cls_X5, by decide, in_ix 174 (by decide +kernel) rfl, rfl, rfl⟩
theorem fa_X6_114 : FA RX6 114 5 2 := ⟨RX5, TX5, 13, tyX5, cls_X5, by decide, in_ix 176 (by decide +kernel) rfl⟩
theorem fp_X6_114 : FP RX6 114 5 2 .boolean := ⟨RX5, TX5, 13, tyX5, cls_X5, by decide, in_ix 176 (by decide +kernel) rfl, rfl, rfl⟩
theorem fa_X6_118 : FA RX6 118 5 3 := ⟨RX5, TX5, 13, tyX5, cls_X5, by decide, in_ix 178 (by decide +kernel) rfl⟩
theorem fp_X6_118 : FP RX6 118 5 3 .int := ⟨RX5, TX5, 13, tyX5, cls_X5, by decide, in_ix 178 (by decide +kernel) rfl, rfl, rfl⟩
theorem fa_X6_121 : FA RX6 121 5 5 := ⟨RX5, TX5, 13, tyX5, cls_X5, by decide, in_ix 182 (by decide +kernel) rfl⟩
theorem fa_X6_124 : FA RX6 124 5 4 := ⟨RX5, TX5, 13, tyX5, cls_X5, by decide, in_ix 180 (by decide +kernel) rfl⟩
theorem fa_X6_140 : FA RX6 140 5 6 := ⟨RX5, TX5, 13, tyX5, cls_X5, by decide, in_ix 184 (by decide +kernel) rfl⟩
theorem fa_X6_148 : FA RX6 148 1 3 := ⟨RX1, TX1, 7, tyX1, cls_X1, by decide, in_ix 141 (by decide +kernel) rfl⟩
theorem fa_X6_155 : FA RX6 155 1 4 := ⟨RX1, TX1, 7, tyX1, cls_X1, by decide, in_ix 144 (by decide +kernel) rfl⟩
theorem fa_X6_158 : FA RX6 158 5 10 := ⟨RX5, TX5, 13, tyX5, cls_X5, by decide, in_ix 189 (by decide +kernel) rfl⟩
theorem fa_X6_161 : FA RX6 161 1 6 := ⟨RX1, TX1, 7, tyX1, cls_X1, by decide, in_ix 148 (by decide +kernel) rfl⟩
theorem fa_X6_164 : FA RX6 164 5 11 := ⟨RX5, TX5, 13, tyX5, cls_X5, by decide, in_ix 191 (by decide +kernel) rfl⟩
theorem fa_X6_167 : FA RX6 167 5 12 := ⟨RX5, TX5, 13, tyX5, cls_X5, by decide, in_ix 193 (by decide +kernel) rfl⟩
theorem fa_X6_271 : FA RX6 271 6 9 := ⟨RX6, TX6, 12, tyX6, cls_X6, by decide, in_ix 297 (by decide +kernel) rfl⟩
theorem fp_X6_271 : FP RX6 271 6 9 .int := ⟨RX6, TX6, 12, tyX6, cls_X6, by decide, in_ix 297 (by decide +kernel) rfl, rfl, rfl⟩
theorem fa_X7_7 : FA RX7 7 7 3 := ⟨RX7, TX7, 36, tyX7, cls_X7, by decide, in_ix 773 (by decide +kernel) rfl⟩
theorem fa_X7_13 : FA RX7 13 7 4 := ⟨RX7, TX7, 36, tyX7, cls_X7, by decide, in_ix 774 (by decide +kernel) rfl⟩
theorem fa_X7_16 : FA RX7 16 7 5 := ⟨RX7, TX7, 36, tyX7, cls_X7, by decide, in_ix 775 (by decide +kernel) rfl⟩
theorem fa_X7_19 : FA RX7 19 7 6 := ⟨RX7, TX7, 36, tyX7, cls_X7, by decide, in_ix 776 (by decide +kernel) rfl⟩
theorem fa_X7_22 : FA RX7 22 7 7 := ⟨RX7, TX7, 36, tyX7, cls_X7, by decide, in_ix 777 (by decide +kernel) rfl⟩
theorem fa_X7_25 : FA RX7 25 7 9 := ⟨RX7, TX7, 36, tyX7, cls_X7, by decide, in_ix 779 (by decide +kernel) rfl⟩
theorem fa_X7_28 : FA RX7 28 7 11 := ⟨RX7, TX7, 36, tyX7, cls_X7, by decide, in_ix 781 (by decide +kernel) rfl⟩
theorem fp_X7_28 : FP RX7 28 7 11 .int := ⟨RX7, TX7, 36, tyX7, cls_X7, by decide, in_ix 781 (by decide +kernel) rfl, rfl, rfl⟩
theorem fa_X7_32 : FA RX7 32 7 18 := ⟨RX7, TX7, 36, tyX7, cls_X7, by decide, in_ix 788 (by decide +kernel) rfl⟩
theorem fa_X7_35 : FA RX7 35 7 19 := ⟨RX7, TX7, 36, tyX7, cls_X7, by decide, in_ix 789 (by decide +kernel) rfl⟩
theorem fa_X7_38 : FA RX7 38 7 20 := ⟨RX7, TX7, 36, tyX7, cls_X7, by decide, in_ix 790 (by decide +kernel) rfl⟩
theorem fa_X7_41 : FA RX7 41 7 21 := ⟨RX7, TX7, 36, tyX7, cls_X7, by decide, in_ix 791 (by decide +kernel) rfl⟩
theorem fa_X7_44 : FA RX7 44 7 22 := ⟨RX7, TX7, 36, tyX7, cls_X7, by decide, in_ix 792 (by decide +kernel) rfl⟩
theorem fa_X7_47 : FA RX7 47 7 23 := ⟨RX7, TX7, 36, tyX7, cls_X7, by decide, in_ix 793 (by decide +kernel) rfl⟩
theorem fa_X7_51 : FA RX7 51 7 25 := ⟨RX7, TX7, 36, tyX7, cls_X7, by decide, in_ix 795 (by decide +kernel) rfl⟩
theorem fa_X7_54 : FA RX7 54 7 26 := ⟨RX7, TX7, 36, tyX7, cls_X7, by decide, in_ix 796 (by decide +kernel) rfl⟩
theorem fa_X7_57 : FA RX7 57 7 28 := ⟨RX7, TX7, 36, tyX7, cls_X7, by decide, in_ix 798 (by decide +kernel) rfl⟩
theorem fa_X7_60 : FA RX7 60 7 29 := ⟨RX7, TX7, 36, tyX7, cls_X7, by decide, in_ix 799 (by decide +kernel) rfl⟩
theorem fa_X7_63 : FA RX7 63 7 30 := ⟨RX7, TX7, 36, tyX7, cls_X7, by decide, in_ix 800 (by decide +kernel) rfl⟩
theorem fa_X7_66 : FA RX7 66 7 32 := ⟨RX7, TX7, 36, tyX7, cls_X7, by decide, in_ix 802 (by decide +kernel) rfl⟩
theorem fa_X7_69 : FA RX7 69 7 33 := ⟨RX7, TX7, 36, tyX7, cls_X7, by decide, in_ix 803 (by decide +kernel) rfl⟩
theorem fa_X7_72 : FA RX7 72 7 34 := ⟨RX7, TX7, 36, tyX7, cls_X7, by decide, in_ix 804 (by decide +kernel) rfl⟩
theorem fa_X7_75 : FA RX7 75 7 35 := ⟨RX7, TX7, 36, tyX7, cls_X7, by decide, in_ix 805 (by decide +kernel) rfl⟩
theorem fa_X7_81 : FA RX7 81 7 1 := ⟨RX7, TX7, 36, tyX7, cls_X7, by decide, in_ix 771 (by decide +kernel) rfl⟩
theorem fp_X7_81 : FP RX7 81 7 1 .int := ⟨RX7, TX7, 36, tyX7, cls_X7, by decide, in_ix 771 (by decide +kernel) rfl, rfl, rfl⟩
theorem fa_X7_88 : FA RX7 88 7 0 := ⟨RX7, TX7, 36, tyX7, cls_X7, by decide, in_ix 770 (by decide +kernel) rfl⟩
theorem fp_X7_88 : FP RX7 88 7 0 .int := ⟨RX7, TX7, 36, tyX7, cls_X7, by decide, in_ix 770 (by decide +kernel) rfl, rfl, rfl⟩
theorem fa_X7_94 : FA RX7 94 7 10 := ⟨RX7, TX7, 36, tyX7, cls_X7, by decide, in_ix 780 (by decide +kernel) rfl⟩
theorem fp_X7_94 : FP RX7 94 7 10 .int := ⟨RX7, TX7, 36, tyX7, cls_X7, by decide, in_ix 780 (by decide +kernel) rfl, rfl, rfl⟩
theorem fa_X7_98 : FA RX7 98 7 12 := ⟨RX7, TX7, 36, tyX7, cls_X7, by decide, in_ix 782 (by decide +kernel) rfl⟩
theorem fp_X7_98 : FP RX7 98 7 12 .int := ⟨RX7, TX7, 36, tyX7, cls_X7, by decide, in_ix 782 (by decide +kernel) rfl, rfl, rfl⟩
theorem fa_X7_113 : FA RX7 113 7 14 := ⟨RX7, TX7, 36, tyX7, cls_X7, by decide, in_ix 784 (by decide +kernel) rfl⟩
theorem fp_X7_113 : FP RX7 113 7 14 .int := ⟨RX7, TX7, 36, tyX7, cls_X7, by decide, in_ix 784 (by decide +kernel) rfl, rfl, rfl⟩
theorem fa_X7_116 : FA RX7 116 7 13 := ⟨RX7, TX7, 36, tyX7, cls_X7, by decide, in_ix 783 (by decide +kernel) rfl⟩
theorem fp_X7_116 : FP RX7 116 7 13 .int := ⟨RX7, TX7, 36, tyX7, cls_X7, by decide, in_ix 783 (by decide +kernel) rfl, rfl, rfl⟩
theorem fa_X7_122 : FA RX7 122 7 15 := ⟨RX7, TX7, 36, tyX7, cls_X7, by decide, in_ix 785 (by decide +kernel) rfl⟩
theorem fp_X7_122 : FP RX7 122 7 15 .int := ⟨RX7, TX7, 36, tyX7, cls_X7, by decide, in_ix 785 (by decide +kernel) rfl, rfl, rfl⟩
theorem fa_X7_125 : FA RX7 125 7 17 := ⟨RX7, TX7, 36, tyX7, cls_X7, by decide, in_ix 787 (by decide +kernel) rfl⟩
theorem fp_X7_125 : FP RX7 125 7 17 .int := ⟨RX7, TX7, 36, tyX7, cls_X7, by decide, in_ix 787 (by decide +kernel) rfl, rfl, rfl⟩
theorem fa_X7_128 : FA RX7 128 7 16 := ⟨RX7, TX7, 36, tyX7, cls_X7, by decide, in_ix 786 (by decide +kernel) rfl⟩
theorem fp_X7_128 : FP RX7 128 7 16 .int := ⟨RX7, TX7, 36, tyX7, cls_X7, by decide, in_ix 786 (by decide +kernel) rfl, rfl, rfl⟩
theorem fa_X7_141 : FA RX7 141 7 2 := ⟨RX7, TX7, 36, tyX7, cls_X7, by decide, in_ix 772 (by decide +kernel) rfl⟩
theorem fp_X7_141 : FP RX7 141 7 2 .int := ⟨RX7, TX7, 36, tyX7, cls_X7, by decide, in_ix 772 (by decide +kernel) rfl, rfl, rfl⟩
theorem fa_X7_150 : FA RX7 150 7 27 := ⟨RX7, TX7, 36, tyX7, cls_X7, by decide, in_ix 797 (by decide +kernel) rfl⟩
theorem fp_X7_150 : FP RX7 150 7 27 .int := ⟨RX7, TX7, 36, tyX7, cls_X7, by decide, in_ix 797 (by decide +kernel) rfl, rfl, rfl⟩
theorem fa_X7_153 : FA RX7 153 7 31 := ⟨RX7, TX7, 36, tyX7, cls_X7, by decide, in_ix 801 (by decide +kernel) rfl⟩
theorem fp_X7_153 : FP RX7 153 7 31 .int := ⟨RX7, TX7, 36, tyX7, cls_X7, by decide, in_ix 801 (by decide +kernel) rfl, rfl, rfl⟩
theorem fa_X7_156 : FA RX7 156 7 24 := ⟨RX7, TX7, 36, tyX7, cls_X7, by decide, in_ix 794 (by decide +kernel) rfl⟩
theorem fp_X7_156 : FP RX7 156 7 24 .int := ⟨RX7, TX7, 36, tyX7, cls_X7, by decide, in_ix 794 (by decide +kernel) rfl, rfl, rfl⟩
theorem fa_X7_260 : FA RX7 260 7 8 := ⟨RX7, TX7, 36, tyX7, cls_X7, by decide, in_ix 778 (by decide +kernel) rfl⟩
theorem fp_X7_260 : FP RX7 260 7 8 .int := ⟨RX7, TX7, 36, tyX7, cls_X7, by decide, in_ix 778 (by decide +kernel) rfl, rfl, rfl⟩
theorem k_J6_265 : Cond.constant RJ6 265 (1431655765) ∈ wG := in_ix 426 (by decide +kernel) rfl
theorem k_J6_266 : Cond.constant RJ6 266 (858993459) ∈ wG := in_ix 427 (by decide +kernel) rfl
theorem k_J6_267 : Cond.constant RJ6 267 (252645135) ∈ wG := in_ix 428 (by decide +kernel) rfl
theorem k_X5_114 : Cond.constant RX5 114 (999999) ∈ wG := in_ix 534 (by decide +kernel) rfl
theorem k_X6_69 : Cond.constant RX6 69 (-1000000002) ∈ wG := in_ix 329 (by decide +kernel) rfl
theorem k_X6_74 : Cond.constant RX6 74 (-1000000004) ∈ wG := in_ix 330 (by decide +kernel) rfl
theorem k_X6_147 : Cond.constant RX6 147 (-1000000001) ∈ wG := in_ix 470 (by decide +kernel) rfl
theorem k_X6_195 : Cond.constant RX6 195 (-1000000003) ∈ wG := in_ix 499 (by decide +kernel) rfl
theorem k_X6_249 : Cond.constantLong RX6 249 (1000000000) ∈ wG := in_ix 673 (by decide +kernel) rfl
theorem k_X6_251 : Cond.constantLong RX6 251 (100) ∈ wG := in_ix 674 (by decide +kernel) rfl
theorem k_X6_291 : Cond.constantLong RX6 291 (1103515245) ∈ wG := in_ix 595 (by decide +kernel) rfl
theorem k_X6_293 : Cond.constantLong RX6 293 (12345) ∈ wG := in_ix 596 (by decide +kernel) rfl
theorem k_X6_295 : Cond.constantLong RX6 295 (2147483647) ∈ wG := in_ix 597 (by decide +kernel) rfl
theorem k_X6_297 : Cond.constant RX6 297 (65536) ∈ wG := in_ix 598 (by decide +kernel) rfl
theorem k_X7_91 : Cond.constantLong RX7 91 (255) ∈ wG := in_ix 884 (by decide +kernel) rfl
theorem k_X7_93 : Cond.constant RX7 93 (-1000000002) ∈ wG := in_ix 888 (by decide +kernel) rfl
theorem k_X7_97 : Cond.constant RX7 97 (-1000000004) ∈ wG := in_ix 889 (by decide +kernel) rfl
theorem k_X7_105 : Cond.constantLong RX7 105 (48) ∈ wG := in_ix 914 (by decide +kernel) rfl
theorem k_X7_107 : Cond.constantLong RX7 107 (57) ∈ wG := in_ix 915 (by decide +kernel) rfl
theorem k_X7_167 : Cond.constant RX7 167 (999999) ∈ wG := in_ix 1053 (by decide +kernel) rfl
theorem k_X7_236 : Cond.constant RX7 236 (-1000000001) ∈ wG := in_ix 994 (by decide +kernel) rfl
theorem k_X7_237 : Cond.constantLong RX7 237 (3) ∈ wG := in_ix 1019 (by decide +kernel) rfl
theorem k_X7_239 : Cond.constantLong RX7 239 (60) ∈ wG := in_ix 1028 (by decide +kernel) rfl
theorem k_X7_241 : Cond.constant RX7 241 (-1000000003) ∈ wG := in_ix 1029 (by decide +kernel) rfl
theorem k_X7_258 : Cond.constantLong RX7 258 (9) ∈ wG := in_ix 1074 (by decide +kernel) rfl
theorem k_X7_263 : Cond.constantLong RX7 263 (1103515245) ∈ wG := in_ix 1103 (by decide +kernel) rfl
theorem k_X7_265 : Cond.constantLong RX7 265 (12345) ∈ wG := in_ix 1104 (by decide +kernel) rfl
theorem k_X7_267 : Cond.constantLong RX7 267 (2147483648) ∈ wG := in_ix 1105 (by decide +kernel) rfl
theorem k_X7_269 : Cond.constant RX7 269 (65536) ∈ wG := in_ix 1106 (by decide +kernel) rfl
theorem k_X7_282 : Cond.constantLong RX7 282 (100) ∈ wG := in_ix 1155 (by decide +kernel) rfl
theorem k_X7_290 : Cond.constantLong RX7 290 (1000000000) ∈ wG := in_ix 1172 (by decide +kernel) rfl
theorem ini_J6 : Cond.initialized RJ6 ∈ wG := in_ix 87 (by decide +kernel) rfl
theorem ini_J7 : Cond.initialized RJ7 ∈ wG := in_ix 85 (by decide +kernel) rfl
theorem ini_J9 : Cond.initialized RJ9 ∈ wG := in_ix 88 (by decide +kernel) rfl
theorem ini_X0 : Cond.initialized RX0 ∈ wG := in_ix 83 (by decide +kernel) rfl
theorem ini_X1 : Cond.initialized RX1 ∈ wG := in_ix 79 (by decide +kernel) rfl
theorem ini_X2 : Cond.initialized RX2 ∈ wG := in_ix 82 (by decide +kernel) rfl
theorem ini_X3 : Cond.initialized RX3 ∈ wG := in_ix 81 (by decide +kernel) rfl
theorem ini_X4 : Cond.initialized RX4 ∈ wG := in_ix 78 (by decide +kernel) rfl
theorem ini_X5 : Cond.initialized RX5 ∈ wG := in_ix 80 (by decide +kernel) rfl
theorem ini_X6 : Cond.initialized RX6 ∈ wG := in_ix 77 (by decide +kernel) rfl
theorem ini_X7 : Cond.initialized RX7 ∈ wG := in_ix 86 (by decide +kernel) rfl
abbrev mi_X0_add : MI := (RX0, cX0_add, 3, none, yX0_add)
theorem co_X0_add : Cond.code yX0_add cX0_add 3 none ∈ wG := in_ix 729 (by decide +kernel) rfl
theorem im_X0_add : Cond.instanceMethod yX0_add ∈ wG := in_ix 727 (by decide +kernel) rfl
theorem se_X0_add : Cond.selects RX0 yX0_add yX0_add ∈ wG := in_ix 728 (by decide +kernel) rfl
abbrev mi_X0_firstWrong : MI := (RX0, cX0_firstWrong, 3, (some .int), yX0_firstWrong)
theorem co_X0_firstWrong : Cond.code yX0_firstWrong cX0_firstWrong 3 (some .int) ∈ wG := in_ix 742 (by decide +kernel) rfl
theorem im_X0_firstWrong : Cond.instanceMethod yX0_firstWrong ∈ wG := in_ix 740 (by decide +kernel) rfl
theorem se_X0_firstWrong : Cond.selects RX0 yX0_firstWrong yX0_firstWrong ∈ wG := in_ix 741 (by decide +kernel) rfl
abbrev mi_X1_clear : MI := (RX1, cX1_clear, 1, none, yX1_clear)
theorem co_X1_clear : Cond.code yX1_clear cX1_clear 1 none ∈ wG := in_ix 345 (by decide +kernel) rfl
theorem im_X1_clear : Cond.instanceMethod yX1_clear ∈ wG := in_ix 343 (by decide +kernel) rfl
theorem se_X1_clear : Cond.selects RX1 yX1_clear yX1_clear ∈ wG := in_ix 344 (by decide +kernel) rfl
abbrev mi_X1_copyFrom : MI := (RX1, cX1_copyFrom, 2, none, yX1_copyFrom)
theorem co_X1_copyFrom : Cond.code yX1_copyFrom cX1_copyFrom 2 none ∈ wG := in_ix 388 (by decide +kernel) rfl
theorem im_X1_copyFrom : Cond.instanceMethod yX1_copyFrom ∈ wG := in_ix 386 (by decide +kernel) rfl
theorem se_X1_copyFrom : Cond.selects RX1 yX1_copyFrom yX1_copyFrom ∈ wG := in_ix 387 (by decide +kernel) rfl
abbrev mi_X1_addFarm : MI := (RX1, cX1_addFarm, 5, none, yX1_addFarm)
theorem co_X1_addFarm : Cond.code yX1_addFarm cX1_addFarm 5 none ∈ wG := in_ix 379 (by decide +kernel) rfl
theorem im_X1_addFarm : Cond.instanceMethod yX1_addFarm ∈ wG := in_ix 377 (by decide +kernel) rfl
theorem se_X1_addFarm : Cond.selects RX1 yX1_addFarm yX1_addFarm ∈ wG := in_ix 378 (by decide +kernel) rfl
abbrev mi_X1_toGoFrom : MI := (RX1, cX1_toGoFrom, 2, (some .int), yX1_toGoFrom)
theorem co_X1_toGoFrom : Cond.code yX1_toGoFrom cX1_toGoFrom 2 (some .int) ∈ wG := in_ix 460 (by decide +kernel) rfl
theorem im_X1_toGoFrom : Cond.instanceMethod yX1_toGoFrom ∈ wG := in_ix 458 (by decide +kernel) rfl
theorem se_X1_toGoFrom : Cond.selects RX1 yX1_toGoFrom yX1_toGoFrom ∈ wG := in_ix 459 (by decide +kernel) rfl
abbrev mi_X2_add : MI := (RX2, cX2_add, 3, none, yX2_add)
theorem co_X2_add : Cond.code yX2_add cX2_add 3 none ∈ wG := in_ix 682 (by decide +kernel) rfl
theorem im_X2_add : Cond.instanceMethod yX2_add ∈ wG := in_ix 680 (by decide +kernel) rfl
theorem se_X2_add : Cond.selects RX2 yX2_add yX2_add ∈ wG := in_ix 681 (by decide +kernel) rfl
abbrev mi_X2_howMany : MI := (RX2, cX2_howMany, 4, (some .int), yX2_howMany)
theorem co_X2_howMany : Cond.code yX2_howMany cX2_howMany 4 (some .int) ∈ wG := in_ix 691 (by decide +kernel) rfl
theorem im_X2_howMany : Cond.instanceMethod yX2_howMany ∈ wG := in_ix 689 (by decide +kernel) rfl
theorem se_X2_howMany : Cond.selects RX2 yX2_howMany yX2_howMany ∈ wG := in_ix 690 (by decide +kernel) rfl
abbrev mi_X2_first : MI := (RX2, cX2_first, 3, (some .int), yX2_first)
theorem co_X2_first : Cond.code yX2_first cX2_first 3 (some .int) ∈ wG := in_ix 704 (by decide +kernel) rfl
theorem im_X2_first : Cond.instanceMethod yX2_first ∈ wG := in_ix 702 (by decide +kernel) rfl
theorem se_X2_first : Cond.selects RX2 yX2_first yX2_first ∈ wG := in_ix 703 (by decide +kernel) rfl
abbrev mi_X2_bestWord : MI := (RX2, cX2_bestWord, 6, (some .int), yX2_bestWord)
theorem co_X2_bestWord : Cond.code yX2_bestWord cX2_bestWord 6 (some .int) ∈ wG := in_ix 712 (by decide +kernel) rfl
theorem im_X2_bestWord : Cond.instanceMethod yX2_bestWord ∈ wG := in_ix 710 (by decide +kernel) rfl
theorem se_X2_bestWord : Cond.selects RX2 yX2_bestWord yX2_bestWord ∈ wG := in_ix 711 (by decide +kernel) rfl
abbrev mi_X2_greatestPart : MI := (RX2, cX2_greatestPart, 6, (some .int), yX2_greatestPart)
theorem co_X2_greatestPart : Cond.code yX2_greatestPart cX2_greatestPart 6 (some .int) ∈ wG := in_ix 717 (by decide +kernel) rfl
theorem im_X2_greatestPart : Cond.instanceMethod yX2_greatestPart ∈ wG := in_ix 716 (by decide +kernel) rfl
theorem se_X2_greatestPart : Cond.selects RX2 yX2_greatestPart yX2_greatestPart ∈ wG := in_ix 32 (by decide +kernel) rfl
abbrev mi_X2_fits : MI := (RX2, cX2_fits, 6, (some .boolean), yX2_fits)
theorem co_X2_fits : Cond.code yX2_fits cX2_fits 6 (some .boolean) ∈ wG := in_ix 695 (by decide +kernel) rfl
theorem im_X2_fits : Cond.instanceMethod yX2_fits ∈ wG := in_ix 694 (by decide +kernel) rfl
theorem se_X2_fits : Cond.selects RX2 yX2_fits yX2_fits ∈ wG := in_ix 31 (by decide +kernel) rfl
abbrev mi_X2_isListed : MI := (RX2, cX2_isListed, 3, (some .boolean), yX2_isListed)
theorem co_X2_isListed : Cond.code yX2_isListed cX2_isListed 3 (some .boolean) ∈ wG := in_ix 698 (by decide +kernel) rfl
theorem st_X2_isListed : Cond.static yX2_isListed ∈ wG := in_ix 697 (by decide +kernel) rfl
abbrev mi_X3_remember : MI := (RX3, cX3_remember, 3, none, yX3_remember)
theorem co_X3_remember : Cond.code yX3_remember cX3_remember 3 none ∈ wG := in_ix 503 (by decide +kernel) rfl
theorem im_X3_remember : Cond.instanceMethod yX3_remember ∈ wG := in_ix 501 (by decide +kernel) rfl
theorem se_X3_remember : Cond.selects RX3 yX3_remember yX3_remember ∈ wG := in_ix 502 (by decide +kernel) rfl
abbrev mi_X3_bringBack : MI := (RX3, cX3_bringBack, 4, none, yX3_bringBack)
theorem co_X3_bringBack : Cond.code yX3_bringBack cX3_bringBack 4 none ∈ wG := in_ix 611 (by decide +kernel) rfl
theorem im_X3_bringBack : Cond.instanceMethod yX3_bringBack ∈ wG := in_ix 609 (by decide +kernel) rfl
theorem se_X3_bringBack : Cond.selects RX3 yX3_bringBack yX3_bringBack ∈ wG := in_ix 610 (by decide +kernel) rfl
abbrev mi_X3_world : MI := (RX3, cX3_world, 2, (some (.object "BeckTalk$World")), yX3_world)
theorem co_X3_world : Cond.code yX3_world cX3_world 2 (some (.object "BeckTalk$World")) ∈ wG := in_ix 507 (by decide +kernel) rfl
theorem im_X3_world : Cond.instanceMethod yX3_world ∈ wG := in_ix 506 (by decide +kernel) rfl
theorem se_X3_world : Cond.selects RX3 yX3_world yX3_world ∈ wG := in_ix 19 (by decide +kernel) rfl
abbrev mi_X4_readInto : MI := (RX4, cX4_readInto, 3, none, yX4_readInto)
theorem co_X4_readInto : Cond.code yX4_readInto cX4_readInto 3 none ∈ wG := in_ix 341 (by decide +kernel) rfl
theorem im_X4_readInto : Cond.instanceMethod yX4_readInto ∈ wG := in_ix 339 (by decide +kernel) rfl
theorem se_X4_readInto : Cond.selects RX4 yX4_readInto yX4_readInto ∈ wG := in_ix 340 (by decide +kernel) rfl
abbrev mi_X4_readClause : MI := (RX4, cX4_readClause, 4, none, yX4_readClause)
theorem co_X4_readClause : Cond.code yX4_readClause cX4_readClause 4 none ∈ wG := in_ix 356 (by decide +kernel) rfl
theorem im_X4_readClause : Cond.instanceMethod yX4_readClause ∈ wG := in_ix 355 (by decide +kernel) rfl
theorem se_X4_readClause : Cond.selects RX4 yX4_readClause yX4_readClause ∈ wG := in_ix 1 (by decide +kernel) rfl
abbrev mi_X4_readBecks : MI := (RX4, cX4_readBecks, 4, none, yX4_readBecks)
theorem co_X4_readBecks : Cond.code yX4_readBecks cX4_readBecks 4 none ∈ wG := in_ix 360 (by decide +kernel) rfl
theorem im_X4_readBecks : Cond.instanceMethod yX4_readBecks ∈ wG := in_ix 359 (by decide +kernel) rfl
theorem se_X4_readBecks : Cond.selects RX4 yX4_readBecks yX4_readBecks ∈ wG := in_ix 2 (by decide +kernel) rfl
abbrev mi_X4_readFarm : MI := (RX4, cX4_readFarm, 6, none, yX4_readFarm)
theorem co_X4_readFarm : Cond.code yX4_readFarm cX4_readFarm 6 none ∈ wG := in_ix 384 (by decide +kernel) rfl
theorem im_X4_readFarm : Cond.instanceMethod yX4_readFarm ∈ wG := in_ix 383 (by decide +kernel) rfl
theorem se_X4_readFarm : Cond.selects RX4 yX4_readFarm yX4_readFarm ∈ wG := in_ix 6 (by decide +kernel) rfl
abbrev mi_X4_readNumber : MI := (RX4, cX4_readNumber, 6, (some .int), yX4_readNumber)
theorem co_X4_readNumber : Cond.code yX4_readNumber cX4_readNumber 6 (some .int) ∈ wG := in_ix 364 (by decide +kernel) rfl
theorem im_X4_readNumber : Cond.instanceMethod yX4_readNumber ∈ wG := in_ix 363 (by decide +kernel) rfl
theorem se_X4_readNumber : Cond.selects RX4 yX4_readNumber yX4_readNumber ∈ wG := in_ix 3 (by decide +kernel) rfl
abbrev mi_X4_readEnd : MI := (RX4, cX4_readEnd, 1, none, yX4_readEnd)
theorem co_X4_readEnd : Cond.code yX4_readEnd cX4_readEnd 1 none ∈ wG := in_ix 375 (by decide +kernel) rfl
theorem im_X4_readEnd : Cond.instanceMethod yX4_readEnd ∈ wG := in_ix 374 (by decide +kernel) rfl
theorem se_X4_readEnd : Cond.selects RX4 yX4_readEnd yX4_readEnd ∈ wG := in_ix 5 (by decide +kernel) rfl
abbrev mi_X4_skipBlanks : MI := (RX4, cX4_skipBlanks, 2, none, yX4_skipBlanks)
theorem co_X4_skipBlanks : Cond.code yX4_skipBlanks cX4_skipBlanks 2 none ∈ wG := in_ix 349 (by decide +kernel) rfl
theorem im_X4_skipBlanks : Cond.instanceMethod yX4_skipBlanks ∈ wG := in_ix 348 (by decide +kernel) rfl
theorem se_X4_skipBlanks : Cond.selects RX4 yX4_skipBlanks yX4_skipBlanks ∈ wG := in_ix 0 (by decide +kernel) rfl
abbrev mi_X4_isFigure : MI := (RX4, cX4_isFigure, 1, (some .boolean), yX4_isFigure)
theorem co_X4_isFigure : Cond.code yX4_isFigure cX4_isFigure 1 (some .boolean) ∈ wG := in_ix 367 (by decide +kernel) rfl
theorem st_X4_isFigure : Cond.static yX4_isFigure ∈ wG := in_ix 366 (by decide +kernel) rfl
abbrev mi_X4_mark : MI := (RX4, cX4_mark, 3, none, yX4_mark)
theorem co_X4_mark : Cond.code yX4_mark cX4_mark 3 none ∈ wG := in_ix 371 (by decide +kernel) rfl
theorem im_X4_mark : Cond.instanceMethod yX4_mark ∈ wG := in_ix 370 (by decide +kernel) rfl
theorem se_X4_mark : Cond.selects RX4 yX4_mark yX4_mark ∈ wG := in_ix 4 (by decide +kernel) rfl
abbrev mi_X5_begin : MI := (RX5, cX5_begin, 2, none, yX5_begin)
theorem co_X5_begin : Cond.code yX5_begin cX5_begin 2 none ∈ wG := in_ix 281 (by decide +kernel) rfl
theorem im_X5_begin : Cond.instanceMethod yX5_begin ∈ wG := in_ix 279 (by decide +kernel) rfl
theorem se_X5_begin : Cond.selects RX5 yX5_begin yX5_begin ∈ wG := in_ix 280 (by decide +kernel) rfl
abbrev mi_X5_copyFrom : MI := (RX5, cX5_copyFrom, 2, none, yX5_copyFrom)
theorem co_X5_copyFrom : Cond.code yX5_copyFrom cX5_copyFrom 2 none ∈ wG := in_ix 511 (by decide +kernel) rfl
theorem im_X5_copyFrom : Cond.instanceMethod yX5_copyFrom ∈ wG := in_ix 509 (by decide +kernel) rfl
theorem se_X5_copyFrom : Cond.selects RX5 yX5_copyFrom yX5_copyFrom ∈ wG := in_ix 510 (by decide +kernel) rfl
abbrev mi_X5_ofTalk : MI := (RX5, cX5_ofTalk, 3, (some .int), yX5_ofTalk)
theorem co_X5_ofTalk : Cond.code yX5_ofTalk cX5_ofTalk 3 (some .int) ∈ wG := in_ix 482 (by decide +kernel) rfl
theorem im_X5_ofTalk : Cond.instanceMethod yX5_ofTalk ∈ wG := in_ix 480 (by decide +kernel) rfl
theorem se_X5_ofTalk : Cond.selects RX5 yX5_ofTalk yX5_ofTalk ∈ wG := in_ix 481 (by decide +kernel) rfl
abbrev mi_X5_ofLog : MI := (RX5, cX5_ofLog, 4, (some .int), yX5_ofLog)
theorem co_X5_ofLog : Cond.code yX5_ofLog cX5_ofLog 4 (some .int) ∈ wG := in_ix 490 (by decide +kernel) rfl
theorem im_X5_ofLog : Cond.instanceMethod yX5_ofLog ∈ wG := in_ix 488 (by decide +kernel) rfl
theorem se_X5_ofLog : Cond.selects RX5 yX5_ofLog yX5_ofLog ∈ wG := in_ix 489 (by decide +kernel) rfl
abbrev mi_X5_enterTalk : MI := (RX5, cX5_enterTalk, 4, none, yX5_enterTalk)
theorem co_X5_enterTalk : Cond.code yX5_enterTalk cX5_enterTalk 4 none ∈ wG := in_ix 554 (by decide +kernel) rfl
theorem im_X5_enterTalk : Cond.instanceMethod yX5_enterTalk ∈ wG := in_ix 552 (by decide +kernel) rfl
theorem se_X5_enterTalk : Cond.selects RX5 yX5_enterTalk yX5_enterTalk ∈ wG := in_ix 553 (by decide +kernel) rfl
abbrev mi_X5_endTalk : MI := (RX5, cX5_endTalk, 3, none, yX5_endTalk)
theorem co_X5_endTalk : Cond.code yX5_endTalk cX5_endTalk 3 none ∈ wG := in_ix 578 (by decide +kernel) rfl
theorem im_X5_endTalk : Cond.instanceMethod yX5_endTalk ∈ wG := in_ix 576 (by decide +kernel) rfl
theorem se_X5_endTalk : Cond.selects RX5 yX5_endTalk yX5_endTalk ∈ wG := in_ix 577 (by decide +kernel) rfl
abbrev mi_X5_leaveOnly : MI := (RX5, cX5_leaveOnly, 2, none, yX5_leaveOnly)
theorem co_X5_leaveOnly : Cond.code yX5_leaveOnly cX5_leaveOnly 2 none ∈ wG := in_ix 668 (by decide +kernel) rfl
theorem im_X5_leaveOnly : Cond.instanceMethod yX5_leaveOnly ∈ wG := in_ix 666 (by decide +kernel) rfl
theorem se_X5_leaveOnly : Cond.selects RX5 yX5_leaveOnly yX5_leaveOnly ∈ wG := in_ix 667 (by decide +kernel) rfl
abbrev mi_X5_passHours : MI := (RX5, cX5_passHours, 4, none, yX5_passHours)
theorem co_X5_passHours : Cond.code yX5_passHours cX5_passHours 4 none ∈ wG := in_ix 518 (by decide +kernel) rfl
theorem im_X5_passHours : Cond.instanceMethod yX5_passHours ∈ wG := in_ix 516 (by decide +kernel) rfl
theorem se_X5_passHours : Cond.selects RX5 yX5_passHours yX5_passHours ∈ wG := in_ix 517 (by decide +kernel) rfl
abbrev mi_X5_pass : MI := (RX5, cX5_pass, 2, none, yX5_pass)
theorem co_X5_pass : Cond.code yX5_pass cX5_pass 2 none ∈ wG := in_ix 522 (by decide +kernel) rfl
theorem im_X5_pass : Cond.instanceMethod yX5_pass ∈ wG := in_ix 520 (by decide +kernel) rfl
theorem se_X5_pass : Cond.selects RX5 yX5_pass yX5_pass ∈ wG := in_ix 521 (by decide +kernel) rfl
abbrev mi_X5_carryAll : MI := (RX5, cX5_carryAll, 11, none, yX5_carryAll)
theorem co_X5_carryAll : Cond.code yX5_carryAll cX5_carryAll 11 none ∈ wG := in_ix 526 (by decide +kernel) rfl
theorem im_X5_carryAll : Cond.instanceMethod yX5_carryAll ∈ wG := in_ix 525 (by decide +kernel) rfl
theorem se_X5_carryAll : Cond.selects RX5 yX5_carryAll yX5_carryAll ∈ wG := in_ix 20 (by decide +kernel) rfl
abbrev mi_X5_goesOnFrom : MI := (RX5, cX5_goesOnFrom, 2, (some .int), yX5_goesOnFrom)
theorem co_X5_goesOnFrom : Cond.code yX5_goesOnFrom cX5_goesOnFrom 2 (some .int) ∈ wG := in_ix 418 (by decide +kernel) rfl
theorem im_X5_goesOnFrom : Cond.instanceMethod yX5_goesOnFrom ∈ wG := in_ix 416 (by decide +kernel) rfl
theorem se_X5_goesOnFrom : Cond.selects RX5 yX5_goesOnFrom yX5_goesOnFrom ∈ wG := in_ix 417 (by decide +kernel) rfl
abbrev mi_X5_garbled : MI := (RX5, cX5_garbled, 7, (some .int), yX5_garbled)
theorem co_X5_garbled : Cond.code yX5_garbled cX5_garbled 7 (some .int) ∈ wG := in_ix 444 (by decide +kernel) rfl
theorem im_X5_garbled : Cond.instanceMethod yX5_garbled ∈ wG := in_ix 442 (by decide +kernel) rfl
theorem se_X5_garbled : Cond.selects RX5 yX5_garbled yX5_garbled ∈ wG := in_ix 443 (by decide +kernel) rfl
abbrev mi_X5_hears : MI := (RX5, cX5_hears, 5, none, yX5_hears)
theorem co_X5_hears : Cond.code yX5_hears cX5_hears 5 none ∈ wG := in_ix 532 (by decide +kernel) rfl
theorem im_X5_hears : Cond.instanceMethod yX5_hears ∈ wG := in_ix 531 (by decide +kernel) rfl
theorem se_X5_hears : Cond.selects RX5 yX5_hears yX5_hears ∈ wG := in_ix 21 (by decide +kernel) rfl
abbrev mi_X5_placeTalk : MI := (RX5, cX5_placeTalk, 7, none, yX5_placeTalk)
theorem co_X5_placeTalk : Cond.code yX5_placeTalk cX5_placeTalk 7 none ∈ wG := in_ix 541 (by decide +kernel) rfl
theorem im_X5_placeTalk : Cond.instanceMethod yX5_placeTalk ∈ wG := in_ix 540 (by decide +kernel) rfl
theorem se_X5_placeTalk : Cond.selects RX5 yX5_placeTalk yX5_placeTalk ∈ wG := in_ix 22 (by decide +kernel) rfl
abbrev mi_X5_moveTalk : MI := (RX5, cX5_moveTalk, 3, none, yX5_moveTalk)
theorem co_X5_moveTalk : Cond.code yX5_moveTalk cX5_moveTalk 3 none ∈ wG := in_ix 582 (by decide +kernel) rfl
theorem im_X5_moveTalk : Cond.instanceMethod yX5_moveTalk ∈ wG := in_ix 581 (by decide +kernel) rfl
theorem se_X5_moveTalk : Cond.selects RX5 yX5_moveTalk yX5_moveTalk ∈ wG := in_ix 24 (by decide +kernel) rfl
abbrev mi_X6_feed : MI := (RX6, cX6_feed, 2, (some .int), yX6_feed)
theorem co_X6_feed : Cond.code yX6_feed cX6_feed 2 (some .int) ∈ wG := in_ix 328 (by decide +kernel) rfl
theorem im_X6_feed : Cond.instanceMethod yX6_feed ∈ wG := in_ix 326 (by decide +kernel) rfl
theorem se_X6_feed : Cond.selects RX6 yX6_feed yX6_feed ∈ wG := in_ix 327 (by decide +kernel) rfl
abbrev mi_X6_dale : MI := (RX6, cX6_dale, 1, (some .int), yX6_dale)
theorem co_X6_dale : Cond.code yX6_dale cX6_dale 1 (some .int) ∈ wG := in_ix 337 (by decide +kernel) rfl
theorem im_X6_dale : Cond.instanceMethod yX6_dale ∈ wG := in_ix 335 (by decide +kernel) rfl
theorem se_X6_dale : Cond.selects RX6 yX6_dale yX6_dale ∈ wG := in_ix 336 (by decide +kernel) rfl
abbrev mi_X6_fault : MI := (RX6, cX6_fault, 1, (some .int), yX6_fault)
theorem co_X6_fault : Cond.code yX6_fault cX6_fault 1 (some .int) ∈ wG := in_ix 393 (by decide +kernel) rfl
theorem im_X6_fault : Cond.instanceMethod yX6_fault ∈ wG := in_ix 391 (by decide +kernel) rfl
theorem se_X6_fault : Cond.selects RX6 yX6_fault yX6_fault ∈ wG := in_ix 392 (by decide +kernel) rfl
abbrev mi_X6_told : MI := (RX6, cX6_told, 2, (some .int), yX6_told)
theorem co_X6_told : Cond.code yX6_told cX6_told 2 (some .int) ∈ wG := in_ix 397 (by decide +kernel) rfl
theorem im_X6_told : Cond.instanceMethod yX6_told ∈ wG := in_ix 395 (by decide +kernel) rfl
theorem se_X6_told : Cond.selects RX6 yX6_told yX6_told ∈ wG := in_ix 396 (by decide +kernel) rfl
abbrev mi_X6_farm : MI := (RX6, cX6_farm, 3, (some .int), yX6_farm)
theorem co_X6_farm : Cond.code yX6_farm cX6_farm 3 (some .int) ∈ wG := in_ix 465 (by decide +kernel) rfl
theorem im_X6_farm : Cond.instanceMethod yX6_farm ∈ wG := in_ix 463 (by decide +kernel) rfl
theorem se_X6_farm : Cond.selects RX6 yX6_farm yX6_farm ∈ wG := in_ix 464 (by decide +kernel) rfl
abbrev mi_X6_talk : MI := (RX6, cX6_talk, 3, (some .int), yX6_talk)
theorem co_X6_talk : Cond.code yX6_talk cX6_talk 3 (some .int) ∈ wG := in_ix 474 (by decide +kernel) rfl
theorem im_X6_talk : Cond.instanceMethod yX6_talk ∈ wG := in_ix 472 (by decide +kernel) rfl
theorem se_X6_talk : Cond.selects RX6 yX6_talk yX6_talk ∈ wG := in_ix 473 (by decide +kernel) rfl
abbrev mi_X6_logged : MI := (RX6, cX6_logged, 3, (some .int), yX6_logged)
theorem co_X6_logged : Cond.code yX6_logged cX6_logged 3 (some .int) ∈ wG := in_ix 486 (by decide +kernel) rfl
theorem im_X6_logged : Cond.instanceMethod yX6_logged ∈ wG := in_ix 484 (by decide +kernel) rfl
theorem se_X6_logged : Cond.selects RX6 yX6_logged yX6_logged ∈ wG := in_ix 485 (by decide +kernel) rfl
abbrev mi_X6_hour : MI := (RX6, cX6_hour, 3, (some .int), yX6_hour)
theorem co_X6_hour : Cond.code yX6_hour cX6_hour 3 (some .int) ∈ wG := in_ix 494 (by decide +kernel) rfl
theorem im_X6_hour : Cond.instanceMethod yX6_hour ∈ wG := in_ix 492 (by decide +kernel) rfl
theorem se_X6_hour : Cond.selects RX6 yX6_hour yX6_hour ∈ wG := in_ix 493 (by decide +kernel) rfl
abbrev mi_X6_say : MI := (RX6, cX6_say, 3, (some .int), yX6_say)
theorem co_X6_say : Cond.code yX6_say cX6_say 3 (some .int) ∈ wG := in_ix 546 (by decide +kernel) rfl
theorem im_X6_say : Cond.instanceMethod yX6_say ∈ wG := in_ix 544 (by decide +kernel) rfl
theorem se_X6_say : Cond.selects RX6 yX6_say yX6_say ∈ wG := in_ix 545 (by decide +kernel) rfl
abbrev mi_X6_rain : MI := (RX6, cX6_rain, 3, (some .int), yX6_rain)
theorem co_X6_rain : Cond.code yX6_rain cX6_rain 3 (some .int) ∈ wG := in_ix 558 (by decide +kernel) rfl
theorem im_X6_rain : Cond.instanceMethod yX6_rain ∈ wG := in_ix 556 (by decide +kernel) rfl
theorem se_X6_rain : Cond.selects RX6 yX6_rain yX6_rain ∈ wG := in_ix 557 (by decide +kernel) rfl
abbrev mi_X6_frost : MI := (RX6, cX6_frost, 3, (some .int), yX6_frost)
theorem co_X6_frost : Cond.code yX6_frost cX6_frost 3 (some .int) ∈ wG := in_ix 562 (by decide +kernel) rfl
theorem im_X6_frost : Cond.instanceMethod yX6_frost ∈ wG := in_ix 560 (by decide +kernel) rfl
theorem se_X6_frost : Cond.selects RX6 yX6_frost yX6_frost ∈ wG := in_ix 561 (by decide +kernel) rfl
abbrev mi_X6_dam : MI := (RX6, cX6_dam, 4, (some .int), yX6_dam)
theorem co_X6_dam : Cond.code yX6_dam cX6_dam 4 (some .int) ∈ wG := in_ix 566 (by decide +kernel) rfl
theorem im_X6_dam : Cond.instanceMethod yX6_dam ∈ wG := in_ix 564 (by decide +kernel) rfl
theorem se_X6_dam : Cond.selects RX6 yX6_dam yX6_dam ∈ wG := in_ix 565 (by decide +kernel) rfl
abbrev mi_X6_smooth : MI := (RX6, cX6_smooth, 3, (some .int), yX6_smooth)
theorem co_X6_smooth : Cond.code yX6_smooth cX6_smooth 3 (some .int) ∈ wG := in_ix 570 (by decide +kernel) rfl
theorem im_X6_smooth : Cond.instanceMethod yX6_smooth ∈ wG := in_ix 568 (by decide +kernel) rfl
theorem se_X6_smooth : Cond.selects RX6 yX6_smooth yX6_smooth ∈ wG := in_ix 569 (by decide +kernel) rfl
abbrev mi_X6_hush : MI := (RX6, cX6_hush, 2, (some .int), yX6_hush)
theorem co_X6_hush : Cond.code yX6_hush cX6_hush 2 (some .int) ∈ wG := in_ix 574 (by decide +kernel) rfl
theorem im_X6_hush : Cond.instanceMethod yX6_hush ∈ wG := in_ix 572 (by decide +kernel) rfl
theorem se_X6_hush : Cond.selects RX6 yX6_hush yX6_hush ∈ wG := in_ix 573 (by decide +kernel) rfl
abbrev mi_X6_drift : MI := (RX6, cX6_drift, 4, (some .int), yX6_drift)
theorem co_X6_drift : Cond.code yX6_drift cX6_drift 4 (some .int) ∈ wG := in_ix 586 (by decide +kernel) rfl
theorem im_X6_drift : Cond.instanceMethod yX6_drift ∈ wG := in_ix 584 (by decide +kernel) rfl
theorem se_X6_drift : Cond.selects RX6 yX6_drift yX6_drift ∈ wG := in_ix 585 (by decide +kernel) rfl
abbrev mi_X6_undo : MI := (RX6, cX6_undo, 1, (some .int), yX6_undo)
theorem co_X6_undo : Cond.code yX6_undo cX6_undo 1 (some .int) ∈ wG := in_ix 607 (by decide +kernel) rfl
theorem im_X6_undo : Cond.instanceMethod yX6_undo ∈ wG := in_ix 605 (by decide +kernel) rfl
theorem se_X6_undo : Cond.selects RX6 yX6_undo yX6_undo ∈ wG := in_ix 606 (by decide +kernel) rfl
abbrev mi_X6_down : MI := (RX6, cX6_down, 2, (some .int), yX6_down)
theorem co_X6_down : Cond.code yX6_down cX6_down 2 (some .int) ∈ wG := in_ix 615 (by decide +kernel) rfl
theorem im_X6_down : Cond.instanceMethod yX6_down ∈ wG := in_ix 613 (by decide +kernel) rfl
theorem se_X6_down : Cond.selects RX6 yX6_down yX6_down ∈ wG := in_ix 614 (by decide +kernel) rfl
abbrev mi_X6_up : MI := (RX6, cX6_up, 2, (some .int), yX6_up)
theorem co_X6_up : Cond.code yX6_up cX6_up 2 (some .int) ∈ wG := in_ix 619 (by decide +kernel) rfl
theorem im_X6_up : Cond.instanceMethod yX6_up ∈ wG := in_ix 617 (by decide +kernel) rfl
theorem se_X6_up : Cond.selects RX6 yX6_up yX6_up ∈ wG := in_ix 618 (by decide +kernel) rfl
abbrev mi_X6_becomes : MI := (RX6, cX6_becomes, 4, (some .int), yX6_becomes)
theorem co_X6_becomes : Cond.code yX6_becomes cX6_becomes 4 (some .int) ∈ wG := in_ix 623 (by decide +kernel) rfl
theorem im_X6_becomes : Cond.instanceMethod yX6_becomes ∈ wG := in_ix 621 (by decide +kernel) rfl
theorem se_X6_becomes : Cond.selects RX6 yX6_becomes yX6_becomes ∈ wG := in_ix 622 (by decide +kernel) rfl
abbrev mi_X6_takes : MI := (RX6, cX6_takes, 3, (some .int), yX6_takes)
theorem co_X6_takes : Cond.code yX6_takes cX6_takes 3 (some .int) ∈ wG := in_ix 627 (by decide +kernel) rfl
theorem im_X6_takes : Cond.instanceMethod yX6_takes ∈ wG := in_ix 625 (by decide +kernel) rfl
theorem se_X6_takes : Cond.selects RX6 yX6_takes yX6_takes ∈ wG := in_ix 626 (by decide +kernel) rfl
abbrev mi_X6_toSay : MI := (RX6, cX6_toSay, 4, (some .int), yX6_toSay)
theorem co_X6_toSay : Cond.code yX6_toSay cX6_toSay 4 (some .int) ∈ wG := in_ix 631 (by decide +kernel) rfl
theorem im_X6_toSay : Cond.instanceMethod yX6_toSay ∈ wG := in_ix 629 (by decide +kernel) rfl
theorem se_X6_toSay : Cond.selects RX6 yX6_toSay yX6_toSay ∈ wG := in_ix 630 (by decide +kernel) rfl
abbrev mi_X6_origin : MI := (RX6, cX6_origin, 6, (some .int), yX6_origin)
theorem co_X6_origin : Cond.code yX6_origin cX6_origin 6 (some .int) ∈ wG := in_ix 639 (by decide +kernel) rfl
theorem im_X6_origin : Cond.instanceMethod yX6_origin ∈ wG := in_ix 637 (by decide +kernel) rfl
theorem se_X6_origin : Cond.selects RX6 yX6_origin yX6_origin ∈ wG := in_ix 638 (by decide +kernel) rfl
abbrev mi_X6_privately : MI := (RX6, cX6_privately, 4, (some .int), yX6_privately)
theorem co_X6_privately : Cond.code yX6_privately cX6_privately 4 (some .int) ∈ wG := in_ix 643 (by decide +kernel) rfl
theorem im_X6_privately : Cond.instanceMethod yX6_privately ∈ wG := in_ix 641 (by decide +kernel) rfl
theorem se_X6_privately : Cond.selects RX6 yX6_privately yX6_privately ∈ wG := in_ix 642 (by decide +kernel) rfl
abbrev mi_X6_dams : MI := (RX6, cX6_dams, 3, (some .int), yX6_dams)
theorem co_X6_dams : Cond.code yX6_dams cX6_dams 3 (some .int) ∈ wG := in_ix 651 (by decide +kernel) rfl
theorem im_X6_dams : Cond.instanceMethod yX6_dams ∈ wG := in_ix 649 (by decide +kernel) rfl
theorem se_X6_dams : Cond.selects RX6 yX6_dams yX6_dams ∈ wG := in_ix 650 (by decide +kernel) rfl
abbrev mi_X6_willHear : MI := (RX6, cX6_willHear, 4, (some .int), yX6_willHear)
theorem co_X6_willHear : Cond.code yX6_willHear cX6_willHear 4 (some .int) ∈ wG := in_ix 659 (by decide +kernel) rfl
theorem im_X6_willHear : Cond.instanceMethod yX6_willHear ∈ wG := in_ix 657 (by decide +kernel) rfl
theorem se_X6_willHear : Cond.selects RX6 yX6_willHear yX6_willHear ∈ wG := in_ix 658 (by decide +kernel) rfl
abbrev mi_X6_where : MI := (RX6, cX6_where, 4, (some .int), yX6_where)
theorem co_X6_where : Cond.code yX6_where cX6_where 4 (some .int) ∈ wG := in_ix 664 (by decide +kernel) rfl
theorem im_X6_where : Cond.instanceMethod yX6_where ∈ wG := in_ix 662 (by decide +kernel) rfl
theorem se_X6_where : Cond.selects RX6 yX6_where yX6_where ∈ wG := in_ix 663 (by decide +kernel) rfl
abbrev mi_X6_dry : MI := (RX6, cX6_dry, 6, (some .int), yX6_dry)
theorem co_X6_dry : Cond.code yX6_dry cX6_dry 6 (some .int) ∈ wG := in_ix 672 (by decide +kernel) rfl
theorem im_X6_dry : Cond.instanceMethod yX6_dry ∈ wG := in_ix 670 (by decide +kernel) rfl
theorem se_X6_dry : Cond.selects RX6 yX6_dry yX6_dry ∈ wG := in_ix 671 (by decide +kernel) rfl
abbrev mi_X6_see : MI := (RX6, cX6_see, 3, (some .int), yX6_see)
theorem co_X6_see : Cond.code yX6_see cX6_see 3 (some .int) ∈ wG := in_ix 678 (by decide +kernel) rfl
theorem im_X6_see : Cond.instanceMethod yX6_see ∈ wG := in_ix 676 (by decide +kernel) rfl
theorem se_X6_see : Cond.selects RX6 yX6_see yX6_see ∈ wG := in_ix 677 (by decide +kernel) rfl
abbrev mi_X6_falls : MI := (RX6, cX6_falls, 2, (some .int), yX6_falls)
theorem co_X6_falls : Cond.code yX6_falls cX6_falls 2 (some .int) ∈ wG := in_ix 687 (by decide +kernel) rfl
theorem im_X6_falls : Cond.instanceMethod yX6_falls ∈ wG := in_ix 685 (by decide +kernel) rfl
theorem se_X6_falls : Cond.selects RX6 yX6_falls yX6_falls ∈ wG := in_ix 686 (by decide +kernel) rfl
abbrev mi_X6_tryNext : MI := (RX6, cX6_tryNext, 1, (some .int), yX6_tryNext)
theorem co_X6_tryNext : Cond.code yX6_tryNext cX6_tryNext 1 (some .int) ∈ wG := in_ix 708 (by decide +kernel) rfl
theorem im_X6_tryNext : Cond.instanceMethod yX6_tryNext ∈ wG := in_ix 706 (by decide +kernel) rfl
theorem se_X6_tryNext : Cond.selects RX6 yX6_tryNext yX6_tryNext ∈ wG := in_ix 707 (by decide +kernel) rfl
abbrev mi_X6_write : MI := (RX6, cX6_write, 3, (some .int), yX6_write)
theorem co_X6_write : Cond.code yX6_write cX6_write 3 (some .int) ∈ wG := in_ix 725 (by decide +kernel) rfl
theorem im_X6_write : Cond.instanceMethod yX6_write ∈ wG := in_ix 723 (by decide +kernel) rfl
theorem se_X6_write : Cond.selects RX6 yX6_write yX6_write ∈ wG := in_ix 724 (by decide +kernel) rfl
abbrev mi_X6_tear : MI := (RX6, cX6_tear, 2, (some .int), yX6_tear)
theorem co_X6_tear : Cond.code yX6_tear cX6_tear 2 (some .int) ∈ wG := in_ix 734 (by decide +kernel) rfl
theorem im_X6_tear : Cond.instanceMethod yX6_tear ∈ wG := in_ix 732 (by decide +kernel) rfl
theorem se_X6_tear : Cond.selects RX6 yX6_tear yX6_tear ∈ wG := in_ix 733 (by decide +kernel) rfl
abbrev mi_X6_judge : MI := (RX6, cX6_judge, 1, (some .int), yX6_judge)
theorem co_X6_judge : Cond.code yX6_judge cX6_judge 1 (some .int) ∈ wG := in_ix 738 (by decide +kernel) rfl
theorem im_X6_judge : Cond.instanceMethod yX6_judge ∈ wG := in_ix 736 (by decide +kernel) rfl
theorem se_X6_judge : Cond.selects RX6 yX6_judge yX6_judge ∈ wG := in_ix 737 (by decide +kernel) rfl
abbrev mi_X6_seed : MI := (RX6, cX6_seed, 3, (some .int), yX6_seed)
theorem co_X6_seed : Cond.code yX6_seed cX6_seed 3 (some .int) ∈ wG := in_ix 747 (by decide +kernel) rfl
theorem im_X6_seed : Cond.instanceMethod yX6_seed ∈ wG := in_ix 745 (by decide +kernel) rfl
theorem se_X6_seed : Cond.selects RX6 yX6_seed yX6_seed ∈ wG := in_ix 746 (by decide +kernel) rfl
abbrev mi_X6_keep : MI := (RX6, cX6_keep, 3, (some .int), yX6_keep)
theorem co_X6_keep : Cond.code yX6_keep cX6_keep 3 (some .int) ∈ wG := in_ix 751 (by decide +kernel) rfl
theorem im_X6_keep : Cond.instanceMethod yX6_keep ∈ wG := in_ix 749 (by decide +kernel) rfl
theorem se_X6_keep : Cond.selects RX6 yX6_keep yX6_keep ∈ wG := in_ix 750 (by decide +kernel) rfl
abbrev mi_X6_goBack : MI := (RX6, cX6_goBack, 3, (some .int), yX6_goBack)
theorem co_X6_goBack : Cond.code yX6_goBack cX6_goBack 3 (some .int) ∈ wG := in_ix 759 (by decide +kernel) rfl
theorem im_X6_goBack : Cond.instanceMethod yX6_goBack ∈ wG := in_ix 757 (by decide +kernel) rfl
theorem se_X6_goBack : Cond.selects RX6 yX6_goBack yX6_goBack ∈ wG := in_ix 758 (by decide +kernel) rfl
abbrev mi_X6_isFarm : MI := (RX6, cX6_isFarm, 2, (some .boolean), yX6_isFarm)
theorem co_X6_isFarm : Cond.code yX6_isFarm cX6_isFarm 2 (some .boolean) ∈ wG := in_ix 469 (by decide +kernel) rfl
theorem im_X6_isFarm : Cond.instanceMethod yX6_isFarm ∈ wG := in_ix 468 (by decide +kernel) rfl
theorem se_X6_isFarm : Cond.selects RX6 yX6_isFarm yX6_isFarm ∈ wG := in_ix 16 (by decide +kernel) rfl
abbrev mi_X6_isWord : MI := (RX6, cX6_isWord, 2, (some .boolean), yX6_isWord)
theorem co_X6_isWord : Cond.code yX6_isWord cX6_isWord 2 (some .boolean) ∈ wG := in_ix 550 (by decide +kernel) rfl
theorem im_X6_isWord : Cond.instanceMethod yX6_isWord ∈ wG := in_ix 549 (by decide +kernel) rfl
theorem se_X6_isWord : Cond.selects RX6 yX6_isWord yX6_isWord ∈ wG := in_ix 23 (by decide +kernel) rfl
abbrev mi_X6_isTalk : MI := (RX6, cX6_isTalk, 2, (some .boolean), yX6_isTalk)
theorem co_X6_isTalk : Cond.code yX6_isTalk cX6_isTalk 2 (some .boolean) ∈ wG := in_ix 478 (by decide +kernel) rfl
theorem im_X6_isTalk : Cond.instanceMethod yX6_isTalk ∈ wG := in_ix 477 (by decide +kernel) rfl
theorem se_X6_isTalk : Cond.selects RX6 yX6_isTalk yX6_isTalk ∈ wG := in_ix 17 (by decide +kernel) rfl
abbrev mi_X6_areFarms : MI := (RX6, cX6_areFarms, 2, (some .boolean), yX6_areFarms)
theorem co_X6_areFarms : Cond.code yX6_areFarms cX6_areFarms 2 (some .boolean) ∈ wG := in_ix 647 (by decide +kernel) rfl
theorem im_X6_areFarms : Cond.instanceMethod yX6_areFarms ∈ wG := in_ix 646 (by decide +kernel) rfl
theorem se_X6_areFarms : Cond.selects RX6 yX6_areFarms yX6_areFarms ∈ wG := in_ix 29 (by decide +kernel) rfl
abbrev mi_X6_image : MI := (RX6, cX6_image, 2, (some (.object "BeckTalk$World")), yX6_image)
theorem co_X6_image : Cond.code yX6_image cX6_image 2 (some (.object "BeckTalk$World")) ∈ wG := in_ix 755 (by decide +kernel) rfl
theorem im_X6_image : Cond.instanceMethod yX6_image ∈ wG := in_ix 754 (by decide +kernel) rfl
theorem se_X6_image : Cond.selects RX6 yX6_image yX6_image ∈ wG := in_ix 33 (by decide +kernel) rfl
abbrev mi_X6_hoursRefused : MI := (RX6, cX6_hoursRefused, 2, (some .int), yX6_hoursRefused)
theorem co_X6_hoursRefused : Cond.code yX6_hoursRefused cX6_hoursRefused 2 (some .int) ∈ wG := in_ix 498 (by decide +kernel) rfl
theorem im_X6_hoursRefused : Cond.instanceMethod yX6_hoursRefused ∈ wG := in_ix 497 (by decide +kernel) rfl
theorem se_X6_hoursRefused : Cond.selects RX6 yX6_hoursRefused yX6_hoursRefused ∈ wG := in_ix 18 (by decide +kernel) rfl
abbrev mi_X6_downOf : MI := (RX6, cX6_downOf, 6, (some .int), yX6_downOf)
theorem co_X6_downOf : Cond.code yX6_downOf cX6_downOf 6 (some .int) ∈ wG := in_ix 414 (by decide +kernel) rfl
theorem im_X6_downOf : Cond.instanceMethod yX6_downOf ∈ wG := in_ix 413 (by decide +kernel) rfl
theorem se_X6_downOf : Cond.selects RX6 yX6_downOf yX6_downOf ∈ wG := in_ix 10 (by decide +kernel) rfl
abbrev mi_X6_upOf : MI := (RX6, cX6_upOf, 4, (some .int), yX6_upOf)
theorem co_X6_upOf : Cond.code yX6_upOf cX6_upOf 4 (some .int) ∈ wG := in_ix 410 (by decide +kernel) rfl
theorem im_X6_upOf : Cond.instanceMethod yX6_upOf ∈ wG := in_ix 409 (by decide +kernel) rfl
theorem se_X6_upOf : Cond.selects RX6 yX6_upOf yX6_upOf ∈ wG := in_ix 9 (by decide +kernel) rfl
abbrev mi_X6_wordAt : MI := (RX6, cX6_wordAt, 8, (some .int), yX6_wordAt)
theorem co_X6_wordAt : Cond.code yX6_wordAt cX6_wordAt 8 (some .int) ∈ wG := in_ix 440 (by decide +kernel) rfl
theorem im_X6_wordAt : Cond.instanceMethod yX6_wordAt ∈ wG := in_ix 439 (by decide +kernel) rfl
theorem se_X6_wordAt : Cond.selects RX6 yX6_wordAt yX6_wordAt ∈ wG := in_ix 13 (by decide +kernel) rfl
abbrev mi_X6_hoursTo : MI := (RX6, cX6_hoursTo, 8, (some .int), yX6_hoursTo)
theorem co_X6_hoursTo : Cond.code yX6_hoursTo cX6_hoursTo 8 (some .int) ∈ wG := in_ix 456 (by decide +kernel) rfl
theorem im_X6_hoursTo : Cond.instanceMethod yX6_hoursTo ∈ wG := in_ix 455 (by decide +kernel) rfl
theorem se_X6_hoursTo : Cond.selects RX6 yX6_hoursTo yX6_hoursTo ∈ wG := in_ix 15 (by decide +kernel) rfl
abbrev mi_X6_wordsFor : MI := (RX6, cX6_wordsFor, 6, (some .int), yX6_wordsFor)
theorem co_X6_wordsFor : Cond.code yX6_wordsFor cX6_wordsFor 6 (some .int) ∈ wG := in_ix 635 (by decide +kernel) rfl
theorem im_X6_wordsFor : Cond.instanceMethod yX6_wordsFor ∈ wG := in_ix 634 (by decide +kernel) rfl
theorem se_X6_wordsFor : Cond.selects RX6 yX6_wordsFor yX6_wordsFor ∈ wG := in_ix 28 (by decide +kernel) rfl
abbrev mi_X6_fewestDams : MI := (RX6, cX6_fewestDams, 7, (some .int), yX6_fewestDams)
theorem co_X6_fewestDams : Cond.code yX6_fewestDams cX6_fewestDams 7 (some .int) ∈ wG := in_ix 655 (by decide +kernel) rfl
theorem im_X6_fewestDams : Cond.instanceMethod yX6_fewestDams ∈ wG := in_ix 654 (by decide +kernel) rfl
theorem se_X6_fewestDams : Cond.selects RX6 yX6_fewestDams yX6_fewestDams ∈ wG := in_ix 30 (by decide +kernel) rfl
abbrev mi_X6_loudest : MI := (RX6, cX6_loudest, 5, (some .int), yX6_loudest)
theorem co_X6_loudest : Cond.code yX6_loudest cX6_loudest 5 (some .int) ∈ wG := in_ix 401 (by decide +kernel) rfl
theorem im_X6_loudest : Cond.instanceMethod yX6_loudest ∈ wG := in_ix 400 (by decide +kernel) rfl
theorem se_X6_loudest : Cond.selects RX6 yX6_loudest yX6_loudest ∈ wG := in_ix 7 (by decide +kernel) rfl
abbrev mi_X6_bottom : MI := (RX6, cX6_bottom, 5, (some .int), yX6_bottom)
theorem co_X6_bottom : Cond.code yX6_bottom cX6_bottom 5 (some .int) ∈ wG := in_ix 406 (by decide +kernel) rfl
theorem im_X6_bottom : Cond.instanceMethod yX6_bottom ∈ wG := in_ix 405 (by decide +kernel) rfl
theorem se_X6_bottom : Cond.selects RX6 yX6_bottom yX6_bottom ∈ wG := in_ix 8 (by decide +kernel) rfl
abbrev mi_X6_even : MI := (RX6, cX6_even, 3, (some .int), yX6_even)
theorem co_X6_even : Cond.code yX6_even cX6_even 3 (some .int) ∈ wG := in_ix 432 (by decide +kernel) rfl
theorem im_X6_even : Cond.instanceMethod yX6_even ∈ wG := in_ix 431 (by decide +kernel) rfl
theorem se_X6_even : Cond.selects RX6 yX6_even yX6_even ∈ wG := in_ix 11 (by decide +kernel) rfl
abbrev mi_X6_leavesAllAlone : MI := (RX6, cX6_leavesAllAlone, 3, (some .boolean), yX6_leavesAllAlone)
theorem co_X6_leavesAllAlone : Cond.code yX6_leavesAllAlone cX6_leavesAllAlone 3 (some .boolean) ∈ wG := in_ix 436 (by decide +kernel) rfl
theorem im_X6_leavesAllAlone : Cond.instanceMethod yX6_leavesAllAlone ∈ wG := in_ix 435 (by decide +kernel) rfl
theorem se_X6_leavesAllAlone : Cond.selects RX6 yX6_leavesAllAlone yX6_leavesAllAlone ∈ wG := in_ix 12 (by decide +kernel) rfl
abbrev mi_X6_longest : MI := (RX6, cX6_longest, 5, (some .int), yX6_longest)
theorem co_X6_longest : Cond.code yX6_longest cX6_longest 5 (some .int) ∈ wG := in_ix 452 (by decide +kernel) rfl
theorem im_X6_longest : Cond.instanceMethod yX6_longest ∈ wG := in_ix 451 (by decide +kernel) rfl
theorem se_X6_longest : Cond.selects RX6 yX6_longest yX6_longest ∈ wG := in_ix 14 (by decide +kernel) rfl
abbrev mi_X6_draw : MI := (RX6, cX6_draw, 2, (some .int), yX6_draw)
theorem co_X6_draw : Cond.code yX6_draw cX6_draw 2 (some .int) ∈ wG := in_ix 594 (by decide +kernel) rfl
theorem im_X6_draw : Cond.instanceMethod yX6_draw ∈ wG := in_ix 593 (by decide +kernel) rfl
theorem se_X6_draw : Cond.selects RX6 yX6_draw yX6_draw ∈ wG := in_ix 26 (by decide +kernel) rfl
abbrev mi_X6_befall : MI := (RX6, cX6_befall, 1, none, yX6_befall)
theorem co_X6_befall : Cond.code yX6_befall cX6_befall 1 none ∈ wG := in_ix 590 (by decide +kernel) rfl
theorem im_X6_befall : Cond.instanceMethod yX6_befall ∈ wG := in_ix 589 (by decide +kernel) rfl
theorem se_X6_befall : Cond.selects RX6 yX6_befall yX6_befall ∈ wG := in_ix 25 (by decide +kernel) rfl
abbrev mi_X6_befallTalk : MI := (RX6, cX6_befallTalk, 3, none, yX6_befallTalk)
theorem co_X6_befallTalk : Cond.code yX6_befallTalk cX6_befallTalk 3 none ∈ wG := in_ix 602 (by decide +kernel) rfl
theorem im_X6_befallTalk : Cond.instanceMethod yX6_befallTalk ∈ wG := in_ix 601 (by decide +kernel) rfl
theorem se_X6_befallTalk : Cond.selects RX6 yX6_befallTalk yX6_befallTalk ∈ wG := in_ix 27 (by decide +kernel) rfl
abbrev mi_X6_cell : MI := (RX6, cX6_cell, 2, (some .int), yX6_cell)
theorem co_X6_cell : Cond.code yX6_cell cX6_cell 2 (some .int) ∈ wG := in_ix 352 (by decide +kernel) rfl
theorem st_X6_cell : Cond.static yX6_cell ∈ wG := in_ix 351 (by decide +kernel) rfl
abbrev mi_X6_put : MI := (RX6, cX6_put, 3, none, yX6_put)
theorem co_X6_put : Cond.code yX6_put cX6_put 3 none ∈ wG := in_ix 333 (by decide +kernel) rfl
theorem st_X6_put : Cond.static yX6_put ∈ wG := in_ix 332 (by decide +kernel) rfl
abbrev mi_X6_holds : MI := (RX6, cX6_holds, 2, (some .boolean), yX6_holds)
theorem co_X6_holds : Cond.code yX6_holds cX6_holds 2 (some .boolean) ∈ wG := in_ix 421 (by decide +kernel) rfl
theorem st_X6_holds : Cond.static yX6_holds ∈ wG := in_ix 420 (by decide +kernel) rfl
abbrev mi_X6_garbledOnce : MI := (RX6, cX6_garbledOnce, 4, (some .int), yX6_garbledOnce)
theorem co_X6_garbledOnce : Cond.code yX6_garbledOnce cX6_garbledOnce 4 (some .int) ∈ wG := in_ix 448 (by decide +kernel) rfl
theorem st_X6_garbledOnce : Cond.static yX6_garbledOnce ∈ wG := in_ix 447 (by decide +kernel) rfl
abbrev mi_X7_in : MI := (RX7, cX7_in, 6, (some .boolean), yX7_in)
theorem co_X7_in : Cond.code yX7_in cX7_in 6 (some .boolean) ∈ wG := in_ix 887 (by decide +kernel) rfl
theorem st_X7_in : Cond.static yX7_in ∈ wG := in_ix 886 (by decide +kernel) rfl
abbrev mi_X7_has : MI := (RX7, cX7_has, 2, (some .boolean), yX7_has)
theorem co_X7_has : Cond.code yX7_has cX7_has 2 (some .boolean) ∈ wG := in_ix 958 (by decide +kernel) rfl
theorem st_X7_has : Cond.static yX7_has ∈ wG := in_ix 957 (by decide +kernel) rfl
abbrev mi_X7_bits : MI := (RX7, cX7_bits, 3, (some .int), yX7_bits)
theorem co_X7_bits : Cond.code yX7_bits cX7_bits 3 (some .int) ∈ wG := in_ix 961 (by decide +kernel) rfl
theorem st_X7_bits : Cond.static yX7_bits ∈ wG := in_ix 960 (by decide +kernel) rfl
abbrev mi_X7_isFarm : MI := (RX7, cX7_isFarm, 2, (some .boolean), yX7_isFarm)
theorem co_X7_isFarm : Cond.code yX7_isFarm cX7_isFarm 2 (some .boolean) ∈ wG := in_ix 993 (by decide +kernel) rfl
theorem im_X7_isFarm : Cond.instanceMethod yX7_isFarm ∈ wG := in_ix 992 (by decide +kernel) rfl
theorem se_X7_isFarm : Cond.selects RX7 yX7_isFarm yX7_isFarm ∈ wG := in_ix 54 (by decide +kernel) rfl
abbrev mi_X7_isWord : MI := (RX7, cX7_isWord, 2, (some .boolean), yX7_isWord)
theorem co_X7_isWord : Cond.code yX7_isWord cX7_isWord 2 (some .boolean) ∈ wG := in_ix 1065 (by decide +kernel) rfl
theorem im_X7_isWord : Cond.instanceMethod yX7_isWord ∈ wG := in_ix 1064 (by decide +kernel) rfl
theorem se_X7_isWord : Cond.selects RX7 yX7_isWord yX7_isWord ∈ wG := in_ix 66 (by decide +kernel) rfl
abbrev mi_X7_emptyAll : MI := (RX7, cX7_emptyAll, 2, none, yX7_emptyAll)
theorem co_X7_emptyAll : Cond.code yX7_emptyAll cX7_emptyAll 2 none ∈ wG := in_ix 769 (by decide +kernel) rfl
theorem im_X7_emptyAll : Cond.instanceMethod yX7_emptyAll ∈ wG := in_ix 768 (by decide +kernel) rfl
theorem se_X7_emptyAll : Cond.selects RX7 yX7_emptyAll yX7_emptyAll ∈ wG := in_ix 34 (by decide +kernel) rfl
abbrev mi_X7_feed : MI := (RX7, cX7_feed, 2, (some .int), yX7_feed)
theorem co_X7_feed : Cond.code yX7_feed cX7_feed 2 (some .int) ∈ wG := in_ix 883 (by decide +kernel) rfl
theorem im_X7_feed : Cond.instanceMethod yX7_feed ∈ wG := in_ix 881 (by decide +kernel) rfl
theorem se_X7_feed : Cond.selects RX7 yX7_feed yX7_feed ∈ wG := in_ix 882 (by decide +kernel) rfl
abbrev mi_X7_here : MI := (RX7, cX7_here, 1, (some .int), yX7_here)
theorem co_X7_here : Cond.code yX7_here cX7_here 1 (some .int) ∈ wG := in_ix 897 (by decide +kernel) rfl
theorem im_X7_here : Cond.instanceMethod yX7_here ∈ wG := in_ix 896 (by decide +kernel) rfl
theorem se_X7_here : Cond.selects RX7 yX7_here yX7_here ∈ wG := in_ix 35 (by decide +kernel) rfl
abbrev mi_X7_fails : MI := (RX7, cX7_fails, 3, (some .int), yX7_fails)
theorem co_X7_fails : Cond.code yX7_fails cX7_fails 3 (some .int) ∈ wG := in_ix 905 (by decide +kernel) rfl
theorem im_X7_fails : Cond.instanceMethod yX7_fails ∈ wG := in_ix 904 (by decide +kernel) rfl
theorem se_X7_fails : Cond.selects RX7 yX7_fails yX7_fails ∈ wG := in_ix 37 (by decide +kernel) rfl
abbrev mi_X7_takeNumber : MI := (RX7, cX7_takeNumber, 4, (some .int), yX7_takeNumber)
theorem co_X7_takeNumber : Cond.code yX7_takeNumber cX7_takeNumber 4 (some .int) ∈ wG := in_ix 913 (by decide +kernel) rfl
theorem im_X7_takeNumber : Cond.instanceMethod yX7_takeNumber ∈ wG := in_ix 912 (by decide +kernel) rfl
theorem se_X7_takeNumber : Cond.selects RX7 yX7_takeNumber yX7_takeNumber ∈ wG := in_ix 39 (by decide +kernel) rfl
abbrev mi_X7_into : MI := (RX7, cX7_into, 6, (some .int), yX7_into)
theorem co_X7_into : Cond.code yX7_into cX7_into 6 (some .int) ∈ wG := in_ix 923 (by decide +kernel) rfl
theorem im_X7_into : Cond.instanceMethod yX7_into ∈ wG := in_ix 922 (by decide +kernel) rfl
theorem se_X7_into : Cond.selects RX7 yX7_into yX7_into ∈ wG := in_ix 41 (by decide +kernel) rfl
abbrev mi_X7_takeBeck : MI := (RX7, cX7_takeBeck, 2, (some .int), yX7_takeBeck)
theorem co_X7_takeBeck : Cond.code yX7_takeBeck cX7_takeBeck 2 (some .int) ∈ wG := in_ix 909 (by decide +kernel) rfl
theorem im_X7_takeBeck : Cond.instanceMethod yX7_takeBeck ∈ wG := in_ix 908 (by decide +kernel) rfl
theorem se_X7_takeBeck : Cond.selects RX7 yX7_takeBeck yX7_takeBeck ∈ wG := in_ix 38 (by decide +kernel) rfl
abbrev mi_X7_takeFarm : MI := (RX7, cX7_takeFarm, 3, (some .int), yX7_takeFarm)
theorem co_X7_takeFarm : Cond.code yX7_takeFarm cX7_takeFarm 3 (some .int) ∈ wG := in_ix 919 (by decide +kernel) rfl
theorem im_X7_takeFarm : Cond.instanceMethod yX7_takeFarm ∈ wG := in_ix 918 (by decide +kernel) rfl
theorem se_X7_takeFarm : Cond.selects RX7 yX7_takeFarm yX7_takeFarm ∈ wG := in_ix 40 (by decide +kernel) rfl
abbrev mi_X7_takeClause : MI := (RX7, cX7_takeClause, 5, (some .int), yX7_takeClause)
theorem co_X7_takeClause : Cond.code yX7_takeClause cX7_takeClause 5 (some .int) ∈ wG := in_ix 901 (by decide +kernel) rfl
theorem im_X7_takeClause : Cond.instanceMethod yX7_takeClause ∈ wG := in_ix 900 (by decide +kernel) rfl
theorem se_X7_takeClause : Cond.selects RX7 yX7_takeClause yX7_takeClause ∈ wG := in_ix 36 (by decide +kernel) rfl
abbrev mi_X7_takeRead : MI := (RX7, cX7_takeRead, 2, none, yX7_takeRead)
theorem co_X7_takeRead : Cond.code yX7_takeRead cX7_takeRead 2 none ∈ wG := in_ix 927 (by decide +kernel) rfl
theorem im_X7_takeRead : Cond.instanceMethod yX7_takeRead ∈ wG := in_ix 926 (by decide +kernel) rfl
theorem se_X7_takeRead : Cond.selects RX7 yX7_takeRead yX7_takeRead ∈ wG := in_ix 42 (by decide +kernel) rfl
abbrev mi_X7_dale : MI := (RX7, cX7_dale, 2, (some .int), yX7_dale)
theorem co_X7_dale : Cond.code yX7_dale cX7_dale 2 (some .int) ∈ wG := in_ix 893 (by decide +kernel) rfl
theorem im_X7_dale : Cond.instanceMethod yX7_dale ∈ wG := in_ix 891 (by decide +kernel) rfl
theorem se_X7_dale : Cond.selects RX7 yX7_dale yX7_dale ∈ wG := in_ix 892 (by decide +kernel) rfl
abbrev mi_X7_fault : MI := (RX7, cX7_fault, 1, (some .int), yX7_fault)
theorem co_X7_fault : Cond.code yX7_fault cX7_fault 1 (some .int) ∈ wG := in_ix 931 (by decide +kernel) rfl
theorem im_X7_fault : Cond.instanceMethod yX7_fault ∈ wG := in_ix 929 (by decide +kernel) rfl
theorem se_X7_fault : Cond.selects RX7 yX7_fault yX7_fault ∈ wG := in_ix 930 (by decide +kernel) rfl
abbrev mi_X7_garbleBy : MI := (RX7, cX7_garbleBy, 4, (some .int), yX7_garbleBy)
theorem co_X7_garbleBy : Cond.code yX7_garbleBy cX7_garbleBy 4 (some .int) ∈ wG := in_ix 977 (by decide +kernel) rfl
theorem im_X7_garbleBy : Cond.instanceMethod yX7_garbleBy ∈ wG := in_ix 976 (by decide +kernel) rfl
theorem se_X7_garbleBy : Cond.selects RX7 yX7_garbleBy yX7_garbleBy ∈ wG := in_ix 51 (by decide +kernel) rfl
abbrev mi_X7_overFall : MI := (RX7, cX7_overFall, 4, (some .int), yX7_overFall)
theorem co_X7_overFall : Cond.code yX7_overFall cX7_overFall 4 (some .int) ∈ wG := in_ix 973 (by decide +kernel) rfl
theorem im_X7_overFall : Cond.instanceMethod yX7_overFall ∈ wG := in_ix 972 (by decide +kernel) rfl
theorem se_X7_overFall : Cond.selects RX7 yX7_overFall yX7_overFall ∈ wG := in_ix 50 (by decide +kernel) rfl
abbrev mi_X7_stopsAt : MI := (RX7, cX7_stopsAt, 2, (some .boolean), yX7_stopsAt)
theorem co_X7_stopsAt : Cond.code yX7_stopsAt cX7_stopsAt 2 (some .boolean) ∈ wG := in_ix 955 (by decide +kernel) rfl
theorem im_X7_stopsAt : Cond.instanceMethod yX7_stopsAt ∈ wG := in_ix 954 (by decide +kernel) rfl
theorem se_X7_stopsAt : Cond.selects RX7 yX7_stopsAt yX7_stopsAt ∈ wG := in_ix 47 (by decide +kernel) rfl
abbrev mi_X7_toGo : MI := (RX7, cX7_toGo, 2, (some .int), yX7_toGo)
theorem co_X7_toGo : Cond.code yX7_toGo cX7_toGo 2 (some .int) ∈ wG := in_ix 1010 (by decide +kernel) rfl
theorem im_X7_toGo : Cond.instanceMethod yX7_toGo ∈ wG := in_ix 1009 (by decide +kernel) rfl
theorem se_X7_toGo : Cond.selects RX7 yX7_toGo yX7_toGo ∈ wG := in_ix 57 (by decide +kernel) rfl
abbrev mi_X7_goesFrom : MI := (RX7, cX7_goesFrom, 2, (some .int), yX7_goesFrom)
theorem co_X7_goesFrom : Cond.code yX7_goesFrom cX7_goesFrom 2 (some .int) ∈ wG := in_ix 1006 (by decide +kernel) rfl
theorem im_X7_goesFrom : Cond.instanceMethod yX7_goesFrom ∈ wG := in_ix 1005 (by decide +kernel) rfl
theorem se_X7_goesFrom : Cond.selects RX7 yX7_goesFrom yX7_goesFrom ∈ wG := in_ix 56 (by decide +kernel) rfl
abbrev mi_X7_wordOf : MI := (RX7, cX7_wordOf, 2, (some .int), yX7_wordOf)
theorem co_X7_wordOf : Cond.code yX7_wordOf cX7_wordOf 2 (some .int) ∈ wG := in_ix 1002 (by decide +kernel) rfl
theorem im_X7_wordOf : Cond.instanceMethod yX7_wordOf ∈ wG := in_ix 1001 (by decide +kernel) rfl
theorem se_X7_wordOf : Cond.selects RX7 yX7_wordOf yX7_wordOf ∈ wG := in_ix 55 (by decide +kernel) rfl
abbrev mi_X7_saidAt : MI := (RX7, cX7_saidAt, 2, (some .int), yX7_saidAt)
theorem co_X7_saidAt : Cond.code yX7_saidAt cX7_saidAt 2 (some .int) ∈ wG := in_ix 1014 (by decide +kernel) rfl
theorem im_X7_saidAt : Cond.instanceMethod yX7_saidAt ∈ wG := in_ix 1013 (by decide +kernel) rfl
theorem se_X7_saidAt : Cond.selects RX7 yX7_saidAt yX7_saidAt ∈ wG := in_ix 58 (by decide +kernel) rfl
abbrev mi_X7_packed : MI := (RX7, cX7_packed, 4, (some .int), yX7_packed)
theorem co_X7_packed : Cond.code yX7_packed cX7_packed 4 (some .int) ∈ wG := in_ix 1048 (by decide +kernel) rfl
theorem st_X7_packed : Cond.static yX7_packed ∈ wG := in_ix 1047 (by decide +kernel) rfl
abbrev mi_X7_takeOff : MI := (RX7, cX7_takeOff, 3, none, yX7_takeOff)
theorem co_X7_takeOff : Cond.code yX7_takeOff cX7_takeOff 3 none ∈ wG := in_ix 1057 (by decide +kernel) rfl
theorem im_X7_takeOff : Cond.instanceMethod yX7_takeOff ∈ wG := in_ix 1056 (by decide +kernel) rfl
theorem se_X7_takeOff : Cond.selects RX7 yX7_takeOff yX7_takeOff ∈ wG := in_ix 65 (by decide +kernel) rfl
abbrev mi_X7_hears : MI := (RX7, cX7_hears, 5, none, yX7_hears)
theorem co_X7_hears : Cond.code yX7_hears cX7_hears 5 none ∈ wG := in_ix 1052 (by decide +kernel) rfl
theorem im_X7_hears : Cond.instanceMethod yX7_hears ∈ wG := in_ix 1051 (by decide +kernel) rfl
theorem se_X7_hears : Cond.selects RX7 yX7_hears yX7_hears ∈ wG := in_ix 64 (by decide +kernel) rfl
abbrev mi_X7_go : MI := (RX7, cX7_go, 6, (some .boolean), yX7_go)
theorem co_X7_go : Cond.code yX7_go cX7_go 6 (some .boolean) ∈ wG := in_ix 1045 (by decide +kernel) rfl
theorem im_X7_go : Cond.instanceMethod yX7_go ∈ wG := in_ix 1044 (by decide +kernel) rfl
theorem se_X7_go : Cond.selects RX7 yX7_go yX7_go ∈ wG := in_ix 63 (by decide +kernel) rfl
abbrev mi_X7_goAll : MI := (RX7, cX7_goAll, 3, none, yX7_goAll)
theorem co_X7_goAll : Cond.code yX7_goAll cX7_goAll 3 none ∈ wG := in_ix 1041 (by decide +kernel) rfl
theorem im_X7_goAll : Cond.instanceMethod yX7_goAll ∈ wG := in_ix 1040 (by decide +kernel) rfl
theorem se_X7_goAll : Cond.selects RX7 yX7_goAll yX7_goAll ∈ wG := in_ix 62 (by decide +kernel) rfl
abbrev mi_X7_pass : MI := (RX7, cX7_pass, 1, none, yX7_pass)
theorem co_X7_pass : Cond.code yX7_pass cX7_pass 1 none ∈ wG := in_ix 1037 (by decide +kernel) rfl
theorem im_X7_pass : Cond.instanceMethod yX7_pass ∈ wG := in_ix 1036 (by decide +kernel) rfl
theorem se_X7_pass : Cond.selects RX7 yX7_pass yX7_pass ∈ wG := in_ix 61 (by decide +kernel) rfl
abbrev mi_X7_downOf : MI := (RX7, cX7_downOf, 5, (some .int), yX7_downOf)
theorem co_X7_downOf : Cond.code yX7_downOf cX7_downOf 5 (some .int) ∈ wG := in_ix 951 (by decide +kernel) rfl
theorem im_X7_downOf : Cond.instanceMethod yX7_downOf ∈ wG := in_ix 950 (by decide +kernel) rfl
theorem se_X7_downOf : Cond.selects RX7 yX7_downOf yX7_downOf ∈ wG := in_ix 46 (by decide +kernel) rfl
abbrev mi_X7_upOf : MI := (RX7, cX7_upOf, 4, (some .int), yX7_upOf)
theorem co_X7_upOf : Cond.code yX7_upOf cX7_upOf 4 (some .int) ∈ wG := in_ix 947 (by decide +kernel) rfl
theorem im_X7_upOf : Cond.instanceMethod yX7_upOf ∈ wG := in_ix 946 (by decide +kernel) rfl
theorem se_X7_upOf : Cond.selects RX7 yX7_upOf yX7_upOf ∈ wG := in_ix 45 (by decide +kernel) rfl
abbrev mi_X7_wordAt : MI := (RX7, cX7_wordAt, 6, (some .int), yX7_wordAt)
theorem co_X7_wordAt : Cond.code yX7_wordAt cX7_wordAt 6 (some .int) ∈ wG := in_ix 969 (by decide +kernel) rfl
theorem im_X7_wordAt : Cond.instanceMethod yX7_wordAt ∈ wG := in_ix 968 (by decide +kernel) rfl
theorem se_X7_wordAt : Cond.selects RX7 yX7_wordAt yX7_wordAt ∈ wG := in_ix 49 (by decide +kernel) rfl
abbrev mi_X7_hoursTo : MI := (RX7, cX7_hoursTo, 5, (some .int), yX7_hoursTo)
theorem co_X7_hoursTo : Cond.code yX7_hoursTo cX7_hoursTo 5 (some .int) ∈ wG := in_ix 985 (by decide +kernel) rfl
theorem im_X7_hoursTo : Cond.instanceMethod yX7_hoursTo ∈ wG := in_ix 984 (by decide +kernel) rfl
theorem se_X7_hoursTo : Cond.selects RX7 yX7_hoursTo yX7_hoursTo ∈ wG := in_ix 53 (by decide +kernel) rfl
abbrev mi_X7_loudest : MI := (RX7, cX7_loudest, 4, (some .int), yX7_loudest)
theorem co_X7_loudest : Cond.code yX7_loudest cX7_loudest 4 (some .int) ∈ wG := in_ix 939 (by decide +kernel) rfl
theorem im_X7_loudest : Cond.instanceMethod yX7_loudest ∈ wG := in_ix 938 (by decide +kernel) rfl
theorem se_X7_loudest : Cond.selects RX7 yX7_loudest yX7_loudest ∈ wG := in_ix 43 (by decide +kernel) rfl
abbrev mi_X7_bottom : MI := (RX7, cX7_bottom, 5, (some .int), yX7_bottom)
theorem co_X7_bottom : Cond.code yX7_bottom cX7_bottom 5 (some .int) ∈ wG := in_ix 943 (by decide +kernel) rfl
theorem im_X7_bottom : Cond.instanceMethod yX7_bottom ∈ wG := in_ix 942 (by decide +kernel) rfl
theorem se_X7_bottom : Cond.selects RX7 yX7_bottom yX7_bottom ∈ wG := in_ix 44 (by decide +kernel) rfl
abbrev mi_X7_even : MI := (RX7, cX7_even, 5, (some .int), yX7_even)
theorem co_X7_even : Cond.code yX7_even cX7_even 5 (some .int) ∈ wG := in_ix 965 (by decide +kernel) rfl
theorem im_X7_even : Cond.instanceMethod yX7_even ∈ wG := in_ix 964 (by decide +kernel) rfl
theorem se_X7_even : Cond.selects RX7 yX7_even yX7_even ∈ wG := in_ix 48 (by decide +kernel) rfl
abbrev mi_X7_longest : MI := (RX7, cX7_longest, 5, (some .int), yX7_longest)
theorem co_X7_longest : Cond.code yX7_longest cX7_longest 5 (some .int) ∈ wG := in_ix 981 (by decide +kernel) rfl
theorem im_X7_longest : Cond.instanceMethod yX7_longest ∈ wG := in_ix 980 (by decide +kernel) rfl
theorem se_X7_longest : Cond.selects RX7 yX7_longest yX7_longest ∈ wG := in_ix 52 (by decide +kernel) rfl
abbrev mi_X7_told : MI := (RX7, cX7_told, 2, (some .int), yX7_told)
theorem co_X7_told : Cond.code yX7_told cX7_told 2 (some .int) ∈ wG := in_ix 935 (by decide +kernel) rfl
theorem im_X7_told : Cond.instanceMethod yX7_told ∈ wG := in_ix 933 (by decide +kernel) rfl
theorem se_X7_told : Cond.selects RX7 yX7_told yX7_told ∈ wG := in_ix 934 (by decide +kernel) rfl
abbrev mi_X7_farm : MI := (RX7, cX7_farm, 3, (some .int), yX7_farm)
theorem co_X7_farm : Cond.code yX7_farm cX7_farm 3 (some .int) ∈ wG := in_ix 989 (by decide +kernel) rfl
theorem im_X7_farm : Cond.instanceMethod yX7_farm ∈ wG := in_ix 987 (by decide +kernel) rfl
theorem se_X7_farm : Cond.selects RX7 yX7_farm yX7_farm ∈ wG := in_ix 988 (by decide +kernel) rfl
abbrev mi_X7_talk : MI := (RX7, cX7_talk, 3, (some .int), yX7_talk)
theorem co_X7_talk : Cond.code yX7_talk cX7_talk 3 (some .int) ∈ wG := in_ix 998 (by decide +kernel) rfl
theorem im_X7_talk : Cond.instanceMethod yX7_talk ∈ wG := in_ix 996 (by decide +kernel) rfl
theorem se_X7_talk : Cond.selects RX7 yX7_talk yX7_talk ∈ wG := in_ix 997 (by decide +kernel) rfl
abbrev mi_X7_logged : MI := (RX7, cX7_logged, 4, (some .int), yX7_logged)
theorem co_X7_logged : Cond.code yX7_logged cX7_logged 4 (some .int) ∈ wG := in_ix 1018 (by decide +kernel) rfl
theorem im_X7_logged : Cond.instanceMethod yX7_logged ∈ wG := in_ix 1016 (by decide +kernel) rfl
theorem se_X7_logged : Cond.selects RX7 yX7_logged yX7_logged ∈ wG := in_ix 1017 (by decide +kernel) rfl
abbrev mi_X7_remember : MI := (RX7, cX7_remember, 2, none, yX7_remember)
theorem co_X7_remember : Cond.code yX7_remember cX7_remember 2 none ∈ wG := in_ix 1033 (by decide +kernel) rfl
theorem im_X7_remember : Cond.instanceMethod yX7_remember ∈ wG := in_ix 1032 (by decide +kernel) rfl
theorem se_X7_remember : Cond.selects RX7 yX7_remember yX7_remember ∈ wG := in_ix 60 (by decide +kernel) rfl
abbrev mi_X7_hoursRefused : MI := (RX7, cX7_hoursRefused, 2, (some .int), yX7_hoursRefused)
theorem co_X7_hoursRefused : Cond.code yX7_hoursRefused cX7_hoursRefused 2 (some .int) ∈ wG := in_ix 1027 (by decide +kernel) rfl
theorem im_X7_hoursRefused : Cond.instanceMethod yX7_hoursRefused ∈ wG := in_ix 1026 (by decide +kernel) rfl
theorem se_X7_hoursRefused : Cond.selects RX7 yX7_hoursRefused yX7_hoursRefused ∈ wG := in_ix 59 (by decide +kernel) rfl
abbrev mi_X7_hour : MI := (RX7, cX7_hour, 4, (some .int), yX7_hour)
theorem co_X7_hour : Cond.code yX7_hour cX7_hour 4 (some .int) ∈ wG := in_ix 1023 (by decide +kernel) rfl
theorem im_X7_hour : Cond.instanceMethod yX7_hour ∈ wG := in_ix 1021 (by decide +kernel) rfl
theorem se_X7_hour : Cond.selects RX7 yX7_hour yX7_hour ∈ wG := in_ix 1022 (by decide +kernel) rfl
abbrev mi_X7_sayNow : MI := (RX7, cX7_sayNow, 3, none, yX7_sayNow)
theorem co_X7_sayNow : Cond.code yX7_sayNow cX7_sayNow 3 none ∈ wG := in_ix 1069 (by decide +kernel) rfl
theorem im_X7_sayNow : Cond.instanceMethod yX7_sayNow ∈ wG := in_ix 1068 (by decide +kernel) rfl
theorem se_X7_sayNow : Cond.selects RX7 yX7_sayNow yX7_sayNow ∈ wG := in_ix 67 (by decide +kernel) rfl
abbrev mi_X7_say : MI := (RX7, cX7_say, 3, (some .int), yX7_say)
theorem co_X7_say : Cond.code yX7_say cX7_say 3 (some .int) ∈ wG := in_ix 1061 (by decide +kernel) rfl
theorem im_X7_say : Cond.instanceMethod yX7_say ∈ wG := in_ix 1059 (by decide +kernel) rfl
theorem se_X7_say : Cond.selects RX7 yX7_say yX7_say ∈ wG := in_ix 1060 (by decide +kernel) rfl
abbrev mi_X7_rain : MI := (RX7, cX7_rain, 3, (some .int), yX7_rain)
theorem co_X7_rain : Cond.code yX7_rain cX7_rain 3 (some .int) ∈ wG := in_ix 1073 (by decide +kernel) rfl
theorem im_X7_rain : Cond.instanceMethod yX7_rain ∈ wG := in_ix 1071 (by decide +kernel) rfl
theorem se_X7_rain : Cond.selects RX7 yX7_rain yX7_rain ∈ wG := in_ix 1072 (by decide +kernel) rfl
abbrev mi_X7_frost : MI := (RX7, cX7_frost, 3, (some .int), yX7_frost)
theorem co_X7_frost : Cond.code yX7_frost cX7_frost 3 (some .int) ∈ wG := in_ix 1078 (by decide +kernel) rfl
theorem im_X7_frost : Cond.instanceMethod yX7_frost ∈ wG := in_ix 1076 (by decide +kernel) rfl
theorem se_X7_frost : Cond.selects RX7 yX7_frost yX7_frost ∈ wG := in_ix 1077 (by decide +kernel) rfl
abbrev mi_X7_dam : MI := (RX7, cX7_dam, 4, (some .int), yX7_dam)
theorem co_X7_dam : Cond.code yX7_dam cX7_dam 4 (some .int) ∈ wG := in_ix 1082 (by decide +kernel) rfl
theorem im_X7_dam : Cond.instanceMethod yX7_dam ∈ wG := in_ix 1080 (by decide +kernel) rfl
theorem se_X7_dam : Cond.selects RX7 yX7_dam yX7_dam ∈ wG := in_ix 1081 (by decide +kernel) rfl
abbrev mi_X7_smooth : MI := (RX7, cX7_smooth, 3, (some .int), yX7_smooth)
theorem co_X7_smooth : Cond.code yX7_smooth cX7_smooth 3 (some .int) ∈ wG := in_ix 1086 (by decide +kernel) rfl
theorem im_X7_smooth : Cond.instanceMethod yX7_smooth ∈ wG := in_ix 1084 (by decide +kernel) rfl
theorem se_X7_smooth : Cond.selects RX7 yX7_smooth yX7_smooth ∈ wG := in_ix 1085 (by decide +kernel) rfl
abbrev mi_X7_hush : MI := (RX7, cX7_hush, 2, (some .int), yX7_hush)
theorem co_X7_hush : Cond.code yX7_hush cX7_hush 2 (some .int) ∈ wG := in_ix 1090 (by decide +kernel) rfl
theorem im_X7_hush : Cond.instanceMethod yX7_hush ∈ wG := in_ix 1088 (by decide +kernel) rfl
theorem se_X7_hush : Cond.selects RX7 yX7_hush yX7_hush ∈ wG := in_ix 1089 (by decide +kernel) rfl
abbrev mi_X7_draw : MI := (RX7, cX7_draw, 2, (some .int), yX7_draw)
theorem co_X7_draw : Cond.code yX7_draw cX7_draw 2 (some .int) ∈ wG := in_ix 1102 (by decide +kernel) rfl
theorem im_X7_draw : Cond.instanceMethod yX7_draw ∈ wG := in_ix 1101 (by decide +kernel) rfl
theorem se_X7_draw : Cond.selects RX7 yX7_draw yX7_draw ∈ wG := in_ix 69 (by decide +kernel) rfl
abbrev mi_X7_chance : MI := (RX7, cX7_chance, 4, none, yX7_chance)
theorem co_X7_chance : Cond.code yX7_chance cX7_chance 4 none ∈ wG := in_ix 1098 (by decide +kernel) rfl
theorem im_X7_chance : Cond.instanceMethod yX7_chance ∈ wG := in_ix 1097 (by decide +kernel) rfl
theorem se_X7_chance : Cond.selects RX7 yX7_chance yX7_chance ∈ wG := in_ix 68 (by decide +kernel) rfl
abbrev mi_X7_drift : MI := (RX7, cX7_drift, 4, (some .int), yX7_drift)
theorem co_X7_drift : Cond.code yX7_drift cX7_drift 4 (some .int) ∈ wG := in_ix 1094 (by decide +kernel) rfl
theorem im_X7_drift : Cond.instanceMethod yX7_drift ∈ wG := in_ix 1092 (by decide +kernel) rfl
theorem se_X7_drift : Cond.selects RX7 yX7_drift yX7_drift ∈ wG := in_ix 1093 (by decide +kernel) rfl
abbrev mi_X7_undo : MI := (RX7, cX7_undo, 2, (some .int), yX7_undo)
theorem co_X7_undo : Cond.code yX7_undo cX7_undo 2 (some .int) ∈ wG := in_ix 1110 (by decide +kernel) rfl
theorem im_X7_undo : Cond.instanceMethod yX7_undo ∈ wG := in_ix 1108 (by decide +kernel) rfl
theorem se_X7_undo : Cond.selects RX7 yX7_undo yX7_undo ∈ wG := in_ix 1109 (by decide +kernel) rfl
abbrev mi_X7_down : MI := (RX7, cX7_down, 2, (some .int), yX7_down)
theorem co_X7_down : Cond.code yX7_down cX7_down 2 (some .int) ∈ wG := in_ix 1114 (by decide +kernel) rfl
theorem im_X7_down : Cond.instanceMethod yX7_down ∈ wG := in_ix 1112 (by decide +kernel) rfl
theorem se_X7_down : Cond.selects RX7 yX7_down yX7_down ∈ wG := in_ix 1113 (by decide +kernel) rfl
abbrev mi_X7_up : MI := (RX7, cX7_up, 2, (some .int), yX7_up)
theorem co_X7_up : Cond.code yX7_up cX7_up 2 (some .int) ∈ wG := in_ix 1118 (by decide +kernel) rfl
theorem im_X7_up : Cond.instanceMethod yX7_up ∈ wG := in_ix 1116 (by decide +kernel) rfl
theorem se_X7_up : Cond.selects RX7 yX7_up yX7_up ∈ wG := in_ix 1117 (by decide +kernel) rfl
abbrev mi_X7_becomes : MI := (RX7, cX7_becomes, 4, (some .int), yX7_becomes)
theorem co_X7_becomes : Cond.code yX7_becomes cX7_becomes 4 (some .int) ∈ wG := in_ix 1122 (by decide +kernel) rfl
theorem im_X7_becomes : Cond.instanceMethod yX7_becomes ∈ wG := in_ix 1120 (by decide +kernel) rfl
theorem se_X7_becomes : Cond.selects RX7 yX7_becomes yX7_becomes ∈ wG := in_ix 1121 (by decide +kernel) rfl
abbrev mi_X7_takes : MI := (RX7, cX7_takes, 3, (some .int), yX7_takes)
theorem co_X7_takes : Cond.code yX7_takes cX7_takes 3 (some .int) ∈ wG := in_ix 1126 (by decide +kernel) rfl
theorem im_X7_takes : Cond.instanceMethod yX7_takes ∈ wG := in_ix 1124 (by decide +kernel) rfl
theorem se_X7_takes : Cond.selects RX7 yX7_takes yX7_takes ∈ wG := in_ix 1125 (by decide +kernel) rfl
abbrev mi_X7_wordsFor : MI := (RX7, cX7_wordsFor, 6, (some .int), yX7_wordsFor)
theorem co_X7_wordsFor : Cond.code yX7_wordsFor cX7_wordsFor 6 (some .int) ∈ wG := in_ix 1134 (by decide +kernel) rfl
theorem im_X7_wordsFor : Cond.instanceMethod yX7_wordsFor ∈ wG := in_ix 1133 (by decide +kernel) rfl
theorem se_X7_wordsFor : Cond.selects RX7 yX7_wordsFor yX7_wordsFor ∈ wG := in_ix 70 (by decide +kernel) rfl
abbrev mi_X7_toSay : MI := (RX7, cX7_toSay, 4, (some .int), yX7_toSay)
theorem co_X7_toSay : Cond.code yX7_toSay cX7_toSay 4 (some .int) ∈ wG := in_ix 1130 (by decide +kernel) rfl
theorem im_X7_toSay : Cond.instanceMethod yX7_toSay ∈ wG := in_ix 1128 (by decide +kernel) rfl
theorem se_X7_toSay : Cond.selects RX7 yX7_toSay yX7_toSay ∈ wG := in_ix 1129 (by decide +kernel) rfl
abbrev mi_X7_origin : MI := (RX7, cX7_origin, 6, (some .int), yX7_origin)
theorem co_X7_origin : Cond.code yX7_origin cX7_origin 6 (some .int) ∈ wG := in_ix 1138 (by decide +kernel) rfl
theorem im_X7_origin : Cond.instanceMethod yX7_origin ∈ wG := in_ix 1136 (by decide +kernel) rfl
theorem se_X7_origin : Cond.selects RX7 yX7_origin yX7_origin ∈ wG := in_ix 1137 (by decide +kernel) rfl
abbrev mi_X7_isSet : MI := (RX7, cX7_isSet, 2, (some .boolean), yX7_isSet)
theorem co_X7_isSet : Cond.code yX7_isSet cX7_isSet 2 (some .boolean) ∈ wG := in_ix 1146 (by decide +kernel) rfl
theorem im_X7_isSet : Cond.instanceMethod yX7_isSet ∈ wG := in_ix 1145 (by decide +kernel) rfl
theorem se_X7_isSet : Cond.selects RX7 yX7_isSet yX7_isSet ∈ wG := in_ix 71 (by decide +kernel) rfl
abbrev mi_X7_privately : MI := (RX7, cX7_privately, 4, (some .int), yX7_privately)
theorem co_X7_privately : Cond.code yX7_privately cX7_privately 4 (some .int) ∈ wG := in_ix 1142 (by decide +kernel) rfl
theorem im_X7_privately : Cond.instanceMethod yX7_privately ∈ wG := in_ix 1140 (by decide +kernel) rfl
theorem se_X7_privately : Cond.selects RX7 yX7_privately yX7_privately ∈ wG := in_ix 1141 (by decide +kernel) rfl
abbrev mi_X7_dams : MI := (RX7, cX7_dams, 7, (some .int), yX7_dams)
theorem co_X7_dams : Cond.code yX7_dams cX7_dams 7 (some .int) ∈ wG := in_ix 1150 (by decide +kernel) rfl
theorem im_X7_dams : Cond.instanceMethod yX7_dams ∈ wG := in_ix 1148 (by decide +kernel) rfl
theorem se_X7_dams : Cond.selects RX7 yX7_dams yX7_dams ∈ wG := in_ix 1149 (by decide +kernel) rfl
abbrev mi_X7_putBack : MI := (RX7, cX7_putBack, 2, none, yX7_putBack)
theorem co_X7_putBack : Cond.code yX7_putBack cX7_putBack 2 none ∈ wG := in_ix 1163 (by decide +kernel) rfl
theorem im_X7_putBack : Cond.instanceMethod yX7_putBack ∈ wG := in_ix 1162 (by decide +kernel) rfl
theorem se_X7_putBack : Cond.selects RX7 yX7_putBack yX7_putBack ∈ wG := in_ix 73 (by decide +kernel) rfl
abbrev mi_X7_keepBefore : MI := (RX7, cX7_keepBefore, 2, none, yX7_keepBefore)
theorem co_X7_keepBefore : Cond.code yX7_keepBefore cX7_keepBefore 2 none ∈ wG := in_ix 1159 (by decide +kernel) rfl
theorem im_X7_keepBefore : Cond.instanceMethod yX7_keepBefore ∈ wG := in_ix 1158 (by decide +kernel) rfl
theorem se_X7_keepBefore : Cond.selects RX7 yX7_keepBefore yX7_keepBefore ∈ wG := in_ix 72 (by decide +kernel) rfl
abbrev mi_X7_willHear : MI := (RX7, cX7_willHear, 5, (some .int), yX7_willHear)
theorem co_X7_willHear : Cond.code yX7_willHear cX7_willHear 5 (some .int) ∈ wG := in_ix 1154 (by decide +kernel) rfl
theorem im_X7_willHear : Cond.instanceMethod yX7_willHear ∈ wG := in_ix 1152 (by decide +kernel) rfl
theorem se_X7_willHear : Cond.selects RX7 yX7_willHear yX7_willHear ∈ wG := in_ix 1153 (by decide +kernel) rfl
abbrev mi_X7_where : MI := (RX7, cX7_where, 5, (some .int), yX7_where)
theorem co_X7_where : Cond.code yX7_where cX7_where 5 (some .int) ∈ wG := in_ix 1167 (by decide +kernel) rfl
theorem im_X7_where : Cond.instanceMethod yX7_where ∈ wG := in_ix 1165 (by decide +kernel) rfl
theorem se_X7_where : Cond.selects RX7 yX7_where yX7_where ∈ wG := in_ix 1166 (by decide +kernel) rfl
abbrev mi_X7_dry : MI := (RX7, cX7_dry, 6, (some .int), yX7_dry)
theorem co_X7_dry : Cond.code yX7_dry cX7_dry 6 (some .int) ∈ wG := in_ix 1171 (by decide +kernel) rfl
theorem im_X7_dry : Cond.instanceMethod yX7_dry ∈ wG := in_ix 1169 (by decide +kernel) rfl
theorem se_X7_dry : Cond.selects RX7 yX7_dry yX7_dry ∈ wG := in_ix 1170 (by decide +kernel) rfl
abbrev mi_X7_see : MI := (RX7, cX7_see, 3, (some .int), yX7_see)
theorem co_X7_see : Cond.code yX7_see cX7_see 3 (some .int) ∈ wG := in_ix 1176 (by decide +kernel) rfl
theorem im_X7_see : Cond.instanceMethod yX7_see ∈ wG := in_ix 1174 (by decide +kernel) rfl
theorem se_X7_see : Cond.selects RX7 yX7_see yX7_see ∈ wG := in_ix 1175 (by decide +kernel) rfl
abbrev mi_X7_couldFall : MI := (RX7, cX7_couldFall, 6, (some .boolean), yX7_couldFall)
theorem co_X7_couldFall : Cond.code yX7_couldFall cX7_couldFall 6 (some .boolean) ∈ wG := in_ix 1184 (by decide +kernel) rfl
theorem im_X7_couldFall : Cond.instanceMethod yX7_couldFall ∈ wG := in_ix 1183 (by decide +kernel) rfl
theorem se_X7_couldFall : Cond.selects RX7 yX7_couldFall yX7_couldFall ∈ wG := in_ix 74 (by decide +kernel) rfl
abbrev mi_X7_falls : MI := (RX7, cX7_falls, 5, (some .int), yX7_falls)
theorem co_X7_falls : Cond.code yX7_falls cX7_falls 5 (some .int) ∈ wG := in_ix 1180 (by decide +kernel) rfl
theorem im_X7_falls : Cond.instanceMethod yX7_falls ∈ wG := in_ix 1178 (by decide +kernel) rfl
theorem se_X7_falls : Cond.selects RX7 yX7_falls yX7_falls ∈ wG := in_ix 1179 (by decide +kernel) rfl
abbrev mi_X7_greatestPart : MI := (RX7, cX7_greatestPart, 5, (some .int), yX7_greatestPart)
theorem co_X7_greatestPart : Cond.code yX7_greatestPart cX7_greatestPart 5 (some .int) ∈ wG := in_ix 1193 (by decide +kernel) rfl
theorem im_X7_greatestPart : Cond.instanceMethod yX7_greatestPart ∈ wG := in_ix 1192 (by decide +kernel) rfl
theorem se_X7_greatestPart : Cond.selects RX7 yX7_greatestPart yX7_greatestPart ∈ wG := in_ix 75 (by decide +kernel) rfl
abbrev mi_X7_tryNext : MI := (RX7, cX7_tryNext, 5, (some .int), yX7_tryNext)
theorem co_X7_tryNext : Cond.code yX7_tryNext cX7_tryNext 5 (some .int) ∈ wG := in_ix 1188 (by decide +kernel) rfl
theorem im_X7_tryNext : Cond.instanceMethod yX7_tryNext ∈ wG := in_ix 1186 (by decide +kernel) rfl
theorem se_X7_tryNext : Cond.selects RX7 yX7_tryNext yX7_tryNext ∈ wG := in_ix 1187 (by decide +kernel) rfl
abbrev mi_X7_write : MI := (RX7, cX7_write, 3, (some .int), yX7_write)
theorem co_X7_write : Cond.code yX7_write cX7_write 3 (some .int) ∈ wG := in_ix 1197 (by decide +kernel) rfl
theorem im_X7_write : Cond.instanceMethod yX7_write ∈ wG := in_ix 1195 (by decide +kernel) rfl
theorem se_X7_write : Cond.selects RX7 yX7_write yX7_write ∈ wG := in_ix 1196 (by decide +kernel) rfl
abbrev mi_X7_tear : MI := (RX7, cX7_tear, 2, (some .int), yX7_tear)
theorem co_X7_tear : Cond.code yX7_tear cX7_tear 2 (some .int) ∈ wG := in_ix 1201 (by decide +kernel) rfl
theorem im_X7_tear : Cond.instanceMethod yX7_tear ∈ wG := in_ix 1199 (by decide +kernel) rfl
theorem se_X7_tear : Cond.selects RX7 yX7_tear yX7_tear ∈ wG := in_ix 1200 (by decide +kernel) rfl
abbrev mi_X7_judge : MI := (RX7, cX7_judge, 2, (some .int), yX7_judge)
theorem co_X7_judge : Cond.code yX7_judge cX7_judge 2 (some .int) ∈ wG := in_ix 1205 (by decide +kernel) rfl
theorem im_X7_judge : Cond.instanceMethod yX7_judge ∈ wG := in_ix 1203 (by decide +kernel) rfl
theorem se_X7_judge : Cond.selects RX7 yX7_judge yX7_judge ∈ wG := in_ix 1204 (by decide +kernel) rfl
abbrev mi_X7_seed : MI := (RX7, cX7_seed, 3, (some .int), yX7_seed)
theorem co_X7_seed : Cond.code yX7_seed cX7_seed 3 (some .int) ∈ wG := in_ix 1209 (by decide +kernel) rfl
theorem im_X7_seed : Cond.instanceMethod yX7_seed ∈ wG := in_ix 1207 (by decide +kernel) rfl
theorem se_X7_seed : Cond.selects RX7 yX7_seed yX7_seed ∈ wG := in_ix 1208 (by decide +kernel) rfl
abbrev mi_X7_keep : MI := (RX7, cX7_keep, 3, (some .int), yX7_keep)
theorem co_X7_keep : Cond.code yX7_keep cX7_keep 3 (some .int) ∈ wG := in_ix 1213 (by decide +kernel) rfl
theorem im_X7_keep : Cond.instanceMethod yX7_keep ∈ wG := in_ix 1211 (by decide +kernel) rfl
theorem se_X7_keep : Cond.selects RX7 yX7_keep yX7_keep ∈ wG := in_ix 1212 (by decide +kernel) rfl
abbrev mi_X7_goBack : MI := (RX7, cX7_goBack, 3, (some .int), yX7_goBack)
theorem co_X7_goBack : Cond.code yX7_goBack cX7_goBack 3 (some .int) ∈ wG := in_ix 1217 (by decide +kernel) rfl
theorem im_X7_goBack : Cond.instanceMethod yX7_goBack ∈ wG := in_ix 1215 (by decide +kernel) rfl
theorem se_X7_goBack : Cond.selects RX7 yX7_goBack yX7_goBack ∈ wG := in_ix 1216 (by decide +kernel) rfl
abbrev mi_J6_bitCount_0f7a4 : MI := (RJ6, cJ6_bitCount_0f7a4, 1, (some .int), yJ6_bitCount_0f7a4)
theorem co_J6_bitCount_0f7a4 : Cond.code yJ6_bitCount_0f7a4 cJ6_bitCount_0f7a4 1 (some .int) ∈ wG := in_ix 425 (by decide +kernel) rfl
theorem st_J6_bitCount_0f7a4 : Cond.static yJ6_bitCount_0f7a4 ∈ wG := in_ix 424 (by decide +kernel) rfl
abbrev mi_J9_max_7cf53 : MI := (RJ9, cJ9_max_7cf53, 2, (some .int), yJ9_max_7cf53)
theorem co_J9_max_7cf53 : Cond.code yJ9_max_7cf53 cJ9_max_7cf53 2 (some .int) ∈ wG := in_ix 721 (by decide +kernel) rfl
theorem st_J9_max_7cf53 : Cond.static yJ9_max_7cf53 ∈ wG := in_ix 720 (by decide +kernel) rfl
abbrev mi_J9_min_7cf53 : MI := (RJ9, cJ9_min_7cf53, 2, (some .int), yJ9_min_7cf53)
theorem co_J9_min_7cf53 : Cond.code yJ9_min_7cf53 cJ9_min_7cf53 2 (some .int) ∈ wG := in_ix 514 (by decide +kernel) rfl
theorem st_J9_min_7cf53 : Cond.static yJ9_min_7cf53 ∈ wG := in_ix 513 (by decide +kernel) rfl
abbrev mi_J7_fill_53178 : MI := (RJ7, cJ7_fill_53178, 4, none, yJ7_fill_53178)
theorem co_J7_fill_53178 : Cond.code yJ7_fill_53178 cJ7_fill_53178 4 none ∈ wG := in_ix 287 (by decide +kernel) rfl
theorem st_J7_fill_53178 : Cond.static yJ7_fill_53178 ∈ wG := in_ix 286 (by decide +kernel) rfl
theorem cn_X0_22 : CN RX0 22 3 mi_X6_put := ⟨⟨"BeckTalk", List.mem_filter.mpr ⟨List.mem_of_getElem? (i := 654) (by decide +kernel), rfl⟩⟩, st_X6_put, ini_X6, co_X6_put, ⟨by decide +kernel, by decide +kernel, by decide +kernel⟩⟩
theorem cn_X0_26 : CN RX0 26 2 mi_X6_cell := ⟨⟨"BeckTalk", List.mem_filter.mpr ⟨List.mem_of_getElem? (i := 667) (by decide +kernel), rfl⟩⟩, st_X6_cell, ini_X6, co_X6_cell, ⟨by decide +kernel, by decide +kernel, by decide +kernel⟩⟩
theorem ac_X1_34 : Cond.methodLink RX1 34 arraycopyName ∈ wG ∧ Cond.native arraycopyName ∈ wG ∧ Cond.static arraycopyName ∈ wG ∧ Cond.initialized "java/lang/System" ∈ wG := ⟨in_ix 389 (by decide +kernel) rfl, in_ix 284 (by decide +kernel) rfl, in_ix 283 (by decide +kernel) rfl, in_ix 84 (by decide +kernel) rfl⟩
theorem cn_X1_40 : CN RX1 40 3 mi_X6_put := ⟨⟨"BeckTalk", List.mem_filter.mpr ⟨List.mem_of_getElem? (i := 304) (by decide +kernel), rfl⟩⟩, st_X6_put, ini_X6, co_X6_put, ⟨by decide +kernel, by decide +kernel, by decide +kernel⟩⟩
theorem cn_X1_44 : CN RX1 44 2 mi_X6_cell := ⟨⟨"BeckTalk", List.mem_filter.mpr ⟨List.mem_of_getElem? (i := 385) (by decide +kernel), rfl⟩⟩, st_X6_cell, ini_X6, co_X6_cell, ⟨by decide +kernel, by decide +kernel, by decide +kernel⟩⟩
theorem cn_X2_25 : CN RX2 25 3 mi_X6_put := ⟨⟨"BeckTalk", List.mem_filter.mpr ⟨List.mem_of_getElem? (i := 607) (by decide +kernel), rfl⟩⟩, st_X6_put, ini_X6, co_X6_put, ⟨by decide +kernel, by decide +kernel, by decide +kernel⟩⟩
theorem cv_X2_29 : CV RX2 29 2 2 mi_X2_fits := ⟨⟨TX2, 4, rfl⟩, in_ix 692 (by decide +kernel) rfl, im_X2_fits, se_X2_fits, ini_X2, co_X2_fits, ⟨rfl, by decide +kernel, by decide +kernel, by decide +kernel⟩⟩
theorem cv_X2_33 : CV RX2 33 2 1 mi_X2_howMany := ⟨⟨TX2, 4, rfl⟩, in_ix 713 (by decide +kernel) rfl, im_X2_howMany, se_X2_howMany, ini_X2, co_X2_howMany, ⟨rfl, by decide +kernel, by decide +kernel, by decide +kernel⟩⟩
theorem cv_X2_37 : CV RX2 37 2 2 mi_X2_greatestPart := ⟨⟨TX2, 4, rfl⟩, in_ix 714 (by decide +kernel) rfl, im_X2_greatestPart, se_X2_greatestPart, ini_X2, co_X2_greatestPart, ⟨rfl, by decide +kernel, by decide +kernel, by decide +kernel⟩⟩
theorem cs_X2_41 : CS RX2 41 2 mi_J7_fill_53178 := ⟨in_ix 718 (by decide +kernel) rfl, st_J7_fill_53178, ini_J7, co_J7_fill_53178, ⟨by decide +kernel, by decide +kernel, by decide +kernel⟩⟩
theorem cn_X2_47 : CN RX2 47 4 mi_X6_garbledOnce := ⟨⟨"BeckTalk", List.mem_filter.mpr ⟨List.mem_of_getElem? (i := 624) (by decide +kernel), rfl⟩⟩, st_X6_garbledOnce, ini_X6, co_X6_garbledOnce, ⟨by decide +kernel, by decide +kernel, by decide +kernel⟩⟩
theorem cn_X2_51 : CN RX2 51 2 mi_X6_cell := ⟨⟨"BeckTalk", List.mem_filter.mpr ⟨List.mem_of_getElem? (i := 623) (by decide +kernel), rfl⟩⟩, st_X6_cell, ini_X6, co_X6_cell, ⟨by decide +kernel, by decide +kernel, by decide +kernel⟩⟩
theorem cs_X2_55 : CS RX2 55 2 mi_J9_max_7cf53 := ⟨in_ix 719 (by decide +kernel) rfl, st_J9_max_7cf53, ini_J9, co_J9_max_7cf53, ⟨by decide +kernel, by decide +kernel, by decide +kernel⟩⟩
theorem cs_X2_60 : CS RX2 60 3 mi_X2_isListed := ⟨in_ix 696 (by decide +kernel) rfl, st_X2_isListed, ini_X2, co_X2_isListed, ⟨by decide +kernel, by decide +kernel, by decide +kernel⟩⟩
theorem cv_X3_22 : CV RX3 22 3 1 mi_X3_world := ⟨⟨TX3, 3, rfl⟩, in_ix 504 (by decide +kernel) rfl, im_X3_world, se_X3_world, ini_X3, co_X3_world, ⟨rfl, by decide +kernel, by decide +kernel, by decide +kernel⟩⟩
theorem cv_X3_26 : CV RX3 26 5 1 mi_X5_copyFrom := ⟨⟨TX5, 13, rfl⟩, in_ix 508 (by decide +kernel) rfl, im_X5_copyFrom, se_X5_copyFrom, ini_X5, co_X5_copyFrom, ⟨rfl, by decide +kernel, by decide +kernel, by decide +kernel⟩⟩
theorem cs_X3_33 : CS RX3 33 2 mi_J9_min_7cf53 := ⟨in_ix 512 (by decide +kernel) rfl, st_J9_min_7cf53, ini_J9, co_J9_min_7cf53, ⟨by decide +kernel, by decide +kernel, by decide +kernel⟩⟩
theorem cv_X4_19 : CV RX4 19 1 0 mi_X1_clear := ⟨⟨TX1, 7, rfl⟩, in_ix 342 (by decide +kernel) rfl, im_X1_clear, se_X1_clear, ini_X1, co_X1_clear, ⟨rfl, by decide +kernel, by decide +kernel, by decide +kernel⟩⟩
theorem cv_X4_30 : CV RX4 30 4 0 mi_X4_skipBlanks := ⟨⟨TX4, 5, rfl⟩, in_ix 346 (by decide +kernel) rfl, im_X4_skipBlanks, se_X4_skipBlanks, ini_X4, co_X4_skipBlanks, ⟨rfl, by decide +kernel, by decide +kernel, by decide +kernel⟩⟩
theorem cv_X4_36 : CV RX4 36 4 1 mi_X4_readClause := ⟨⟨TX4, 5, rfl⟩, in_ix 353 (by decide +kernel) rfl, im_X4_readClause, se_X4_readClause, ini_X4, co_X4_readClause, ⟨rfl, by decide +kernel, by decide +kernel, by decide +kernel⟩⟩
theorem cn_X4_40 : CN RX4 40 2 mi_X6_cell := ⟨⟨"BeckTalk", List.mem_filter.mpr ⟨List.mem_of_getElem? (i := 274) (by decide +kernel), rfl⟩⟩, st_X6_cell, ini_X6, co_X6_cell, ⟨by decide +kernel, by decide +kernel, by decide +kernel⟩⟩
theorem cv_X4_47 : CV RX4 47 4 1 mi_X4_readBecks := ⟨⟨TX4, 5, rfl⟩, in_ix 357 (by decide +kernel) rfl, im_X4_readBecks, se_X4_readBecks, ini_X4, co_X4_readBecks, ⟨rfl, by decide +kernel, by decide +kernel, by decide +kernel⟩⟩
theorem cv_X4_50 : CV RX4 50 4 2 mi_X4_mark := ⟨⟨TX4, 5, rfl⟩, in_ix 368 (by decide +kernel) rfl, im_X4_mark, se_X4_mark, ini_X4, co_X4_mark, ⟨rfl, by decide +kernel, by decide +kernel, by decide +kernel⟩⟩
theorem cv_X4_54 : CV RX4 54 4 1 mi_X4_readFarm := ⟨⟨TX4, 5, rfl⟩, in_ix 381 (by decide +kernel) rfl, im_X4_readFarm, se_X4_readFarm, ini_X4, co_X4_readFarm, ⟨rfl, by decide +kernel, by decide +kernel, by decide +kernel⟩⟩
theorem cv_X4_57 : CV RX4 57 4 2 mi_X4_readNumber := ⟨⟨TX4, 5, rfl⟩, in_ix 361 (by decide +kernel) rfl, im_X4_readNumber, se_X4_readNumber, ini_X4, co_X4_readNumber, ⟨rfl, by decide +kernel, by decide +kernel, by decide +kernel⟩⟩
theorem cv_X4_61 : CV RX4 61 4 0 mi_X4_readEnd := ⟨⟨TX4, 5, rfl⟩, in_ix 372 (by decide +kernel) rfl, im_X4_readEnd, se_X4_readEnd, ini_X4, co_X4_readEnd, ⟨rfl, by decide +kernel, by decide +kernel, by decide +kernel⟩⟩
theorem cv_X4_70 : CV RX4 70 1 4 mi_X1_addFarm := ⟨⟨TX1, 7, rfl⟩, in_ix 376 (by decide +kernel) rfl, im_X1_addFarm, se_X1_addFarm, ini_X1, co_X1_addFarm, ⟨rfl, by decide +kernel, by decide +kernel, by decide +kernel⟩⟩
theorem cs_X4_74 : CS RX4 74 1 mi_X4_isFigure := ⟨in_ix 365 (by decide +kernel) rfl, st_X4_isFigure, ini_X4, co_X4_isFigure, ⟨by decide +kernel, by decide +kernel, by decide +kernel⟩⟩
theorem ac_X5_57 : Cond.methodLink RX5 57 arraycopyName ∈ wG ∧ Cond.native arraycopyName ∈ wG ∧ Cond.static arraycopyName ∈ wG ∧ Cond.initialized "java/lang/System" ∈ wG := ⟨in_ix 282 (by decide +kernel) rfl, in_ix 284 (by decide +kernel) rfl, in_ix 283 (by decide +kernel) rfl, in_ix 84 (by decide +kernel) rfl⟩
theorem cs_X5_63 : CS RX5 63 2 mi_J7_fill_53178 := ⟨in_ix 285 (by decide +kernel) rfl, st_J7_fill_53178, ini_J7, co_J7_fill_53178, ⟨by decide +kernel, by decide +kernel, by decide +kernel⟩⟩
theorem cn_X5_69 : CN RX5 69 2 mi_X6_cell := ⟨⟨"BeckTalk", List.mem_filter.mpr ⟨List.mem_of_getElem? (i := 369) (by decide +kernel), rfl⟩⟩, st_X6_cell, ini_X6, co_X6_cell, ⟨by decide +kernel, by decide +kernel, by decide +kernel⟩⟩
theorem cv_X5_73 : CV RX5 73 1 1 mi_X1_toGoFrom := ⟨⟨TX1, 7, rfl⟩, in_ix 537 (by decide +kernel) rfl, im_X1_toGoFrom, se_X1_toGoFrom, ini_X1, co_X1_toGoFrom, ⟨rfl, by decide +kernel, by decide +kernel, by decide +kernel⟩⟩
theorem cv_X5_77 : CV RX5 77 5 5 mi_X5_placeTalk := ⟨⟨TX5, 13, rfl⟩, in_ix 538 (by decide +kernel) rfl, im_X5_placeTalk, se_X5_placeTalk, ini_X5, co_X5_placeTalk, ⟨rfl, by decide +kernel, by decide +kernel, by decide +kernel⟩⟩
theorem cv_X5_81 : CV RX5 81 5 2 mi_X5_moveTalk := ⟨⟨TX5, 13, rfl⟩, in_ix 579 (by decide +kernel) rfl, im_X5_moveTalk, se_X5_moveTalk, ini_X5, co_X5_moveTalk, ⟨rfl, by decide +kernel, by decide +kernel, by decide +kernel⟩⟩
theorem cv_X5_85 : CV RX5 85 5 1 mi_X5_pass := ⟨⟨TX5, 13, rfl⟩, in_ix 519 (by decide +kernel) rfl, im_X5_pass, se_X5_pass, ini_X5, co_X5_pass, ⟨rfl, by decide +kernel, by decide +kernel, by decide +kernel⟩⟩
theorem cv_X5_89 : CV RX5 89 5 1 mi_X5_carryAll := ⟨⟨TX5, 13, rfl⟩, in_ix 523 (by decide +kernel) rfl, im_X5_carryAll, se_X5_carryAll, ini_X5, co_X5_carryAll, ⟨rfl, by decide +kernel, by decide +kernel, by decide +kernel⟩⟩
theorem cv_X5_92 : CV RX5 92 5 2 mi_X5_ofTalk := ⟨⟨TX5, 13, rfl⟩, in_ix 527 (by decide +kernel) rfl, im_X5_ofTalk, se_X5_ofTalk, ini_X5, co_X5_ofTalk, ⟨rfl, by decide +kernel, by decide +kernel, by decide +kernel⟩⟩
theorem cv_X5_99 : CV RX5 99 5 3 mi_X5_garbled := ⟨⟨TX5, 13, rfl⟩, in_ix 528 (by decide +kernel) rfl, im_X5_garbled, se_X5_garbled, ini_X5, co_X5_garbled, ⟨rfl, by decide +kernel, by decide +kernel, by decide +kernel⟩⟩
theorem cn_X5_103 : CN RX5 103 2 mi_X6_holds := ⟨⟨"BeckTalk", List.mem_filter.mpr ⟨List.mem_of_getElem? (i := 343) (by decide +kernel), rfl⟩⟩, st_X6_holds, ini_X6, co_X6_holds, ⟨by decide +kernel, by decide +kernel, by decide +kernel⟩⟩
theorem cv_X5_107 : CV RX5 107 5 3 mi_X5_hears := ⟨⟨TX5, 13, rfl⟩, in_ix 529 (by decide +kernel) rfl, im_X5_hears, se_X5_hears, ini_X5, co_X5_hears, ⟨rfl, by decide +kernel, by decide +kernel, by decide +kernel⟩⟩
theorem cv_X5_111 : CV RX5 111 5 1 mi_X5_goesOnFrom := ⟨⟨TX5, 13, rfl⟩, in_ix 536 (by decide +kernel) rfl, im_X5_goesOnFrom, se_X5_goesOnFrom, ini_X5, co_X5_goesOnFrom, ⟨rfl, by decide +kernel, by decide +kernel, by decide +kernel⟩⟩
theorem cs_X5_115 : CS RX5 115 1 mi_J6_bitCount_0f7a4 := ⟨in_ix 542 (by decide +kernel) rfl, st_J6_bitCount_0f7a4, ini_J6, co_J6_bitCount_0f7a4, ⟨by decide +kernel, by decide +kernel, by decide +kernel⟩⟩
theorem cs_X5_120 : CS RX5 120 2 mi_J9_min_7cf53 := ⟨in_ix 535 (by decide +kernel) rfl, st_J9_min_7cf53, ini_J9, co_J9_min_7cf53, ⟨by decide +kernel, by decide +kernel, by decide +kernel⟩⟩
theorem cn_X5_131 : CN RX5 131 4 mi_X6_garbledOnce := ⟨⟨"BeckTalk", List.mem_filter.mpr ⟨List.mem_of_getElem? (i := 370) (by decide +kernel), rfl⟩⟩, st_X6_garbledOnce, ini_X6, co_X6_garbledOnce, ⟨by decide +kernel, by decide +kernel, by decide +kernel⟩⟩
theorem cn_X5_135 : CN RX5 135 3 mi_X6_put := ⟨⟨"BeckTalk", List.mem_filter.mpr ⟨List.mem_of_getElem? (i := 457) (by decide +kernel), rfl⟩⟩, st_X6_put, ini_X6, co_X6_put, ⟨by decide +kernel, by decide +kernel, by decide +kernel⟩⟩
theorem cv_X6_65 : CV RX6 65 5 1 mi_X5_begin := ⟨⟨TX5, 13, rfl⟩, in_ix 278 (by decide +kernel) rfl, im_X5_begin, se_X5_begin, ini_X5, co_X5_begin, ⟨rfl, by decide +kernel, by decide +kernel, by decide +kernel⟩⟩
theorem cs_X6_78 : CS RX6 78 3 mi_X6_put := ⟨in_ix 331 (by decide +kernel) rfl, st_X6_put, ini_X6, co_X6_put, ⟨by decide +kernel, by decide +kernel, by decide +kernel⟩⟩
theorem cv_X6_82 : CV RX6 82 4 1 mi_X4_readInto := ⟨⟨TX4, 5, rfl⟩, in_ix 338 (by decide +kernel) rfl, im_X4_readInto, se_X4_readInto, ini_X4, co_X4_readInto, ⟨rfl, by decide +kernel, by decide +kernel, by decide +kernel⟩⟩
theorem cv_X6_88 : CV RX6 88 1 1 mi_X1_copyFrom := ⟨⟨TX1, 7, rfl⟩, in_ix 385 (by decide +kernel) rfl, im_X1_copyFrom, se_X1_copyFrom, ini_X1, co_X1_copyFrom, ⟨rfl, by decide +kernel, by decide +kernel, by decide +kernel⟩⟩
theorem cv_X6_127 : CV RX6 127 6 0 mi_X6_loudest := ⟨⟨TX6, 12, rfl⟩, in_ix 398 (by decide +kernel) rfl, im_X6_loudest, se_X6_loudest, ini_X6, co_X6_loudest, ⟨rfl, by decide +kernel, by decide +kernel, by decide +kernel⟩⟩
theorem cv_X6_131 : CV RX6 131 6 0 mi_X6_bottom := ⟨⟨TX6, 12, rfl⟩, in_ix 403 (by decide +kernel) rfl, im_X6_bottom, se_X6_bottom, ini_X6, co_X6_bottom, ⟨rfl, by decide +kernel, by decide +kernel, by decide +kernel⟩⟩
theorem cv_X6_134 : CV RX6 134 6 0 mi_X6_even := ⟨⟨TX6, 12, rfl⟩, in_ix 429 (by decide +kernel) rfl, im_X6_even, se_X6_even, ini_X6, co_X6_even, ⟨rfl, by decide +kernel, by decide +kernel, by decide +kernel⟩⟩
theorem cv_X6_137 : CV RX6 137 6 0 mi_X6_longest := ⟨⟨TX6, 12, rfl⟩, in_ix 449 (by decide +kernel) rfl, im_X6_longest, se_X6_longest, ini_X6, co_X6_longest, ⟨rfl, by decide +kernel, by decide +kernel, by decide +kernel⟩⟩
theorem cv_X6_143 : CV RX6 143 6 1 mi_X6_isFarm := ⟨⟨TX6, 12, rfl⟩, in_ix 466 (by decide +kernel) rfl, im_X6_isFarm, se_X6_isFarm, ini_X6, co_X6_isFarm, ⟨rfl, by decide +kernel, by decide +kernel, by decide +kernel⟩⟩
theorem cs_X6_151 : CS RX6 151 2 mi_X6_cell := ⟨in_ix 402 (by decide +kernel) rfl, st_X6_cell, ini_X6, co_X6_cell, ⟨by decide +kernel, by decide +kernel, by decide +kernel⟩⟩
theorem cv_X6_170 : CV RX6 170 6 1 mi_X6_isTalk := ⟨⟨TX6, 12, rfl⟩, in_ix 475 (by decide +kernel) rfl, im_X6_isTalk, se_X6_isTalk, ini_X6, co_X6_isTalk, ⟨rfl, by decide +kernel, by decide +kernel, by decide +kernel⟩⟩
theorem cv_X6_173 : CV RX6 173 5 2 mi_X5_ofTalk := ⟨⟨TX5, 13, rfl⟩, in_ix 479 (by decide +kernel) rfl, im_X5_ofTalk, se_X5_ofTalk, ini_X5, co_X5_ofTalk, ⟨rfl, by decide +kernel, by decide +kernel, by decide +kernel⟩⟩
theorem cv_X6_177 : CV RX6 177 5 2 mi_X5_ofLog := ⟨⟨TX5, 13, rfl⟩, in_ix 487 (by decide +kernel) rfl, im_X5_ofLog, se_X5_ofLog, ini_X5, co_X5_ofLog, ⟨rfl, by decide +kernel, by decide +kernel, by decide +kernel⟩⟩
theorem cv_X6_180 : CV RX6 180 6 1 mi_X6_hoursRefused := ⟨⟨TX6, 12, rfl⟩, in_ix 495 (by decide +kernel) rfl, im_X6_hoursRefused, se_X6_hoursRefused, ini_X6, co_X6_hoursRefused, ⟨rfl, by decide +kernel, by decide +kernel, by decide +kernel⟩⟩
theorem cv_X6_184 : CV RX6 184 3 1 mi_X3_remember := ⟨⟨TX3, 3, rfl⟩, in_ix 500 (by decide +kernel) rfl, im_X3_remember, se_X3_remember, ini_X3, co_X3_remember, ⟨rfl, by decide +kernel, by decide +kernel, by decide +kernel⟩⟩
theorem cv_X6_188 : CV RX6 188 5 2 mi_X5_passHours := ⟨⟨TX5, 13, rfl⟩, in_ix 515 (by decide +kernel) rfl, im_X5_passHours, se_X5_passHours, ini_X5, co_X5_passHours, ⟨rfl, by decide +kernel, by decide +kernel, by decide +kernel⟩⟩
theorem cv_X6_192 : CV RX6 192 6 1 mi_X6_isWord := ⟨⟨TX6, 12, rfl⟩, in_ix 547 (by decide +kernel) rfl, im_X6_isWord, se_X6_isWord, ini_X6, co_X6_isWord, ⟨rfl, by decide +kernel, by decide +kernel, by decide +kernel⟩⟩
theorem cv_X6_196 : CV RX6 196 5 3 mi_X5_enterTalk := ⟨⟨TX5, 13, rfl⟩, in_ix 551 (by decide +kernel) rfl, im_X5_enterTalk, se_X5_enterTalk, ini_X5, co_X5_enterTalk, ⟨rfl, by decide +kernel, by decide +kernel, by decide +kernel⟩⟩
theorem cs_X6_200 : CS RX6 200 2 mi_X6_holds := ⟨in_ix 422 (by decide +kernel) rfl, st_X6_holds, ini_X6, co_X6_holds, ⟨by decide +kernel, by decide +kernel, by decide +kernel⟩⟩
theorem cv_X6_204 : CV RX6 204 5 1 mi_X5_endTalk := ⟨⟨TX5, 13, rfl⟩, in_ix 575 (by decide +kernel) rfl, im_X5_endTalk, se_X5_endTalk, ini_X5, co_X5_endTalk, ⟨rfl, by decide +kernel, by decide +kernel, by decide +kernel⟩⟩
theorem cv_X6_208 : CV RX6 208 6 0 mi_X6_befall := ⟨⟨TX6, 12, rfl⟩, in_ix 587 (by decide +kernel) rfl, im_X6_befall, se_X6_befall, ini_X6, co_X6_befall, ⟨rfl, by decide +kernel, by decide +kernel, by decide +kernel⟩⟩
theorem cv_X6_211 : CV RX6 211 5 1 mi_X5_pass := ⟨⟨TX5, 13, rfl⟩, in_ix 603 (by decide +kernel) rfl, im_X5_pass, se_X5_pass, ini_X5, co_X5_pass, ⟨rfl, by decide +kernel, by decide +kernel, by decide +kernel⟩⟩
theorem cv_X6_214 : CV RX6 214 3 1 mi_X3_bringBack := ⟨⟨TX3, 3, rfl⟩, in_ix 608 (by decide +kernel) rfl, im_X3_bringBack, se_X3_bringBack, ini_X3, co_X3_bringBack, ⟨rfl, by decide +kernel, by decide +kernel, by decide +kernel⟩⟩
theorem cv_X6_217 : CV RX6 217 6 1 mi_X6_downOf := ⟨⟨TX6, 12, rfl⟩, in_ix 411 (by decide +kernel) rfl, im_X6_downOf, se_X6_downOf, ini_X6, co_X6_downOf, ⟨rfl, by decide +kernel, by decide +kernel, by decide +kernel⟩⟩
theorem cv_X6_220 : CV RX6 220 6 1 mi_X6_upOf := ⟨⟨TX6, 12, rfl⟩, in_ix 407 (by decide +kernel) rfl, im_X6_upOf, se_X6_upOf, ini_X6, co_X6_upOf, ⟨rfl, by decide +kernel, by decide +kernel, by decide +kernel⟩⟩
theorem cv_X6_223 : CV RX6 223 6 3 mi_X6_wordAt := ⟨⟨TX6, 12, rfl⟩, in_ix 437 (by decide +kernel) rfl, im_X6_wordAt, se_X6_wordAt, ini_X6, co_X6_wordAt, ⟨rfl, by decide +kernel, by decide +kernel, by decide +kernel⟩⟩
theorem cv_X6_227 : CV RX6 227 6 2 mi_X6_hoursTo := ⟨⟨TX6, 12, rfl⟩, in_ix 453 (by decide +kernel) rfl, im_X6_hoursTo, se_X6_hoursTo, ini_X6, co_X6_hoursTo, ⟨rfl, by decide +kernel, by decide +kernel, by decide +kernel⟩⟩
theorem cv_X6_230 : CV RX6 230 6 3 mi_X6_wordsFor := ⟨⟨TX6, 12, rfl⟩, in_ix 632 (by decide +kernel) rfl, im_X6_wordsFor, se_X6_wordsFor, ini_X6, co_X6_wordsFor, ⟨rfl, by decide +kernel, by decide +kernel, by decide +kernel⟩⟩
theorem cs_X6_233 : CS RX6 233 1 mi_J6_bitCount_0f7a4 := ⟨in_ix 423 (by decide +kernel) rfl, st_J6_bitCount_0f7a4, ini_J6, co_J6_bitCount_0f7a4, ⟨by decide +kernel, by decide +kernel, by decide +kernel⟩⟩
theorem cv_X6_238 : CV RX6 238 6 1 mi_X6_areFarms := ⟨⟨TX6, 12, rfl⟩, in_ix 644 (by decide +kernel) rfl, im_X6_areFarms, se_X6_areFarms, ini_X6, co_X6_areFarms, ⟨rfl, by decide +kernel, by decide +kernel, by decide +kernel⟩⟩
theorem cv_X6_241 : CV RX6 241 6 2 mi_X6_fewestDams := ⟨⟨TX6, 12, rfl⟩, in_ix 652 (by decide +kernel) rfl, im_X6_fewestDams, se_X6_fewestDams, ini_X6, co_X6_fewestDams, ⟨rfl, by decide +kernel, by decide +kernel, by decide +kernel⟩⟩
theorem cv_X6_244 : CV RX6 244 5 1 mi_X5_copyFrom := ⟨⟨TX5, 13, rfl⟩, in_ix 660 (by decide +kernel) rfl, im_X5_copyFrom, se_X5_copyFrom, ini_X5, co_X5_copyFrom, ⟨rfl, by decide +kernel, by decide +kernel, by decide +kernel⟩⟩
theorem cv_X6_246 : CV RX6 246 5 1 mi_X5_leaveOnly := ⟨⟨TX5, 13, rfl⟩, in_ix 665 (by decide +kernel) rfl, im_X5_leaveOnly, se_X5_leaveOnly, ini_X5, co_X5_leaveOnly, ⟨rfl, by decide +kernel, by decide +kernel, by decide +kernel⟩⟩
theorem cv_X6_253 : CV RX6 253 2 2 mi_X2_add := ⟨⟨TX2, 4, rfl⟩, in_ix 679 (by decide +kernel) rfl, im_X2_add, se_X2_add, ini_X2, co_X2_add, ⟨rfl, by decide +kernel, by decide +kernel, by decide +kernel⟩⟩
theorem cv_X6_257 : CV RX6 257 2 1 mi_X2_howMany := ⟨⟨TX2, 4, rfl⟩, in_ix 688 (by decide +kernel) rfl, im_X2_howMany, se_X2_howMany, ini_X2, co_X2_howMany, ⟨rfl, by decide +kernel, by decide +kernel, by decide +kernel⟩⟩
theorem cv_X6_260 : CV RX6 260 2 1 mi_X2_first := ⟨⟨TX2, 4, rfl⟩, in_ix 701 (by decide +kernel) rfl, im_X2_first, se_X2_first, ini_X2, co_X2_first, ⟨rfl, by decide +kernel, by decide +kernel, by decide +kernel⟩⟩
theorem cv_X6_263 : CV RX6 263 2 1 mi_X2_bestWord := ⟨⟨TX2, 4, rfl⟩, in_ix 709 (by decide +kernel) rfl, im_X2_bestWord, se_X2_bestWord, ini_X2, co_X2_bestWord, ⟨rfl, by decide +kernel, by decide +kernel, by decide +kernel⟩⟩
theorem cv_X6_266 : CV RX6 266 0 2 mi_X0_add := ⟨⟨TX0, 3, rfl⟩, in_ix 726 (by decide +kernel) rfl, im_X0_add, se_X0_add, ini_X0, co_X0_add, ⟨rfl, by decide +kernel, by decide +kernel, by decide +kernel⟩⟩
theorem cv_X6_267 : CV RX6 267 0 1 mi_X0_firstWrong := ⟨⟨TX0, 3, rfl⟩, in_ix 739 (by decide +kernel) rfl, im_X0_firstWrong, se_X0_firstWrong, ini_X0, co_X0_firstWrong, ⟨rfl, by decide +kernel, by decide +kernel, by decide +kernel⟩⟩
theorem cv_X6_274 : CV RX6 274 6 1 mi_X6_image := ⟨⟨TX6, 12, rfl⟩, in_ix 752 (by decide +kernel) rfl, im_X6_image, se_X6_image, ini_X6, co_X6_image, ⟨rfl, by decide +kernel, by decide +kernel, by decide +kernel⟩⟩
theorem cv_X6_278 : CV RX6 278 5 1 mi_X5_goesOnFrom := ⟨⟨TX5, 13, rfl⟩, in_ix 415 (by decide +kernel) rfl, im_X5_goesOnFrom, se_X5_goesOnFrom, ini_X5, co_X5_goesOnFrom, ⟨rfl, by decide +kernel, by decide +kernel, by decide +kernel⟩⟩
theorem cv_X6_281 : CV RX6 281 5 3 mi_X5_garbled := ⟨⟨TX5, 13, rfl⟩, in_ix 441 (by decide +kernel) rfl, im_X5_garbled, se_X5_garbled, ini_X5, co_X5_garbled, ⟨rfl, by decide +kernel, by decide +kernel, by decide +kernel⟩⟩
theorem cv_X6_285 : CV RX6 285 1 1 mi_X1_toGoFrom := ⟨⟨TX1, 7, rfl⟩, in_ix 457 (by decide +kernel) rfl, im_X1_toGoFrom, se_X1_toGoFrom, ini_X1, co_X1_toGoFrom, ⟨rfl, by decide +kernel, by decide +kernel, by decide +kernel⟩⟩
theorem cv_X6_288 : CV RX6 288 6 1 mi_X6_leavesAllAlone := ⟨⟨TX6, 12, rfl⟩, in_ix 433 (by decide +kernel) rfl, im_X6_leavesAllAlone, se_X6_leavesAllAlone, ini_X6, co_X6_leavesAllAlone, ⟨rfl, by decide +kernel, by decide +kernel, by decide +kernel⟩⟩
theorem cv_X6_298 : CV RX6 298 6 1 mi_X6_draw := ⟨⟨TX6, 12, rfl⟩, in_ix 591 (by decide +kernel) rfl, im_X6_draw, se_X6_draw, ini_X6, co_X6_draw, ⟨rfl, by decide +kernel, by decide +kernel, by decide +kernel⟩⟩
theorem cv_X6_301 : CV RX6 301 6 0 mi_X6_befallTalk := ⟨⟨TX6, 12, rfl⟩, in_ix 599 (by decide +kernel) rfl, im_X6_befallTalk, se_X6_befallTalk, ini_X6, co_X6_befallTalk, ⟨rfl, by decide +kernel, by decide +kernel, by decide +kernel⟩⟩
theorem cv_X7_78 : CV RX7 78 7 0 mi_X7_emptyAll := ⟨⟨TX7, 36, rfl⟩, in_ix 766 (by decide +kernel) rfl, im_X7_emptyAll, se_X7_emptyAll, ini_X7, co_X7_emptyAll, ⟨rfl, by decide +kernel, by decide +kernel, by decide +kernel⟩⟩
theorem cs_X7_84 : CS RX7 84 3 mi_X7_in := ⟨in_ix 885 (by decide +kernel) rfl, st_X7_in, ini_X7, co_X7_in, ⟨by decide +kernel, by decide +kernel, by decide +kernel⟩⟩
theorem cv_X7_101 : CV RX7 101 7 0 mi_X7_here := ⟨⟨TX7, 36, rfl⟩, in_ix 894 (by decide +kernel) rfl, im_X7_here, se_X7_here, ini_X7, co_X7_here, ⟨rfl, by decide +kernel, by decide +kernel, by decide +kernel⟩⟩
theorem cv_X7_109 : CV RX7 109 7 2 mi_X7_fails := ⟨⟨TX7, 36, rfl⟩, in_ix 902 (by decide +kernel) rfl, im_X7_fails, se_X7_fails, ini_X7, co_X7_fails, ⟨rfl, by decide +kernel, by decide +kernel, by decide +kernel⟩⟩
theorem cv_X7_119 : CV RX7 119 7 2 mi_X7_takeNumber := ⟨⟨TX7, 36, rfl⟩, in_ix 910 (by decide +kernel) rfl, im_X7_takeNumber, se_X7_takeNumber, ini_X7, co_X7_takeNumber, ⟨rfl, by decide +kernel, by decide +kernel, by decide +kernel⟩⟩
theorem cv_X7_131 : CV RX7 131 7 4 mi_X7_into := ⟨⟨TX7, 36, rfl⟩, in_ix 920 (by decide +kernel) rfl, im_X7_into, se_X7_into, ini_X7, co_X7_into, ⟨rfl, by decide +kernel, by decide +kernel, by decide +kernel⟩⟩
theorem cv_X7_135 : CV RX7 135 7 0 mi_X7_takeBeck := ⟨⟨TX7, 36, rfl⟩, in_ix 906 (by decide +kernel) rfl, im_X7_takeBeck, se_X7_takeBeck, ini_X7, co_X7_takeBeck, ⟨rfl, by decide +kernel, by decide +kernel, by decide +kernel⟩⟩
theorem cv_X7_138 : CV RX7 138 7 0 mi_X7_takeFarm := ⟨⟨TX7, 36, rfl⟩, in_ix 916 (by decide +kernel) rfl, im_X7_takeFarm, se_X7_takeFarm, ini_X7, co_X7_takeFarm, ⟨rfl, by decide +kernel, by decide +kernel, by decide +kernel⟩⟩
theorem cv_X7_144 : CV RX7 144 7 0 mi_X7_takeClause := ⟨⟨TX7, 36, rfl⟩, in_ix 898 (by decide +kernel) rfl, im_X7_takeClause, se_X7_takeClause, ini_X7, co_X7_takeClause, ⟨rfl, by decide +kernel, by decide +kernel, by decide +kernel⟩⟩
theorem cv_X7_147 : CV RX7 147 7 0 mi_X7_takeRead := ⟨⟨TX7, 36, rfl⟩, in_ix 924 (by decide +kernel) rfl, im_X7_takeRead, se_X7_takeRead, ini_X7, co_X7_takeRead, ⟨rfl, by decide +kernel, by decide +kernel, by decide +kernel⟩⟩
theorem cv_X7_159 : CV RX7 159 7 3 mi_X7_garbleBy := ⟨⟨TX7, 36, rfl⟩, in_ix 974 (by decide +kernel) rfl, im_X7_garbleBy, se_X7_garbleBy, ini_X7, co_X7_garbleBy, ⟨rfl, by decide +kernel, by decide +kernel, by decide +kernel⟩⟩
theorem cs_X7_163 : CS RX7 163 2 mi_X7_has := ⟨in_ix 956 (by decide +kernel) rfl, st_X7_has, ini_X7, co_X7_has, ⟨by decide +kernel, by decide +kernel, by decide +kernel⟩⟩
theorem cv_X7_168 : CV RX7 168 7 1 mi_X7_toGo := ⟨⟨TX7, 36, rfl⟩, in_ix 1007 (by decide +kernel) rfl, im_X7_toGo, se_X7_toGo, ini_X7, co_X7_toGo, ⟨rfl, by decide +kernel, by decide +kernel, by decide +kernel⟩⟩
theorem cv_X7_172 : CV RX7 172 7 1 mi_X7_goesFrom := ⟨⟨TX7, 36, rfl⟩, in_ix 1003 (by decide +kernel) rfl, im_X7_goesFrom, se_X7_goesFrom, ini_X7, co_X7_goesFrom, ⟨rfl, by decide +kernel, by decide +kernel, by decide +kernel⟩⟩
theorem cv_X7_175 : CV RX7 175 7 1 mi_X7_wordOf := ⟨⟨TX7, 36, rfl⟩, in_ix 999 (by decide +kernel) rfl, im_X7_wordOf, se_X7_wordOf, ini_X7, co_X7_wordOf, ⟨rfl, by decide +kernel, by decide +kernel, by decide +kernel⟩⟩
theorem cv_X7_178 : CV RX7 178 7 1 mi_X7_saidAt := ⟨⟨TX7, 36, rfl⟩, in_ix 1011 (by decide +kernel) rfl, im_X7_saidAt, se_X7_saidAt, ini_X7, co_X7_saidAt, ⟨rfl, by decide +kernel, by decide +kernel, by decide +kernel⟩⟩
theorem cs_X7_181 : CS RX7 181 4 mi_X7_packed := ⟨in_ix 1046 (by decide +kernel) rfl, st_X7_packed, ini_X7, co_X7_packed, ⟨by decide +kernel, by decide +kernel, by decide +kernel⟩⟩
theorem cv_X7_185 : CV RX7 185 7 2 mi_X7_overFall := ⟨⟨TX7, 36, rfl⟩, in_ix 970 (by decide +kernel) rfl, im_X7_overFall, se_X7_overFall, ini_X7, co_X7_overFall, ⟨rfl, by decide +kernel, by decide +kernel, by decide +kernel⟩⟩
theorem cv_X7_188 : CV RX7 188 7 3 mi_X7_hears := ⟨⟨TX7, 36, rfl⟩, in_ix 1049 (by decide +kernel) rfl, im_X7_hears, se_X7_hears, ini_X7, co_X7_hears, ⟨rfl, by decide +kernel, by decide +kernel, by decide +kernel⟩⟩
theorem cv_X7_192 : CV RX7 192 7 1 mi_X7_stopsAt := ⟨⟨TX7, 36, rfl⟩, in_ix 952 (by decide +kernel) rfl, im_X7_stopsAt, se_X7_stopsAt, ini_X7, co_X7_stopsAt, ⟨rfl, by decide +kernel, by decide +kernel, by decide +kernel⟩⟩
theorem cv_X7_196 : CV RX7 196 7 1 mi_X7_go := ⟨⟨TX7, 36, rfl⟩, in_ix 1042 (by decide +kernel) rfl, im_X7_go, se_X7_go, ini_X7, co_X7_go, ⟨rfl, by decide +kernel, by decide +kernel, by decide +kernel⟩⟩
theorem cv_X7_199 : CV RX7 199 7 1 mi_X7_takeOff := ⟨⟨TX7, 36, rfl⟩, in_ix 1054 (by decide +kernel) rfl, im_X7_takeOff, se_X7_takeOff, ini_X7, co_X7_takeOff, ⟨rfl, by decide +kernel, by decide +kernel, by decide +kernel⟩⟩
theorem cv_X7_203 : CV RX7 203 7 0 mi_X7_goAll := ⟨⟨TX7, 36, rfl⟩, in_ix 1038 (by decide +kernel) rfl, im_X7_goAll, se_X7_goAll, ini_X7, co_X7_goAll, ⟨rfl, by decide +kernel, by decide +kernel, by decide +kernel⟩⟩
theorem cv_X7_206 : CV RX7 206 7 1 mi_X7_downOf := ⟨⟨TX7, 36, rfl⟩, in_ix 948 (by decide +kernel) rfl, im_X7_downOf, se_X7_downOf, ini_X7, co_X7_downOf, ⟨rfl, by decide +kernel, by decide +kernel, by decide +kernel⟩⟩
theorem cv_X7_209 : CV RX7 209 7 1 mi_X7_upOf := ⟨⟨TX7, 36, rfl⟩, in_ix 944 (by decide +kernel) rfl, im_X7_upOf, se_X7_upOf, ini_X7, co_X7_upOf, ⟨rfl, by decide +kernel, by decide +kernel, by decide +kernel⟩⟩
theorem cs_X7_212 : CS RX7 212 1 mi_X7_bits := ⟨in_ix 959 (by decide +kernel) rfl, st_X7_bits, ini_X7, co_X7_bits, ⟨by decide +kernel, by decide +kernel, by decide +kernel⟩⟩
theorem cv_X7_215 : CV RX7 215 7 3 mi_X7_wordAt := ⟨⟨TX7, 36, rfl⟩, in_ix 966 (by decide +kernel) rfl, im_X7_wordAt, se_X7_wordAt, ini_X7, co_X7_wordAt, ⟨rfl, by decide +kernel, by decide +kernel, by decide +kernel⟩⟩
theorem cv_X7_218 : CV RX7 218 7 2 mi_X7_hoursTo := ⟨⟨TX7, 36, rfl⟩, in_ix 982 (by decide +kernel) rfl, im_X7_hoursTo, se_X7_hoursTo, ini_X7, co_X7_hoursTo, ⟨rfl, by decide +kernel, by decide +kernel, by decide +kernel⟩⟩
theorem cv_X7_221 : CV RX7 221 7 0 mi_X7_loudest := ⟨⟨TX7, 36, rfl⟩, in_ix 936 (by decide +kernel) rfl, im_X7_loudest, se_X7_loudest, ini_X7, co_X7_loudest, ⟨rfl, by decide +kernel, by decide +kernel, by decide +kernel⟩⟩
theorem cv_X7_224 : CV RX7 224 7 0 mi_X7_bottom := ⟨⟨TX7, 36, rfl⟩, in_ix 940 (by decide +kernel) rfl, im_X7_bottom, se_X7_bottom, ini_X7, co_X7_bottom, ⟨rfl, by decide +kernel, by decide +kernel, by decide +kernel⟩⟩
theorem cv_X7_227 : CV RX7 227 7 0 mi_X7_even := ⟨⟨TX7, 36, rfl⟩, in_ix 962 (by decide +kernel) rfl, im_X7_even, se_X7_even, ini_X7, co_X7_even, ⟨rfl, by decide +kernel, by decide +kernel, by decide +kernel⟩⟩
theorem cv_X7_230 : CV RX7 230 7 0 mi_X7_longest := ⟨⟨TX7, 36, rfl⟩, in_ix 978 (by decide +kernel) rfl, im_X7_longest, se_X7_longest, ini_X7, co_X7_longest, ⟨rfl, by decide +kernel, by decide +kernel, by decide +kernel⟩⟩
theorem cv_X7_233 : CV RX7 233 7 1 mi_X7_isFarm := ⟨⟨TX7, 36, rfl⟩, in_ix 990 (by decide +kernel) rfl, im_X7_isFarm, se_X7_isFarm, ini_X7, co_X7_isFarm, ⟨rfl, by decide +kernel, by decide +kernel, by decide +kernel⟩⟩
theorem cv_X7_242 : CV RX7 242 7 1 mi_X7_hoursRefused := ⟨⟨TX7, 36, rfl⟩, in_ix 1024 (by decide +kernel) rfl, im_X7_hoursRefused, se_X7_hoursRefused, ini_X7, co_X7_hoursRefused, ⟨rfl, by decide +kernel, by decide +kernel, by decide +kernel⟩⟩
theorem cv_X7_245 : CV RX7 245 7 0 mi_X7_remember := ⟨⟨TX7, 36, rfl⟩, in_ix 1030 (by decide +kernel) rfl, im_X7_remember, se_X7_remember, ini_X7, co_X7_remember, ⟨rfl, by decide +kernel, by decide +kernel, by decide +kernel⟩⟩
theorem cv_X7_248 : CV RX7 248 7 0 mi_X7_pass := ⟨⟨TX7, 36, rfl⟩, in_ix 1034 (by decide +kernel) rfl, im_X7_pass, se_X7_pass, ini_X7, co_X7_pass, ⟨rfl, by decide +kernel, by decide +kernel, by decide +kernel⟩⟩
theorem cv_X7_251 : CV RX7 251 7 1 mi_X7_isWord := ⟨⟨TX7, 36, rfl⟩, in_ix 1062 (by decide +kernel) rfl, im_X7_isWord, se_X7_isWord, ini_X7, co_X7_isWord, ⟨rfl, by decide +kernel, by decide +kernel, by decide +kernel⟩⟩
theorem cv_X7_254 : CV RX7 254 7 2 mi_X7_sayNow := ⟨⟨TX7, 36, rfl⟩, in_ix 1066 (by decide +kernel) rfl, im_X7_sayNow, se_X7_sayNow, ini_X7, co_X7_sayNow, ⟨rfl, by decide +kernel, by decide +kernel, by decide +kernel⟩⟩
theorem cv_X7_270 : CV RX7 270 7 1 mi_X7_draw := ⟨⟨TX7, 36, rfl⟩, in_ix 1099 (by decide +kernel) rfl, im_X7_draw, se_X7_draw, ini_X7, co_X7_draw, ⟨rfl, by decide +kernel, by decide +kernel, by decide +kernel⟩⟩
theorem cv_X7_273 : CV RX7 273 7 0 mi_X7_chance := ⟨⟨TX7, 36, rfl⟩, in_ix 1095 (by decide +kernel) rfl, im_X7_chance, se_X7_chance, ini_X7, co_X7_chance, ⟨rfl, by decide +kernel, by decide +kernel, by decide +kernel⟩⟩
theorem cv_X7_276 : CV RX7 276 7 3 mi_X7_wordsFor := ⟨⟨TX7, 36, rfl⟩, in_ix 1131 (by decide +kernel) rfl, im_X7_wordsFor, se_X7_wordsFor, ini_X7, co_X7_wordsFor, ⟨rfl, by decide +kernel, by decide +kernel, by decide +kernel⟩⟩
theorem cv_X7_279 : CV RX7 279 7 1 mi_X7_isSet := ⟨⟨TX7, 36, rfl⟩, in_ix 1143 (by decide +kernel) rfl, im_X7_isSet, se_X7_isSet, ini_X7, co_X7_isSet, ⟨rfl, by decide +kernel, by decide +kernel, by decide +kernel⟩⟩
theorem cv_X7_284 : CV RX7 284 7 0 mi_X7_keepBefore := ⟨⟨TX7, 36, rfl⟩, in_ix 1156 (by decide +kernel) rfl, im_X7_keepBefore, se_X7_keepBefore, ini_X7, co_X7_keepBefore, ⟨rfl, by decide +kernel, by decide +kernel, by decide +kernel⟩⟩
theorem cv_X7_287 : CV RX7 287 7 0 mi_X7_putBack := ⟨⟨TX7, 36, rfl⟩, in_ix 1160 (by decide +kernel) rfl, im_X7_putBack, se_X7_putBack, ini_X7, co_X7_putBack, ⟨rfl, by decide +kernel, by decide +kernel, by decide +kernel⟩⟩
theorem cv_X7_292 : CV RX7 292 7 1 mi_X7_couldFall := ⟨⟨TX7, 36, rfl⟩, in_ix 1181 (by decide +kernel) rfl, im_X7_couldFall, se_X7_couldFall, ini_X7, co_X7_couldFall, ⟨rfl, by decide +kernel, by decide +kernel, by decide +kernel⟩⟩
theorem cv_X7_295 : CV RX7 295 7 1 mi_X7_falls := ⟨⟨TX7, 36, rfl⟩, in_ix 1189 (by decide +kernel) rfl, im_X7_falls, se_X7_falls, ini_X7, co_X7_falls, ⟨rfl, by decide +kernel, by decide +kernel, by decide +kernel⟩⟩
theorem cv_X7_298 : CV RX7 298 7 1 mi_X7_greatestPart := ⟨⟨TX7, 36, rfl⟩, in_ix 1190 (by decide +kernel) rfl, im_X7_greatestPart, se_X7_greatestPart, ini_X7, co_X7_greatestPart, ⟨rfl, by decide +kernel, by decide +kernel, by decide +kernel⟩⟩
end
