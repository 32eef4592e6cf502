section
-- ===== PART A: goes FIRST, ahead of the names: the tables' words, and 'selects' of the private methods out of them =====
/-- a private method of a class that the tables say can be made, by its rows of tables_1 -/
def lw_okq (q : MethodName × Nat) : Prop := (q.1.cls ≠ "java/lang/invoke/MethodHandle" ∧ q.1.cls ≠ "java/lang/invoke/VarHandle") ∧ Cond.instantiable q.1.cls q.2 ∈ tables_1 ∧ Cond.privateMethod q.1 ∈ tables_1 ∧ Cond.instanceMethod q.1 ∈ tables_1
theorem lw_p0 : lw_okq (⟨"UniverseLevels$Text", "append", "(I)Z"⟩, 3) := ⟨⟨by decide +kernel, by decide +kernel⟩, List.mem_of_getElem? (i := 25) (by decide +kernel), List.mem_of_getElem? (i := 212) (by decide +kernel), List.mem_of_getElem? (i := 213) (by decide +kernel)⟩
theorem lw_p1 : lw_okq (⟨"UniverseLevels", "layText", "()V"⟩, 13) := ⟨⟨by decide +kernel, by decide +kernel⟩, List.mem_of_getElem? (i := 17) (by decide +kernel), List.mem_of_getElem? (i := 216) (by decide +kernel), List.mem_of_getElem? (i := 217) (by decide +kernel)⟩
theorem lw_p2 : lw_okq (⟨"UniverseLevels$Text", "letterAt", "(I)I"⟩, 3) := ⟨⟨by decide +kernel, by decide +kernel⟩, List.mem_of_getElem? (i := 25) (by decide +kernel), List.mem_of_getElem? (i := 220) (by decide +kernel), List.mem_of_getElem? (i := 221) (by decide +kernel)⟩
theorem lw_p3 : lw_okq (⟨"UniverseLevels$Text", "readItem", "(I)I"⟩, 3) := ⟨⟨by decide +kernel, by decide +kernel⟩, List.mem_of_getElem? (i := 25) (by decide +kernel), List.mem_of_getElem? (i := 224) (by decide +kernel), List.mem_of_getElem? (i := 225) (by decide +kernel)⟩
theorem lw_p4 : lw_okq (⟨"UniverseLevels$Text", "figuresAt", "(I)I"⟩, 3) := ⟨⟨by decide +kernel, by decide +kernel⟩, List.mem_of_getElem? (i := 25) (by decide +kernel), List.mem_of_getElem? (i := 232) (by decide +kernel), List.mem_of_getElem? (i := 233) (by decide +kernel)⟩
theorem lw_p5 : lw_okq (⟨"UniverseLevels$Text", "numberAt", "(II)I"⟩, 3) := ⟨⟨by decide +kernel, by decide +kernel⟩, List.mem_of_getElem? (i := 25) (by decide +kernel), List.mem_of_getElem? (i := 239) (by decide +kernel), List.mem_of_getElem? (i := 240) (by decide +kernel)⟩
theorem lw_p6 : lw_okq (⟨"UniverseLevels", "layItem", "(I[I)V"⟩, 13) := ⟨⟨by decide +kernel, by decide +kernel⟩, List.mem_of_getElem? (i := 17) (by decide +kernel), List.mem_of_getElem? (i := 243) (by decide +kernel), List.mem_of_getElem? (i := 244) (by decide +kernel)⟩
theorem lw_p7 : lw_okq (⟨"UniverseLevels$State", "addLevel", "(I)V"⟩, 6) := ⟨⟨by decide +kernel, by decide +kernel⟩, List.mem_of_getElem? (i := 44) (by decide +kernel), List.mem_of_getElem? (i := 247) (by decide +kernel), List.mem_of_getElem? (i := 248) (by decide +kernel)⟩
theorem lw_p8 : lw_okq (⟨"UniverseLevels$Lengths", "measure", "(LUniverseLevels$State;)V"⟩, 2) := ⟨⟨by decide +kernel, by decide +kernel⟩, List.mem_of_getElem? (i := 86) (by decide +kernel), List.mem_of_getElem? (i := 251) (by decide +kernel), List.mem_of_getElem? (i := 252) (by decide +kernel)⟩
theorem lw_p9 : lw_okq (⟨"UniverseLevels$State", "lengthsFrom", "(II[I)V"⟩, 6) := ⟨⟨by decide +kernel, by decide +kernel⟩, List.mem_of_getElem? (i := 44) (by decide +kernel), List.mem_of_getElem? (i := 255) (by decide +kernel), List.mem_of_getElem? (i := 256) (by decide +kernel)⟩
theorem lw_p10 : lw_okq (⟨"UniverseLevels$State", "lengthen", "(I[I)Z"⟩, 6) := ⟨⟨by decide +kernel, by decide +kernel⟩, List.mem_of_getElem? (i := 44) (by decide +kernel), List.mem_of_getElem? (i := 263) (by decide +kernel), List.mem_of_getElem? (i := 264) (by decide +kernel)⟩
theorem lw_p11 : lw_okq (⟨"UniverseLevels", "pose", "(III)I"⟩, 13) := ⟨⟨by decide +kernel, by decide +kernel⟩, List.mem_of_getElem? (i := 17) (by decide +kernel), List.mem_of_getElem? (i := 267) (by decide +kernel), List.mem_of_getElem? (i := 268) (by decide +kernel)⟩
theorem lw_p12 : lw_okq (⟨"UniverseLevels$State", "weightTowards", "(II)I"⟩, 6) := ⟨⟨by decide +kernel, by decide +kernel⟩, List.mem_of_getElem? (i := 44) (by decide +kernel), List.mem_of_getElem? (i := 271) (by decide +kernel), List.mem_of_getElem? (i := 272) (by decide +kernel)⟩
theorem lw_p13 : lw_okq (⟨"UniverseLevels$Lengths", "leads", "(II)Z"⟩, 2) := ⟨⟨by decide +kernel, by decide +kernel⟩, List.mem_of_getElem? (i := 86) (by decide +kernel), List.mem_of_getElem? (i := 275) (by decide +kernel), List.mem_of_getElem? (i := 276) (by decide +kernel)⟩
theorem lw_p14 : lw_okq (⟨"UniverseLevels$Round", "trace", "(LUniverseLevels$State;LUniverseLevels$Lengths;II)V"⟩, 4) := ⟨⟨by decide +kernel, by decide +kernel⟩, List.mem_of_getElem? (i := 142) (by decide +kernel), List.mem_of_getElem? (i := 280) (by decide +kernel), List.mem_of_getElem? (i := 281) (by decide +kernel)⟩
theorem lw_p15 : lw_okq (⟨"UniverseLevels$Round", "countFewest", "(LUniverseLevels$State;LUniverseLevels$Lengths;I)V"⟩, 4) := ⟨⟨by decide +kernel, by decide +kernel⟩, List.mem_of_getElem? (i := 142) (by decide +kernel), List.mem_of_getElem? (i := 284) (by decide +kernel), List.mem_of_getElem? (i := 285) (by decide +kernel)⟩
def lw_privs_1 : List (MethodName × Nat) := [(⟨"UniverseLevels$Text", "append", "(I)Z"⟩, 3), (⟨"UniverseLevels", "layText", "()V"⟩, 13), (⟨"UniverseLevels$Text", "letterAt", "(I)I"⟩, 3), (⟨"UniverseLevels$Text", "readItem", "(I)I"⟩, 3), (⟨"UniverseLevels$Text", "figuresAt", "(I)I"⟩, 3), (⟨"UniverseLevels$Text", "numberAt", "(II)I"⟩, 3), (⟨"UniverseLevels", "layItem", "(I[I)V"⟩, 13), (⟨"UniverseLevels$State", "addLevel", "(I)V"⟩, 6), (⟨"UniverseLevels$Lengths", "measure", "(LUniverseLevels$State;)V"⟩, 2), (⟨"UniverseLevels$State", "lengthsFrom", "(II[I)V"⟩, 6), (⟨"UniverseLevels$State", "lengthen", "(I[I)Z"⟩, 6), (⟨"UniverseLevels", "pose", "(III)I"⟩, 13), (⟨"UniverseLevels$State", "weightTowards", "(II)I"⟩, 6), (⟨"UniverseLevels$Lengths", "leads", "(II)Z"⟩, 2), (⟨"UniverseLevels$Round", "trace", "(LUniverseLevels$State;LUniverseLevels$Lengths;II)V"⟩, 4), (⟨"UniverseLevels$Round", "countFewest", "(LUniverseLevels$State;LUniverseLevels$Lengths;I)V"⟩, 4)]
theorem lw_r1 : ∀ q ∈ lw_privs_1, lw_okq q := List.forall_mem_cons.mpr ⟨lw_p0, List.forall_mem_cons.mpr ⟨lw_p1, List.forall_mem_cons.mpr ⟨lw_p2, List.forall_mem_cons.mpr ⟨lw_p3, List.forall_mem_cons.mpr ⟨lw_p4, List.forall_mem_cons.mpr ⟨lw_p5, List.forall_mem_cons.mpr ⟨lw_p6, List.forall_mem_cons.mpr ⟨lw_p7, List.forall_mem_cons.mpr ⟨lw_p8, List.forall_mem_cons.mpr ⟨lw_p9, List.forall_mem_cons.mpr ⟨lw_p10, List.forall_mem_cons.mpr ⟨lw_p11, List.forall_mem_cons.mpr ⟨lw_p12, List.forall_mem_cons.mpr ⟨lw_p13, List.forall_mem_cons.mpr ⟨lw_p14, List.forall_mem_cons.mpr ⟨lw_p15, fun _ h => absurd h List.not_mem_nil⟩⟩⟩⟩⟩⟩⟩⟩⟩⟩⟩⟩⟩⟩⟩⟩
theorem lw_p16 : lw_okq (⟨"UniverseLevels$Round", "nextLevel", "(LUniverseLevels$State;LUniverseLevels$Lengths;II)I"⟩, 4) := ⟨⟨by decide +kernel, by decide +kernel⟩, List.mem_of_getElem? (i := 142) (by decide +kernel), List.mem_of_getElem? (i := 296) (by decide +kernel), List.mem_of_getElem? (i := 297) (by decide +kernel)⟩
theorem lw_p17 : lw_okq (⟨"UniverseLevels", "remember", "()V"⟩, 13) := ⟨⟨by decide +kernel, by decide +kernel⟩, List.mem_of_getElem? (i := 17) (by decide +kernel), List.mem_of_getElem? (i := 300) (by decide +kernel), List.mem_of_getElem? (i := 301) (by decide +kernel)⟩
theorem lw_p18 : lw_okq (⟨"UniverseLevels$State", "copy", "(LUniverseLevels$State;)V"⟩, 6) := ⟨⟨by decide +kernel, by decide +kernel⟩, List.mem_of_getElem? (i := 44) (by decide +kernel), List.mem_of_getElem? (i := 304) (by decide +kernel), List.mem_of_getElem? (i := 305) (by decide +kernel)⟩
theorem lw_p19 : lw_okq (⟨"UniverseLevels$State", "take", "(III)V"⟩, 6) := ⟨⟨by decide +kernel, by decide +kernel⟩, List.mem_of_getElem? (i := 44) (by decide +kernel), List.mem_of_getElem? (i := 311) (by decide +kernel), List.mem_of_getElem? (i := 312) (by decide +kernel)⟩
theorem lw_p20 : lw_okq (⟨"UniverseLevels$Text", "firstFault", "()I"⟩, 3) := ⟨⟨by decide +kernel, by decide +kernel⟩, List.mem_of_getElem? (i := 25) (by decide +kernel), List.mem_of_getElem? (i := 368) (by decide +kernel), List.mem_of_getElem? (i := 369) (by decide +kernel)⟩
theorem lw_p21 : lw_okq (⟨"UniverseLevels$Text", "isAllowed", "(II)Z"⟩, 3) := ⟨⟨by decide +kernel, by decide +kernel⟩, List.mem_of_getElem? (i := 25) (by decide +kernel), List.mem_of_getElem? (i := 373) (by decide +kernel), List.mem_of_getElem? (i := 374) (by decide +kernel)⟩
theorem lw_p22 : lw_okq (⟨"UniverseLevels", "isLevel", "(I)Z"⟩, 13) := ⟨⟨by decide +kernel, by decide +kernel⟩, List.mem_of_getElem? (i := 17) (by decide +kernel), List.mem_of_getElem? (i := 385) (by decide +kernel), List.mem_of_getElem? (i := 386) (by decide +kernel)⟩
theorem lw_p23 : lw_okq (⟨"UniverseLevels$Lengths", "valueOf", "(I)I"⟩, 2) := ⟨⟨by decide +kernel, by decide +kernel⟩, List.mem_of_getElem? (i := 86) (by decide +kernel), List.mem_of_getElem? (i := 389) (by decide +kernel), List.mem_of_getElem? (i := 390) (by decide +kernel)⟩
theorem lw_p24 : lw_okq (⟨"UniverseLevels", "placeOf", "(I)I"⟩, 13) := ⟨⟨by decide +kernel, by decide +kernel⟩, List.mem_of_getElem? (i := 17) (by decide +kernel), List.mem_of_getElem? (i := 396) (by decide +kernel), List.mem_of_getElem? (i := 397) (by decide +kernel)⟩
theorem lw_p25 : lw_okq (⟨"UniverseLevels", "sameAs", "(I)I"⟩, 13) := ⟨⟨by decide +kernel, by decide +kernel⟩, List.mem_of_getElem? (i := 17) (by decide +kernel), List.mem_of_getElem? (i := 400) (by decide +kernel), List.mem_of_getElem? (i := 401) (by decide +kernel)⟩
theorem lw_p26 : lw_okq (⟨"UniverseLevels$State", "isFloating", "(I)Z"⟩, 6) := ⟨⟨by decide +kernel, by decide +kernel⟩, List.mem_of_getElem? (i := 44) (by decide +kernel), List.mem_of_getElem? (i := 404) (by decide +kernel), List.mem_of_getElem? (i := 405) (by decide +kernel)⟩
theorem lw_p27 : lw_okq (⟨"UniverseLevels", "isBound", "(I)Z"⟩, 13) := ⟨⟨by decide +kernel, by decide +kernel⟩, List.mem_of_getElem? (i := 17) (by decide +kernel), List.mem_of_getElem? (i := 412) (by decide +kernel), List.mem_of_getElem? (i := 413) (by decide +kernel)⟩
theorem lw_p28 : lw_okq (⟨"UniverseLevels", "isNeedless", "(I)Z"⟩, 13) := ⟨⟨by decide +kernel, by decide +kernel⟩, List.mem_of_getElem? (i := 17) (by decide +kernel), List.mem_of_getElem? (i := 416) (by decide +kernel), List.mem_of_getElem? (i := 417) (by decide +kernel)⟩
theorem lw_p29 : lw_okq (⟨"UniverseLevels", "slackOf", "(I)I"⟩, 13) := ⟨⟨by decide +kernel, by decide +kernel⟩, List.mem_of_getElem? (i := 17) (by decide +kernel), List.mem_of_getElem? (i := 421) (by decide +kernel), List.mem_of_getElem? (i := 422) (by decide +kernel)⟩
theorem lw_p30 : lw_okq (⟨"UniverseLevels", "areUnlike", "(II)Z"⟩, 13) := ⟨⟨by decide +kernel, by decide +kernel⟩, List.mem_of_getElem? (i := 17) (by decide +kernel), List.mem_of_getElem? (i := 433) (by decide +kernel), List.mem_of_getElem? (i := 434) (by decide +kernel)⟩
theorem lw_p31 : lw_okq (⟨"UniverseLevels$State", "takeBack", "(I)V"⟩, 6) := ⟨⟨by decide +kernel, by decide +kernel⟩, List.mem_of_getElem? (i := 44) (by decide +kernel), List.mem_of_getElem? (i := 444) (by decide +kernel), List.mem_of_getElem? (i := 445) (by decide +kernel)⟩
def lw_privs_2 : List (MethodName × Nat) := [(⟨"UniverseLevels$Round", "nextLevel", "(LUniverseLevels$State;LUniverseLevels$Lengths;II)I"⟩, 4), (⟨"UniverseLevels", "remember", "()V"⟩, 13), (⟨"UniverseLevels$State", "copy", "(LUniverseLevels$State;)V"⟩, 6), (⟨"UniverseLevels$State", "take", "(III)V"⟩, 6), (⟨"UniverseLevels$Text", "firstFault", "()I"⟩, 3), (⟨"UniverseLevels$Text", "isAllowed", "(II)Z"⟩, 3), (⟨"UniverseLevels", "isLevel", "(I)Z"⟩, 13), (⟨"UniverseLevels$Lengths", "valueOf", "(I)I"⟩, 2), (⟨"UniverseLevels", "placeOf", "(I)I"⟩, 13), (⟨"UniverseLevels", "sameAs", "(I)I"⟩, 13), (⟨"UniverseLevels$State", "isFloating", "(I)Z"⟩, 6), (⟨"UniverseLevels", "isBound", "(I)Z"⟩, 13), (⟨"UniverseLevels", "isNeedless", "(I)Z"⟩, 13), (⟨"UniverseLevels", "slackOf", "(I)I"⟩, 13), (⟨"UniverseLevels", "areUnlike", "(II)Z"⟩, 13), (⟨"UniverseLevels$State", "takeBack", "(I)V"⟩, 6)]
theorem lw_r2 : ∀ q ∈ lw_privs_2, lw_okq q := List.forall_mem_cons.mpr ⟨lw_p16, List.forall_mem_cons.mpr ⟨lw_p17, List.forall_mem_cons.mpr ⟨lw_p18, List.forall_mem_cons.mpr ⟨lw_p19, List.forall_mem_cons.mpr ⟨lw_p20, List.forall_mem_cons.mpr ⟨lw_p21, List.forall_mem_cons.mpr ⟨lw_p22, List.forall_mem_cons.mpr ⟨lw_p23, List.forall_mem_cons.mpr ⟨lw_p24, List.forall_mem_cons.mpr ⟨lw_p25, List.forall_mem_cons.mpr ⟨lw_p26, List.forall_mem_cons.mpr ⟨lw_p27, List.forall_mem_cons.mpr ⟨lw_p28, List.forall_mem_cons.mpr ⟨lw_p29, List.forall_mem_cons.mpr ⟨lw_p30, List.forall_mem_cons.mpr ⟨lw_p31, fun _ h => absurd h List.not_mem_nil⟩⟩⟩⟩⟩⟩⟩⟩⟩⟩⟩⟩⟩⟩⟩⟩
theorem lw_p32 : lw_okq (⟨"UniverseLevels", "resume", "(LUniverseLevels$State;)V"⟩, 13) := ⟨⟨by decide +kernel, by decide +kernel⟩, List.mem_of_getElem? (i := 17) (by decide +kernel), List.mem_of_getElem? (i := 456) (by decide +kernel), List.mem_of_getElem? (i := 457) (by decide +kernel)⟩
theorem lw_p33 : lw_okq (⟨"UniverseLevels$Lengths", "implies", "(III)Z"⟩, 2) := ⟨⟨by decide +kernel, by decide +kernel⟩, List.mem_of_getElem? (i := 86) (by decide +kernel), List.mem_of_getElem? (i := 468) (by decide +kernel), List.mem_of_getElem? (i := 469) (by decide +kernel)⟩
theorem lw_p34 : lw_okq (⟨"UniverseLevels$Against", "choose", "(LUniverseLevels$State;LUniverseLevels$Lengths;III)I"⟩, 4) := ⟨⟨by decide +kernel, by decide +kernel⟩, List.mem_of_getElem? (i := 104) (by decide +kernel), List.mem_of_getElem? (i := 489) (by decide +kernel), List.mem_of_getElem? (i := 490) (by decide +kernel)⟩
theorem lw_p35 : lw_okq (⟨"UniverseLevels$Against", "gather", "(LUniverseLevels$State;LUniverseLevels$Lengths;III)V"⟩, 4) := ⟨⟨by decide +kernel, by decide +kernel⟩, List.mem_of_getElem? (i := 104) (by decide +kernel), List.mem_of_getElem? (i := 493) (by decide +kernel), List.mem_of_getElem? (i := 494) (by decide +kernel)⟩
theorem lw_p36 : lw_okq (⟨"UniverseLevels$Against", "pickedBits", "(I)I"⟩, 4) := ⟨⟨by decide +kernel, by decide +kernel⟩, List.mem_of_getElem? (i := 104) (by decide +kernel), List.mem_of_getElem? (i := 498) (by decide +kernel), List.mem_of_getElem? (i := 499) (by decide +kernel)⟩
theorem lw_p37 : lw_okq (⟨"UniverseLevels$Against", "numberOf", "(I)I"⟩, 4) := ⟨⟨by decide +kernel, by decide +kernel⟩, List.mem_of_getElem? (i := 104) (by decide +kernel), List.mem_of_getElem? (i := 502) (by decide +kernel), List.mem_of_getElem? (i := 503) (by decide +kernel)⟩
theorem lw_p38 : lw_okq (⟨"UniverseLevels$Against", "nextChoice", "(I)Z"⟩, 4) := ⟨⟨by decide +kernel, by decide +kernel⟩, List.mem_of_getElem? (i := 104) (by decide +kernel), List.mem_of_getElem? (i := 507) (by decide +kernel), List.mem_of_getElem? (i := 508) (by decide +kernel)⟩
theorem lw_p39 : lw_okq (⟨"UniverseLevels$Rows", "add", "(II)V"⟩, 3) := ⟨⟨by decide +kernel, by decide +kernel⟩, List.mem_of_getElem? (i := 123) (by decide +kernel), List.mem_of_getElem? (i := 516) (by decide +kernel), List.mem_of_getElem? (i := 517) (by decide +kernel)⟩
theorem lw_p40 : lw_okq (⟨"UniverseLevels$Rows", "isShort", "(ILUniverseLevels$Lengths;)Z"⟩, 3) := ⟨⟨by decide +kernel, by decide +kernel⟩, List.mem_of_getElem? (i := 123) (by decide +kernel), List.mem_of_getElem? (i := 528) (by decide +kernel), List.mem_of_getElem? (i := 529) (by decide +kernel)⟩
theorem lw_p41 : lw_okq (⟨"UniverseLevels$Rows", "isCovered", "(IILUniverseLevels$Lengths;)Z"⟩, 3) := ⟨⟨by decide +kernel, by decide +kernel⟩, List.mem_of_getElem? (i := 123) (by decide +kernel), List.mem_of_getElem? (i := 532) (by decide +kernel), List.mem_of_getElem? (i := 533) (by decide +kernel)⟩
theorem lw_p42 : lw_okq (⟨"UniverseLevels$Rows", "isNoMore", "(IILUniverseLevels$Lengths;)Z"⟩, 3) := ⟨⟨by decide +kernel, by decide +kernel⟩, List.mem_of_getElem? (i := 123) (by decide +kernel), List.mem_of_getElem? (i := 536) (by decide +kernel), List.mem_of_getElem? (i := 537) (by decide +kernel)⟩
theorem lw_p43 : lw_okq (⟨"UniverseLevels", "gatherRoots", "(I)V"⟩, 13) := ⟨⟨by decide +kernel, by decide +kernel⟩, List.mem_of_getElem? (i := 17) (by decide +kernel), List.mem_of_getElem? (i := 553) (by decide +kernel), List.mem_of_getElem? (i := 554) (by decide +kernel)⟩
theorem lw_p44 : lw_okq (⟨"UniverseLevels", "isRoot", "(II)Z"⟩, 13) := ⟨⟨by decide +kernel, by decide +kernel⟩, List.mem_of_getElem? (i := 17) (by decide +kernel), List.mem_of_getElem? (i := 557) (by decide +kernel), List.mem_of_getElem? (i := 558) (by decide +kernel)⟩
theorem lw_p45 : lw_okq (⟨"UniverseLevels", "isLoose", "(I)Z"⟩, 13) := ⟨⟨by decide +kernel, by decide +kernel⟩, List.mem_of_getElem? (i := 17) (by decide +kernel), List.mem_of_getElem? (i := 565) (by decide +kernel), List.mem_of_getElem? (i := 566) (by decide +kernel)⟩
theorem lw_p46 : lw_okq (⟨"UniverseLevels", "isPinned", "(I)Z"⟩, 13) := ⟨⟨by decide +kernel, by decide +kernel⟩, List.mem_of_getElem? (i := 17) (by decide +kernel), List.mem_of_getElem? (i := 569) (by decide +kernel), List.mem_of_getElem? (i := 570) (by decide +kernel)⟩
theorem lw_p47 : lw_okq (⟨"UniverseLevels$Lengths", "greatestValue", "()I"⟩, 2) := ⟨⟨by decide +kernel, by decide +kernel⟩, List.mem_of_getElem? (i := 86) (by decide +kernel), List.mem_of_getElem? (i := 585) (by decide +kernel), List.mem_of_getElem? (i := 586) (by decide +kernel)⟩
def lw_privs_3 : List (MethodName × Nat) := [(⟨"UniverseLevels", "resume", "(LUniverseLevels$State;)V"⟩, 13), (⟨"UniverseLevels$Lengths", "implies", "(III)Z"⟩, 2), (⟨"UniverseLevels$Against", "choose", "(LUniverseLevels$State;LUniverseLevels$Lengths;III)I"⟩, 4), (⟨"UniverseLevels$Against", "gather", "(LUniverseLevels$State;LUniverseLevels$Lengths;III)V"⟩, 4), (⟨"UniverseLevels$Against", "pickedBits", "(I)I"⟩, 4), (⟨"UniverseLevels$Against", "numberOf", "(I)I"⟩, 4), (⟨"UniverseLevels$Against", "nextChoice", "(I)Z"⟩, 4), (⟨"UniverseLevels$Rows", "add", "(II)V"⟩, 3), (⟨"UniverseLevels$Rows", "isShort", "(ILUniverseLevels$Lengths;)Z"⟩, 3), (⟨"UniverseLevels$Rows", "isCovered", "(IILUniverseLevels$Lengths;)Z"⟩, 3), (⟨"UniverseLevels$Rows", "isNoMore", "(IILUniverseLevels$Lengths;)Z"⟩, 3), (⟨"UniverseLevels", "gatherRoots", "(I)V"⟩, 13), (⟨"UniverseLevels", "isRoot", "(II)Z"⟩, 13), (⟨"UniverseLevels", "isLoose", "(I)Z"⟩, 13), (⟨"UniverseLevels", "isPinned", "(I)Z"⟩, 13), (⟨"UniverseLevels$Lengths", "greatestValue", "()I"⟩, 2)]
theorem lw_r3 : ∀ q ∈ lw_privs_3, lw_okq q := List.forall_mem_cons.mpr ⟨lw_p32, List.forall_mem_cons.mpr ⟨lw_p33, List.forall_mem_cons.mpr ⟨lw_p34, List.forall_mem_cons.mpr ⟨lw_p35, List.forall_mem_cons.mpr ⟨lw_p36, List.forall_mem_cons.mpr ⟨lw_p37, List.forall_mem_cons.mpr ⟨lw_p38, List.forall_mem_cons.mpr ⟨lw_p39, List.forall_mem_cons.mpr ⟨lw_p40, List.forall_mem_cons.mpr ⟨lw_p41, List.forall_mem_cons.mpr ⟨lw_p42, List.forall_mem_cons.mpr ⟨lw_p43, List.forall_mem_cons.mpr ⟨lw_p44, List.forall_mem_cons.mpr ⟨lw_p45, List.forall_mem_cons.mpr ⟨lw_p46, List.forall_mem_cons.mpr ⟨lw_p47, fun _ h => absurd h List.not_mem_nil⟩⟩⟩⟩⟩⟩⟩⟩⟩⟩⟩⟩⟩⟩⟩⟩
theorem lw_p48 : lw_okq (⟨"UniverseLevels", "floatingOnes", "()I"⟩, 13) := ⟨⟨by decide +kernel, by decide +kernel⟩, List.mem_of_getElem? (i := 17) (by decide +kernel), List.mem_of_getElem? (i := 590) (by decide +kernel), List.mem_of_getElem? (i := 591) (by decide +kernel)⟩
theorem lw_p49 : lw_okq (⟨"UniverseLevels$Lengths", "pairs", "()I"⟩, 2) := ⟨⟨by decide +kernel, by decide +kernel⟩, List.mem_of_getElem? (i := 86) (by decide +kernel), List.mem_of_getElem? (i := 594) (by decide +kernel), List.mem_of_getElem? (i := 595) (by decide +kernel)⟩
theorem lw_p50 : lw_okq (⟨"UniverseLevelsModel", "readNone", "()V"⟩, 24) := ⟨⟨by decide +kernel, by decide +kernel⟩, List.mem_of_getElem? (i := 598) (by decide +kernel), List.mem_of_getElem? (i := 604) (by decide +kernel), List.mem_of_getElem? (i := 605) (by decide +kernel)⟩
theorem lw_p51 : lw_okq (⟨"UniverseLevelsModel", "levelIs", "(I)V"⟩, 24) := ⟨⟨by decide +kernel, by decide +kernel⟩, List.mem_of_getElem? (i := 598) (by decide +kernel), List.mem_of_getElem? (i := 608) (by decide +kernel), List.mem_of_getElem? (i := 609) (by decide +kernel)⟩
theorem lw_p52 : lw_okq (⟨"UniverseLevelsModel", "askedIs", "(III)V"⟩, 24) := ⟨⟨by decide +kernel, by decide +kernel⟩, List.mem_of_getElem? (i := 598) (by decide +kernel), List.mem_of_getElem? (i := 612) (by decide +kernel), List.mem_of_getElem? (i := 613) (by decide +kernel)⟩
theorem lw_p53 : lw_okq (⟨"UniverseLevelsModel", "begin", "()V"⟩, 24) := ⟨⟨by decide +kernel, by decide +kernel⟩, List.mem_of_getElem? (i := 598) (by decide +kernel), List.mem_of_getElem? (i := 616) (by decide +kernel), List.mem_of_getElem? (i := 617) (by decide +kernel)⟩
theorem lw_p54 : lw_okq (⟨"UniverseLevelsModel", "mayTake", "(III)Z"⟩, 24) := ⟨⟨by decide +kernel, by decide +kernel⟩, List.mem_of_getElem? (i := 598) (by decide +kernel), List.mem_of_getElem? (i := 620) (by decide +kernel), List.mem_of_getElem? (i := 621) (by decide +kernel)⟩
theorem lw_p55 : lw_okq (⟨"UniverseLevelsModel", "weightTo", "(II)I"⟩, 24) := ⟨⟨by decide +kernel, by decide +kernel⟩, List.mem_of_getElem? (i := 598) (by decide +kernel), List.mem_of_getElem? (i := 624) (by decide +kernel), List.mem_of_getElem? (i := 625) (by decide +kernel)⟩
theorem lw_p56 : lw_okq (⟨"UniverseLevelsModel", "find", "()V"⟩, 24) := ⟨⟨by decide +kernel, by decide +kernel⟩, List.mem_of_getElem? (i := 598) (by decide +kernel), List.mem_of_getElem? (i := 628) (by decide +kernel), List.mem_of_getElem? (i := 629) (by decide +kernel)⟩
theorem lw_p57 : lw_okq (⟨"UniverseLevelsModel", "findBut", "(I)V"⟩, 24) := ⟨⟨by decide +kernel, by decide +kernel⟩, List.mem_of_getElem? (i := 598) (by decide +kernel), List.mem_of_getElem? (i := 632) (by decide +kernel), List.mem_of_getElem? (i := 633) (by decide +kernel)⟩
theorem lw_p58 : lw_okq (⟨"UniverseLevelsModel", "findRound", "(III)V"⟩, 24) := ⟨⟨by decide +kernel, by decide +kernel⟩, List.mem_of_getElem? (i := 598) (by decide +kernel), List.mem_of_getElem? (i := 647) (by decide +kernel), List.mem_of_getElem? (i := 648) (by decide +kernel)⟩
theorem lw_p59 : lw_okq (⟨"UniverseLevelsModel", "takeBound", "(III)V"⟩, 24) := ⟨⟨by decide +kernel, by decide +kernel⟩, List.mem_of_getElem? (i := 598) (by decide +kernel), List.mem_of_getElem? (i := 651) (by decide +kernel), List.mem_of_getElem? (i := 652) (by decide +kernel)⟩
theorem lw_p60 : lw_okq (⟨"UniverseLevelsModel", "readAll", "()I"⟩, 24) := ⟨⟨by decide +kernel, by decide +kernel⟩, List.mem_of_getElem? (i := 598) (by decide +kernel), List.mem_of_getElem? (i := 745) (by decide +kernel), List.mem_of_getElem? (i := 746) (by decide +kernel)⟩
theorem lw_p61 : lw_okq (⟨"UniverseLevelsModel", "item", "()Z"⟩, 24) := ⟨⟨by decide +kernel, by decide +kernel⟩, List.mem_of_getElem? (i := 598) (by decide +kernel), List.mem_of_getElem? (i := 749) (by decide +kernel), List.mem_of_getElem? (i := 750) (by decide +kernel)⟩
theorem lw_p62 : lw_okq (⟨"UniverseLevelsModel", "letterAt", "(I)I"⟩, 24) := ⟨⟨by decide +kernel, by decide +kernel⟩, List.mem_of_getElem? (i := 598) (by decide +kernel), List.mem_of_getElem? (i := 753) (by decide +kernel), List.mem_of_getElem? (i := 754) (by decide +kernel)⟩
theorem lw_p63 : lw_okq (⟨"UniverseLevelsModel", "numbers", "(I)Z"⟩, 24) := ⟨⟨by decide +kernel, by decide +kernel⟩, List.mem_of_getElem? (i := 598) (by decide +kernel), List.mem_of_getElem? (i := 757) (by decide +kernel), List.mem_of_getElem? (i := 758) (by decide +kernel)⟩
def lw_privs_4 : List (MethodName × Nat) := [(⟨"UniverseLevels", "floatingOnes", "()I"⟩, 13), (⟨"UniverseLevels$Lengths", "pairs", "()I"⟩, 2), (⟨"UniverseLevelsModel", "readNone", "()V"⟩, 24), (⟨"UniverseLevelsModel", "levelIs", "(I)V"⟩, 24), (⟨"UniverseLevelsModel", "askedIs", "(III)V"⟩, 24), (⟨"UniverseLevelsModel", "begin", "()V"⟩, 24), (⟨"UniverseLevelsModel", "mayTake", "(III)Z"⟩, 24), (⟨"UniverseLevelsModel", "weightTo", "(II)I"⟩, 24), (⟨"UniverseLevelsModel", "find", "()V"⟩, 24), (⟨"UniverseLevelsModel", "findBut", "(I)V"⟩, 24), (⟨"UniverseLevelsModel", "findRound", "(III)V"⟩, 24), (⟨"UniverseLevelsModel", "takeBound", "(III)V"⟩, 24), (⟨"UniverseLevelsModel", "readAll", "()I"⟩, 24), (⟨"UniverseLevelsModel", "item", "()Z"⟩, 24), (⟨"UniverseLevelsModel", "letterAt", "(I)I"⟩, 24), (⟨"UniverseLevelsModel", "numbers", "(I)Z"⟩, 24)]
theorem lw_r4 : ∀ q ∈ lw_privs_4, lw_okq q := List.forall_mem_cons.mpr ⟨lw_p48, List.forall_mem_cons.mpr ⟨lw_p49, List.forall_mem_cons.mpr ⟨lw_p50, List.forall_mem_cons.mpr ⟨lw_p51, List.forall_mem_cons.mpr ⟨lw_p52, List.forall_mem_cons.mpr ⟨lw_p53, List.forall_mem_cons.mpr ⟨lw_p54, List.forall_mem_cons.mpr ⟨lw_p55, List.forall_mem_cons.mpr ⟨lw_p56, List.forall_mem_cons.mpr ⟨lw_p57, List.forall_mem_cons.mpr ⟨lw_p58, List.forall_mem_cons.mpr ⟨lw_p59, List.forall_mem_cons.mpr ⟨lw_p60, List.forall_mem_cons.mpr ⟨lw_p61, List.forall_mem_cons.mpr ⟨lw_p62, List.forall_mem_cons.mpr ⟨lw_p63, fun _ h => absurd h List.not_mem_nil⟩⟩⟩⟩⟩⟩⟩⟩⟩⟩⟩⟩⟩⟩⟩⟩
theorem lw_p64 : lw_okq (⟨"UniverseLevelsModel", "isLevel", "(I)Z"⟩, 24) := ⟨⟨by decide +kernel, by decide +kernel⟩, List.mem_of_getElem? (i := 598) (by decide +kernel), List.mem_of_getElem? (i := 772) (by decide +kernel), List.mem_of_getElem? (i := 773) (by decide +kernel)⟩
theorem lw_p65 : lw_okq (⟨"UniverseLevelsModel", "valueOf", "(I)I"⟩, 24) := ⟨⟨by decide +kernel, by decide +kernel⟩, List.mem_of_getElem? (i := 598) (by decide +kernel), List.mem_of_getElem? (i := 777) (by decide +kernel), List.mem_of_getElem? (i := 778) (by decide +kernel)⟩
theorem lw_p66 : lw_okq (⟨"UniverseLevelsModel", "areSame", "(II)Z"⟩, 24) := ⟨⟨by decide +kernel, by decide +kernel⟩, List.mem_of_getElem? (i := 598) (by decide +kernel), List.mem_of_getElem? (i := 781) (by decide +kernel), List.mem_of_getElem? (i := 782) (by decide +kernel)⟩
theorem lw_p67 : lw_okq (⟨"UniverseLevelsModel", "isFloating", "(I)Z"⟩, 24) := ⟨⟨by decide +kernel, by decide +kernel⟩, List.mem_of_getElem? (i := 598) (by decide +kernel), List.mem_of_getElem? (i := 785) (by decide +kernel), List.mem_of_getElem? (i := 786) (by decide +kernel)⟩
theorem lw_p68 : lw_okq (⟨"UniverseLevelsModel", "note", "()V"⟩, 24) := ⟨⟨by decide +kernel, by decide +kernel⟩, List.mem_of_getElem? (i := 598) (by decide +kernel), List.mem_of_getElem? (i := 806) (by decide +kernel), List.mem_of_getElem? (i := 807) (by decide +kernel)⟩
theorem lw_p69 : lw_okq (⟨"UniverseLevelsModel", "isSo", "(III)Z"⟩, 24) := ⟨⟨by decide +kernel, by decide +kernel⟩, List.mem_of_getElem? (i := 598) (by decide +kernel), List.mem_of_getElem? (i := 833) (by decide +kernel), List.mem_of_getElem? (i := 834) (by decide +kernel)⟩
theorem lw_p70 : lw_okq (⟨"UniverseLevelsModel", "isNoMore", "(II)Z"⟩, 24) := ⟨⟨by decide +kernel, by decide +kernel⟩, List.mem_of_getElem? (i := 598) (by decide +kernel), List.mem_of_getElem? (i := 871) (by decide +kernel), List.mem_of_getElem? (i := 872) (by decide +kernel)⟩
theorem lw_p71 : lw_okq (⟨"UniverseLevelsModel", "isRoot", "(II)Z"⟩, 24) := ⟨⟨by decide +kernel, by decide +kernel⟩, List.mem_of_getElem? (i := 598) (by decide +kernel), List.mem_of_getElem? (i := 887) (by decide +kernel), List.mem_of_getElem? (i := 888) (by decide +kernel)⟩
theorem lw_p72 : lw_okq (⟨"UniverseLevelsModel", "greatest", "()I"⟩, 24) := ⟨⟨by decide +kernel, by decide +kernel⟩, List.mem_of_getElem? (i := 598) (by decide +kernel), List.mem_of_getElem? (i := 907) (by decide +kernel), List.mem_of_getElem? (i := 908) (by decide +kernel)⟩
theorem lw_p73 : lw_okq (⟨"UniverseLevelsModel", "floatingMany", "()I"⟩, 24) := ⟨⟨by decide +kernel, by decide +kernel⟩, List.mem_of_getElem? (i := 598) (by decide +kernel), List.mem_of_getElem? (i := 911) (by decide +kernel), List.mem_of_getElem? (i := 912) (by decide +kernel)⟩
theorem lw_p74 : lw_okq (⟨"UniverseLevelsModel", "pairs", "()I"⟩, 24) := ⟨⟨by decide +kernel, by decide +kernel⟩, List.mem_of_getElem? (i := 598) (by decide +kernel), List.mem_of_getElem? (i := 915) (by decide +kernel), List.mem_of_getElem? (i := 916) (by decide +kernel)⟩
def lw_privs_5 : List (MethodName × Nat) := [(⟨"UniverseLevelsModel", "isLevel", "(I)Z"⟩, 24), (⟨"UniverseLevelsModel", "valueOf", "(I)I"⟩, 24), (⟨"UniverseLevelsModel", "areSame", "(II)Z"⟩, 24), (⟨"UniverseLevelsModel", "isFloating", "(I)Z"⟩, 24), (⟨"UniverseLevelsModel", "note", "()V"⟩, 24), (⟨"UniverseLevelsModel", "isSo", "(III)Z"⟩, 24), (⟨"UniverseLevelsModel", "isNoMore", "(II)Z"⟩, 24), (⟨"UniverseLevelsModel", "isRoot", "(II)Z"⟩, 24), (⟨"UniverseLevelsModel", "greatest", "()I"⟩, 24), (⟨"UniverseLevelsModel", "floatingMany", "()I"⟩, 24), (⟨"UniverseLevelsModel", "pairs", "()I"⟩, 24)]
theorem lw_r5 : ∀ q ∈ lw_privs_5, lw_okq q := List.forall_mem_cons.mpr ⟨lw_p64, List.forall_mem_cons.mpr ⟨lw_p65, List.forall_mem_cons.mpr ⟨lw_p66, List.forall_mem_cons.mpr ⟨lw_p67, List.forall_mem_cons.mpr ⟨lw_p68, List.forall_mem_cons.mpr ⟨lw_p69, List.forall_mem_cons.mpr ⟨lw_p70, List.forall_mem_cons.mpr ⟨lw_p71, List.forall_mem_cons.mpr ⟨lw_p72, List.forall_mem_cons.mpr ⟨lw_p73, List.forall_mem_cons.mpr ⟨lw_p74, fun _ h => absurd h List.not_mem_nil⟩⟩⟩⟩⟩⟩⟩⟩⟩⟩⟩
def lw_privs : List (MethodName × Nat) := lw_privs_1 ++ (lw_privs_2 ++ (lw_privs_3 ++ (lw_privs_4 ++ (lw_privs_5))))
def lw_tbl : List Cond := k2_sels lw_privs ++ tables_1
theorem lw_privs_ok : ∀ q ∈ lw_privs, lw_okq q := by
  show ∀ q ∈ lw_privs_1 ++ (lw_privs_2 ++ (lw_privs_3 ++ (lw_privs_4 ++ (lw_privs_5)))), lw_okq q
  exact List.forall_mem_append.mpr ⟨lw_r1, List.forall_mem_append.mpr ⟨lw_r2, List.forall_mem_append.mpr ⟨lw_r3, List.forall_mem_append.mpr ⟨lw_r4, lw_r5⟩⟩⟩⟩
end
section
def RX0 : String := "UniverseLevels$Against"
def TX0 : u_T := fun k => match k with
  | 0 => ("UniverseLevels$Against", "inTheWay", "[I", true)
  | 1 => ("UniverseLevels$Against", "picks", "[I", true)
  | 2 => ("UniverseLevels$Against", "trial", "[I", true)
  | _ => ("UniverseLevels$Against", "many", "I", false)
def tyX0 : Nat → FieldType := fun k => match k with
  | 0 => .array .int
  | 1 => .array .int
  | 2 => .array .int
  | _ => .int
abbrev wsX00 : List Cond := u_ws RX0 TX0 4
theorem nmX0 : ∀ a, a < 4 → ∀ b, b < 4 → a ≠ b → (TX0 a).2.1 ≠ (TX0 b).2.1 := by decide +kernel
theorem tyX0_ok : ∀ k, k < 4 → parseFieldDescriptor (TX0 k).2.2.1 = some (tyX0 k) := by decide +kernel
abbrev cX0_init : ByteArray := prog_2_method_1_code
def yX0_init : MethodName := ⟨RX0, "<init>", "()V"⟩
abbrev cX0_numberOf : ByteArray := prog_2_method_2_code
def yX0_numberOf : MethodName := ⟨RX0, "numberOf", "(I)I"⟩
abbrev cX0_choose : ByteArray := prog_2_method_3_code
def yX0_choose : MethodName := ⟨RX0, "choose", "(LUniverseLevels$State;LUniverseLevels$Lengths;III)I"⟩
abbrev cX0_gather : ByteArray := prog_2_method_4_code
def yX0_gather : MethodName := ⟨RX0, "gather", "(LUniverseLevels$State;LUniverseLevels$Lengths;III)V"⟩
abbrev cX0_pickedBits : ByteArray := prog_2_method_5_code
def yX0_pickedBits : MethodName := ⟨RX0, "pickedBits", "(I)I"⟩
abbrev cX0_nextChoice : ByteArray := prog_2_method_6_code
def yX0_nextChoice : MethodName := ⟨RX0, "nextChoice", "(I)Z"⟩
def RX1 : String := "UniverseLevels$Lengths"
def TX1 : u_T := fun k => match k with
  | 0 => ("UniverseLevels$Lengths", "greatest", "[[I", true)
  | _ => ("UniverseLevels$Lengths", "levels", "I", false)
def tyX1 : Nat → FieldType := fun k => match k with
  | 0 => .array (.array .int)
  | _ => .int
abbrev wsX10 : List Cond := u_ws RX1 TX1 2
theorem nmX1 : ∀ a, a < 2 → ∀ b, b < 2 → a ≠ b → (TX1 a).2.1 ≠ (TX1 b).2.1 := by decide +kernel
theorem tyX1_ok : ∀ k, k < 2 → parseFieldDescriptor (TX1 k).2.2.1 = some (tyX1 k) := by decide +kernel
abbrev cX1_init : ByteArray := prog_3_method_1_code
def yX1_init : MethodName := ⟨RX1, "<init>", "()V"⟩
abbrev cX1_measure : ByteArray := prog_3_method_2_code
def yX1_measure : MethodName := ⟨RX1, "measure", "(LUniverseLevels$State;)V"⟩
abbrev cX1_leads : ByteArray := prog_3_method_3_code
def yX1_leads : MethodName := ⟨RX1, "leads", "(II)Z"⟩
abbrev cX1_implies : ByteArray := prog_3_method_4_code
def yX1_implies : MethodName := ⟨RX1, "implies", "(III)Z"⟩
abbrev cX1_valueOf : ByteArray := prog_3_method_5_code
def yX1_valueOf : MethodName := ⟨RX1, "valueOf", "(I)I"⟩
abbrev cX1_greatestValue : ByteArray := prog_3_method_6_code
def yX1_greatestValue : MethodName := ⟨RX1, "greatestValue", "()I"⟩
abbrev cX1_pairs : ByteArray := prog_3_method_7_code
def yX1_pairs : MethodName := ⟨RX1, "pairs", "()I"⟩
def RX2 : String := "UniverseLevels$Round"
def TX2 : u_T := fun k => match k with
  | 0 => ("UniverseLevels$Round", "levels", "[I", true)
  | 1 => ("UniverseLevels$Round", "fewest", "[I", true)
  | 2 => ("UniverseLevels$Round", "size", "I", false)
  | _ => ("UniverseLevels$Round", "above", "I", false)
def tyX2 : Nat → FieldType := fun k => match k with
  | 0 => .array .int
  | 1 => .array .int
  | 2 => .int
  | _ => .int
abbrev wsX20 : List Cond := u_ws RX2 TX2 4
theorem nmX2 : ∀ a, a < 4 → ∀ b, b < 4 → a ≠ b → (TX2 a).2.1 ≠ (TX2 b).2.1 := by decide +kernel
theorem tyX2_ok : ∀ k, k < 4 → parseFieldDescriptor (TX2 k).2.2.1 = some (tyX2 k) := by decide +kernel
abbrev cX2_init : ByteArray := prog_4_method_1_code
def yX2_init : MethodName := ⟨RX2, "<init>", "()V"⟩
abbrev cX2_trace : ByteArray := prog_4_method_2_code
def yX2_trace : MethodName := ⟨RX2, "trace", "(LUniverseLevels$State;LUniverseLevels$Lengths;II)V"⟩
abbrev cX2_countFewest : ByteArray := prog_4_method_3_code
def yX2_countFewest : MethodName := ⟨RX2, "countFewest", "(LUniverseLevels$State;LUniverseLevels$Lengths;I)V"⟩
abbrev cX2_nextLevel : ByteArray := prog_4_method_4_code
def yX2_nextLevel : MethodName := ⟨RX2, "nextLevel", "(LUniverseLevels$State;LUniverseLevels$Lengths;II)I"⟩
abbrev cX2_isOnLongest : ByteArray := prog_4_method_5_code
def yX2_isOnLongest : MethodName := ⟨RX2, "isOnLongest", "(LUniverseLevels$State;LUniverseLevels$Lengths;II)Z"⟩
def RX3 : String := "UniverseLevels$Rows"
def TX3 : u_T := fun k => match k with
  | 0 => ("UniverseLevels$Rows", "levels", "[I", true)
  | 1 => ("UniverseLevels$Rows", "more", "[I", true)
  | _ => ("UniverseLevels$Rows", "size", "I", false)
def tyX3 : Nat → FieldType := fun k => match k with
  | 0 => .array .int
  | 1 => .array .int
  | _ => .int
abbrev wsX30 : List Cond := u_ws RX3 TX3 3
theorem nmX3 : ∀ a, a < 3 → ∀ b, b < 3 → a ≠ b → (TX3 a).2.1 ≠ (TX3 b).2.1 := by decide +kernel
theorem tyX3_ok : ∀ k, k < 3 → parseFieldDescriptor (TX3 k).2.2.1 = some (tyX3 k) := by decide +kernel
abbrev cX3_init : ByteArray := prog_5_method_1_code
def yX3_init : MethodName := ⟨RX3, "<init>", "()V"⟩
abbrev cX3_add : ByteArray := prog_5_method_2_code
def yX3_add : MethodName := ⟨RX3, "add", "(II)V"⟩
abbrev cX3_isShort : ByteArray := prog_5_method_3_code
def yX3_isShort : MethodName := ⟨RX3, "isShort", "(ILUniverseLevels$Lengths;)Z"⟩
abbrev cX3_isCovered : ByteArray := prog_5_method_4_code
def yX3_isCovered : MethodName := ⟨RX3, "isCovered", "(IILUniverseLevels$Lengths;)Z"⟩
abbrev cX3_isNoMore : ByteArray := prog_5_method_5_code
def yX3_isNoMore : MethodName := ⟨RX3, "isNoMore", "(IILUniverseLevels$Lengths;)Z"⟩
def RX4 : String := "UniverseLevels$State"
def TX4 : u_T := fun k => match k with
  | 0 => ("UniverseLevels$State", "kinds", "[I", true)
  | 1 => ("UniverseLevels$State", "from", "[I", true)
  | 2 => ("UniverseLevels$State", "to", "[I", true)
  | 3 => ("UniverseLevels$State", "weight", "[I", true)
  | 4 => ("UniverseLevels$State", "levels", "I", false)
  | _ => ("UniverseLevels$State", "bounds", "I", false)
def tyX4 : Nat → FieldType := fun k => match k with
  | 0 => .array .int
  | 1 => .array .int
  | 2 => .array .int
  | 3 => .array .int
  | 4 => .int
  | _ => .int
abbrev wsX40 : List Cond := u_ws RX4 TX4 6
theorem nmX4 : ∀ a, a < 6 → ∀ b, b < 6 → a ≠ b → (TX4 a).2.1 ≠ (TX4 b).2.1 := by decide +kernel
theorem tyX4_ok : ∀ k, k < 6 → parseFieldDescriptor (TX4 k).2.2.1 = some (tyX4 k) := by decide +kernel
abbrev cX4_init : ByteArray := prog_6_method_1_code
def yX4_init : MethodName := ⟨RX4, "<init>", "()V"⟩
abbrev cX4_copy : ByteArray := prog_6_method_2_code
def yX4_copy : MethodName := ⟨RX4, "copy", "(LUniverseLevels$State;)V"⟩
abbrev cX4_addLevel : ByteArray := prog_6_method_3_code
def yX4_addLevel : MethodName := ⟨RX4, "addLevel", "(I)V"⟩
abbrev cX4_isFloating : ByteArray := prog_6_method_4_code
def yX4_isFloating : MethodName := ⟨RX4, "isFloating", "(I)Z"⟩
abbrev cX4_weightTowards : ByteArray := prog_6_method_5_code
def yX4_weightTowards : MethodName := ⟨RX4, "weightTowards", "(II)I"⟩
abbrev cX4_take : ByteArray := prog_6_method_6_code
def yX4_take : MethodName := ⟨RX4, "take", "(III)V"⟩
abbrev cX4_takeBack : ByteArray := prog_6_method_7_code
def yX4_takeBack : MethodName := ⟨RX4, "takeBack", "(I)V"⟩
abbrev cX4_lengthsFrom : ByteArray := prog_6_method_8_code
def yX4_lengthsFrom : MethodName := ⟨RX4, "lengthsFrom", "(II[I)V"⟩
abbrev cX4_lengthen : ByteArray := prog_6_method_9_code
def yX4_lengthen : MethodName := ⟨RX4, "lengthen", "(I[I)Z"⟩
def RX5 : String := "UniverseLevels$Text"
def TX5 : u_T := fun k => match k with
  | 0 => ("UniverseLevels$Text", "letters", "[I", true)
  | 1 => ("UniverseLevels$Text", "numbers", "[I", true)
  | _ => ("UniverseLevels$Text", "length", "I", false)
def tyX5 : Nat → FieldType := fun k => match k with
  | 0 => .array .int
  | 1 => .array .int
  | _ => .int
abbrev wsX50 : List Cond := u_ws RX5 TX5 3
theorem nmX5 : ∀ a, a < 3 → ∀ b, b < 3 → a ≠ b → (TX5 a).2.1 ≠ (TX5 b).2.1 := by decide +kernel
theorem tyX5_ok : ∀ k, k < 3 → parseFieldDescriptor (TX5 k).2.2.1 = some (tyX5 k) := by decide +kernel
abbrev cX5_init : ByteArray := prog_7_method_1_code
def yX5_init : MethodName := ⟨RX5, "<init>", "()V"⟩
abbrev cX5_append : ByteArray := prog_7_method_2_code
def yX5_append : MethodName := ⟨RX5, "append", "(I)Z"⟩
abbrev cX5_letterAt : ByteArray := prog_7_method_3_code
def yX5_letterAt : MethodName := ⟨RX5, "letterAt", "(I)I"⟩
abbrev cX5_firstFault : ByteArray := prog_7_method_4_code
def yX5_firstFault : MethodName := ⟨RX5, "firstFault", "()I"⟩
abbrev cX5_isAllowed : ByteArray := prog_7_method_5_code
def yX5_isAllowed : MethodName := ⟨RX5, "isAllowed", "(II)Z"⟩
abbrev cX5_readItem : ByteArray := prog_7_method_6_code
def yX5_readItem : MethodName := ⟨RX5, "readItem", "(I)I"⟩
abbrev cX5_numbersBehind : ByteArray := prog_7_method_7_code
def yX5_numbersBehind : MethodName := ⟨RX5, "numbersBehind", "(I)I"⟩
abbrev cX5_figuresAt : ByteArray := prog_7_method_8_code
def yX5_figuresAt : MethodName := ⟨RX5, "figuresAt", "(I)I"⟩
abbrev cX5_numberAt : ByteArray := prog_7_method_9_code
def yX5_numberAt : MethodName := ⟨RX5, "numberAt", "(II)I"⟩
abbrev cX5_isFigure : ByteArray := prog_7_method_10_code
def yX5_isFigure : MethodName := ⟨RX5, "isFigure", "(I)Z"⟩
def RX6 : String := "UniverseLevels"
def TX6 : u_T := fun k => match k with
  | 0 => ("UniverseLevels", "text", "LUniverseLevels$Text;", true)
  | 1 => ("UniverseLevels", "now", "LUniverseLevels$State;", true)
  | 2 => ("UniverseLevels", "earlier", "[LUniverseLevels$State;", true)
  | 3 => ("UniverseLevels", "undoable", "I", false)
  | 4 => ("UniverseLevels", "kept", "[LUniverseLevels$State;", true)
  | 5 => ("UniverseLevels", "keptOnes", "I", false)
  | 6 => ("UniverseLevels", "lengths", "LUniverseLevels$Lengths;", true)
  | 7 => ("UniverseLevels", "trial", "[I", true)
  | 8 => ("UniverseLevels", "against", "LUniverseLevels$Against;", true)
  | 9 => ("UniverseLevels", "max", "LUniverseLevels$Rows;", true)
  | 10 => ("UniverseLevels", "rootRows", "LUniverseLevels$Rows;", true)
  | 11 => ("UniverseLevels", "shown", "LUniverseLevels$Round;", true)
  | _ => ("UniverseLevels", "refused", "I", false)
def tyX6 : Nat → FieldType := fun k => match k with
  | 0 => .object "UniverseLevels$Text"
  | 1 => .object "UniverseLevels$State"
  | 2 => .array (.object "UniverseLevels$State")
  | 3 => .int
  | 4 => .array (.object "UniverseLevels$State")
  | 5 => .int
  | 6 => .object "UniverseLevels$Lengths"
  | 7 => .array .int
  | 8 => .object "UniverseLevels$Against"
  | 9 => .object "UniverseLevels$Rows"
  | 10 => .object "UniverseLevels$Rows"
  | 11 => .object "UniverseLevels$Round"
  | _ => .int
abbrev wsX60 : List Cond := u_ws RX6 TX6 13
theorem nmX6 : ∀ a, a < 13 → ∀ b, b < 13 → a ≠ b → (TX6 a).2.1 ≠ (TX6 b).2.1 := by decide +kernel
theorem tyX6_ok : ∀ k, k < 13 → parseFieldDescriptor (TX6 k).2.2.1 = some (tyX6 k) := by decide +kernel
abbrev cX6_init : ByteArray := prog_1_method_1_code
def yX6_init : MethodName := ⟨RX6, "<init>", "()V"⟩
abbrev cX6_write : ByteArray := prog_1_method_2_code
def yX6_write : MethodName := ⟨RX6, "write", "(I)I"⟩
abbrev cX6_wipe : ByteArray := prog_1_method_3_code
def yX6_wipe : MethodName := ⟨RX6, "wipe", "()I"⟩
abbrev cX6_fault : ByteArray := prog_1_method_4_code
def yX6_fault : MethodName := ⟨RX6, "fault", "()I"⟩
abbrev cX6_lay : ByteArray := prog_1_method_5_code
def yX6_lay : MethodName := ⟨RX6, "lay", "()I"⟩
abbrev cX6_level : ByteArray := prog_1_method_6_code
def yX6_level : MethodName := ⟨RX6, "level", "(II)I"⟩
abbrev cX6_bound : ByteArray := prog_1_method_7_code
def yX6_bound : MethodName := ⟨RX6, "bound", "(II)I"⟩
abbrev cX6_reach : ByteArray := prog_1_method_8_code
def yX6_reach : MethodName := ⟨RX6, "reach", "(II)I"⟩
abbrev cX6_ask : ByteArray := prog_1_method_9_code
def yX6_ask : MethodName := ⟨RX6, "ask", "(III)I"⟩
abbrev cX6_retract : ByteArray := prog_1_method_10_code
def yX6_retract : MethodName := ⟨RX6, "retract", "(I)I"⟩
abbrev cX6_rename : ByteArray := prog_1_method_11_code
def yX6_rename : MethodName := ⟨RX6, "rename", "(II)I"⟩
abbrev cX6_undo : ByteArray := prog_1_method_12_code
def yX6_undo : MethodName := ⟨RX6, "undo", "()I"⟩
abbrev cX6_round : ByteArray := prog_1_method_13_code
def yX6_round : MethodName := ⟨RX6, "round", "(I)I"⟩
abbrev cX6_follows : ByteArray := prog_1_method_14_code
def yX6_follows : MethodName := ⟨RX6, "follows", "(III)I"⟩
abbrev cX6_raised : ByteArray := prog_1_method_15_code
def yX6_raised : MethodName := ⟨RX6, "raised", "(III)I"⟩
abbrev cX6_top : ByteArray := prog_1_method_16_code
def yX6_top : MethodName := ⟨RX6, "top", "(III)I"⟩
abbrev cX6_stands : ByteArray := prog_1_method_17_code
def yX6_stands : MethodName := ⟨RX6, "stands", "(IIII)I"⟩
abbrev cX6_term : ByteArray := prog_1_method_18_code
def yX6_term : MethodName := ⟨RX6, "term", "(II)I"⟩
abbrev cX6_empty : ByteArray := prog_1_method_19_code
def yX6_empty : MethodName := ⟨RX6, "empty", "()I"⟩
abbrev cX6_brief : ByteArray := prog_1_method_20_code
def yX6_brief : MethodName := ⟨RX6, "brief", "()I"⟩
abbrev cX6_below : ByteArray := prog_1_method_21_code
def yX6_below : MethodName := ⟨RX6, "below", "(II)I"⟩
abbrev cX6_worth : ByteArray := prog_1_method_22_code
def yX6_worth : MethodName := ⟨RX6, "worth", "()I"⟩
abbrev cX6_roots : ByteArray := prog_1_method_23_code
def yX6_roots : MethodName := ⟨RX6, "roots", "(I)I"⟩
abbrev cX6_loose : ByteArray := prog_1_method_24_code
def yX6_loose : MethodName := ⟨RX6, "loose", "(II)I"⟩
abbrev cX6_keep : ByteArray := prog_1_method_25_code
def yX6_keep : MethodName := ⟨RX6, "keep", "()I"⟩
abbrev cX6_back : ByteArray := prog_1_method_26_code
def yX6_back : MethodName := ⟨RX6, "back", "()I"⟩
abbrev cX6_count : ByteArray := prog_1_method_27_code
def yX6_count : MethodName := ⟨RX6, "count", "(I)I"⟩
abbrev cX6_isLevel : ByteArray := prog_1_method_28_code
def yX6_isLevel : MethodName := ⟨RX6, "isLevel", "(I)Z"⟩
abbrev cX6_areUnlike : ByteArray := prog_1_method_29_code
def yX6_areUnlike : MethodName := ⟨RX6, "areUnlike", "(II)Z"⟩
abbrev cX6_isBound : ByteArray := prog_1_method_30_code
def yX6_isBound : MethodName := ⟨RX6, "isBound", "(I)Z"⟩
abbrev cX6_isK : ByteArray := prog_1_method_31_code
def yX6_isK : MethodName := ⟨RX6, "isK", "(I)Z"⟩
abbrev cX6_isX : ByteArray := prog_1_method_32_code
def yX6_isX : MethodName := ⟨RX6, "isX", "(I)Z"⟩
abbrev cX6_layText : ByteArray := prog_1_method_33_code
def yX6_layText : MethodName := ⟨RX6, "layText", "()V"⟩
abbrev cX6_layItem : ByteArray := prog_1_method_34_code
def yX6_layItem : MethodName := ⟨RX6, "layItem", "(I[I)V"⟩
abbrev cX6_pose : ByteArray := prog_1_method_35_code
def yX6_pose : MethodName := ⟨RX6, "pose", "(III)I"⟩
abbrev cX6_remember : ByteArray := prog_1_method_36_code
def yX6_remember : MethodName := ⟨RX6, "remember", "()V"⟩
abbrev cX6_resume : ByteArray := prog_1_method_37_code
def yX6_resume : MethodName := ⟨RX6, "resume", "(LUniverseLevels$State;)V"⟩
abbrev cX6_placeOf : ByteArray := prog_1_method_38_code
def yX6_placeOf : MethodName := ⟨RX6, "placeOf", "(I)I"⟩
abbrev cX6_sameAs : ByteArray := prog_1_method_39_code
def yX6_sameAs : MethodName := ⟨RX6, "sameAs", "(I)I"⟩
abbrev cX6_isNeedless : ByteArray := prog_1_method_40_code
def yX6_isNeedless : MethodName := ⟨RX6, "isNeedless", "(I)Z"⟩
abbrev cX6_slackOf : ByteArray := prog_1_method_41_code
def yX6_slackOf : MethodName := ⟨RX6, "slackOf", "(I)I"⟩
abbrev cX6_floatingOnes : ByteArray := prog_1_method_42_code
def yX6_floatingOnes : MethodName := ⟨RX6, "floatingOnes", "()I"⟩
abbrev cX6_isRoot : ByteArray := prog_1_method_43_code
def yX6_isRoot : MethodName := ⟨RX6, "isRoot", "(II)Z"⟩
abbrev cX6_gatherRoots : ByteArray := prog_1_method_44_code
def yX6_gatherRoots : MethodName := ⟨RX6, "gatherRoots", "(I)V"⟩
abbrev cX6_isLoose : ByteArray := prog_1_method_45_code
def yX6_isLoose : MethodName := ⟨RX6, "isLoose", "(I)Z"⟩
abbrev cX6_isPinned : ByteArray := prog_1_method_46_code
def yX6_isPinned : MethodName := ⟨RX6, "isPinned", "(I)Z"⟩
def RX7 : String := "UniverseLevelsModel"
def TX7 : u_T := fun k => match k with
  | 0 => ("UniverseLevelsModel", "length", "I", false)
  | 1 => ("UniverseLevelsModel", "text", "[I", true)
  | 2 => ("UniverseLevelsModel", "levels", "I", false)
  | 3 => ("UniverseLevelsModel", "readLevels", "I", false)
  | 4 => ("UniverseLevelsModel", "readAsked", "I", false)
  | 5 => ("UniverseLevelsModel", "asked", "[I", true)
  | 6 => ("UniverseLevelsModel", "readKinds", "[I", true)
  | 7 => ("UniverseLevelsModel", "now", "[I", true)
  | 8 => ("UniverseLevelsModel", "before", "[I", true)
  | 9 => ("UniverseLevelsModel", "undoMany", "I", false)
  | 10 => ("UniverseLevelsModel", "kept", "[I", true)
  | 11 => ("UniverseLevelsModel", "keptMany", "I", false)
  | 12 => ("UniverseLevelsModel", "refused", "I", false)
  | 13 => ("UniverseLevelsModel", "roundMany", "I", false)
  | 14 => ("UniverseLevelsModel", "roundOver", "I", false)
  | 15 => ("UniverseLevelsModel", "round", "[I", true)
  | 16 => ("UniverseLevelsModel", "terms", "I", false)
  | 17 => ("UniverseLevelsModel", "termLevel", "[I", true)
  | 18 => ("UniverseLevelsModel", "termAdd", "[I", true)
  | 19 => ("UniverseLevelsModel", "spot", "I", false)
  | 20 => ("UniverseLevelsModel", "number", "[I", true)
  | 21 => ("UniverseLevelsModel", "reach", "[I", true)
  | 22 => ("UniverseLevelsModel", "edge", "[I", true)
  | _ => ("UniverseLevelsModel", "by", "[I", true)
def tyX7 : Nat → FieldType := fun k => match k with
  | 0 => .int
  | 1 => .array .int
  | 2 => .int
  | 3 => .int
  | 4 => .int
  | 5 => .array .int
  | 6 => .array .int
  | 7 => .array .int
  | 8 => .array .int
  | 9 => .int
  | 10 => .array .int
  | 11 => .int
  | 12 => .int
  | 13 => .int
  | 14 => .int
  | 15 => .array .int
  | 16 => .int
  | 17 => .array .int
  | 18 => .array .int
  | 19 => .int
  | 20 => .array .int
  | 21 => .array .int
  | 22 => .array .int
  | _ => .array .int
abbrev wsX70 : List Cond := u_ws RX7 TX7 24
theorem nmX7 : ∀ a, a < 24 → ∀ b, b < 24 → a ≠ b → (TX7 a).2.1 ≠ (TX7 b).2.1 := by decide +kernel
theorem tyX7_ok : ∀ k, k < 24 → parseFieldDescriptor (TX7 k).2.2.1 = some (tyX7 k) := by decide +kernel
abbrev cX7_init : ByteArray := prog_9_method_1_code
def yX7_init : MethodName := ⟨RX7, "<init>", "()V"⟩
abbrev cX7_in : ByteArray := prog_9_method_2_code
def yX7_in : MethodName := ⟨RX7, "in", "(JJJ)Z"⟩
abbrev cX7_has : ByteArray := prog_9_method_3_code
def yX7_has : MethodName := ⟨RX7, "has", "(II)Z"⟩
abbrev cX7_readNone : ByteArray := prog_9_method_4_code
def yX7_readNone : MethodName := ⟨RX7, "readNone", "()V"⟩
abbrev cX7_levelIs : ByteArray := prog_9_method_5_code
def yX7_levelIs : MethodName := ⟨RX7, "levelIs", "(I)V"⟩
abbrev cX7_askedIs : ByteArray := prog_9_method_6_code
def yX7_askedIs : MethodName := ⟨RX7, "askedIs", "(III)V"⟩
abbrev cX7_write : ByteArray := prog_9_method_7_code
def yX7_write : MethodName := ⟨RX7, "write", "(I)I"⟩
abbrev cX7_wipe : ByteArray := prog_9_method_8_code
def yX7_wipe : MethodName := ⟨RX7, "wipe", "()I"⟩
abbrev cX7_letterAt : ByteArray := prog_9_method_9_code
def yX7_letterAt : MethodName := ⟨RX7, "letterAt", "(I)I"⟩
abbrev cX7_numbers : ByteArray := prog_9_method_10_code
def yX7_numbers : MethodName := ⟨RX7, "numbers", "(I)Z"⟩
abbrev cX7_item : ByteArray := prog_9_method_11_code
def yX7_item : MethodName := ⟨RX7, "item", "()Z"⟩
abbrev cX7_readAll : ByteArray := prog_9_method_12_code
def yX7_readAll : MethodName := ⟨RX7, "readAll", "()I"⟩
abbrev cX7_fault : ByteArray := prog_9_method_13_code
def yX7_fault : MethodName := ⟨RX7, "fault", "()I"⟩
abbrev cX7_lay : ByteArray := prog_9_method_14_code
def yX7_lay : MethodName := ⟨RX7, "lay", "()I"⟩
abbrev cX7_begin : ByteArray := prog_9_method_15_code
def yX7_begin : MethodName := ⟨RX7, "begin", "()V"⟩
abbrev cX7_isLevel : ByteArray := prog_9_method_16_code
def yX7_isLevel : MethodName := ⟨RX7, "isLevel", "(I)Z"⟩
abbrev cX7_isAdd : ByteArray := prog_9_method_17_code
def yX7_isAdd : MethodName := ⟨RX7, "isAdd", "(I)Z"⟩
abbrev cX7_isWay : ByteArray := prog_9_method_18_code
def yX7_isWay : MethodName := ⟨RX7, "isWay", "(I)Z"⟩
abbrev cX7_findBut : ByteArray := prog_9_method_19_code
def yX7_findBut : MethodName := ⟨RX7, "findBut", "(I)V"⟩
abbrev cX7_find : ByteArray := prog_9_method_20_code
def yX7_find : MethodName := ⟨RX7, "find", "()V"⟩
abbrev cX7_weightTo : ByteArray := prog_9_method_21_code
def yX7_weightTo : MethodName := ⟨RX7, "weightTo", "(II)I"⟩
abbrev cX7_clashes : ByteArray := prog_9_method_22_code
def yX7_clashes : MethodName := ⟨RX7, "clashes", "(II)Z"⟩
abbrev cX7_findRound : ByteArray := prog_9_method_23_code
def yX7_findRound : MethodName := ⟨RX7, "findRound", "(III)V"⟩
abbrev cX7_mayTake : ByteArray := prog_9_method_24_code
def yX7_mayTake : MethodName := ⟨RX7, "mayTake", "(III)Z"⟩
abbrev cX7_takeBound : ByteArray := prog_9_method_25_code
def yX7_takeBound : MethodName := ⟨RX7, "takeBound", "(III)V"⟩
abbrev cX7_valueOf : ByteArray := prog_9_method_26_code
def yX7_valueOf : MethodName := ⟨RX7, "valueOf", "(I)I"⟩
abbrev cX7_areSame : ByteArray := prog_9_method_27_code
def yX7_areSame : MethodName := ⟨RX7, "areSame", "(II)Z"⟩
abbrev cX7_isFloating : ByteArray := prog_9_method_28_code
def yX7_isFloating : MethodName := ⟨RX7, "isFloating", "(I)Z"⟩
abbrev cX7_level : ByteArray := prog_9_method_29_code
def yX7_level : MethodName := ⟨RX7, "level", "(II)I"⟩
abbrev cX7_bound : ByteArray := prog_9_method_30_code
def yX7_bound : MethodName := ⟨RX7, "bound", "(II)I"⟩
abbrev cX7_reach : ByteArray := prog_9_method_31_code
def yX7_reach : MethodName := ⟨RX7, "reach", "(II)I"⟩
abbrev cX7_note : ByteArray := prog_9_method_32_code
def yX7_note : MethodName := ⟨RX7, "note", "()V"⟩
abbrev cX7_ask : ByteArray := prog_9_method_33_code
def yX7_ask : MethodName := ⟨RX7, "ask", "(III)I"⟩
abbrev cX7_retract : ByteArray := prog_9_method_34_code
def yX7_retract : MethodName := ⟨RX7, "retract", "(I)I"⟩
abbrev cX7_rename : ByteArray := prog_9_method_35_code
def yX7_rename : MethodName := ⟨RX7, "rename", "(II)I"⟩
abbrev cX7_undo : ByteArray := prog_9_method_36_code
def yX7_undo : MethodName := ⟨RX7, "undo", "()I"⟩
abbrev cX7_round : ByteArray := prog_9_method_37_code
def yX7_round : MethodName := ⟨RX7, "round", "(I)I"⟩
abbrev cX7_isSo : ByteArray := prog_9_method_38_code
def yX7_isSo : MethodName := ⟨RX7, "isSo", "(III)Z"⟩
abbrev cX7_follows : ByteArray := prog_9_method_39_code
def yX7_follows : MethodName := ⟨RX7, "follows", "(III)I"⟩
abbrev cX7_raised : ByteArray := prog_9_method_40_code
def yX7_raised : MethodName := ⟨RX7, "raised", "(III)I"⟩
abbrev cX7_top : ByteArray := prog_9_method_41_code
def yX7_top : MethodName := ⟨RX7, "top", "(III)I"⟩
abbrev cX7_ones : ByteArray := prog_9_method_42_code
def yX7_ones : MethodName := ⟨RX7, "ones", "(I)I"⟩
abbrev cX7_nth : ByteArray := prog_9_method_43_code
def yX7_nth : MethodName := ⟨RX7, "nth", "(II)I"⟩
abbrev cX7_isAhead : ByteArray := prog_9_method_44_code
def yX7_isAhead : MethodName := ⟨RX7, "isAhead", "(II)Z"⟩
abbrev cX7_stands : ByteArray := prog_9_method_45_code
def yX7_stands : MethodName := ⟨RX7, "stands", "(IIII)I"⟩
abbrev cX7_term : ByteArray := prog_9_method_46_code
def yX7_term : MethodName := ⟨RX7, "term", "(II)I"⟩
abbrev cX7_empty : ByteArray := prog_9_method_47_code
def yX7_empty : MethodName := ⟨RX7, "empty", "()I"⟩
abbrev cX7_isNoMore : ByteArray := prog_9_method_48_code
def yX7_isNoMore : MethodName := ⟨RX7, "isNoMore", "(II)Z"⟩
abbrev cX7_brief : ByteArray := prog_9_method_49_code
def yX7_brief : MethodName := ⟨RX7, "brief", "()I"⟩
abbrev cX7_below : ByteArray := prog_9_method_50_code
def yX7_below : MethodName := ⟨RX7, "below", "(II)I"⟩
abbrev cX7_worth : ByteArray := prog_9_method_51_code
def yX7_worth : MethodName := ⟨RX7, "worth", "()I"⟩
abbrev cX7_isRoot : ByteArray := prog_9_method_52_code
def yX7_isRoot : MethodName := ⟨RX7, "isRoot", "(II)Z"⟩
abbrev cX7_roots : ByteArray := prog_9_method_53_code
def yX7_roots : MethodName := ⟨RX7, "roots", "(I)I"⟩
abbrev cX7_loose : ByteArray := prog_9_method_54_code
def yX7_loose : MethodName := ⟨RX7, "loose", "(II)I"⟩
abbrev cX7_keep : ByteArray := prog_9_method_55_code
def yX7_keep : MethodName := ⟨RX7, "keep", "()I"⟩
abbrev cX7_back : ByteArray := prog_9_method_56_code
def yX7_back : MethodName := ⟨RX7, "back", "()I"⟩
abbrev cX7_greatest : ByteArray := prog_9_method_57_code
def yX7_greatest : MethodName := ⟨RX7, "greatest", "()I"⟩
abbrev cX7_pairs : ByteArray := prog_9_method_58_code
def yX7_pairs : MethodName := ⟨RX7, "pairs", "()I"⟩
abbrev cX7_floatingMany : ByteArray := prog_9_method_59_code
def yX7_floatingMany : MethodName := ⟨RX7, "floatingMany", "()I"⟩
abbrev cX7_count : ByteArray := prog_9_method_60_code
def yX7_count : MethodName := ⟨RX7, "count", "(I)I"⟩
def RJx145de : String := "java/io/Serializable"
def TJx145de : u_T := fun k => match k with
  | _ => ("", "", "", false)
def tyJx145de : Nat → FieldType := fun k => match k with
  | _ => .int
abbrev wsJx145de0 : List Cond := u_ws RJx145de TJx145de 0
theorem nmJx145de : ∀ a, a < 0 → ∀ b, b < 0 → a ≠ b → (TJx145de a).2.1 ≠ (TJx145de b).2.1 := by decide +kernel
theorem tyJx145de_ok : ∀ k, k < 0 → parseFieldDescriptor (TJx145de k).2.2.1 = some (tyJx145de k) := by decide +kernel
def RJx9f9b0 : String := "java/lang/CharSequence"
def TJx9f9b0 : u_T := fun k => match k with
  | _ => ("", "", "", false)
def tyJx9f9b0 : Nat → FieldType := fun k => match k with
  | _ => .int
abbrev wsJx9f9b00 : List Cond := u_ws RJx9f9b0 TJx9f9b0 0
theorem nmJx9f9b0 : ∀ a, a < 0 → ∀ b, b < 0 → a ≠ b → (TJx9f9b0 a).2.1 ≠ (TJx9f9b0 b).2.1 := by decide +kernel
theorem tyJx9f9b0_ok : ∀ k, k < 0 → parseFieldDescriptor (TJx9f9b0 k).2.2.1 = some (tyJx9f9b0 k) := by decide +kernel
def RJxb160c : String := "java/lang/Comparable"
def TJxb160c : u_T := fun k => match k with
  | _ => ("", "", "", false)
def tyJxb160c : Nat → FieldType := fun k => match k with
  | _ => .int
abbrev wsJxb160c0 : List Cond := u_ws RJxb160c TJxb160c 0
theorem nmJxb160c : ∀ a, a < 0 → ∀ b, b < 0 → a ≠ b → (TJxb160c a).2.1 ≠ (TJxb160c b).2.1 := by decide +kernel
theorem tyJxb160c_ok : ∀ k, k < 0 → parseFieldDescriptor (TJxb160c k).2.2.1 = some (tyJxb160c k) := by decide +kernel
def RJ9 : String := "java/lang/Math"
def TJ9 : u_T := fun k => match k with
  | _ => ("", "", "", false)
def tyJ9 : Nat → FieldType := fun k => match k with
  | _ => .int
abbrev wsJ90 : List Cond := u_ws RJ9 TJ9 0
theorem nmJ9 : ∀ a, a < 0 → ∀ b, b < 0 → a ≠ b → (TJ9 a).2.1 ≠ (TJ9 b).2.1 := by decide +kernel
theorem tyJ9_ok : ∀ k, k < 0 → parseFieldDescriptor (TJ9 k).2.2.1 = some (tyJ9 k) := by decide +kernel
abbrev cJ9_max_7cf53 : ByteArray := prog_10_method_65_code
def yJ9_max_7cf53 : MethodName := ⟨RJ9, "max", "(II)I"⟩
abbrev cJ9_min_7cf53 : ByteArray := prog_10_method_69_code
def yJ9_min_7cf53 : MethodName := ⟨RJ9, "min", "(II)I"⟩
def RJ0 : String := "java/lang/String"
def TJ0 : u_T := fun k => match k with
  | _ => ("", "", "", false)
def tyJ0 : Nat → FieldType := fun k => match k with
  | _ => .int
abbrev wsJ00 : List Cond := u_ws RJ0 TJ0 0
theorem nmJ0 : ∀ a, a < 0 → ∀ b, b < 0 → a ≠ b → (TJ0 a).2.1 ≠ (TJ0 b).2.1 := by decide +kernel
theorem tyJ0_ok : ∀ k, k < 0 → parseFieldDescriptor (TJ0 k).2.2.1 = some (tyJ0 k) := by decide +kernel
abbrev cJ0_length_8abf5 : ByteArray := prog_11_method_54_code
def yJ0_length_8abf5 : MethodName := ⟨RJ0, "length", "()I"⟩
abbrev cJ0_charAt_5068e : ByteArray := prog_11_method_56_code
def yJ0_charAt_5068e : MethodName := ⟨RJ0, "charAt", "(I)C"⟩
abbrev cJ0_coder_7d493 : ByteArray := prog_11_method_152_code
def yJ0_coder_7d493 : MethodName := ⟨RJ0, "coder", "()B"⟩
abbrev cJ0_isLatin1_aae02 : ByteArray := prog_11_method_154_code
def yJ0_isLatin1_aae02 : MethodName := ⟨RJ0, "isLatin1", "()Z"⟩
abbrev cJ0_checkIndex_df160 : ByteArray := prog_11_method_155_code
def yJ0_checkIndex_df160 : MethodName := ⟨RJ0, "checkIndex", "(II)V"⟩
def RJ1 : String := "java/lang/StringLatin1"
def TJ1 : u_T := fun k => match k with
  | _ => ("", "", "", false)
def tyJ1 : Nat → FieldType := fun k => match k with
  | _ => .int
abbrev wsJ10 : List Cond := u_ws RJ1 TJ1 0
theorem nmJ1 : ∀ a, a < 0 → ∀ b, b < 0 → a ≠ b → (TJ1 a).2.1 ≠ (TJ1 b).2.1 := by decide +kernel
theorem tyJ1_ok : ∀ k, k < 0 → parseFieldDescriptor (TJ1 k).2.2.1 = some (tyJ1 k) := by decide +kernel
abbrev cJ1_charAt_3b067 : ByteArray := prog_12_method_2_code
def yJ1_charAt_3b067 : MethodName := ⟨RJ1, "charAt", "([BI)C"⟩
def RJ2 : String := "java/lang/StringUTF16"
def TJ2 : u_T := fun k => match k with
  | _ => ("", "", "", false)
def tyJ2 : Nat → FieldType := fun k => match k with
  | _ => .int
abbrev wsJ20 : List Cond := u_ws RJ2 TJ2 0
theorem nmJ2 : ∀ a, a < 0 → ∀ b, b < 0 → a ≠ b → (TJ2 a).2.1 ≠ (TJ2 b).2.1 := by decide +kernel
theorem tyJ2_ok : ∀ k, k < 0 → parseFieldDescriptor (TJ2 k).2.2.1 = some (tyJ2 k) := by decide +kernel
abbrev cJ2_getChar_3b067 : ByteArray := prog_13_method_5_code
def yJ2_getChar_3b067 : MethodName := ⟨RJ2, "getChar", "([BI)C"⟩
abbrev cJ2_length_9d52b : ByteArray := prog_13_method_6_code
def yJ2_length_9d52b : MethodName := ⟨RJ2, "length", "([B)I"⟩
abbrev cJ2_charAt_3b067 : ByteArray := prog_13_method_83_code
def yJ2_charAt_3b067 : MethodName := ⟨RJ2, "charAt", "([BI)C"⟩
abbrev cJ2_checkIndex_2214a : ByteArray := prog_13_method_91_code
def yJ2_checkIndex_2214a : MethodName := ⟨RJ2, "checkIndex", "(I[B)V"⟩
def RJ10 : String := "java/lang/System"
def TJ10 : u_T := fun k => match k with
  | _ => ("", "", "", false)
def tyJ10 : Nat → FieldType := fun k => match k with
  | _ => .int
abbrev wsJ100 : List Cond := u_ws RJ10 TJ10 0
theorem nmJ10 : ∀ a, a < 0 → ∀ b, b < 0 → a ≠ b → (TJ10 a).2.1 ≠ (TJ10 b).2.1 := by decide +kernel
theorem tyJ10_ok : ∀ k, k < 0 → parseFieldDescriptor (TJ10 k).2.2.1 = some (tyJ10 k) := by decide +kernel
def RJxfd54e : String := "java/lang/constant/Constable"
def TJxfd54e : u_T := fun k => match k with
  | _ => ("", "", "", false)
def tyJxfd54e : Nat → FieldType := fun k => match k with
  | _ => .int
abbrev wsJxfd54e0 : List Cond := u_ws RJxfd54e TJxfd54e 0
theorem nmJxfd54e : ∀ a, a < 0 → ∀ b, b < 0 → a ≠ b → (TJxfd54e a).2.1 ≠ (TJxfd54e b).2.1 := by decide +kernel
theorem tyJxfd54e_ok : ∀ k, k < 0 → parseFieldDescriptor (TJxfd54e k).2.2.1 = some (tyJxfd54e k) := by decide +kernel
def RJx3cf43 : String := "java/lang/constant/ConstantDesc"
def TJx3cf43 : u_T := fun k => match k with
  | _ => ("", "", "", false)
def tyJx3cf43 : Nat → FieldType := fun k => match k with
  | _ => .int
abbrev wsJx3cf430 : List Cond := u_ws RJx3cf43 TJx3cf43 0
theorem nmJx3cf43 : ∀ a, a < 0 → ∀ b, b < 0 → a ≠ b → (TJx3cf43 a).2.1 ≠ (TJx3cf43 b).2.1 := by decide +kernel
theorem tyJx3cf43_ok : ∀ k, k < 0 → parseFieldDescriptor (TJx3cf43 k).2.2.1 = some (tyJx3cf43 k) := by decide +kernel
def RJ7 : String := "java/util/Arrays"
def TJ7 : u_T := fun k => match k with
  | _ => ("", "", "", false)
def tyJ7 : Nat → FieldType := fun k => match k with
  | _ => .int
abbrev wsJ70 : List Cond := u_ws RJ7 TJ7 0
theorem nmJ7 : ∀ a, a < 0 → ∀ b, b < 0 → a ≠ b → (TJ7 a).2.1 ≠ (TJ7 b).2.1 := by decide +kernel
theorem tyJ7_ok : ∀ k, k < 0 → parseFieldDescriptor (TJ7 k).2.2.1 = some (tyJ7 k) := by decide +kernel
abbrev cJ7_fill_53178 : ByteArray := prog_15_method_103_code
def yJ7_fill_53178 : MethodName := ⟨RJ7, "fill", "([II)V"⟩
def RJ3 : String := "jdk/internal/util/Preconditions"
def TJ3 : u_T := fun k => match k with
  | _ => ("", "", "", false)
def tyJ3 : Nat → FieldType := fun k => match k with
  | _ => .int
abbrev wsJ30 : List Cond := u_ws RJ3 TJ3 0
theorem nmJ3 : ∀ a, a < 0 → ∀ b, b < 0 → a ≠ b → (TJ3 a).2.1 ≠ (TJ3 b).2.1 := by decide +kernel
theorem tyJ3_ok : ∀ k, k < 0 → parseFieldDescriptor (TJ3 k).2.2.1 = some (tyJ3 k) := by decide +kernel
abbrev cJ3_checkIndex_8e157 : ByteArray := prog_16_method_11_code
def yJ3_checkIndex_8e157 : MethodName := ⟨RJ3, "checkIndex", "(IILjava/util/function/BiFunction;)I"⟩
def RL : String := "UniverseLevelsLaw"
abbrev cL_law : ByteArray := code
def yL_law : MethodName := ⟨RL, "law", "([I)Z"⟩
abbrev vwCl : List vw_C := [(RX0, TX0, 4), (RX1, TX1, 2), (RX2, TX2, 4), (RX3, TX3, 3), (RX4, TX4, 6), (RX5, TX5, 3), (RX6, TX6, 13), (RX7, TX7, 24)]
end
section
/-! The worlds' judgement J: the cells, the place, the locals, the stack; what the tables say is carried in AW and NW. -/
def AW (U : State) : Prop := ∀ w ∈ lw_tbl, goodWord w = true → ∀ a : Array Value, w.before a U = true
theorem AW.warm {s U : State} (hW : s.WarmedH U.vm) (h : AW s) : AW U := fun w hw hg a => word_at (args := #[]) hW (good_of_word hg) (h w hw hg #[])
def nestF : List (String × Nat × String × String × String × String) := [("UniverseLevels", 244, "UniverseLevels$Text", "numbers", "[I", "UniverseLevels"), ("UniverseLevels", 84, "UniverseLevels$Text", "length", "I", "UniverseLevels"), ("UniverseLevels", 96, "UniverseLevels$State", "kinds", "[I", "UniverseLevels"), ("UniverseLevels$Round", 47, "UniverseLevels$State", "from", "[I", "UniverseLevels"), ("UniverseLevels$Against", 52, "UniverseLevels$State", "from", "[I", "UniverseLevels"), ("UniverseLevels", 115, "UniverseLevels$State", "from", "[I", "UniverseLevels"), ("UniverseLevels$Round", 50, "UniverseLevels$State", "to", "[I", "UniverseLevels"), ("UniverseLevels$Against", 55, "UniverseLevels$State", "to", "[I", "UniverseLevels"), ("UniverseLevels", 118, "UniverseLevels$State", "to", "[I", "UniverseLevels"), ("UniverseLevels$Against", 59, "UniverseLevels$State", "weight", "[I", "UniverseLevels"), ("UniverseLevels$Round", 66, "UniverseLevels$State", "weight", "[I", "UniverseLevels"), ("UniverseLevels", 121, "UniverseLevels$State", "weight", "[I", "UniverseLevels"), ("UniverseLevels$Lengths", 16, "UniverseLevels$State", "levels", "I", "UniverseLevels"), ("UniverseLevels$Round", 36, "UniverseLevels$State", "levels", "I", "UniverseLevels"), ("UniverseLevels", 224, "UniverseLevels$State", "levels", "I", "UniverseLevels"), ("UniverseLevels$Round", 40, "UniverseLevels$State", "bounds", "I", "UniverseLevels"), ("UniverseLevels$Against", 43, "UniverseLevels$State", "bounds", "I", "UniverseLevels"), ("UniverseLevels", 90, "UniverseLevels$State", "bounds", "I", "UniverseLevels"), ("UniverseLevels$Against", 46, "UniverseLevels$Lengths", "greatest", "[[I", "UniverseLevels"), ("UniverseLevels$Round", 59, "UniverseLevels$Lengths", "greatest", "[[I", "UniverseLevels"), ("UniverseLevels", 134, "UniverseLevels$Lengths", "greatest", "[[I", "UniverseLevels"), ("UniverseLevels", 205, "UniverseLevels$Rows", "levels", "[I", "UniverseLevels"), ("UniverseLevels", 206, "UniverseLevels$Rows", "more", "[I", "UniverseLevels"), ("UniverseLevels", 196, "UniverseLevels$Rows", "size", "I", "UniverseLevels"), ("UniverseLevels", 171, "UniverseLevels$Round", "levels", "[I", "UniverseLevels"), ("UniverseLevels", 165, "UniverseLevels$Round", "size", "I", "UniverseLevels"), ("UniverseLevels", 168, "UniverseLevels$Round", "above", "I", "UniverseLevels")]
def nestM : List (String × Nat × MethodName × String) := [("UniverseLevels", 9, ⟨"UniverseLevels$Text", "<init>", "()V"⟩, "UniverseLevels"), ("UniverseLevels", 18, ⟨"UniverseLevels$State", "<init>", "()V"⟩, "UniverseLevels"), ("UniverseLevels", 32, ⟨"UniverseLevels$Lengths", "<init>", "()V"⟩, "UniverseLevels"), ("UniverseLevels", 43, ⟨"UniverseLevels$Against", "<init>", "()V"⟩, "UniverseLevels"), ("UniverseLevels", 50, ⟨"UniverseLevels$Rows", "<init>", "()V"⟩, "UniverseLevels"), ("UniverseLevels", 60, ⟨"UniverseLevels$Round", "<init>", "()V"⟩, "UniverseLevels"), ("UniverseLevels", 77, ⟨"UniverseLevels$Text", "append", "(I)Z"⟩, "UniverseLevels"), ("UniverseLevels", 238, ⟨"UniverseLevels$Text", "letterAt", "(I)I"⟩, "UniverseLevels"), ("UniverseLevels", 241, ⟨"UniverseLevels$Text", "readItem", "(I)I"⟩, "UniverseLevels"), ("UniverseLevels", 251, ⟨"UniverseLevels$State", "addLevel", "(I)V"⟩, "UniverseLevels"), ("UniverseLevels", 155, ⟨"UniverseLevels$Lengths", "measure", "(LUniverseLevels$State;)V"⟩, "UniverseLevels"), ("UniverseLevels$Lengths", 23, ⟨"UniverseLevels$State", "lengthsFrom", "(II[I)V"⟩, "UniverseLevels"), ("UniverseLevels", 186, ⟨"UniverseLevels$State", "weightTowards", "(II)I"⟩, "UniverseLevels"), ("UniverseLevels", 130, ⟨"UniverseLevels$Lengths", "leads", "(II)Z"⟩, "UniverseLevels"), ("UniverseLevels", 254, ⟨"UniverseLevels$Round", "trace", "(LUniverseLevels$State;LUniverseLevels$Lengths;II)V"⟩, "UniverseLevels"), ("UniverseLevels", 221, ⟨"UniverseLevels$State", "copy", "(LUniverseLevels$State;)V"⟩, "UniverseLevels"), ("UniverseLevels", 258, ⟨"UniverseLevels$State", "take", "(III)V"⟩, "UniverseLevels"), ("UniverseLevels", 87, ⟨"UniverseLevels$Text", "firstFault", "()I"⟩, "UniverseLevels"), ("UniverseLevels", 99, ⟨"UniverseLevels$Lengths", "valueOf", "(I)I"⟩, "UniverseLevels"), ("UniverseLevels", 109, ⟨"UniverseLevels$State", "isFloating", "(I)Z"⟩, "UniverseLevels"), ("UniverseLevels", 262, ⟨"UniverseLevels$State", "lengthsFrom", "(II[I)V"⟩, "UniverseLevels"), ("UniverseLevels", 151, ⟨"UniverseLevels$State", "takeBack", "(I)V"⟩, "UniverseLevels"), ("UniverseLevels", 174, ⟨"UniverseLevels$Lengths", "implies", "(III)Z"⟩, "UniverseLevels"), ("UniverseLevels", 189, ⟨"UniverseLevels$Against", "choose", "(LUniverseLevels$State;LUniverseLevels$Lengths;III)I"⟩, "UniverseLevels"), ("UniverseLevels$Against", 33, ⟨"UniverseLevels$State", "lengthsFrom", "(II[I)V"⟩, "UniverseLevels"), ("UniverseLevels", 193, ⟨"UniverseLevels$Against", "numberOf", "(I)I"⟩, "UniverseLevels"), ("UniverseLevels", 197, ⟨"UniverseLevels$Rows", "add", "(II)V"⟩, "UniverseLevels"), ("UniverseLevels", 201, ⟨"UniverseLevels$Rows", "isShort", "(ILUniverseLevels$Lengths;)Z"⟩, "UniverseLevels"), ("UniverseLevels$Rows", 29, ⟨"UniverseLevels$Lengths", "implies", "(III)Z"⟩, "UniverseLevels"), ("UniverseLevels", 229, ⟨"UniverseLevels$Lengths", "greatestValue", "()I"⟩, "UniverseLevels"), ("UniverseLevels", 235, ⟨"UniverseLevels$Lengths", "pairs", "()I"⟩, "UniverseLevels")]
def NW (U : State) : Prop := (∀ q ∈ nestF, va_Nw (.fieldLinkNest q.1 q.2.1 q.2.2.1 q.2.2.2.1 q.2.2.2.2.1 q.2.2.2.2.2) U) ∧ ∀ q ∈ nestM, va_Nw (.methodLinkNest q.1 q.2.1 q.2.2.1 q.2.2.2) U
theorem NW.warm {s U : State} (hW : s.WarmedH U.vm) (h : NW s) : NW U := ⟨fun q hq => va_Nw.warmF hW (h.1 q hq), fun q hq => va_Nw.warmM hW (h.2 q hq)⟩
def aS (ws : va_W) : Nat → Prop := fun q => ∃ (k : Nat) (e : va_E), ws[k]? = some (q, e)
def jK (D : va_G) (tys : List (ClassId × FieldType)) (U : State) : Prop := va_K D vwCl tys U ∧ AW U ∧ NW U
theorem jK.warm {D : va_G} {tys : List (ClassId × FieldType)} {s U : State} (hW : s.WarmedH U.vm) (h : jK D tys s) : jK D tys U := ⟨va_K.moved hW.alike h.1, h.2.1.warm hW, h.2.2.warm hW⟩
def cPre (D : va_G) (tys : List (ClassId × FieldType)) (av : List Value) (ws : va_W) : Array Value → State → Prop := fun v U => v = av.toArray ∧ va_P D vwCl ws U.heap ∧ jK D tys U ∧ va_D (fun _ => True) ws
def cPost (D : va_G) (A : Nat → Prop) (ro : Option Int32) (wf : va_W) : Array Value → State → Outcome → State → Prop := fun _ st oc t => oc = .returned (ro.map Value.int) ∧ va_P D vwCl wf t.heap ∧ st.heap.size ≤ t.heap.size ∧ ∀ q : Nat, q < st.heap.size → ¬ A q → t.heap[q]? = st.heap[q]?
def MJ (l : Launch) (y : MethodName) (cc : ByteArray) (nL : Nat) (rt : Option FieldType) (R : Room) (D : va_G) (tys : List (ClassId × FieldType)) (av : List Value) (ws : va_W) (ro : Option Int32) (wf : va_W) : Prop := Met l y [Cond.code y cc nL rt] R (cPre D tys av ws) (cPost D (aS ws) ro wf) 0 0 (aS ws)
abbrev jT : Type := va_W → Nat → List (Nat × Value) → List Value → Prop
def jJ (l : Launch) (cc : ByteArray) (nL : Nat) (D : va_G) (tys : List (ClassId × FieldType)) (own : String) (R : Room) (rt : Option FieldType) (A : Nat → Prop) (ro : Option Int32) (wf : va_W) (J : jT) : Prop :=
  ∃ (p : Program) (e : Env) (s : State) (m : MethodId) (args : Array Value) (below : List Frame) (meth : Method) (c : Code), p.tables.exec = Jvm.exec ∧ c.code = cc ∧ c.maxLocals = nL ∧ s.vm.findClass own = some m.cls ∧ jK D tys s ∧ meth.sig.returnType = rt ∧ meth.locks = false ∧
    J = fun ws pc lv st => ∀ (H : Heap) (locs : List Loc) (ls : Array Slot), va_P D vwCl ws H → va_D A ws → va_S A s.heap H locs → lv_has ls nL lv → W p l e R s m args below meth c H locs 0 0 (MQ below (cPost D A ro wf) args s 0 0 A) (F0 m pc ls st)
theorem mj_of {l : Launch} {y : MethodName} {cc : ByteArray} {nL : Nat} {rt : Option FieldType} {R : Room} {D : va_G} {tys : List (ClassId × FieldType)} {av : List Value} {ws : va_W} {ro : Option Int32} {wf : va_W} {own : String}
    (hy : plainName y.cls = true) (ho : y.cls = own) (hav : (lg_sl av).length ≤ nL) (body : ∀ J : jT, jJ l cc nL D tys own R rt (aS ws) ro wf J → J ws 0 (lv_args 0 av) []) : MJ l y cc nL rt R D tys av ws ro wf := by
  refine Met.ofW (cc := cc) (maxL := nL) (ret := rt) hy rfl ?_
  intro p e s m args below meth c s₁ B hml hv
  obtain ⟨rfl, hP, hK, hD0⟩ := hv
  have hl := lv_entry av (n := nL) hav
  rw [lg_entry_eq]
  have hown : s.vm.findClass own = some m.cls := by rw [← ho]; exact findClass_of_methodNamed B.named
  exact body _ ⟨p, e, s, m, av.toArray, below, meth, c, B.exec, B.bytes, hml, hown, hK, B.returns, B.notSynchronized, rfl⟩ s.heap [] _ hP ⟨hD0.1, fun k q hk => ⟨k, q.2, hk⟩⟩ va_S.rf hl
theorem ob {α β : Type} {x : Option α} {k : α → Option β} {r : β} (h : x.bind k = some r) : ∃ a, x = some a ∧ k a = some r := by
  cases x with
  | none => cases h
  | some a => exact ⟨a, rfl, h⟩
theorem ip {α : Type} {c : Prop} [Decidable c] {a b r : α} (hc : c) (h : (if c then a else b) = r) : a = r := by rw [if_pos hc] at h; exact h
theorem iq {α : Type} {c : Prop} [Decidable c] {a b r : α} (hc : ¬ c) (h : (if c then a else b) = r) : b = r := by rw [if_neg hc] at h; exact h
def rd (f : Nat → Int32) (n : Nat) (i : Int32) : Option Int32 := if i < 0 ∨ n ≤ i.toNatClampNeg then none else some (f i.toNatClampNeg)
def wr (f : Nat → Int32) (n : Nat) (i x : Int32) : Option (Nat → Int32) := if i < 0 ∨ n ≤ i.toNatClampNeg then none else some (upd f i.toNatClampNeg x)
def ix (n : Nat) (i : Int32) : Option Nat := if i < 0 ∨ n ≤ i.toNatClampNeg then none else some i.toNatClampNeg
theorem rd_some {f : Nat → Int32} {n : Nat} {i x : Int32} (h : rd f n i = some x) : vp_in i n ∧ f i.toNatClampNeg = x := by
  unfold rd at h
  by_cases hc : i < 0 ∨ n ≤ i.toNatClampNeg
  · rw [if_pos hc] at h; cases h
  · rw [if_neg hc] at h; exact ⟨hc, Option.some.inj h⟩
theorem wr_some {f : Nat → Int32} {n : Nat} {i x : Int32} {g : Nat → Int32} (h : wr f n i x = some g) : vp_in i n ∧ upd f i.toNatClampNeg x = g := by
  unfold wr at h
  by_cases hc : i < 0 ∨ n ≤ i.toNatClampNeg
  · rw [if_pos hc] at h; cases h
  · rw [if_neg hc] at h; exact ⟨hc, Option.some.inj h⟩
theorem ix_some {n : Nat} {i : Int32} {k : Nat} (h : ix n i = some k) : vp_in i n ∧ i.toNatClampNeg = k ∧ k < n := by
  unfold ix at h
  by_cases hc : i < 0 ∨ n ≤ i.toNatClampNeg
  · rw [if_pos hc] at h; cases h
  · rw [if_neg hc] at h; exact ⟨hc, Option.some.inj h, by rw [← Option.some.inj h]; exact Nat.not_le.mp fun q => hc (Or.inr q)⟩
section JR
variable {l : Launch} {cc : ByteArray} {nL : Nat} {D : va_G} {tys : List (ClassId × FieldType)} {own : String} {R : Room} {rt : Option FieldType} {A : Nat → Prop} {ro : Option Int32} {wf : va_W} {J : jT} {ws : va_W} {pc : Nat} {lv : List (Nat × Value)} {st : List Value}
theorem jj_iconst (hJ : jJ l cc nL D tys own R rt A ro wf J) {n : Int} {v : Int32} (hd : decode cc pc = .ok (.iconst n, 1)) (hv : Int32.ofInt n = v) (kk : J ws (pc + 1) lv (.int v :: st)) : J ws pc lv (st) := by
  obtain ⟨p, e, s, m, args, below, meth, c, hx, hb, hml, ho, hK, hr, hlk, rfl⟩ := hJ
  intro H locs ls hP hD hS hl
  exact lv_iconst hx hb hd hv (kk H locs ls hP hD hS hl)
theorem jj_bipush (hJ : jJ l cc nL D tys own R rt A ro wf J) {n : Int} {v : Int32} (hd : decode cc pc = .ok (.bipush n, 2)) (hv : (Int8.ofInt n).toInt32 = v) (kk : J ws (pc + 2) lv (.int v :: st)) : J ws pc lv (st) := by
  obtain ⟨p, e, s, m, args, below, meth, c, hx, hb, hml, ho, hK, hr, hlk, rfl⟩ := hJ
  intro H locs ls hP hD hS hl
  exact lv_bipush hx hb hd hv (kk H locs ls hP hD hS hl)
theorem jj_sipush (hJ : jJ l cc nL D tys own R rt A ro wf J) {n : Int} {v : Int32} (hd : decode cc pc = .ok (.sipush n, 3)) (hv : (Int16.ofInt n).toInt32 = v) (kk : J ws (pc + 3) lv (.int v :: st)) : J ws pc lv (st) := by
  obtain ⟨p, e, s, m, args, below, meth, c, hx, hb, hml, ho, hK, hr, hlk, rfl⟩ := hJ
  intro H locs ls hP hD hS hl
  exact lv_sipush hx hb hd hv (kk H locs ls hP hD hS hl)
theorem jj_lconst (hJ : jJ l cc nL D tys own R rt A ro wf J) {n : Fin 2} {v : Int64} (hd : decode cc pc = .ok (.lconst n, 1)) (hv : Int64.ofNat (n : Nat) = v) (kk : J ws (pc + 1) lv (.long v :: st)) : J ws pc lv (st) := by
  obtain ⟨p, e, s, m, args, below, meth, c, hx, hb, hml, ho, hK, hr, hlk, rfl⟩ := hJ
  intro H locs ls hP hD hS hl
  exact lv_lconst hx hb hd hv (kk H locs ls hP hD hS hl)
theorem jj_ldc (hJ : jJ l cc nL D tys own R rt A ro wf J) {index : Nat} {v : Int32} (hd : decode cc pc = .ok (.ldc index, 2)) (hw : Cond.constant own index v ∈ lw_tbl) (kk : J ws (pc + 2) lv (.int v :: st)) : J ws pc lv (st) := by
  obtain ⟨p, e, s, m, args, below, meth, c, hx, hb, hml, ho, hK, hr, hlk, rfl⟩ := hJ
  intro H locs ls hP hD hS hl
  exact lv_ldc hx hb ho (hK.2.1 _ hw rfl args) hd (kk H locs ls hP hD hS hl)
theorem jj_ldc2 (hJ : jJ l cc nL D tys own R rt A ro wf J) {index : Nat} {v : Int64} (hd : decode cc pc = .ok (.ldc2_w index, 3)) (hw : Cond.constantLong own index v ∈ lw_tbl) (kk : J ws (pc + 3) lv (.long v :: st)) : J ws pc lv (st) := by
  obtain ⟨p, e, s, m, args, below, meth, c, hx, hb, hml, ho, hK, hr, hlk, rfl⟩ := hJ
  intro H locs ls hP hD hS hl
  exact lv_ldc2 hx hb ho (hK.2.1 _ hw rfl args) hd (kk H locs ls hP hD hS hl)
theorem jj_iload_n (hJ : jJ l cc nL D tys own R rt A ro wf J) {i : Nat} {k : Fin 4} {x : Int32} (hd : decode cc pc = .ok (.iload_n k, 1)) (j : Nat) (hj : lv[j]? = some (i, .int x)) (hi : (k : Nat) = i) (kk : J ws (pc + 1) lv (.int x :: st)) : J ws pc lv (st) := by
  obtain ⟨p, e, s, m, args, below, meth, c, hx, hb, hml, ho, hK, hr, hlk, rfl⟩ := hJ
  intro H locs ls hP hD hS hl
  exact lv_iload_n hx hb hd hi (lv_at hl j hj) (kk H locs ls hP hD hS hl)
theorem jj_iload (hJ : jJ l cc nL D tys own R rt A ro wf J) {i : Nat} {x : Int32} (hd : decode cc pc = .ok (.iload i, 2)) (j : Nat) (hj : lv[j]? = some (i, .int x)) (kk : J ws (pc + 2) lv (.int x :: st)) : J ws pc lv (st) := by
  obtain ⟨p, e, s, m, args, below, meth, c, hx, hb, hml, ho, hK, hr, hlk, rfl⟩ := hJ
  intro H locs ls hP hD hS hl
  exact lv_iload hx hb hd (lv_at hl j hj) (kk H locs ls hP hD hS hl)
theorem jj_lload_n (hJ : jJ l cc nL D tys own R rt A ro wf J) {i : Nat} {k : Fin 4} {x : Int64} (hd : decode cc pc = .ok (.lload_n k, 1)) (j : Nat) (hj : lv[j]? = some (i, .long x)) (hi : (k : Nat) = i) (kk : J ws (pc + 1) lv (.long x :: st)) : J ws pc lv (st) := by
  obtain ⟨p, e, s, m, args, below, meth, c, hx, hb, hml, ho, hK, hr, hlk, rfl⟩ := hJ
  intro H locs ls hP hD hS hl
  exact lv_lload_n hx hb hd hi (lv_at hl j hj) (kk H locs ls hP hD hS hl)
theorem jj_lload (hJ : jJ l cc nL D tys own R rt A ro wf J) {i : Nat} {x : Int64} (hd : decode cc pc = .ok (.lload i, 2)) (j : Nat) (hj : lv[j]? = some (i, .long x)) (kk : J ws (pc + 2) lv (.long x :: st)) : J ws pc lv (st) := by
  obtain ⟨p, e, s, m, args, below, meth, c, hx, hb, hml, ho, hK, hr, hlk, rfl⟩ := hJ
  intro H locs ls hP hD hS hl
  exact lv_lload hx hb hd (lv_at hl j hj) (kk H locs ls hP hD hS hl)
theorem jj_aload_n (hJ : jJ l cc nL D tys own R rt A ro wf J) {i : Nat} {k : Fin 4} {x : Nat} (hd : decode cc pc = .ok (.aload_n k, 1)) (j : Nat) (hj : lv[j]? = some (i, .ref x)) (hi : (k : Nat) = i) (kk : J ws (pc + 1) lv (.ref x :: st)) : J ws pc lv (st) := by
  obtain ⟨p, e, s, m, args, below, meth, c, hx, hb, hml, ho, hK, hr, hlk, rfl⟩ := hJ
  intro H locs ls hP hD hS hl
  exact lv_aload_n hx hb hd hi (lv_at hl j hj) (kk H locs ls hP hD hS hl)
theorem jj_aload (hJ : jJ l cc nL D tys own R rt A ro wf J) {i : Nat} {x : Nat} (hd : decode cc pc = .ok (.aload i, 2)) (j : Nat) (hj : lv[j]? = some (i, .ref x)) (kk : J ws (pc + 2) lv (.ref x :: st)) : J ws pc lv (st) := by
  obtain ⟨p, e, s, m, args, below, meth, c, hx, hb, hml, ho, hK, hr, hlk, rfl⟩ := hJ
  intro H locs ls hP hD hS hl
  exact lv_aload hx hb hd (lv_at hl j hj) (kk H locs ls hP hD hS hl)
theorem jj_istore_n (hJ : jJ l cc nL D tys own R rt A ro wf J) {i : Nat} {k : Fin 4} {x : Int32} {lv' : List (Nat × Value)} (hd : decode cc pc = .ok (.istore_n k, 1)) (hi : (k : Nat) = i) (hn : i < nL) (hl9 : (i, Value.int x) :: lv.filter (fun q => !(q.1 == i) && !(q.1 + 1 == i && q.2.category == 2)) = lv') (kk : J ws (pc + 1) lv' st) : J ws pc lv (.int x :: st) := by
  obtain ⟨p, e, s, m, args, below, meth, c, hx, hb, hml, ho, hK, hr, hlk, rfl⟩ := hJ
  intro H locs ls hP hD hS hl
  exact lv_istore_n hx hb hd hi hl hn hl9 (fun ls hl => kk H locs ls hP hD hS hl)
theorem jj_istore (hJ : jJ l cc nL D tys own R rt A ro wf J) {i : Nat}  {x : Int32} {lv' : List (Nat × Value)} (hd : decode cc pc = .ok (.istore i, 2))  (hn : i < nL) (hl9 : (i, Value.int x) :: lv.filter (fun q => !(q.1 == i) && !(q.1 + 1 == i && q.2.category == 2)) = lv') (kk : J ws (pc + 2) lv' st) : J ws pc lv (.int x :: st) := by
  obtain ⟨p, e, s, m, args, below, meth, c, hx, hb, hml, ho, hK, hr, hlk, rfl⟩ := hJ
  intro H locs ls hP hD hS hl
  exact lv_istore hx hb hd hl hn hl9 (fun ls hl => kk H locs ls hP hD hS hl)
theorem jj_astore_n (hJ : jJ l cc nL D tys own R rt A ro wf J) {i : Nat} {k : Fin 4} {x : Nat} {lv' : List (Nat × Value)} (hd : decode cc pc = .ok (.astore_n k, 1)) (hi : (k : Nat) = i) (hn : i < nL) (hl9 : (i, Value.ref x) :: lv.filter (fun q => !(q.1 == i) && !(q.1 + 1 == i && q.2.category == 2)) = lv') (kk : J ws (pc + 1) lv' st) : J ws pc lv (.ref x :: st) := by
  obtain ⟨p, e, s, m, args, below, meth, c, hx, hb, hml, ho, hK, hr, hlk, rfl⟩ := hJ
  intro H locs ls hP hD hS hl
  exact lv_astore_n hx hb hd hi hl hn hl9 (fun ls hl => kk H locs ls hP hD hS hl)
theorem jj_astore (hJ : jJ l cc nL D tys own R rt A ro wf J) {i : Nat}  {x : Nat} {lv' : List (Nat × Value)} (hd : decode cc pc = .ok (.astore i, 2))  (hn : i < nL) (hl9 : (i, Value.ref x) :: lv.filter (fun q => !(q.1 == i) && !(q.1 + 1 == i && q.2.category == 2)) = lv') (kk : J ws (pc + 2) lv' st) : J ws pc lv (.ref x :: st) := by
  obtain ⟨p, e, s, m, args, below, meth, c, hx, hb, hml, ho, hK, hr, hlk, rfl⟩ := hJ
  intro H locs ls hP hD hS hl
  exact lv_astore hx hb hd hl hn hl9 (fun ls hl => kk H locs ls hP hD hS hl)
theorem jj_iinc (hJ : jJ l cc nL D tys own R rt A ro wf J) {i : Nat} {n : Int} {x v : Int32} {lv' : List (Nat × Value)} (hd : decode cc pc = .ok (.iinc i n, 3)) (j : Nat) (hj : lv[j]? = some (i, .int x)) (hv : x + Int32.ofInt n = v) (hn : i < nL) (hl9 : (i, Value.int v) :: lv.filter (fun q => !(q.1 == i) && !(q.1 + 1 == i && q.2.category == 2)) = lv') (kk : J ws (pc + 3) lv' st) : J ws pc lv st := by
  obtain ⟨p, e, s, m, args, below, meth, c, hx, hb, hml, ho, hK, hr, hlk, rfl⟩ := hJ
  intro H locs ls hP hD hS hl
  exact lv_iinc hx hb hd hl hj hv hn hl9 (fun ls hl => kk H locs ls hP hD hS hl)
theorem jj_iadd (hJ : jJ l cc nL D tys own R rt A ro wf J) {x y : Int32} (hd : decode cc pc = .ok (.iadd, 1)) (kk : J ws (pc + 1) lv (.int (x + y) :: st)) : J ws pc lv (.int y :: .int x :: st) := by
  obtain ⟨p, e, s, m, args, below, meth, c, hx, hb, hml, ho, hK, hr, hlk, rfl⟩ := hJ
  intro H locs ls hP hD hS hl
  exact lv_iadd hx hb hd (kk H locs ls hP hD hS hl)
theorem jj_isub (hJ : jJ l cc nL D tys own R rt A ro wf J) {x y : Int32} (hd : decode cc pc = .ok (.isub, 1)) (kk : J ws (pc + 1) lv (.int (x - y) :: st)) : J ws pc lv (.int y :: .int x :: st) := by
  obtain ⟨p, e, s, m, args, below, meth, c, hx, hb, hml, ho, hK, hr, hlk, rfl⟩ := hJ
  intro H locs ls hP hD hS hl
  exact lv_isub hx hb hd (kk H locs ls hP hD hS hl)
theorem jj_imul (hJ : jJ l cc nL D tys own R rt A ro wf J) {x y : Int32} (hd : decode cc pc = .ok (.imul, 1)) (kk : J ws (pc + 1) lv (.int (x * y) :: st)) : J ws pc lv (.int y :: .int x :: st) := by
  obtain ⟨p, e, s, m, args, below, meth, c, hx, hb, hml, ho, hK, hr, hlk, rfl⟩ := hJ
  intro H locs ls hP hD hS hl
  exact lv_imul hx hb hd (kk H locs ls hP hD hS hl)
theorem jj_iand (hJ : jJ l cc nL D tys own R rt A ro wf J) {x y : Int32} (hd : decode cc pc = .ok (.iand, 1)) (kk : J ws (pc + 1) lv (.int (x &&& y) :: st)) : J ws pc lv (.int y :: .int x :: st) := by
  obtain ⟨p, e, s, m, args, below, meth, c, hx, hb, hml, ho, hK, hr, hlk, rfl⟩ := hJ
  intro H locs ls hP hD hS hl
  exact lv_iand hx hb hd (kk H locs ls hP hD hS hl)
theorem jj_ior (hJ : jJ l cc nL D tys own R rt A ro wf J) {x y : Int32} (hd : decode cc pc = .ok (.ior, 1)) (kk : J ws (pc + 1) lv (.int (x ||| y) :: st)) : J ws pc lv (.int y :: .int x :: st) := by
  obtain ⟨p, e, s, m, args, below, meth, c, hx, hb, hml, ho, hK, hr, hlk, rfl⟩ := hJ
  intro H locs ls hP hD hS hl
  exact lv_ior hx hb hd (kk H locs ls hP hD hS hl)
theorem jj_ixor (hJ : jJ l cc nL D tys own R rt A ro wf J) {x y : Int32} (hd : decode cc pc = .ok (.ixor, 1)) (kk : J ws (pc + 1) lv (.int (x ^^^ y) :: st)) : J ws pc lv (.int y :: .int x :: st) := by
  obtain ⟨p, e, s, m, args, below, meth, c, hx, hb, hml, ho, hK, hr, hlk, rfl⟩ := hJ
  intro H locs ls hP hD hS hl
  exact lv_ixor hx hb hd (kk H locs ls hP hD hS hl)
theorem jj_ishl (hJ : jJ l cc nL D tys own R rt A ro wf J) {x y : Int32} (hd : decode cc pc = .ok (.ishl, 1)) (kk : J ws (pc + 1) lv (.int (x <<< (y &&& 31)) :: st)) : J ws pc lv (.int y :: .int x :: st) := by
  obtain ⟨p, e, s, m, args, below, meth, c, hx, hb, hml, ho, hK, hr, hlk, rfl⟩ := hJ
  intro H locs ls hP hD hS hl
  exact lv_ishl hx hb hd (kk H locs ls hP hD hS hl)
theorem jj_ishr (hJ : jJ l cc nL D tys own R rt A ro wf J) {x y : Int32} (hd : decode cc pc = .ok (.ishr, 1)) (kk : J ws (pc + 1) lv (.int (x >>> (y &&& 31)) :: st)) : J ws pc lv (.int y :: .int x :: st) := by
  obtain ⟨p, e, s, m, args, below, meth, c, hx, hb, hml, ho, hK, hr, hlk, rfl⟩ := hJ
  intro H locs ls hP hD hS hl
  exact lv_ishr hx hb hd (kk H locs ls hP hD hS hl)
theorem jj_irem (hJ : jJ l cc nL D tys own R rt A ro wf J) {x y : Int32} (hd : decode cc pc = .ok (.irem, 1)) (hne : ¬ y = 0) (kk : J ws (pc + 1) lv (.int (x - x / y * y) :: st)) : J ws pc lv (.int y :: .int x :: st) := by
  obtain ⟨p, e, s, m, args, below, meth, c, hx, hb, hml, ho, hK, hr, hlk, rfl⟩ := hJ
  intro H locs ls hP hD hS hl
  exact lv_irem hx hb hd hne (kk H locs ls hP hD hS hl)
theorem jj_ineg (hJ : jJ l cc nL D tys own R rt A ro wf J) {x : Int32} (hd : decode cc pc = .ok (.ineg, 1)) (kk : J ws (pc + 1) lv (.int (-x) :: st)) : J ws pc lv (.int x :: st) := by
  obtain ⟨p, e, s, m, args, below, meth, c, hx, hb, hml, ho, hK, hr, hlk, rfl⟩ := hJ
  intro H locs ls hP hD hS hl
  exact lv_ineg hx hb hd (kk H locs ls hP hD hS hl)
theorem jj_i2l (hJ : jJ l cc nL D tys own R rt A ro wf J) {x : Int32} (hd : decode cc pc = .ok (.i2l, 1)) (kk : J ws (pc + 1) lv (.long x.toInt64 :: st)) : J ws pc lv (.int x :: st) := by
  obtain ⟨p, e, s, m, args, below, meth, c, hx, hb, hml, ho, hK, hr, hlk, rfl⟩ := hJ
  intro H locs ls hP hD hS hl
  exact lv_i2l hx hb hd rfl (kk H locs ls hP hD hS hl)
theorem jj_lcmp (hJ : jJ l cc nL D tys own R rt A ro wf J) {x y : Int64} (hd : decode cc pc = .ok (.lcmp, 1)) (kk : J ws (pc + 1) lv (.int (lg_cmp x y) :: st)) : J ws pc lv (.long y :: .long x :: st) := by
  obtain ⟨p, e, s, m, args, below, meth, c, hx, hb, hml, ho, hK, hr, hlk, rfl⟩ := hJ
  intro H locs ls hP hD hS hl
  exact W.lcmp hx hb hd (kk H locs ls hP hD hS hl)
theorem jj_dup (hJ : jJ l cc nL D tys own R rt A ro wf J) {va : Value} (hd : decode cc pc = .ok (.dup, 1)) (h1 : va.category = 1) (kk : J ws (pc + 1) lv (va :: va :: st)) : J ws pc lv (va :: st) := by
  obtain ⟨p, e, s, m, args, below, meth, c, hx, hb, hml, ho, hK, hr, hlk, rfl⟩ := hJ
  intro H locs ls hP hD hS hl
  exact lv_dup hx hb hd h1 (kk H locs ls hP hD hS hl)
theorem jj_pop (hJ : jJ l cc nL D tys own R rt A ro wf J) {va : Value} (hd : decode cc pc = .ok (.pop, 1)) (h1 : va.category = 1) (kk : J ws (pc + 1) lv (st)) : J ws pc lv (va :: st) := by
  obtain ⟨p, e, s, m, args, below, meth, c, hx, hb, hml, ho, hK, hr, hlk, rfl⟩ := hJ
  intro H locs ls hP hD hS hl
  exact lv_pop hx hb hd h1 (kk H locs ls hP hD hS hl)
theorem jj_dup2 (hJ : jJ l cc nL D tys own R rt A ro wf J) {va vb : Value} (hd : decode cc pc = .ok (.dup2, 1)) (h1 : va.category = 1) (h2 : vb.category = 1) (kk : J ws (pc + 1) lv (va :: vb :: va :: vb :: st)) : J ws pc lv (va :: vb :: st) := by
  obtain ⟨p, e, s, m, args, below, meth, c, hx, hb, hml, ho, hK, hr, hlk, rfl⟩ := hJ
  intro H locs ls hP hD hS hl
  exact lv_dup2_11 hx hb hd h1 h2 (kk H locs ls hP hD hS hl)
theorem jj_if_eq (hJ : jJ l cc nL D tys own R rt A ro wf J) {x : Int32} {off : Int} (tgt : Nat) (hd : decode cc pc = .ok (.ifCond .eq off, 3)) (ht : (pc : Int) + off = (tgt : Int)) (kt : x = 0 → J ws tgt lv st) (kf : ¬ x = 0 → J ws (pc + 3) lv st) : J ws pc lv (.int x :: st) := by
  obtain ⟨p, e, s, m, args, below, meth, c, hx, hb, hml, ho, hK, hr, hlk, rfl⟩ := hJ
  intro H locs ls hP hD hS hl
  exact lv_if_eq hx hb hd ht (fun h => kt h H locs ls hP hD hS hl) (fun h => kf h H locs ls hP hD hS hl)
theorem jj_if_ne (hJ : jJ l cc nL D tys own R rt A ro wf J) {x : Int32} {off : Int} (tgt : Nat) (hd : decode cc pc = .ok (.ifCond .ne off, 3)) (ht : (pc : Int) + off = (tgt : Int)) (kt : ¬ x = 0 → J ws tgt lv st) (kf : x = 0 → J ws (pc + 3) lv st) : J ws pc lv (.int x :: st) := by
  obtain ⟨p, e, s, m, args, below, meth, c, hx, hb, hml, ho, hK, hr, hlk, rfl⟩ := hJ
  intro H locs ls hP hD hS hl
  exact lv_if_ne hx hb hd ht (fun h => kt h H locs ls hP hD hS hl) (fun h => kf h H locs ls hP hD hS hl)
theorem jj_if_lt (hJ : jJ l cc nL D tys own R rt A ro wf J) {x : Int32} {off : Int} (tgt : Nat) (hd : decode cc pc = .ok (.ifCond .lt off, 3)) (ht : (pc : Int) + off = (tgt : Int)) (kt : x < 0 → J ws tgt lv st) (kf : ¬ x < 0 → J ws (pc + 3) lv st) : J ws pc lv (.int x :: st) := by
  obtain ⟨p, e, s, m, args, below, meth, c, hx, hb, hml, ho, hK, hr, hlk, rfl⟩ := hJ
  intro H locs ls hP hD hS hl
  exact lv_if_lt hx hb hd ht (fun h => kt h H locs ls hP hD hS hl) (fun h => kf h H locs ls hP hD hS hl)
theorem jj_if_ge (hJ : jJ l cc nL D tys own R rt A ro wf J) {x : Int32} {off : Int} (tgt : Nat) (hd : decode cc pc = .ok (.ifCond .ge off, 3)) (ht : (pc : Int) + off = (tgt : Int)) (kt : 0 ≤ x → J ws tgt lv st) (kf : ¬ 0 ≤ x → J ws (pc + 3) lv st) : J ws pc lv (.int x :: st) := by
  obtain ⟨p, e, s, m, args, below, meth, c, hx, hb, hml, ho, hK, hr, hlk, rfl⟩ := hJ
  intro H locs ls hP hD hS hl
  exact lv_if_ge hx hb hd ht (fun h => kt h H locs ls hP hD hS hl) (fun h => kf h H locs ls hP hD hS hl)
theorem jj_if_gt (hJ : jJ l cc nL D tys own R rt A ro wf J) {x : Int32} {off : Int} (tgt : Nat) (hd : decode cc pc = .ok (.ifCond .gt off, 3)) (ht : (pc : Int) + off = (tgt : Int)) (kt : 0 < x → J ws tgt lv st) (kf : ¬ 0 < x → J ws (pc + 3) lv st) : J ws pc lv (.int x :: st) := by
  obtain ⟨p, e, s, m, args, below, meth, c, hx, hb, hml, ho, hK, hr, hlk, rfl⟩ := hJ
  intro H locs ls hP hD hS hl
  exact lv_if_gt hx hb hd ht (fun h => kt h H locs ls hP hD hS hl) (fun h => kf h H locs ls hP hD hS hl)
theorem jj_if_le (hJ : jJ l cc nL D tys own R rt A ro wf J) {x : Int32} {off : Int} (tgt : Nat) (hd : decode cc pc = .ok (.ifCond .le off, 3)) (ht : (pc : Int) + off = (tgt : Int)) (kt : x ≤ 0 → J ws tgt lv st) (kf : ¬ x ≤ 0 → J ws (pc + 3) lv st) : J ws pc lv (.int x :: st) := by
  obtain ⟨p, e, s, m, args, below, meth, c, hx, hb, hml, ho, hK, hr, hlk, rfl⟩ := hJ
  intro H locs ls hP hD hS hl
  exact lv_if_le hx hb hd ht (fun h => kt h H locs ls hP hD hS hl) (fun h => kf h H locs ls hP hD hS hl)
theorem jj_icmp_eq (hJ : jJ l cc nL D tys own R rt A ro wf J) {x y : Int32} {off : Int} (tgt : Nat) (hd : decode cc pc = .ok (.if_icmp .eq off, 3)) (ht : (pc : Int) + off = (tgt : Int)) (kt : x = y → J ws tgt lv st) (kf : ¬ x = y → J ws (pc + 3) lv st) : J ws pc lv (.int y :: .int x :: st) := by
  obtain ⟨p, e, s, m, args, below, meth, c, hx, hb, hml, ho, hK, hr, hlk, rfl⟩ := hJ
  intro H locs ls hP hD hS hl
  exact lv_icmp_eq hx hb hd ht (fun h => kt h H locs ls hP hD hS hl) (fun h => kf h H locs ls hP hD hS hl)
theorem jj_icmp_ne (hJ : jJ l cc nL D tys own R rt A ro wf J) {x y : Int32} {off : Int} (tgt : Nat) (hd : decode cc pc = .ok (.if_icmp .ne off, 3)) (ht : (pc : Int) + off = (tgt : Int)) (kt : ¬ x = y → J ws tgt lv st) (kf : x = y → J ws (pc + 3) lv st) : J ws pc lv (.int y :: .int x :: st) := by
  obtain ⟨p, e, s, m, args, below, meth, c, hx, hb, hml, ho, hK, hr, hlk, rfl⟩ := hJ
  intro H locs ls hP hD hS hl
  exact lv_icmp_ne hx hb hd ht (fun h => kt h H locs ls hP hD hS hl) (fun h => kf h H locs ls hP hD hS hl)
theorem jj_icmp_lt (hJ : jJ l cc nL D tys own R rt A ro wf J) {x y : Int32} {off : Int} (tgt : Nat) (hd : decode cc pc = .ok (.if_icmp .lt off, 3)) (ht : (pc : Int) + off = (tgt : Int)) (kt : x < y → J ws tgt lv st) (kf : ¬ x < y → J ws (pc + 3) lv st) : J ws pc lv (.int y :: .int x :: st) := by
  obtain ⟨p, e, s, m, args, below, meth, c, hx, hb, hml, ho, hK, hr, hlk, rfl⟩ := hJ
  intro H locs ls hP hD hS hl
  exact lv_icmp_lt hx hb hd ht (fun h => kt h H locs ls hP hD hS hl) (fun h => kf h H locs ls hP hD hS hl)
theorem jj_icmp_ge (hJ : jJ l cc nL D tys own R rt A ro wf J) {x y : Int32} {off : Int} (tgt : Nat) (hd : decode cc pc = .ok (.if_icmp .ge off, 3)) (ht : (pc : Int) + off = (tgt : Int)) (kt : y ≤ x → J ws tgt lv st) (kf : ¬ y ≤ x → J ws (pc + 3) lv st) : J ws pc lv (.int y :: .int x :: st) := by
  obtain ⟨p, e, s, m, args, below, meth, c, hx, hb, hml, ho, hK, hr, hlk, rfl⟩ := hJ
  intro H locs ls hP hD hS hl
  exact lv_icmp_ge hx hb hd ht (fun h => kt h H locs ls hP hD hS hl) (fun h => kf h H locs ls hP hD hS hl)
theorem jj_icmp_gt (hJ : jJ l cc nL D tys own R rt A ro wf J) {x y : Int32} {off : Int} (tgt : Nat) (hd : decode cc pc = .ok (.if_icmp .gt off, 3)) (ht : (pc : Int) + off = (tgt : Int)) (kt : y < x → J ws tgt lv st) (kf : ¬ y < x → J ws (pc + 3) lv st) : J ws pc lv (.int y :: .int x :: st) := by
  obtain ⟨p, e, s, m, args, below, meth, c, hx, hb, hml, ho, hK, hr, hlk, rfl⟩ := hJ
  intro H locs ls hP hD hS hl
  exact lv_icmp_gt hx hb hd ht (fun h => kt h H locs ls hP hD hS hl) (fun h => kf h H locs ls hP hD hS hl)
theorem jj_icmp_le (hJ : jJ l cc nL D tys own R rt A ro wf J) {x y : Int32} {off : Int} (tgt : Nat) (hd : decode cc pc = .ok (.if_icmp .le off, 3)) (ht : (pc : Int) + off = (tgt : Int)) (kt : x ≤ y → J ws tgt lv st) (kf : ¬ x ≤ y → J ws (pc + 3) lv st) : J ws pc lv (.int y :: .int x :: st) := by
  obtain ⟨p, e, s, m, args, below, meth, c, hx, hb, hml, ho, hK, hr, hlk, rfl⟩ := hJ
  intro H locs ls hP hD hS hl
  exact lv_icmp_le hx hb hd ht (fun h => kt h H locs ls hP hD hS hl) (fun h => kf h H locs ls hP hD hS hl)
theorem jj_goto (hJ : jJ l cc nL D tys own R rt A ro wf J) {off : Int} (tgt : Nat) (hd : decode cc pc = .ok (.goto off, 3)) (ht : (pc : Int) + off = (tgt : Int)) (kk : J ws tgt lv st) : J ws pc lv st := by
  obtain ⟨p, e, s, m, args, below, meth, c, hx, hb, hml, ho, hK, hr, hlk, rfl⟩ := hJ
  intro H locs ls hP hD hS hl
  exact lv_goto hx hb hd ht (kk H locs ls hP hD hS hl)
theorem jj_tin (hJ : jJ l cc nL D tys own R rt A ro wf J) {dflt lo hi : Int} {offs : Array Int} {len : Nat} {x : Int32} {off : Int} (tgt : Nat) (hd : decode cc pc = .ok (.tableswitch dflt lo hi offs, len)) (h1 : ¬ x.toInt < lo) (h2 : ¬ hi < x.toInt) (h3 : offs[(x.toInt - lo).toNat]? = some off) (ht : (pc : Int) + off = (tgt : Int)) (kk : J ws tgt lv st) : J ws pc lv (.int x :: st) := by
  obtain ⟨p, e, s, m, args, below, meth, c, hx, hb, hml, ho, hK, hr, hlk, rfl⟩ := hJ
  intro H locs ls hP hD hS hl
  exact lv_tableIn hx hb hd h1 h2 h3 ht (kk H locs ls hP hD hS hl)
theorem jj_tout (hJ : jJ l cc nL D tys own R rt A ro wf J) {dflt lo hi : Int} {offs : Array Int} {len : Nat} {x : Int32} (tgt : Nat) (hd : decode cc pc = .ok (.tableswitch dflt lo hi offs, len)) (h1 : x.toInt < lo ∨ hi < x.toInt) (ht : (pc : Int) + dflt = (tgt : Int)) (kk : J ws tgt lv st) : J ws pc lv (.int x :: st) := by
  obtain ⟨p, e, s, m, args, below, meth, c, hx, hb, hml, ho, hK, hr, hlk, rfl⟩ := hJ
  intro H locs ls hP hD hS hl
  exact lv_tableOut hx hb hd h1 ht (kk H locs ls hP hD hS hl)
theorem jj_lsw (hJ : jJ l cc nL D tys own R rt A ro wf J) {dflt : Int} {ps : Array (Int × Int)} {len : Nat} {x : Int32} {off : Int} (tgt : Nat) (hd : decode cc pc = .ok (.lookupswitch dflt ps, len)) (hp : (ps.toList.zip (ps.toList.drop 1)).all (fun (a, next) => a.1 < next.1) = true) (h3 : Op.lookupswitch.offset ps.toList dflt x.toInt = off) (ht : (pc : Int) + off = (tgt : Int)) (kk : J ws tgt lv st) : J ws pc lv (.int x :: st) := by
  obtain ⟨p, e, s, m, args, below, meth, c, hx, hb, hml, ho, hK, hr, hlk, rfl⟩ := hJ
  intro H locs ls hP hD hS hl
  exact lv_lookup hx hb hd hp h3 ht (kk H locs ls hP hD hS hl)
theorem jj_lv (hJ : jJ l cc nL D tys own R rt A ro wf J) {lv' : List (Nat × Value)} (ks : List Nat) (hk : lv_pick lv ks = lv') (kk : J ws pc lv' st) : J ws pc lv st := by
  obtain ⟨p, e, s, m, args, below, meth, c, hx, hb, hml, ho, hK, hr, hlk, rfl⟩ := hJ
  intro H locs ls hP hD hS hl
  exact kk H locs ls hP hD hS (lv_sub hl ks hk)
theorem jj_get (hJ : jJ l cc nL D tys own R rt A ro wf J) {C : String} {T : u_T} {N ci index a : Nat} {fs : List Value} {v : Value} (hlay : ∀ w ∈ u_ws C T N, w ∈ lw_tbl ∧ goodWord w = true) (hd : decode cc pc = .ok (.getfield index, 3)) (q0 k : Nat) (he : ws[q0]? = some (a, .inr (ci, fs))) (hc : vwCl[ci]? = some (C, T, N)) (hk : k < N) (hw : Cond.fieldLink own index (T k).1 (T k).2.1 (T k).2.2.1 ∈ lw_tbl) (hv : fs[k]? = some v) (kk : J ws (pc + 3) lv (v :: st)) : J ws pc lv (.ref a :: st) := by
  obtain ⟨p, e, s, m, args, below, meth, c, hx, hb, hml, ho, hK, hr, hlk, rfl⟩ := hJ
  intro H locs ls hP hD hS hl
  exact va_get (Ts := u_ws C T N) hx hb (fun w h => hK.2.1 w (hlay w h).1 (hlay w h).2 args) (fun _ h => h) ho hK.1 hP q0 he hc k hk (hK.2.1 _ hw rfl args) (fun _ h => h) hv hd (kk H locs ls hP hD hS hl)
theorem jj_getN (hJ : jJ l cc nL D tys own R rt A ro wf J) {C host : String} {T : u_T} {N ci index a : Nat} {fs : List Value} {v : Value} (hlay : ∀ w ∈ u_ws C T N, w ∈ lw_tbl ∧ goodWord w = true) (hd : decode cc pc = .ok (.getfield index, 3)) (q0 k : Nat) (he : ws[q0]? = some (a, .inr (ci, fs))) (hc : vwCl[ci]? = some (C, T, N)) (hk : k < N) (hw : (own, index, (T k).1, (T k).2.1, (T k).2.2.1, host) ∈ nestF) (hv : fs[k]? = some v) (kk : J ws (pc + 3) lv (v :: st)) : J ws pc lv (.ref a :: st) := by
  obtain ⟨p, e, s, m, args, below, meth, c, hx, hb, hml, ho, hK, hr, hlk, rfl⟩ := hJ
  intro H locs ls hP hD hS hl
  exact va_getN (Ts := u_ws C T N) hx hb (fun w h => hK.2.1 w (hlay w h).1 (hlay w h).2 args) (fun _ h => h) ho hK.1 hP q0 he hc k hk (va_Nw.use rfl (hK.2.2.1 _ hw)) (fun _ h => h) hv hd (kk H locs ls hP hD hS hl)
theorem jj_puti (hJ : jJ l cc nL D tys own R rt A ro wf J) {C : String} {T : u_T} {N ci index a : Nat} {fs : List Value} {x : Int32} {wn : va_W} (hlay : ∀ w ∈ u_ws C T N, w ∈ lw_tbl ∧ goodWord w = true)(ty0 : Nat → FieldType) (hty : ∀ k, k < N → parseFieldDescriptor (T k).2.2.1 = some (ty0 k)) (hnm : ∀ a, a < N → ∀ b, b < N → a ≠ b → (T a).2.1 ≠ (T b).2.1) (hd : decode cc pc = .ok (.putfield index, 3)) (q0 k : Nat) (he : ws[q0]? = some (a, .inr (ci, fs))) (hc : vwCl[ci]? = some (C, T, N)) (hk : k < N) (hw : Cond.fieldLink own index (T k).1 (T k).2.1 (T k).2.2.1 ∈ lw_tbl) (hfin : (T k).2.2.2 = false) (hpd : parseFieldDescriptor (T k).2.2.1 = some .int) (hlen : k < fs.length) (hwn : ws.set q0 (a, .inr (ci, fs.set k (.int x))) = wn) (kk : J wn (pc + 3) lv st) : J ws pc lv (.int x :: .ref a :: st) := by
  obtain ⟨p, e, s, m, args, below, meth, c, hx, hb, hml, ho, hK, hr, hlk, rfl⟩ := hJ
  intro H locs ls hP hD hS hl
  subst hwn
  exact va_put (Ts := u_ws C T N) (ty := .int) hx hb (fun w h => hK.2.1 w (hlay w h).1 (hlay w h).2 args) (fun _ h => h) ty0 hty hnm ho hK.1 hP hD hS q0 he hc k hk (hK.2.1 _ hw rfl args) (fun _ h => h) hfin hpd rfl rfl hlen hd (fun H locs hP hD hS => kk H locs ls hP hD hS hl)
theorem jj_putN (hJ : jJ l cc nL D tys own R rt A ro wf J) {C host : String} {T : u_T} {N ci index a : Nat} {fs : List Value} {x : Int32} {wn : va_W} (hlay : ∀ w ∈ u_ws C T N, w ∈ lw_tbl ∧ goodWord w = true)(ty0 : Nat → FieldType) (hty : ∀ k, k < N → parseFieldDescriptor (T k).2.2.1 = some (ty0 k)) (hnm : ∀ a, a < N → ∀ b, b < N → a ≠ b → (T a).2.1 ≠ (T b).2.1) (hd : decode cc pc = .ok (.putfield index, 3)) (q0 k : Nat) (he : ws[q0]? = some (a, .inr (ci, fs))) (hc : vwCl[ci]? = some (C, T, N)) (hk : k < N) (hw : (own, index, (T k).1, (T k).2.1, (T k).2.2.1, host) ∈ nestF) (hfin : (T k).2.2.2 = false) (hpd : parseFieldDescriptor (T k).2.2.1 = some .int) (hlen : k < fs.length) (hwn : ws.set q0 (a, .inr (ci, fs.set k (.int x))) = wn) (kk : J wn (pc + 3) lv st) : J ws pc lv (.int x :: .ref a :: st) := by
  obtain ⟨p, e, s, m, args, below, meth, c, hx, hb, hml, ho, hK, hr, hlk, rfl⟩ := hJ
  intro H locs ls hP hD hS hl
  subst hwn
  exact va_putN (Ts := u_ws C T N) (ty := .int) hx hb (fun w h => hK.2.1 w (hlay w h).1 (hlay w h).2 args) (fun _ h => h) ty0 hty hnm ho hK.1 hP hD hS q0 he hc k hk (va_Nw.use rfl (hK.2.2.1 _ hw)) (fun _ h => h) hfin hpd rfl rfl hlen hd (fun H locs hP hD hS => kk H locs ls hP hD hS hl)
theorem jj_iald (hJ : jJ l cc nL D tys own R rt A ro wf J) {cA : ClassId} {n a : Nat} {f : Nat → Int32} {i x : Int32} (hd : decode cc pc = .ok (.iaload, 1)) (q0 t0 : Nat) (ha : ws[q0]? = some (a, .inl (cA, n, .inl f))) (ht : tys[t0]? = some (cA, .int)) (hr9 : rd f n i = some x) (kk : J ws (pc + 1) lv (.int x :: st)) : J ws pc lv (.int i :: .ref a :: st) := by
  obtain ⟨p, e, s, m, args, below, meth, c, hx, hb, hml, ho, hK, hr, hlk, rfl⟩ := hJ
  intro H locs ls hP hD hS hl
  obtain ⟨hin, rfl⟩ := rd_some hr9
  exact va_iald hx hb hK.1 hP q0 t0 ha ht hin hd (kk H locs ls hP hD hS hl)
theorem jj_iast (hJ : jJ l cc nL D tys own R rt A ro wf J) {cA : ClassId} {n a : Nat} {f g : Nat → Int32} {i x : Int32} {wn : va_W} (hd : decode cc pc = .ok (.iastore, 1)) (q0 t0 : Nat) (ha : ws[q0]? = some (a, .inl (cA, n, .inl f))) (ht : tys[t0]? = some (cA, .int)) (hr9 : wr f n i x = some g) (hwn : ws.set q0 (a, .inl (cA, n, .inl g)) = wn) (kk : J wn (pc + 1) lv st) : J ws pc lv (.int x :: .int i :: .ref a :: st) := by
  obtain ⟨p, e, s, m, args, below, meth, c, hx, hb, hml, ho, hK, hr, hlk, rfl⟩ := hJ
  intro H locs ls hP hD hS hl
  obtain ⟨hin, rfl⟩ := wr_some hr9
  subst hwn
  exact va_iast hx hb hK.1 hP hD hS q0 t0 ha ht hin hd (fun H locs hP hD hS => kk H locs ls hP hD hS hl)
theorem jj_aald (hJ : jJ l cc nL D tys own R rt A ro wf J) {cA : ClassId} {ty : FieldType} {n a b : Nat} {f : Nat → Option Nat} {i : Int32} (hd : decode cc pc = .ok (.aaload, 1)) (q0 t0 : Nat) (ha : ws[q0]? = some (a, .inl (cA, n, .inr (.inr (.inr (.inr f)))))) (ht : tys[t0]? = some (cA, ty)) (hty : ty.isReference = true) (hin : vp_in i n) (hb9 : f i.toNatClampNeg = some b) (kk : J ws (pc + 1) lv (.ref b :: st)) : J ws pc lv (.int i :: .ref a :: st) := by
  obtain ⟨p, e, s, m, args, below, meth, c, hx, hb, hml, ho, hK, hr, hlk, rfl⟩ := hJ
  intro H locs ls hP hD hS hl
  have hlt : i.toNatClampNeg < n := Nat.not_le.mp fun q => hin (Or.inr q)
  have e9 : va_rf (f i.toNatClampNeg) = .ref b := by rw [hb9]; rfl
  exact W.aald (v := .ref b) (ty := ty) hx hb (hP q0 _ ha) ((hK.1.2 t0 _ ht).1 n (fun j => va_rf (f j))) hty (fun q => by cases q) (by show ¬ (i < 0 ∨ (arrV _ _ _).slots.size ≤ _); rw [arrV_size]; exact hin) (by show (arrV _ _ _).slots[_]? = _; rw [arrV_read _ _ hlt, e9]) rfl rfl hd (kk H locs ls hP hD hS hl)
theorem jj_aast (hJ : jJ l cc nL D tys own R rt A ro wf J) {cA : ClassId} {r : vw_C} {n a v ci : Nat} {vs : List Value} {f g : Nat → Option Nat} {i : Int32} {wn : va_W} (hd : decode cc pc = .ok (.aastore, 1)) (q0 t0 qk : Nat) (ha : ws[q0]? = some (a, .inl (cA, n, .inr (.inr (.inr (.inr f)))))) (ht : tys[t0]? = some (cA, .object r.1)) (hv : ws[qk]? = some (v, .inr (ci, vs))) (hc : vwCl[ci]? = some r) (hin : vp_in i n) (hg : va_up f i.toNatClampNeg (some v) = g) (hwn : ws.set q0 (a, .inl (cA, n, .inr (.inr (.inr (.inr g))))) = wn) (kk : J wn (pc + 1) lv st) : J ws pc lv (.ref v :: .int i :: .ref a :: st) := by
  obtain ⟨p, e, s, m, args, below, meth, c, hx, hb, hml, ho, hK, hr, hlk, rfl⟩ := hJ
  intro H locs ls hP hD hS hl
  subst hg
  subst hwn
  exact va_astq hx hb hK.1 hP hD hS q0 t0 qk ci ha ht hv hc hin hd (fun H locs hP hD hS => kk H locs ls hP hD hS hl)
theorem jj_iret {v9 : Int32} (hJ : jJ l cc nL D tys own R (some .int) A (some v9) wf J) (hd : decode cc pc = .ok (.ireturn, 1)) : J wf pc lv [.int v9] := by
  obtain ⟨p, e, s, m, args, below, meth, c, hx, hb, hml, ho, hK, hr, hlk, rfl⟩ := hJ
  intro H locs ls hP hD hS hl
  exact W.iret hx hb hr (fun t ht hW => ⟨rfl, by rw [ht]; exact hP, by rw [ht]; exact hS.1, fun q h1 h2 => by rw [ht]; exact hS.2.1 q h1 h2⟩) hS.2.2 hd
theorem jj_zret {v9 : Int32} (hJ : jJ l cc nL D tys own R (some .boolean) A (some v9) wf J) (hn : v9 = 0 ∨ v9 = 1) (hd : decode cc pc = .ok (.ireturn, 1)) : J wf pc lv [.int v9] := by
  obtain ⟨p, e, s, m, args, below, meth, c, hx, hb, hml, ho, hK, hr, hlk, rfl⟩ := hJ
  intro H locs ls hP hD hS hl
  exact W.zret hx hb hr (by rcases hn with rfl | rfl <;> rfl) (fun t ht hW => ⟨rfl, by rw [ht]; exact hP, by rw [ht]; exact hS.1, fun q h1 h2 => by rw [ht]; exact hS.2.1 q h1 h2⟩) hS.2.2 hd
theorem jj_vret (hJ : jJ l cc nL D tys own R none A none wf J) (hd : decode cc pc = .ok (.return_, 1)) : J wf pc lv [] := by
  obtain ⟨p, e, s, m, args, below, meth, c, hx, hb, hml, ho, hK, hr, hlk, rfl⟩ := hJ
  intro H locs ls hP hD hS hl
  exact W.vret hx hb hr (fun t ht hW => ⟨rfl, by rw [ht]; exact hP, by rw [ht]; exact hS.1, fun q h1 h2 => by rw [ht]; exact hS.2.1 q h1 h2⟩) hS.2.2 hd
theorem jj_max (hJ : jJ l cc nL D tys own R rt A ro wf J) {index : Nat} {x y : Int32} (hd : decode cc pc = .ok (.invokestatic index, 3)) (hw : Cond.methodLink own index Lib.Math.max.name ∈ lw_tbl) (h2 : Cond.static Lib.Math.max.name ∈ lw_tbl) (h3 : Cond.initialized "java/lang/Math" ∈ lw_tbl) (h4 : Cond.code Lib.Math.max.name Lib.Math.max.code 2 (some .int) ∈ lw_tbl) (hf : 1 ≤ R.frames) (hlo : (st.map fun v => v.category).sum + 13 ≤ R.locals) (kk : J ws (pc + 3) lv (.int (if x < y then y else x) :: st)) : J ws pc lv (.int y :: .int x :: st) := by
  obtain ⟨p, e, s, m, args, below, meth, c, hx, hb, hml, ho, hK, hr, hlk, rfl⟩ := hJ
  intro H locs ls hP hD hS hl
  exact va_mmax hx hb (hml.trans hl.1.symm) ho (hK.2.1 _ hw rfl args) (hK.2.1 _ h2 rfl args) (hK.2.1 _ h3 rfl args) (hK.2.1 _ h4 rfl args) hf hlo (Nat.zero_le _) (Nat.zero_le _) hd (kk H locs ls hP hD hS hl)
theorem jj_min (hJ : jJ l cc nL D tys own R rt A ro wf J) {index : Nat} {x y : Int32} (hd : decode cc pc = .ok (.invokestatic index, 3)) (hw : Cond.methodLink own index Lib.Math.min.name ∈ lw_tbl) (h2 : Cond.static Lib.Math.min.name ∈ lw_tbl) (h3 : Cond.initialized "java/lang/Math" ∈ lw_tbl) (h4 : Cond.code Lib.Math.min.name Lib.Math.min.code 2 (some .int) ∈ lw_tbl) (hf : 1 ≤ R.frames) (hlo : (st.map fun v => v.category).sum + 13 ≤ R.locals) (kk : J ws (pc + 3) lv (.int (if y < x then y else x) :: st)) : J ws pc lv (.int y :: .int x :: st) := by
  obtain ⟨p, e, s, m, args, below, meth, c, hx, hb, hml, ho, hK, hr, hlk, rfl⟩ := hJ
  intro H locs ls hP hD hS hl
  exact va_mmin hx hb (hml.trans hl.1.symm) ho (hK.2.1 _ hw rfl args) (hK.2.1 _ h2 rfl args) (hK.2.1 _ h3 rfl args) (hK.2.1 _ h4 rfl args) hf hlo (Nat.zero_le _) (Nat.zero_le _) hd (kk H locs ls hP hD hS hl)
theorem jj_copy (hJ : jJ l cc nL D tys own R rt A ro wf J) {index a a0 n0 n1 : Nat} {c0 c1 : ClassId} {f g h : Nat → Int32} {sp dp n : Int32} {wn : va_W} (hd : decode cc pc = .ok (.invokestatic index, 3)) (hw : Cond.methodLink own index arraycopyName ∈ lw_tbl) (h2 : Cond.native arraycopyName ∈ lw_tbl) (h3 : Cond.static arraycopyName ∈ lw_tbl) (h4 : Cond.initialized "java/lang/System" ∈ lw_tbl) (q0 q1 t0 t1 : Nat) (ha0 : ws[q0]? = some (a0, .inl (c0, n0, .inl f))) (ha1 : ws[q1]? = some (a, .inl (c1, n1, .inl g))) (ht0 : tys[t0]? = some (c0, .int)) (ht1 : tys[t1]? = some (c1, .int)) (g1 : ¬ sp < 0) (g2 : ¬ dp < 0) (g3 : ¬ n < 0) (g4 : sp.toNatClampNeg + n.toNatClampNeg ≤ n0) (g5 : dp.toNatClampNeg + n.toNatClampNeg ≤ n1) (hf : 1 ≤ R.frames) (hlo : (st.map fun v => v.category).sum + (nativeFrameWords "java/lang/System" "arraycopy" 5 + 11) ≤ R.locals) (hh : va_cpy f g sp.toNatClampNeg dp.toNatClampNeg n.toNatClampNeg = h) (hwn : ws.set q1 (a, .inl (c1, n1, .inl h)) = wn) (kk : J wn (pc + 3) lv st) : J ws pc lv (.int n :: .int dp :: .ref a :: .int sp :: .ref a0 :: st) := by
  obtain ⟨p, e, s, m, args, below, meth, c, hx, hb, hml, ho, hK, hr, hlk, rfl⟩ := hJ
  intro H locs ls hP hD hS hl
  subst hh
  subst hwn
  exact va_copyi (ty := .int) hx hb (hml.trans hl.1.symm) ho (hK.2.1 _ hw rfl args) (hK.2.1 _ h2 rfl args) (hK.2.1 _ h3 rfl args) (hK.2.1 _ h4 rfl args) hK.1 hP hD hS q0 q1 t0 t1 ha0 ha1 ht0 ht1 rfl g1 g2 g3 g4 g5 (fun _ _ => rfl) hf hlo hd (fun H locs hP hD hS => kk H locs ls hP hD hS hl)
end JR
end
section
/-! Calls: the callee's cells are put back at their places. -/
def putL : va_W → List Nat → va_W → va_W
  | ws, i :: is, c :: cs => putL (ws.set i c) is cs
  | ws, _, _ => ws
theorem putL_get : ∀ (isC : List Nat) (wc' ws : va_W) (k : Nat) (q : Nat × va_E), isC.length = wc'.length → (putL ws isC wc')[k]? = some q → (∃ j : Nat, isC[j]? = some k ∧ wc'[j]? = some q) ∨ (ws[k]? = some q ∧ k ∉ isC)
  | [], [], ws, k, q, _, h => Or.inr ⟨h, List.not_mem_nil⟩
  | [], _ :: _, ws, k, q, hl, h => by simp at hl
  | _ :: _, [], ws, k, q, hl, h => by simp at hl
  | i :: is, c :: cs, ws, k, q, hl, h => by
    rcases putL_get is cs (ws.set i c) k q (by simpa using hl) h with ⟨j, h1, h2⟩ | ⟨h1, h2⟩
    · exact Or.inl ⟨j + 1, by simpa using h1, by simpa using h2⟩
    · by_cases hki : k = i
      · subst hki
        have hlt : k < ws.length := by
          have := (List.getElem?_eq_some_iff.mp h1).1
          simpa using this
        rw [List.getElem?_set_self hlt] at h1
        exact Or.inl ⟨0, rfl, by simpa using h1⟩
      · rw [List.getElem?_set_ne (Ne.symm hki)] at h1
        exact Or.inr ⟨h1, fun hm => (List.mem_cons.mp hm).elim hki h2⟩
theorem put_world {A : Nat → Prop} {D : va_G} {ws wc wc' : va_W} {isC : List Nat} {H H1 : Heap} (hP : va_P D vwCl ws H) (hD : va_D A ws) (hC : isC.map (fun i => ws[i]?) = wc.map some) (ha : wc'.map Prod.fst = wc.map Prod.fst)
    (hk : ∀ q : Nat, q < H.size → ¬ aS wc q → H1[q]? = H[q]?) (hP1 : va_P D vwCl wc' H1) : va_P D vwCl (putL ws isC wc') H1 ∧ va_D A (putL ws isC wc') := by
  have hlen : isC.length = wc.length := by have := congrArg List.length hC; simpa using this
  have hlen' : wc'.length = wc.length := by have := congrArg List.length ha; simpa using this
  have atC : ∀ (j : Nat) (q : Nat × va_E), wc[j]? = some q → ∃ i, isC[j]? = some i ∧ ws[i]? = some q := by
    intro j q hq
    have h1 : (isC.map (fun i => ws[i]?))[j]? = some (some q) := by rw [hC, List.getElem?_map, hq]; rfl
    rw [List.getElem?_map] at h1
    cases hi : isC[j]? with
    | none => rw [hi] at h1; cases h1
    | some i => rw [hi] at h1; exact ⟨i, rfl, Option.some.inj h1⟩
  have old : ∀ (k : Nat) (q : Nat × va_E), (putL ws isC wc')[k]? = some q → ∃ q0, ws[k]? = some q0 ∧ q0.1 = q.1 := by
    intro k q h
    rcases putL_get isC wc' ws k q (hlen.trans hlen'.symm) h with ⟨j, h1, h2⟩ | ⟨h1, -⟩
    · have hj : (wc.map Prod.fst)[j]? = some q.1 := by rw [← ha, List.getElem?_map, h2]; rfl
      rw [List.getElem?_map] at hj
      cases hw : wc[j]? with
      | none => rw [hw] at hj; cases hj
      | some q0 =>
        rw [hw] at hj
        obtain ⟨i, h3, h4⟩ := atC j q0 hw
        have : i = k := Option.some.inj (h3.symm.trans h1)
        subst this
        exact ⟨q0, h4, Option.some.inj hj⟩
    · exact ⟨q, h1, rfl⟩
  refine ⟨fun k q h => ?_, fun i j x y hi hj hxy => ?_, fun k q h => ?_⟩
  · rcases putL_get isC wc' ws k q (hlen.trans hlen'.symm) h with ⟨j, h1, h2⟩ | ⟨h1, h2⟩
    · exact hP1 j q h2
    · refine (hP k q h1).kept (hk q.1 ((hP k q h1).lt) ?_)
      rintro ⟨j, e, hj⟩
      obtain ⟨i, h3, h4⟩ := atC j _ hj
      have := hD.1 k i q (q.1, e) h1 h4 rfl
      subst this
      exact h2 (List.mem_of_getElem? h3)
  · obtain ⟨x0, h1, h2⟩ := old i x hi
    obtain ⟨y0, h3, h4⟩ := old j y hj
    exact hD.1 i j x0 y0 h1 h3 (h2.trans (hxy.trans h4.symm))
  · obtain ⟨q0, h1, h2⟩ := old k q h
    rw [← h2]
    exact hD.2 k q0 h1
theorem cPre_blind {D : va_G} {tys : List (ClassId × FieldType)} {av : List Value} {ws : va_W} : FrameBlind (cPre D tys av ws) := fun _ U g mk h => ⟨h.1, h.2.1, jK.warm (U := U.calling g mk _) (State.WarmedH.refl U) h.2.2.1, h.2.2.2⟩
theorem sub_D {A : Nat → Prop} {ws wc : va_W} {isC : List Nat} (hD : va_D A ws) (hnd : va_nd isC = true) (hC : isC.map (fun i => ws[i]?) = wc.map some) : va_D (fun _ => True) wc := (hD.sub isC hnd hC).weaken (fun _ _ _ _ => trivial)
theorem sub_P {D : va_G} {ws wc : va_W} {isC : List Nat} {H : Heap} (hP : va_P D vwCl ws H) (hC : isC.map (fun i => ws[i]?) = wc.map some) : va_P D vwCl wc H := by
  intro k q hk
  have h1 : (isC.map (fun i => ws[i]?))[k]? = some (some q) := by rw [hC, List.getElem?_map, hk]; rfl
  rw [List.getElem?_map] at h1
  cases hi : isC[k]? with
  | none => rw [hi] at h1; cases h1
  | some i => rw [hi] at h1; exact hP i q (Option.some.inj h1)
theorem sub_A {A : Nat → Prop} {ws wc : va_W} {isC : List Nat} (hD : va_D A ws) (hC : isC.map (fun i => ws[i]?) = wc.map some) : ∀ q, aS wc q → A q := by
  rintro q ⟨k, e, hk⟩
  have h1 : (isC.map (fun i => ws[i]?))[k]? = some (some (q, e)) := by rw [hC, List.getElem?_map, hk]; rfl
  rw [List.getElem?_map] at h1
  cases hi : isC[k]? with
  | none => rw [hi] at h1; cases h1
  | some i => rw [hi] at h1; exact hD.2 i _ (Option.some.inj h1)
/-- what a method's call wants of the tables -/
def cwOk (y : MethodName) (bytes : ByteArray) (maxL : Nat) (rty : Option FieldType) (n : Nat) : Prop := Cond.code y bytes maxL rty ∈ lw_tbl ∧ Cond.initialized y.cls ∈ lw_tbl ∧ y.cls ≠ "java/lang/invoke/MethodHandle" ∧ y.cls ≠ "java/lang/invoke/VarHandle" ∧ (parseMethodDescriptor y.desc).map (fun d => d.parameters.length) = some n
def cwRm (R Rc : Room) (maxL : Nat) : Prop := Rc.frames + 1 ≤ R.frames ∧ 8 + (maxL + 11) + Rc.locals ≤ R.locals ∧ Rc.cells = 0 ∧ Rc.slots = 0
section JC
variable {l : Launch} {cc : ByteArray} {nL : Nat} {D : va_G} {tys : List (ClassId × FieldType)} {own : String} {R : Room} {rt : Option FieldType} {A : Nat → Prop} {ro : Option Int32} {wf : va_W} {J : jT} {ws : va_W} {pc : Nat} {lv : List (Nat × Value)} {st : List Value}
theorem jcB {s : State} {args : Array Value} {y : MethodName} {bytes : ByteArray} {maxL n index : Nat} {rty : Option FieldType} {Rc : Room} (hK : jK D tys s) (ho : cwOk y bytes maxL rty n) (hR : cwRm R Rc maxL) (h1 : Cond.methodLink own index y ∈ lw_tbl) : CallB R s args own index y bytes maxL rty [Cond.code y bytes maxL rty] Rc 0 0 n := by
  refine ⟨hR.2.2.1, hR.2.2.2, hR.1, hR.2.1, fun w hw a' U hW => ?_, List.mem_cons_self, hK.2.1 _ ho.1 rfl args, hK.2.1 _ ho.2.1 rfl args, ⟨ho.2.2.1, ho.2.2.2.1⟩, fun sig h => ?_, hK.2.1 _ h1 rfl args⟩
  · cases List.mem_singleton.mp hw
    exact (hK.2.1.warm hW) _ ho.1 rfl a'
  · have h2 := ho.2.2.2.2
    rw [h] at h2
    exact (Option.some.inj h2).symm
theorem jcN {s : State} {args : Array Value} {y : MethodName} {bytes : ByteArray} {maxL n index : Nat} {host : String} {rty : Option FieldType} {Rc : Room} (hK : jK D tys s) (ho : cwOk y bytes maxL rty n) (hR : cwRm R Rc maxL) (h1 : (own, index, y, host) ∈ nestM) : va_CN R s args own index y host bytes maxL rty [Cond.code y bytes maxL rty] Rc 0 0 n := by
  refine ⟨⟨hR.2.2.1, hR.2.2.2, hR.1, hR.2.1, fun w hw a' U hW => ?_, List.mem_cons_self⟩, hK.2.1 _ ho.1 rfl args, hK.2.1 _ ho.2.1 rfl args, ⟨ho.2.2.1, ho.2.2.2.1⟩, fun sig h => ?_, va_Nw.use rfl (hK.2.2.2 _ h1)⟩
  · cases List.mem_singleton.mp hw
    exact (hK.2.1.warm hW) _ ho.1 rfl a'
  · have h2 := ho.2.2.2.2
    rw [h] at h2
    exact (Option.some.inj h2).symm
theorem jRun {p : Program} {e : Env} {s : State} {m : MethodId} {args : Array Value} {below : List Frame} {meth : Method} {c : Code} {H : Heap} {locs : List Loc} {ls : Array Slot} {Q : State → Prop} {st0 rest : List Value} {wc wc' wn : va_W} {r : Option Int32} {isC : List Nat} {a : Array Value}
    (hr : va_Run p l e R s m args below meth c H locs 0 0 0 0 (F0 m pc ls st0) rest (cPost D (aS wc) r wc' a) (aS wc)) (hP : va_P D vwCl ws H) (hD : va_D A ws) (hS : va_S A s.heap H locs) (hC : isC.map (fun i => ws[i]?) = wc.map some) (ha : wc'.map Prod.fst = wc.map Prod.fst) (hwn : putL ws isC wc' = wn)
    (kk : ∀ (H1 : Heap) (locs1 : List Loc), va_P D vwCl wn H1 → va_D A wn → va_S A s.heap H1 locs1 → W p l e R s m args below meth c H1 locs1 0 0 Q (F0 m (pc + 3) ls ((r.map Value.int).toList ++ rest))) : W p l e R s m args below meth c H locs 0 0 Q (F0 m pc ls st0) := by
  intro T hT X
  obtain ⟨v, st₀, t, T', L, h0, X', hL, e1, e2, ⟨hv, hP1, hz, hk⟩, stp⟩ := hr T hT X
  have hv' : v = r.map Value.int := by cases hv; rfl
  subst hv'
  rw [h0] at hz hk
  rw [← e1] at hP1 hz hk
  subst hwn
  obtain ⟨hP2, hD2⟩ := put_world (isC := isC) hP hD hC ha hk hP1
  have hS2 : va_S A s.heap T'.heap (locs ++ L) := ⟨Nat.le_trans hS.1 hz, fun q h1 h2 => by rw [hk q (Nat.lt_of_lt_of_le h1 hS.1) (fun z => h2 (sub_A hD hC q z))]; exact hS.2.1 q h1 h2, fun q hq => (List.mem_append.mp hq).elim (hS.2.2 q) (fun h => sub_A hD hC _ (hL q h))⟩
  obtain ⟨t2, a1, b1⟩ := kk T'.heap (locs ++ L) hP2 hD2 hS2 T' rfl X'
  exact ⟨t2, stp t2 a1, b1⟩
theorem jj_callV (hJ : jJ l cc nL D tys own R rt A ro wf J) {y : MethodName} {bytes : ByteArray} {maxL n index b ci N : Nat} {rty : Option FieldType} {Rc : Room} {As rest : List Value} {wc wc' wn : va_W} {r : Option Int32} {C : String} {T : u_T} {fs : List Value}
    (hM : MJ l y bytes maxL rty Rc D tys (.ref b :: As) wc r wc') (hd : decode cc pc = .ok (.invokevirtual index, 3)) (hk : cwOk y bytes maxL rty n) (hR : cwRm R Rc maxL) (h1 : Cond.methodLink own index y ∈ lw_tbl) (h2 : Cond.instanceMethod y ∈ lw_tbl) (h3 : Cond.selects C y y ∈ lw_tbl)
    (q0 : Nat) (he : ws[q0]? = some (b, .inr (ci, fs))) (hc : vwCl[ci]? = some (C, T, N)) (hn : As.length = n) (hst : As.reverse ++ .ref b :: rest = st) (hroom : (rest.map fun v => v.category).sum ≤ 8) (isC : List Nat) (hC : isC.map (fun i => ws[i]?) = wc.map some) (hnd : va_nd isC = true) (ha : wc'.map Prod.fst = wc.map Prod.fst) (hwn : putL ws isC wc' = wn)
    (kk : J wn (pc + 3) lv ((r.map Value.int).toList ++ rest)) : J ws pc lv st := by
  subst hst
  obtain ⟨p, e, s, m, args, below, meth, c, hx, hb, hml, ho, hK, hr, hlk, rfl⟩ := hJ
  intro H locs ls hP hD hS hl
  exact jRun (va_runV (Ts := []) (As := As) (rest := rest) ⟨hx, hb, hml, ho, fun _ h => absurd h List.not_mem_nil⟩ hM ⟨jcB hK hk hR h1, hK.2.1 _ h2 rfl args, hK.2.1 _ h3 rfl args⟩ ⟨cPre_blind, va_recv hK.1 hP hc he, fun U hU hW => ⟨rfl, by rw [hU]; exact sub_P hP hC, hK.warm hW, sub_D hD hnd hC⟩⟩ rfl hn hl.1 rfl (lv_room hroom) hd ⟨Nat.zero_le _, Nat.zero_le _⟩) hP hD hS hC ha hwn (fun H locs hP hD hS => kk H locs ls hP hD hS hl)
theorem jj_callN (hJ : jJ l cc nL D tys own R rt A ro wf J) {y : MethodName} {bytes : ByteArray} {maxL n index b ci N : Nat} {rty : Option FieldType} {Rc : Room} {As rest : List Value} {wc wc' wn : va_W} {r : Option Int32} {C host : String} {T : u_T} {fs : List Value}
    (hM : MJ l y bytes maxL rty Rc D tys (.ref b :: As) wc r wc') (hd : decode cc pc = .ok (.invokevirtual index, 3)) (hk : cwOk y bytes maxL rty n) (hR : cwRm R Rc maxL) (h1 : (own, index, y, host) ∈ nestM) (h2 : Cond.instanceMethod y ∈ lw_tbl) (h3 : Cond.selects C y y ∈ lw_tbl)
    (q0 : Nat) (he : ws[q0]? = some (b, .inr (ci, fs))) (hc : vwCl[ci]? = some (C, T, N)) (hn : As.length = n) (hst : As.reverse ++ .ref b :: rest = st) (hroom : (rest.map fun v => v.category).sum ≤ 8) (isC : List Nat) (hC : isC.map (fun i => ws[i]?) = wc.map some) (hnd : va_nd isC = true) (ha : wc'.map Prod.fst = wc.map Prod.fst) (hwn : putL ws isC wc' = wn)
    (kk : J wn (pc + 3) lv ((r.map Value.int).toList ++ rest)) : J ws pc lv st := by
  subst hst
  obtain ⟨p, e, s, m, args, below, meth, c, hx, hb, hml, ho, hK, hr, hlk, rfl⟩ := hJ
  intro H locs ls hP hD hS hl
  exact jRun (va_runVN (Ts := []) (C := C) (As := As) (rest := rest) ⟨hx, hb, hml, ho, fun _ h => absurd h List.not_mem_nil⟩ hM ⟨jcN hK hk hR h1, hK.2.1 _ h2 rfl args, hK.2.1 _ h3 rfl args⟩ ⟨cPre_blind, va_recv hK.1 hP hc he, fun U hU hW => ⟨rfl, by rw [hU]; exact sub_P hP hC, hK.warm hW, sub_D hD hnd hC⟩⟩ rfl hn hl.1 rfl (lv_room hroom) hd ⟨Nat.zero_le _, Nat.zero_le _⟩) hP hD hS hC ha hwn (fun H locs hP hD hS => kk H locs ls hP hD hS hl)
theorem jj_callS (hJ : jJ l cc nL D tys own R rt A ro wf J) {y : MethodName} {bytes : ByteArray} {maxL n index : Nat} {rty : Option FieldType} {Rc : Room} {As rest : List Value} {wc wc' wn : va_W} {r : Option Int32}
    (hM : MJ l y bytes maxL rty Rc D tys As wc r wc') (hd : decode cc pc = .ok (.invokestatic index, 3)) (hk : cwOk y bytes maxL rty n) (hR : cwRm R Rc maxL) (h1 : Cond.methodLink own index y ∈ lw_tbl) (h2 : Cond.static y ∈ lw_tbl)
    (hn : As.length = n) (hst : As.reverse ++ rest = st) (hroom : (rest.map fun v => v.category).sum ≤ 8) (isC : List Nat) (hC : isC.map (fun i => ws[i]?) = wc.map some) (hnd : va_nd isC = true) (ha : wc'.map Prod.fst = wc.map Prod.fst) (hwn : putL ws isC wc' = wn)
    (kk : J wn (pc + 3) lv ((r.map Value.int).toList ++ rest)) : J ws pc lv st := by
  subst hst
  obtain ⟨p, e, s, m, args, below, meth, c, hx, hb, hml, ho, hK, hr, hlk, rfl⟩ := hJ
  intro H locs ls hP hD hS hl
  exact jRun (va_runS (Ts := []) (As := As) (rest := rest) ⟨hx, hb, hml, ho, fun _ h => absurd h List.not_mem_nil⟩ hM ⟨jcB hK hk hR h1, hK.2.1 _ h2 rfl args⟩ ⟨cPre_blind, fun U hU hW => ⟨rfl, by rw [hU]; exact sub_P hP hC, hK.warm hW, sub_D hD hnd hC⟩⟩ rfl hn hl.1 rfl (lv_room hroom) hd ⟨Nat.zero_le _, Nat.zero_le _⟩) hP hD hS hC ha hwn (fun H locs hP hD hS => kk H locs ls hP hD hS hl)
end JC
end
