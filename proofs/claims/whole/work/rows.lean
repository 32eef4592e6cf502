section
-- ===== PART A: goes FIRST, ahead of the names: the tables' words, and 'selects' of the private methods out of them =====
/-- a private method of a class that the tables say can be made, by its rows of tables_1 -/
def lw_okq (q : MethodName × Nat) : Prop := (q.1.cls ≠ "java/lang/invoke/MethodHandle" ∧ q.1.cls ≠ "java/lang/invoke/VarHandle") ∧ Cond.instantiable q.1.cls q.2 ∈ tables_1 ∧ Cond.privateMethod q.1 ∈ tables_1 ∧ Cond.instanceMethod q.1 ∈ tables_1
theorem lw_p0 : lw_okq (⟨"UniverseLevels$Text", "append", "(I)Z"⟩, 3) := ⟨⟨by decide +kernel, by decide +kernel⟩, List.mem_of_getElem? (i := 25) (by decide +kernel), List.mem_of_getElem? (i := 212) (by decide +kernel), List.mem_of_getElem? (i := 213) (by decide +kernel)⟩
theorem lw_p1 : lw_okq (⟨"UniverseLevels", "layText", "()V"⟩, 13) := ⟨⟨by decide +kernel, by decide +kernel⟩, List.mem_of_getElem? (i := 17) (by decide +kernel), List.mem_of_getElem? (i := 216) (by decide +kernel), List.mem_of_getElem? (i := 217) (by decide +kernel)⟩
theorem lw_p2 : lw_okq (⟨"UniverseLevels$Text", "letterAt", "(I)I"⟩, 3) := ⟨⟨by decide +kernel, by decide +kernel⟩, List.mem_of_getElem? (i := 25) (by decide +kernel), List.mem_of_getElem? (i := 220) (by decide +kernel), List.mem_of_getElem? (i := 221) (by decide +kernel)⟩
theorem lw_p3 : lw_okq (⟨"UniverseLevels$Text", "readItem", "(I)I"⟩, 3) := ⟨⟨by decide +kernel, by decide +kernel⟩, List.mem_of_getElem? (i := 25) (by decide +kernel), List.mem_of_getElem? (i := 224) (by decide +kernel), List.mem_of_getElem? (i := 225) (by decide +kernel)⟩
theorem lw_p4 : lw_okq (⟨"UniverseLevels$Text", "figuresAt", "(I)I"⟩, 3) := ⟨⟨by decide +kernel, by decide +kernel⟩, List.mem_of_getElem? (i := 25) (by decide +kernel), List.mem_of_getElem? (i := 232) (by decide +kernel), List.mem_of_getElem? (i := 233) (by decide +kernel)⟩
theorem lw_p5 : lw_okq (⟨"UniverseLevels$Text", "numberAt", "(II)I"⟩, 3) := ⟨⟨by decide +kernel, by decide +kernel⟩, List.mem_of_getElem? (i := 25) (by decide +kernel), List.mem_of_getElem? (i := 239) (by decide +kernel), List.mem_of_getElem? (i := 240) (by decide +kernel)⟩
theorem lw_p6 : lw_okq (⟨"UniverseLevels", "layItem", "(I[I)V"⟩, 13) := ⟨⟨by decide +kernel, by decide +kernel⟩, List.mem_of_getElem? (i := 17) (by decide +kernel), List.mem_of_getElem? (i := 243) (by decide +kernel), List.mem_of_getElem? (i := 244) (by decide +kernel)⟩
theorem lw_p7 : lw_okq (⟨"UniverseLevels$State", "addLevel", "(I)V"⟩, 6) := ⟨⟨by decide +kernel, by decide +kernel⟩, List.mem_of_getElem? (i := 44) (by decide +kernel), List.mem_of_getElem? (i := 247) (by decide +kernel), List.mem_of_getElem? (i := 248) (by decide +kernel)⟩
theorem lw_p8 : lw_okq (⟨"UniverseLevels$Lengths", "measure", "(LUniverseLevels$State;)V"⟩, 2) := ⟨⟨by decide +kernel, by decide +kernel⟩, List.mem_of_getElem? (i := 86) (by decide +kernel), List.mem_of_getElem? (i := 251) (by decide +kernel), List.mem_of_getElem? (i := 252) (by decide +kernel)⟩
theorem lw_p9 : lw_okq (⟨"UniverseLevels$State", "lengthsFrom", "(II[I)V"⟩, 6) := ⟨⟨by decide +kernel, by decide +kernel⟩, List.mem_of_getElem? (i := 44) (by decide +kernel), List.mem_of_getElem? (i := 255) (by decide +kernel), List.mem_of_getElem? (i := 256) (by decide +kernel)⟩
theorem lw_p10 : lw_okq (⟨"UniverseLevels$State", "lengthen", "(I[I)Z"⟩, 6) := ⟨⟨by decide +kernel, by decide +kernel⟩, List.mem_of_getElem? (i := 44) (by decide +kernel), List.mem_of_getElem? (i := 263) (by decide +kernel), List.mem_of_getElem? (i := 264) (by decide +kernel)⟩
theorem lw_p11 : lw_okq (⟨"UniverseLevels", "pose", "(III)I"⟩, 13) := ⟨⟨by decide +kernel, by decide +kernel⟩, List.mem_of_getElem? (i := 17) (by decide +kernel), List.mem_of_getElem? (i := 267) (by decide +kernel), List.mem_of_getElem? (i := 268) (by decide +kernel)⟩
theorem lw_p12 : lw_okq (⟨"UniverseLevels$State", "weightTowards", "(II)I"⟩, 6) := ⟨⟨by decide +kernel, by decide +kernel⟩, List.mem_of_getElem? (i := 44) (by decide +kernel), List.mem_of_getElem? (i := 271) (by decide +kernel), List.mem_of_getElem? (i := 272) (by decide +kernel)⟩
theorem lw_p13 : lw_okq (⟨"UniverseLevels$Lengths", "leads", "(II)Z"⟩, 2) := ⟨⟨by decide +kernel, by decide +kernel⟩, List.mem_of_getElem? (i := 86) (by decide +kernel), List.mem_of_getElem? (i := 275) (by decide +kernel), List.mem_of_getElem? (i := 276) (by decide +kernel)⟩
theorem lw_p14 : lw_okq (⟨"UniverseLevels$Round", "trace", "(LUniverseLevels$State;LUniverseLevels$Lengths;II)V"⟩, 4) := ⟨⟨by decide +kernel, by decide +kernel⟩, List.mem_of_getElem? (i := 142) (by decide +kernel), List.mem_of_getElem? (i := 280) (by decide +kernel), List.mem_of_getElem? (i := 281) (by decide +kernel)⟩
theorem lw_p15 : lw_okq (⟨"UniverseLevels$Round", "countFewest", "(LUniverseLevels$State;LUniverseLevels$Lengths;I)V"⟩, 4) := ⟨⟨by decide +kernel, by decide +kernel⟩, List.mem_of_getElem? (i := 142) (by decide +kernel), List.mem_of_getElem? (i := 284) (by decide +kernel), List.mem_of_getElem? (i := 285) (by decide +kernel)⟩
def lw_privs_1 : List (MethodName × Nat) := [(⟨"UniverseLevels$Text", "append", "(I)Z"⟩, 3), (⟨"UniverseLevels", "layText", "()V"⟩, 13), (⟨"UniverseLevels$Text", "letterAt", "(I)I"⟩, 3), (⟨"UniverseLevels$Text", "readItem", "(I)I"⟩, 3), (⟨"UniverseLevels$Text", "figuresAt", "(I)I"⟩, 3), (⟨"UniverseLevels$Text", "numberAt", "(II)I"⟩, 3), (⟨"UniverseLevels", "layItem", "(I[I)V"⟩, 13), (⟨"UniverseLevels$State", "addLevel", "(I)V"⟩, 6), (⟨"UniverseLevels$Lengths", "measure", "(LUniverseLevels$State;)V"⟩, 2), (⟨"UniverseLevels$State", "lengthsFrom", "(II[I)V"⟩, 6), (⟨"UniverseLevels$State", "lengthen", "(I[I)Z"⟩, 6), (⟨"UniverseLevels", "pose", "(III)I"⟩, 13), (⟨"UniverseLevels$State", "weightTowards", "(II)I"⟩, 6), (⟨"UniverseLevels$Lengths", "leads", "(II)Z"⟩, 2), (⟨"UniverseLevels$Round", "trace", "(LUniverseLevels$State;LUniverseLevels$Lengths;II)V"⟩, 4), (⟨"UniverseLevels$Round", "countFewest", "(LUniverseLevels$State;LUniverseLevels$Lengths;I)V"⟩, 4)]
theorem lw_r1 : ∀ q ∈ lw_privs_1, lw_okq q := List.forall_mem_cons.mpr ⟨lw_p0, List.forall_mem_cons.mpr ⟨lw_p1, List.forall_mem_cons.mpr ⟨lw_p2, List.forall_mem_cons.mpr ⟨lw_p3, List.forall_mem_cons.mpr ⟨lw_p4, List.forall_mem_cons.mpr ⟨lw_p5, List.forall_mem_cons.mpr ⟨lw_p6, List.forall_mem_cons.mpr ⟨lw_p7, List.forall_mem_cons.mpr ⟨lw_p8, List.forall_mem_cons.mpr ⟨lw_p9, List.forall_mem_cons.mpr ⟨lw_p10, List.forall_mem_cons.mpr ⟨lw_p11, List.forall_mem_cons.mpr ⟨lw_p12, List.forall_mem_cons.mpr ⟨lw_p13, List.forall_mem_cons.mpr ⟨lw_p14, List.forall_mem_cons.mpr ⟨lw_p15, fun _ h => absurd h List.not_mem_nil⟩⟩⟩⟩⟩⟩⟩⟩⟩⟩⟩⟩⟩⟩⟩⟩
theorem lw_p16 : lw_okq (⟨"UniverseLevels$Round", "nextLevel", "(LUniverseLevels$State;LUniverseLevels$Lengths;II)I"⟩, 4) := ⟨⟨by decide +kernel, by decide +kernel⟩, List.mem_of_getElem? (i := 142) (by decide +kernel), List.mem_of_getElem? (i := 296) (by decide +kernel), List.mem_of_getElem? (i := 297) (by decide +kernel)⟩
theorem lw_p17 : lw_okq (⟨"UniverseLevels", "remember", "()V"⟩, 13) := ⟨⟨by decide +kernel, by decide +kernel⟩, List.mem_of_getElem? (i := 17) (by decide +kernel), List.mem_of_getElem? (i := 300) (by decide +kernel), List.mem_of_getElem? (i := 301) (by decide +kernel)⟩
theorem lw_p18 : lw_okq (⟨"UniverseLevels$State", "copy", "(LUniverseLevels$State;)V"⟩, 6) := ⟨⟨by decide +kernel, by decide +kernel⟩, List.mem_of_getElem? (i := 44) (by decide +kernel), List.mem_of_getElem? (i := 304) (by decide +kernel), List.mem_of_getElem? (i := 305) (by decide +kernel)⟩
theorem lw_p19 : lw_okq (⟨"UniverseLevels$State", "take", "(III)V"⟩, 6) := ⟨⟨by decide +kernel, by decide +kernel⟩, List.mem_of_getElem? (i := 44) (by decide +kernel), List.mem_of_getElem? (i := 311) (by decide +kernel), List.mem_of_getElem? (i := 312) (by decide +kernel)⟩
theorem lw_p20 : lw_okq (⟨"UniverseLevels$Text", "firstFault", "()I"⟩, 3) := ⟨⟨by decide +kernel, by decide +kernel⟩, List.mem_of_getElem? (i := 25) (by decide +kernel), List.mem_of_getElem? (i := 368) (by decide +kernel), List.mem_of_getElem? (i := 369) (by decide +kernel)⟩
theorem lw_p21 : lw_okq (⟨"UniverseLevels$Text", "isAllowed", "(II)Z"⟩, 3) := ⟨⟨by decide +kernel, by decide +kernel⟩, List.mem_of_getElem? (i := 25) (by decide +kernel), List.mem_of_getElem? (i := 373) (by decide +kernel), List.mem_of_getElem? (i := 374) (by decide +kernel)⟩
theorem lw_p22 : lw_okq (⟨"UniverseLevels", "isLevel", "(I)Z"⟩, 13) := ⟨⟨by decide +kernel, by decide +kernel⟩, List.mem_of_getElem? (i := 17) (by decide +kernel), List.mem_of_getElem? (i := 385) (by decide +kernel), List.mem_of_getElem? (i := 386) (by decide +kernel)⟩
theorem lw_p23 : lw_okq (⟨"UniverseLevels$Lengths", "valueOf", "(I)I"⟩, 2) := ⟨⟨by decide +kernel, by decide +kernel⟩, List.mem_of_getElem? (i := 86) (by decide +kernel), List.mem_of_getElem? (i := 389) (by decide +kernel), List.mem_of_getElem? (i := 390) (by decide +kernel)⟩
theorem lw_p24 : lw_okq (⟨"UniverseLevels", "placeOf", "(I)I"⟩, 13) := ⟨⟨by decide +kernel, by decide +kernel⟩, List.mem_of_getElem? (i := 17) (by decide +kernel), List.mem_of_getElem? (i := 396) (by decide +kernel), List.mem_of_getElem? (i := 397) (by decide +kernel)⟩
theorem lw_p25 : lw_okq (⟨"UniverseLevels", "sameAs", "(I)I"⟩, 13) := ⟨⟨by decide +kernel, by decide +kernel⟩, List.mem_of_getElem? (i := 17) (by decide +kernel), List.mem_of_getElem? (i := 400) (by decide +kernel), List.mem_of_getElem? (i := 401) (by decide +kernel)⟩
theorem lw_p26 : lw_okq (⟨"UniverseLevels$State", "isFloating", "(I)Z"⟩, 6) := ⟨⟨by decide +kernel, by decide +kernel⟩, List.mem_of_getElem? (i := 44) (by decide +kernel), List.mem_of_getElem? (i := 404) (by decide +kernel), List.mem_of_getElem? (i := 405) (by decide +kernel)⟩
theorem lw_p27 : lw_okq (⟨"UniverseLevels", "isBound", "(I)Z"⟩, 13) := ⟨⟨by decide +kernel, by decide +kernel⟩, List.mem_of_getElem? (i := 17) (by decide +kernel), List.mem_of_getElem? (i := 412) (by decide +kernel), List.mem_of_getElem? (i := 413) (by decide +kernel)⟩
theorem lw_p28 : lw_okq (⟨"UniverseLevels", "isNeedless", "(I)Z"⟩, 13) := ⟨⟨by decide +kernel, by decide +kernel⟩, List.mem_of_getElem? (i := 17) (by decide +kernel), List.mem_of_getElem? (i := 416) (by decide +kernel), List.mem_of_getElem? (i := 417) (by decide +kernel)⟩
theorem lw_p29 : lw_okq (⟨"UniverseLevels", "slackOf", "(I)I"⟩, 13) := ⟨⟨by decide +kernel, by decide +kernel⟩, List.mem_of_getElem? (i := 17) (by decide +kernel), List.mem_of_getElem? (i := 421) (by decide +kernel), List.mem_of_getElem? (i := 422) (by decide +kernel)⟩
theorem lw_p30 : lw_okq (⟨"UniverseLevels", "areUnlike", "(II)Z"⟩, 13) := ⟨⟨by decide +kernel, by decide +kernel⟩, List.mem_of_getElem? (i := 17) (by decide +kernel), List.mem_of_getElem? (i := 433) (by decide +kernel), List.mem_of_getElem? (i := 434) (by decide +kernel)⟩
theorem lw_p31 : lw_okq (⟨"UniverseLevels$State", "takeBack", "(I)V"⟩, 6) := ⟨⟨by decide +kernel, by decide +kernel⟩, List.mem_of_getElem? (i := 44) (by decide +kernel), List.mem_of_getElem? (i := 444) (by decide +kernel), List.mem_of_getElem? (i := 445) (by decide +kernel)⟩
def lw_privs_2 : List (MethodName × Nat) := [(⟨"UniverseLevels$Round", "nextLevel", "(LUniverseLevels$State;LUniverseLevels$Lengths;II)I"⟩, 4), (⟨"UniverseLevels", "remember", "()V"⟩, 13), (⟨"UniverseLevels$State", "copy", "(LUniverseLevels$State;)V"⟩, 6), (⟨"UniverseLevels$State", "take", "(III)V"⟩, 6), (⟨"UniverseLevels$Text", "firstFault", "()I"⟩, 3), (⟨"UniverseLevels$Text", "isAllowed", "(II)Z"⟩, 3), (⟨"UniverseLevels", "isLevel", "(I)Z"⟩, 13), (⟨"UniverseLevels$Lengths", "valueOf", "(I)I"⟩, 2), (⟨"UniverseLevels", "placeOf", "(I)I"⟩, 13), (⟨"UniverseLevels", "sameAs", "(I)I"⟩, 13), (⟨"UniverseLevels$State", "isFloating", "(I)Z"⟩, 6), (⟨"UniverseLevels", "isBound", "(I)Z"⟩, 13), (⟨"UniverseLevels", "isNeedless", "(I)Z"⟩, 13), (⟨"UniverseLevels", "slackOf", "(I)I"⟩, 13), (⟨"UniverseLevels", "areUnlike", "(II)Z"⟩, 13), (⟨"UniverseLevels$State", "takeBack", "(I)V"⟩, 6)]
theorem lw_r2 : ∀ q ∈ lw_privs_2, lw_okq q := List.forall_mem_cons.mpr ⟨lw_p16, List.forall_mem_cons.mpr ⟨lw_p17, List.forall_mem_cons.mpr ⟨lw_p18, List.forall_mem_cons.mpr ⟨lw_p19, List.forall_mem_cons.mpr ⟨lw_p20, List.forall_mem_cons.mpr ⟨lw_p21, List.forall_mem_cons.mpr ⟨lw_p22, List.forall_mem_cons.mpr ⟨lw_p23, List.forall_mem_cons.mpr ⟨lw_p24, List.forall_mem_cons.mpr ⟨lw_p25, List.forall_mem_cons.mpr ⟨lw_p26, List.forall_mem_cons.mpr ⟨lw_p27, List.forall_mem_cons.mpr ⟨lw_p28, List.forall_mem_cons.mpr ⟨lw_p29, List.forall_mem_cons.mpr ⟨lw_p30, List.forall_mem_cons.mpr ⟨lw_p31, fun _ h => absurd h List.not_mem_nil⟩⟩⟩⟩⟩⟩⟩⟩⟩⟩⟩⟩⟩⟩⟩⟩
theorem lw_p32 : lw_okq (⟨"UniverseLevels", "resume", "(LUniverseLevels$State;)V"⟩, 13) := ⟨⟨by decide +kernel, by decide +kernel⟩, List.mem_of_getElem? (i := 17) (by decide +kernel), List.mem_of_getElem? (i := 456) (by decide +kernel), List.mem_of_getElem? (i := 457) (by decide +kernel)⟩
theorem lw_p33 : lw_okq (⟨"UniverseLevels$Lengths", "implies", "(III)Z"⟩, 2) := ⟨⟨by decide +kernel, by decide +kernel⟩, List.mem_of_getElem? (i := 86) (by decide +kernel), List.mem_of_getElem? (i := 468) (by decide +kernel), List.mem_of_getElem? (i := 469) (by decide +kernel)⟩
theorem lw_p34 : lw_okq (⟨"UniverseLevels$Against", "choose", "(LUniverseLevels$State;LUniverseLevels$Lengths;III)I"⟩, 4) := ⟨⟨by decide +kernel, by decide +kernel⟩, List.mem_of_getElem? (i := 104) (by decide +kernel), List.mem_of_getElem? (i := 489) (by decide +kernel), List.mem_of_getElem? (i := 490) (by decide +kernel)⟩
theorem lw_p35 : lw_okq (⟨"UniverseLevels$Against", "gather", "(LUniverseLevels$State;LUniverseLevels$Lengths;III)V"⟩, 4) := ⟨⟨by decide +kernel, by decide +kernel⟩, List.mem_of_getElem? (i := 104) (by decide +kernel), List.mem_of_getElem? (i := 493) (by decide +kernel), List.mem_of_getElem? (i := 494) (by decide +kernel)⟩
theorem lw_p36 : lw_okq (⟨"UniverseLevels$Against", "pickedBits", "(I)I"⟩, 4) := ⟨⟨by decide +kernel, by decide +kernel⟩, List.mem_of_getElem? (i := 104) (by decide +kernel), List.mem_of_getElem? (i := 498) (by decide +kernel), List.mem_of_getElem? (i := 499) (by decide +kernel)⟩
theorem lw_p37 : lw_okq (⟨"UniverseLevels$Against", "numberOf", "(I)I"⟩, 4) := ⟨⟨by decide +kernel, by decide +kernel⟩, List.mem_of_getElem? (i := 104) (by decide +kernel), List.mem_of_getElem? (i := 502) (by decide +kernel), List.mem_of_getElem? (i := 503) (by decide +kernel)⟩
theorem lw_p38 : lw_okq (⟨"UniverseLevels$Against", "nextChoice", "(I)Z"⟩, 4) := ⟨⟨by decide +kernel, by decide +kernel⟩, List.mem_of_getElem? (i := 104) (by decide +kernel), List.mem_of_getElem? (i := 507) (by decide +kernel), List.mem_of_getElem? (i := 508) (by decide +kernel)⟩
theorem lw_p39 : lw_okq (⟨"UniverseLevels$Rows", "add", "(II)V"⟩, 3) := ⟨⟨by decide +kernel, by decide +kernel⟩, List.mem_of_getElem? (i := 123) (by decide +kernel), List.mem_of_getElem? (i := 516) (by decide +kernel), List.mem_of_getElem? (i := 517) (by decide +kernel)⟩
theorem lw_p40 : lw_okq (⟨"UniverseLevels$Rows", "isShort", "(ILUniverseLevels$Lengths;)Z"⟩, 3) := ⟨⟨by decide +kernel, by decide +kernel⟩, List.mem_of_getElem? (i := 123) (by decide +kernel), List.mem_of_getElem? (i := 528) (by decide +kernel), List.mem_of_getElem? (i := 529) (by decide +kernel)⟩
theorem lw_p41 : lw_okq (⟨"UniverseLevels$Rows", "isCovered", "(IILUniverseLevels$Lengths;)Z"⟩, 3) := ⟨⟨by decide +kernel, by decide +kernel⟩, List.mem_of_getElem? (i := 123) (by decide +kernel), List.mem_of_getElem? (i := 532) (by decide +kernel), List.mem_of_getElem? (i := 533) (by decide +kernel)⟩
theorem lw_p42 : lw_okq (⟨"UniverseLevels$Rows", "isNoMore", "(IILUniverseLevels$Lengths;)Z"⟩, 3) := ⟨⟨by decide +kernel, by decide +kernel⟩, List.mem_of_getElem? (i := 123) (by decide +kernel), List.mem_of_getElem? (i := 536) (by decide +kernel), List.mem_of_getElem? (i := 537) (by decide +kernel)⟩
theorem lw_p43 : lw_okq (⟨"UniverseLevels", "gatherRoots", "(I)V"⟩, 13) := ⟨⟨by decide +kernel, by decide +kernel⟩, List.mem_of_getElem? (i := 17) (by decide +kernel), List.mem_of_getElem? (i := 553) (by decide +kernel), List.mem_of_getElem? (i := 554) (by decide +kernel)⟩
theorem lw_p44 : lw_okq (⟨"UniverseLevels", "isRoot", "(II)Z"⟩, 13) := ⟨⟨by decide +kernel, by decide +kernel⟩, List.mem_of_getElem? (i := 17) (by decide +kernel), List.mem_of_getElem? (i := 557) (by decide +kernel), List.mem_of_getElem? (i := 558) (by decide +kernel)⟩
theorem lw_p45 : lw_okq (⟨"UniverseLevels", "isLoose", "(I)Z"⟩, 13) := ⟨⟨by decide +kernel, by decide +kernel⟩, List.mem_of_getElem? (i := 17) (by decide +kernel), List.mem_of_getElem? (i := 565) (by decide +kernel), List.mem_of_getElem? (i := 566) (by decide +kernel)⟩
theorem lw_p46 : lw_okq (⟨"UniverseLevels", "isPinned", "(I)Z"⟩, 13) := ⟨⟨by decide +kernel, by decide +kernel⟩, List.mem_of_getElem? (i := 17) (by decide +kernel), List.mem_of_getElem? (i := 569) (by decide +kernel), List.mem_of_getElem? (i := 570) (by decide +kernel)⟩
theorem lw_p47 : lw_okq (⟨"UniverseLevels$Lengths", "greatestValue", "()I"⟩, 2) := ⟨⟨by decide +kernel, by decide +kernel⟩, List.mem_of_getElem? (i := 86) (by decide +kernel), List.mem_of_getElem? (i := 585) (by decide +kernel), List.mem_of_getElem? (i := 586) (by decide +kernel)⟩
def lw_privs_3 : List (MethodName × Nat) := [(⟨"UniverseLevels", "resume", "(LUniverseLevels$State;)V"⟩, 13), (⟨"UniverseLevels$Lengths", "implies", "(III)Z"⟩, 2), (⟨"UniverseLevels$Against", "choose", "(LUniverseLevels$State;LUniverseLevels$Lengths;III)I"⟩, 4), (⟨"UniverseLevels$Against", "gather", "(LUniverseLevels$State;LUniverseLevels$Lengths;III)V"⟩, 4), (⟨"UniverseLevels$Against", "pickedBits", "(I)I"⟩, 4), (⟨"UniverseLevels$Against", "numberOf", "(I)I"⟩, 4), (⟨"UniverseLevels$Against", "nextChoice", "(I)Z"⟩, 4), (⟨"UniverseLevels$Rows", "add", "(II)V"⟩, 3), (⟨"UniverseLevels$Rows", "isShort", "(ILUniverseLevels$Lengths;)Z"⟩, 3), (⟨"UniverseLevels$Rows", "isCovered", "(IILUniverseLevels$Lengths;)Z"⟩, 3), (⟨"UniverseLevels$Rows", "isNoMore", "(IILUniverseLevels$Lengths;)Z"⟩, 3), (⟨"UniverseLevels", "gatherRoots", "(I)V"⟩, 13), (⟨"UniverseLevels", "isRoot", "(II)Z"⟩, 13), (⟨"UniverseLevels", "isLoose", "(I)Z"⟩, 13), (⟨"UniverseLevels", "isPinned", "(I)Z"⟩, 13), (⟨"UniverseLevels$Lengths", "greatestValue", "()I"⟩, 2)]
theorem lw_r3 : ∀ q ∈ lw_privs_3, lw_okq q := List.forall_mem_cons.mpr ⟨lw_p32, List.forall_mem_cons.mpr ⟨lw_p33, List.forall_mem_cons.mpr ⟨lw_p34, List.forall_mem_cons.mpr ⟨lw_p35, List.forall_mem_cons.mpr ⟨lw_p36, List.forall_mem_cons.mpr ⟨lw_p37, List.forall_mem_cons.mpr ⟨lw_p38, List.forall_mem_cons.mpr ⟨lw_p39, List.forall_mem_cons.mpr ⟨lw_p40, List.forall_mem_cons.mpr ⟨lw_p41, List.forall_mem_cons.mpr ⟨lw_p42, List.forall_mem_cons.mpr ⟨lw_p43, List.forall_mem_cons.mpr ⟨lw_p44, List.forall_mem_cons.mpr ⟨lw_p45, List.forall_mem_cons.mpr ⟨lw_p46, List.forall_mem_cons.mpr ⟨lw_p47, fun _ h => absurd h List.not_mem_nil⟩⟩⟩⟩⟩⟩⟩⟩⟩⟩⟩⟩⟩⟩⟩⟩
theorem lw_p48 : lw_okq (⟨"UniverseLevels", "floatingOnes", "()I"⟩, 13) := ⟨⟨by decide +kernel, by decide +kernel⟩, List.mem_of_getElem? (i := 17) (by decide +kernel), List.mem_of_getElem? (i := 590) (by decide +kernel), List.mem_of_getElem? (i := 591) (by decide +kernel)⟩
theorem lw_p49 : lw_okq (⟨"UniverseLevels$Lengths", "pairs", "()I"⟩, 2) := ⟨⟨by decide +kernel, by decide +kernel⟩, List.mem_of_getElem? (i := 86) (by decide +kernel), List.mem_of_getElem? (i := 594) (by decide +kernel), List.mem_of_getElem? (i := 595) (by decide +kernel)⟩
theorem lw_p50 : lw_okq (⟨"UniverseLevelsModel", "readNone", "()V"⟩, 24) := ⟨⟨by decide +kernel, by decide +kernel⟩, List.mem_of_getElem? (i := 598) (by decide +kernel), List.mem_of_getElem? (i := 604) (by decide +kernel), List.mem_of_getElem? (i := 605) (by decide +kernel)⟩
theorem lw_p51 : lw_okq (⟨"UniverseLevelsModel", "levelIs", "(I)V"⟩, 24) := ⟨⟨by decide +kernel, by decide +kernel⟩, List.mem_of_getElem? (i := 598) (by decide +kernel), List.mem_of_getElem? (i := 608) (by decide +kernel), List.mem_of_getElem? (i := 609) (by decide +kernel)⟩
theorem lw_p52 : lw_okq (⟨"UniverseLevelsModel", "askedIs", "(III)V"⟩, 24) := ⟨⟨by decide +kernel, by decide +kernel⟩, List.mem_of_getElem? (i := 598) (by decide +kernel), List.mem_of_getElem? (i := 612) (by decide +kernel), List.mem_of_getElem? (i := 613) (by decide +kernel)⟩
theorem lw_p53 : lw_okq (⟨"UniverseLevelsModel", "begin", "()V"⟩, 24) := ⟨⟨by decide +kernel, by decide +kernel⟩, List.mem_of_getElem? (i := 598) (by decide +kernel), List.mem_of_getElem? (i := 616) (by decide +kernel), List.mem_of_getElem? (i := 617) (by decide +kernel)⟩
theorem lw_p54 : lw_okq (⟨"UniverseLevelsModel", "mayTake", "(III)Z"⟩, 24) := ⟨⟨by decide +kernel, by decide +kernel⟩, List.mem_of_getElem? (i := 598) (by decide +kernel), List.mem_of_getElem? (i := 620) (by decide +kernel), List.mem_of_getElem? (i := 621) (by decide +kernel)⟩
theorem lw_p55 : lw_okq (⟨"UniverseLevelsModel", "weightTo", "(II)I"⟩, 24) := ⟨⟨by decide +kernel, by decide +kernel⟩, List.mem_of_getElem? (i := 598) (by decide +kernel), List.mem_of_getElem? (i := 624) (by decide +kernel), List.mem_of_getElem? (i := 625) (by decide +kernel)⟩
theorem lw_p56 : lw_okq (⟨"UniverseLevelsModel", "find", "()V"⟩, 24) := ⟨⟨by decide +kernel, by decide +kernel⟩, List.mem_of_getElem? (i := 598) (by decide +kernel), List.mem_of_getElem? (i := 628) (by decide +kernel), List.mem_of_getElem? (i := 629) (by decide +kernel)⟩
theorem lw_p57 : lw_okq (⟨"UniverseLevelsModel", "findBut", "(I)V"⟩, 24) := ⟨⟨by decide +kernel, by decide +kernel⟩, List.mem_of_getElem? (i := 598) (by decide +kernel), List.mem_of_getElem? (i := 632) (by decide +kernel), List.mem_of_getElem? (i := 633) (by decide +kernel)⟩
theorem lw_p58 : lw_okq (⟨"UniverseLevelsModel", "findRound", "(III)V"⟩, 24) := ⟨⟨by decide +kernel, by decide +kernel⟩, List.mem_of_getElem? (i := 598) (by decide +kernel), List.mem_of_getElem? (i := 647) (by decide +kernel), List.mem_of_getElem? (i := 648) (by decide +kernel)⟩
theorem lw_p59 : lw_okq (⟨"UniverseLevelsModel", "takeBound", "(III)V"⟩, 24) := ⟨⟨by decide +kernel, by decide +kernel⟩, List.mem_of_getElem? (i := 598) (by decide +kernel), List.mem_of_getElem? (i := 651) (by decide +kernel), List.mem_of_getElem? (i := 652) (by decide +kernel)⟩
theorem lw_p60 : lw_okq (⟨"UniverseLevelsModel", "readAll", "()I"⟩, 24) := ⟨⟨by decide +kernel, by decide +kernel⟩, List.mem_of_getElem? (i := 598) (by decide +kernel), List.mem_of_getElem? (i := 745) (by decide +kernel), List.mem_of_getElem? (i := 746) (by decide +kernel)⟩
theorem lw_p61 : lw_okq (⟨"UniverseLevelsModel", "item", "()Z"⟩, 24) := ⟨⟨by decide +kernel, by decide +kernel⟩, List.mem_of_getElem? (i := 598) (by decide +kernel), List.mem_of_getElem? (i := 749) (by decide +kernel), List.mem_of_getElem? (i := 750) (by decide +kernel)⟩
theorem lw_p62 : lw_okq (⟨"UniverseLevelsModel", "letterAt", "(I)I"⟩, 24) := ⟨⟨by decide +kernel, by decide +kernel⟩, List.mem_of_getElem? (i := 598) (by decide +kernel), List.mem_of_getElem? (i := 753) (by decide +kernel), List.mem_of_getElem? (i := 754) (by decide +kernel)⟩
theorem lw_p63 : lw_okq (⟨"UniverseLevelsModel", "numbers", "(I)Z"⟩, 24) := ⟨⟨by decide +kernel, by decide +kernel⟩, List.mem_of_getElem? (i := 598) (by decide +kernel), List.mem_of_getElem? (i := 757) (by decide +kernel), List.mem_of_getElem? (i := 758) (by decide +kernel)⟩
def lw_privs_4 : List (MethodName × Nat) := [(⟨"UniverseLevels", "floatingOnes", "()I"⟩, 13), (⟨"UniverseLevels$Lengths", "pairs", "()I"⟩, 2), (⟨"UniverseLevelsModel", "readNone", "()V"⟩, 24), (⟨"UniverseLevelsModel", "levelIs", "(I)V"⟩, 24), (⟨"UniverseLevelsModel", "askedIs", "(III)V"⟩, 24), (⟨"UniverseLevelsModel", "begin", "()V"⟩, 24), (⟨"UniverseLevelsModel", "mayTake", "(III)Z"⟩, 24), (⟨"UniverseLevelsModel", "weightTo", "(II)I"⟩, 24), (⟨"UniverseLevelsModel", "find", "()V"⟩, 24), (⟨"UniverseLevelsModel", "findBut", "(I)V"⟩, 24), (⟨"UniverseLevelsModel", "findRound", "(III)V"⟩, 24), (⟨"UniverseLevelsModel", "takeBound", "(III)V"⟩, 24), (⟨"UniverseLevelsModel", "readAll", "()I"⟩, 24), (⟨"UniverseLevelsModel", "item", "()Z"⟩, 24), (⟨"UniverseLevelsModel", "letterAt", "(I)I"⟩, 24), (⟨"UniverseLevelsModel", "numbers", "(I)Z"⟩, 24)]
theorem lw_r4 : ∀ q ∈ lw_privs_4, lw_okq q := List.forall_mem_cons.mpr ⟨lw_p48, List.forall_mem_cons.mpr ⟨lw_p49, List.forall_mem_cons.mpr ⟨lw_p50, List.forall_mem_cons.mpr ⟨lw_p51, List.forall_mem_cons.mpr ⟨lw_p52, List.forall_mem_cons.mpr ⟨lw_p53, List.forall_mem_cons.mpr ⟨lw_p54, List.forall_mem_cons.mpr ⟨lw_p55, List.forall_mem_cons.mpr ⟨lw_p56, List.forall_mem_cons.mpr ⟨lw_p57, List.forall_mem_cons.mpr ⟨lw_p58, List.forall_mem_cons.mpr ⟨lw_p59, List.forall_mem_cons.mpr ⟨lw_p60, List.forall_mem_cons.mpr ⟨lw_p61, List.forall_mem_cons.mpr ⟨lw_p62, List.forall_mem_cons.mpr ⟨lw_p63, fun _ h => absurd h List.not_mem_nil⟩⟩⟩⟩⟩⟩⟩⟩⟩⟩⟩⟩⟩⟩⟩⟩
theorem lw_p64 : lw_okq (⟨"UniverseLevelsModel", "isLevel", "(I)Z"⟩, 24) := ⟨⟨by decide +kernel, by decide +kernel⟩, List.mem_of_getElem? (i := 598) (by decide +kernel), List.mem_of_getElem? (i := 772) (by decide +kernel), List.mem_of_getElem? (i := 773) (by decide +kernel)⟩
theorem lw_p65 : lw_okq (⟨"UniverseLevelsModel", "valueOf", "(I)I"⟩, 24) := ⟨⟨by decide +kernel, by decide +kernel⟩, List.mem_of_getElem? (i := 598) (by decide +kernel), List.mem_of_getElem? (i := 777) (by decide +kernel), List.mem_of_getElem? (i := 778) (by decide +kernel)⟩
theorem lw_p66 : lw_okq (⟨"UniverseLevelsModel", "areSame", "(II)Z"⟩, 24) := ⟨⟨by decide +kernel, by decide +kernel⟩, List.mem_of_getElem? (i := 598) (by decide +kernel), List.mem_of_getElem? (i := 781) (by decide +kernel), List.mem_of_getElem? (i := 782) (by decide +kernel)⟩
theorem lw_p67 : lw_okq (⟨"UniverseLevelsModel", "isFloating", "(I)Z"⟩, 24) := ⟨⟨by decide +kernel, by decide +kernel⟩, List.mem_of_getElem? (i := 598) (by decide +kernel), List.mem_of_getElem? (i := 785) (by decide +kernel), List.mem_of_getElem? (i := 786) (by decide +kernel)⟩
theorem lw_p68 : lw_okq (⟨"UniverseLevelsModel", "note", "()V"⟩, 24) := ⟨⟨by decide +kernel, by decide +kernel⟩, List.mem_of_getElem? (i := 598) (by decide +kernel), List.mem_of_getElem? (i := 806) (by decide +kernel), List.mem_of_getElem? (i := 807) (by decide +kernel)⟩
theorem lw_p69 : lw_okq (⟨"UniverseLevelsModel", "isSo", "(III)Z"⟩, 24) := ⟨⟨by decide +kernel, by decide +kernel⟩, List.mem_of_getElem? (i := 598) (by decide +kernel), List.mem_of_getElem? (i := 833) (by decide +kernel), List.mem_of_getElem? (i := 834) (by decide +kernel)⟩
theorem lw_p70 : lw_okq (⟨"UniverseLevelsModel", "isNoMore", "(II)Z"⟩, 24) := ⟨⟨by decide +kernel, by decide +kernel⟩, List.mem_of_getElem? (i := 598) (by decide +kernel), List.mem_of_getElem? (i := 871) (by decide +kernel), List.mem_of_getElem? (i := 872) (by decide +kernel)⟩
theorem lw_p71 : lw_okq (⟨"UniverseLevelsModel", "isRoot", "(II)Z"⟩, 24) := ⟨⟨by decide +kernel, by decide +kernel⟩, List.mem_of_getElem? (i := 598) (by decide +kernel), List.mem_of_getElem? (i := 887) (by decide +kernel), List.mem_of_getElem? (i := 888) (by decide +kernel)⟩
theorem lw_p72 : lw_okq (⟨"UniverseLevelsModel", "greatest", "()I"⟩, 24) := ⟨⟨by decide +kernel, by decide +kernel⟩, List.mem_of_getElem? (i := 598) (by decide +kernel), List.mem_of_getElem? (i := 907) (by decide +kernel), List.mem_of_getElem? (i := 908) (by decide +kernel)⟩
theorem lw_p73 : lw_okq (⟨"UniverseLevelsModel", "floatingMany", "()I"⟩, 24) := ⟨⟨by decide +kernel, by decide +kernel⟩, List.mem_of_getElem? (i := 598) (by decide +kernel), List.mem_of_getElem? (i := 911) (by decide +kernel), List.mem_of_getElem? (i := 912) (by decide +kernel)⟩
theorem lw_p74 : lw_okq (⟨"UniverseLevelsModel", "pairs", "()I"⟩, 24) := ⟨⟨by decide +kernel, by decide +kernel⟩, List.mem_of_getElem? (i := 598) (by decide +kernel), List.mem_of_getElem? (i := 915) (by decide +kernel), List.mem_of_getElem? (i := 916) (by decide +kernel)⟩
def lw_privs_5 : List (MethodName × Nat) := [(⟨"UniverseLevelsModel", "isLevel", "(I)Z"⟩, 24), (⟨"UniverseLevelsModel", "valueOf", "(I)I"⟩, 24), (⟨"UniverseLevelsModel", "areSame", "(II)Z"⟩, 24), (⟨"UniverseLevelsModel", "isFloating", "(I)Z"⟩, 24), (⟨"UniverseLevelsModel", "note", "()V"⟩, 24), (⟨"UniverseLevelsModel", "isSo", "(III)Z"⟩, 24), (⟨"UniverseLevelsModel", "isNoMore", "(II)Z"⟩, 24), (⟨"UniverseLevelsModel", "isRoot", "(II)Z"⟩, 24), (⟨"UniverseLevelsModel", "greatest", "()I"⟩, 24), (⟨"UniverseLevelsModel", "floatingMany", "()I"⟩, 24), (⟨"UniverseLevelsModel", "pairs", "()I"⟩, 24)]
theorem lw_r5 : ∀ q ∈ lw_privs_5, lw_okq q := List.forall_mem_cons.mpr ⟨lw_p64, List.forall_mem_cons.mpr ⟨lw_p65, List.forall_mem_cons.mpr ⟨lw_p66, List.forall_mem_cons.mpr ⟨lw_p67, List.forall_mem_cons.mpr ⟨lw_p68, List.forall_mem_cons.mpr ⟨lw_p69, List.forall_mem_cons.mpr ⟨lw_p70, List.forall_mem_cons.mpr ⟨lw_p71, List.forall_mem_cons.mpr ⟨lw_p72, List.forall_mem_cons.mpr ⟨lw_p73, List.forall_mem_cons.mpr ⟨lw_p74, fun _ h => absurd h List.not_mem_nil⟩⟩⟩⟩⟩⟩⟩⟩⟩⟩⟩
def lw_privs : List (MethodName × Nat) := lw_privs_1 ++ (lw_privs_2 ++ (lw_privs_3 ++ (lw_privs_4 ++ (lw_privs_5))))
def lw_tbl : List Cond := k2_sels lw_privs ++ tables_1
theorem lw_privs_ok : ∀ q ∈ lw_privs, lw_okq q := by
  show ∀ q ∈ lw_privs_1 ++ (lw_privs_2 ++ (lw_privs_3 ++ (lw_privs_4 ++ (lw_privs_5)))), lw_okq q
  exact List.forall_mem_append.mpr ⟨lw_r1, List.forall_mem_append.mpr ⟨lw_r2, List.forall_mem_append.mpr ⟨lw_r3, List.forall_mem_append.mpr ⟨lw_r4, lw_r5⟩⟩⟩⟩
end
section
def RX0 : String := "UniverseLevels$Against"
def TX0 : u_T := fun k => match k with
  | 0 => ("UniverseLevels$Against", "inTheWay", "[I", true)
  | 1 => ("UniverseLevels$Against", "picks", "[I", true)
  | 2 => ("UniverseLevels$Against", "trial", "[I", true)
  | _ => ("UniverseLevels$Against", "many", "I", false)
def tyX0 : Nat → FieldType := fun k => match k with
  | 0 => .array .int
  | 1 => .array .int
  | 2 => .array .int
  | _ => .int
abbrev wsX00 : List Cond := u_ws RX0 TX0 4
theorem nmX0 : ∀ a, a < 4 → ∀ b, b < 4 → a ≠ b → (TX0 a).2.1 ≠ (TX0 b).2.1 := by decide +kernel
theorem tyX0_ok : ∀ k, k < 4 → parseFieldDescriptor (TX0 k).2.2.1 = some (tyX0 k) := by decide +kernel
abbrev cX0_init : ByteArray := prog_2_method_1_code
def yX0_init : MethodName := ⟨RX0, "<init>", "()V"⟩
abbrev cX0_numberOf : ByteArray := prog_2_method_2_code
def yX0_numberOf : MethodName := ⟨RX0, "numberOf", "(I)I"⟩
abbrev cX0_choose : ByteArray := prog_2_method_3_code
def yX0_choose : MethodName := ⟨RX0, "choose", "(LUniverseLevels$State;LUniverseLevels$Lengths;III)I"⟩
abbrev cX0_gather : ByteArray := prog_2_method_4_code
def yX0_gather : MethodName := ⟨RX0, "gather", "(LUniverseLevels$State;LUniverseLevels$Lengths;III)V"⟩
abbrev cX0_pickedBits : ByteArray := prog_2_method_5_code
def yX0_pickedBits : MethodName := ⟨RX0, "pickedBits", "(I)I"⟩
abbrev cX0_nextChoice : ByteArray := prog_2_method_6_code
def yX0_nextChoice : MethodName := ⟨RX0, "nextChoice", "(I)Z"⟩
def RX1 : String := "UniverseLevels$Lengths"
def TX1 : u_T := fun k => match k with
  | 0 => ("UniverseLevels$Lengths", "greatest", "[[I", true)
  | _ => ("UniverseLevels$Lengths", "levels", "I", false)
def tyX1 : Nat → FieldType := fun k => match k with
  | 0 => .array (.array .int)
  | _ => .int
abbrev wsX10 : List Cond := u_ws RX1 TX1 2
theorem nmX1 : ∀ a, a < 2 → ∀ b, b < 2 → a ≠ b → (TX1 a).2.1 ≠ (TX1 b).2.1 := by decide +kernel
theorem tyX1_ok : ∀ k, k < 2 → parseFieldDescriptor (TX1 k).2.2.1 = some (tyX1 k) := by decide +kernel
abbrev cX1_init : ByteArray := prog_3_method_1_code
def yX1_init : MethodName := ⟨RX1, "<init>", "()V"⟩
abbrev cX1_measure : ByteArray := prog_3_method_2_code
def yX1_measure : MethodName := ⟨RX1, "measure", "(LUniverseLevels$State;)V"⟩
abbrev cX1_leads : ByteArray := prog_3_method_3_code
def yX1_leads : MethodName := ⟨RX1, "leads", "(II)Z"⟩
abbrev cX1_implies : ByteArray := prog_3_method_4_code
def yX1_implies : MethodName := ⟨RX1, "implies", "(III)Z"⟩
abbrev cX1_valueOf : ByteArray := prog_3_method_5_code
def yX1_valueOf : MethodName := ⟨RX1, "valueOf", "(I)I"⟩
abbrev cX1_greatestValue : ByteArray := prog_3_method_6_code
def yX1_greatestValue : MethodName := ⟨RX1, "greatestValue", "()I"⟩
abbrev cX1_pairs : ByteArray := prog_3_method_7_code
def yX1_pairs : MethodName := ⟨RX1, "pairs", "()I"⟩
def RX2 : String := "UniverseLevels$Round"
def TX2 : u_T := fun k => match k with
  | 0 => ("UniverseLevels$Round", "levels", "[I", true)
  | 1 => ("UniverseLevels$Round", "fewest", "[I", true)
  | 2 => ("UniverseLevels$Round", "size", "I", false)
  | _ => ("UniverseLevels$Round", "above", "I", false)
def tyX2 : Nat → FieldType := fun k => match k with
  | 0 => .array .int
  | 1 => .array .int
  | 2 => .int
  | _ => .int
abbrev wsX20 : List Cond := u_ws RX2 TX2 4
theorem nmX2 : ∀ a, a < 4 → ∀ b, b < 4 → a ≠ b → (TX2 a).2.1 ≠ (TX2 b).2.1 := by decide +kernel
theorem tyX2_ok : ∀ k, k < 4 → parseFieldDescriptor (TX2 k).2.2.1 = some (tyX2 k) := by decide +kernel
abbrev cX2_init : ByteArray := prog_4_method_1_code
def yX2_init : MethodName := ⟨RX2, "<init>", "()V"⟩
abbrev cX2_trace : ByteArray := prog_4_method_2_code
def yX2_trace : MethodName := ⟨RX2, "trace", "(LUniverseLevels$State;LUniverseLevels$Lengths;II)V"⟩
abbrev cX2_countFewest : ByteArray := prog_4_method_3_code
def yX2_countFewest : MethodName := ⟨RX2, "countFewest", "(LUniverseLevels$State;LUniverseLevels$Lengths;I)V"⟩
abbrev cX2_nextLevel : ByteArray := prog_4_method_4_code
def yX2_nextLevel : MethodName := ⟨RX2, "nextLevel", "(LUniverseLevels$State;LUniverseLevels$Lengths;II)I"⟩
abbrev cX2_isOnLongest : ByteArray := prog_4_method_5_code
def yX2_isOnLongest : MethodName := ⟨RX2, "isOnLongest", "(LUniverseLevels$State;LUniverseLevels$Lengths;II)Z"⟩
def RX3 : String := "UniverseLevels$Rows"
def TX3 : u_T := fun k => match k with
  | 0 => ("UniverseLevels$Rows", "levels", "[I", true)
  | 1 => ("UniverseLevels$Rows", "more", "[I", true)
  | _ => ("UniverseLevels$Rows", "size", "I", false)
def tyX3 : Nat → FieldType := fun k => match k with
  | 0 => .array .int
  | 1 => .array .int
  | _ => .int
abbrev wsX30 : List Cond := u_ws RX3 TX3 3
theorem nmX3 : ∀ a, a < 3 → ∀ b, b < 3 → a ≠ b → (TX3 a).2.1 ≠ (TX3 b).2.1 := by decide +kernel
theorem tyX3_ok : ∀ k, k < 3 → parseFieldDescriptor (TX3 k).2.2.1 = some (tyX3 k) := by decide +kernel
abbrev cX3_init : ByteArray := prog_5_method_1_code
def yX3_init : MethodName := ⟨RX3, "<init>", "()V"⟩
abbrev cX3_add : ByteArray := prog_5_method_2_code
def yX3_add : MethodName := ⟨RX3, "add", "(II)V"⟩
abbrev cX3_isShort : ByteArray := prog_5_method_3_code
def yX3_isShort : MethodName := ⟨RX3, "isShort", "(ILUniverseLevels$Lengths;)Z"⟩
abbrev cX3_isCovered : ByteArray := prog_5_method_4_code
def yX3_isCovered : MethodName := ⟨RX3, "isCovered", "(IILUniverseLevels$Lengths;)Z"⟩
abbrev cX3_isNoMore : ByteArray := prog_5_method_5_code
def yX3_isNoMore : MethodName := ⟨RX3, "isNoMore", "(IILUniverseLevels$Lengths;)Z"⟩
def RX4 : String := "UniverseLevels$State"
def TX4 : u_T := fun k => match k with
  | 0 => ("UniverseLevels$State", "kinds", "[I", true)
  | 1 => ("UniverseLevels$State", "from", "[I", true)
  | 2 => ("UniverseLevels$State", "to", "[I", true)
  | 3 => ("UniverseLevels$State", "weight", "[I", true)
  | 4 => ("UniverseLevels$State", "levels", "I", false)
  | _ => ("UniverseLevels$State", "bounds", "I", false)
def tyX4 : Nat → FieldType := fun k => match k with
  | 0 => .array .int
  | 1 => .array .int
  | 2 => .array .int
  | 3 => .array .int
  | 4 => .int
  | _ => .int
abbrev wsX40 : List Cond := u_ws RX4 TX4 6
theorem nmX4 : ∀ a, a < 6 → ∀ b, b < 6 → a ≠ b → (TX4 a).2.1 ≠ (TX4 b).2.1 := by decide +kernel
theorem tyX4_ok : ∀ k, k < 6 → parseFieldDescriptor (TX4 k).2.2.1 = some (tyX4 k) := by decide +kernel
abbrev cX4_init : ByteArray := prog_6_method_1_code
def yX4_init : MethodName := ⟨RX4, "<init>", "()V"⟩
abbrev cX4_copy : ByteArray := prog_6_method_2_code
def yX4_copy : MethodName := ⟨RX4, "copy", "(LUniverseLevels$State;)V"⟩
abbrev cX4_addLevel : ByteArray := prog_6_method_3_code
def yX4_addLevel : MethodName := ⟨RX4, "addLevel", "(I)V"⟩
abbrev cX4_isFloating : ByteArray := prog_6_method_4_code
def yX4_isFloating : MethodName := ⟨RX4, "isFloating", "(I)Z"⟩
abbrev cX4_weightTowards : ByteArray := prog_6_method_5_code
def yX4_weightTowards : MethodName := ⟨RX4, "weightTowards", "(II)I"⟩
abbrev cX4_take : ByteArray := prog_6_method_6_code
def yX4_take : MethodName := ⟨RX4, "take", "(III)V"⟩
abbrev cX4_takeBack : ByteArray := prog_6_method_7_code
def yX4_takeBack : MethodName := ⟨RX4, "takeBack", "(I)V"⟩
abbrev cX4_lengthsFrom : ByteArray := prog_6_method_8_code
def yX4_lengthsFrom : MethodName := ⟨RX4, "lengthsFrom", "(II[I)V"⟩
abbrev cX4_lengthen : ByteArray := prog_6_method_9_code
def yX4_lengthen : MethodName := ⟨RX4, "lengthen", "(I[I)Z"⟩
def RX5 : String := "UniverseLevels$Text"
def TX5 : u_T := fun k => match k with
  | 0 => ("UniverseLevels$Text", "letters", "[I", true)
  | 1 => ("UniverseLevels$Text", "numbers", "[I", true)
  | _ => ("UniverseLevels$Text", "length", "I", false)
def tyX5 : Nat → FieldType := fun k => match k with
  | 0 => .array .int
  | 1 => .array .int
  | _ => .int
abbrev wsX50 : List Cond := u_ws RX5 TX5 3
theorem nmX5 : ∀ a, a < 3 → ∀ b, b < 3 → a ≠ b → (TX5 a).2.1 ≠ (TX5 b).2.1 := by decide +kernel
theorem tyX5_ok : ∀ k, k < 3 → parseFieldDescriptor (TX5 k).2.2.1 = some (tyX5 k) := by decide +kernel
abbrev cX5_init : ByteArray := prog_7_method_1_code
def yX5_init : MethodName := ⟨RX5, "<init>", "()V"⟩
abbrev cX5_append : ByteArray := prog_7_method_2_code
def yX5_append : MethodName := ⟨RX5, "append", "(I)Z"⟩
abbrev cX5_letterAt : ByteArray := prog_7_method_3_code
def yX5_letterAt : MethodName := ⟨RX5, "letterAt", "(I)I"⟩
abbrev cX5_firstFault : ByteArray := prog_7_method_4_code
def yX5_firstFault : MethodName := ⟨RX5, "firstFault", "()I"⟩
abbrev cX5_isAllowed : ByteArray := prog_7_method_5_code
def yX5_isAllowed : MethodName := ⟨RX5, "isAllowed", "(II)Z"⟩
abbrev cX5_readItem : ByteArray := prog_7_method_6_code
def yX5_readItem : MethodName := ⟨RX5, "readItem", "(I)I"⟩
abbrev cX5_numbersBehind : ByteArray := prog_7_method_7_code
def yX5_numbersBehind : MethodName := ⟨RX5, "numbersBehind", "(I)I"⟩
abbrev cX5_figuresAt : ByteArray := prog_7_method_8_code
def yX5_figuresAt : MethodName := ⟨RX5, "figuresAt", "(I)I"⟩
abbrev cX5_numberAt : ByteArray := prog_7_method_9_code
def yX5_numberAt : MethodName := ⟨RX5, "numberAt", "(II)I"⟩
abbrev cX5_isFigure : ByteArray := prog_7_method_10_code
def yX5_isFigure : MethodName := ⟨RX5, "isFigure", "(I)Z"⟩
def RX6 : String := "UniverseLevels"
def TX6 : u_T := fun k => match k with
  | 0 => ("UniverseLevels", "text", "LUniverseLevels$Text;", true)
  | 1 => ("UniverseLevels", "now", "LUniverseLevels$State;", true)
  | 2 => ("UniverseLevels", "earlier", "[LUniverseLevels$State;", true)
  | 3 => ("UniverseLevels", "undoable", "I", false)
  | 4 => ("UniverseLevels", "kept", "[LUniverseLevels$State;", true)
  | 5 => ("UniverseLevels", "keptOnes", "I", false)
  | 6 => ("UniverseLevels", "lengths", "LUniverseLevels$Lengths;", true)
  | 7 => ("UniverseLevels", "trial", "[I", true)
  | 8 => ("UniverseLevels", "against", "LUniverseLevels$Against;", true)
  | 9 => ("UniverseLevels", "max", "LUniverseLevels$Rows;", true)
  | 10 => ("UniverseLevels", "rootRows", "LUniverseLevels$Rows;", true)
  | 11 => ("UniverseLevels", "shown", "LUniverseLevels$Round;", true)
  | _ => ("UniverseLevels", "refused", "I", false)
def tyX6 : Nat → FieldType := fun k => match k with
  | 0 => .object "UniverseLevels$Text"
  | 1 => .object "UniverseLevels$State"
  | 2 => .array (.object "UniverseLevels$State")
  | 3 => .int
  | 4 => .array (.object "UniverseLevels$State")
  | 5 => .int
  | 6 => .object "UniverseLevels$Lengths"
  | 7 => .array .int
  | 8 => .object "UniverseLevels$Against"
  | 9 => .object "UniverseLevels$Rows"
  | 10 => .object "UniverseLevels$Rows"
  | 11 => .object "UniverseLevels$Round"
  | _ => .int
abbrev wsX60 : List Cond := u_ws RX6 TX6 13
theorem nmX6 : ∀ a, a < 13 → ∀ b, b < 13 → a ≠ b → (TX6 a).2.1 ≠ (TX6 b).2.1 := by decide +kernel
theorem tyX6_ok : ∀ k, k < 13 → parseFieldDescriptor (TX6 k).2.2.1 = some (tyX6 k) := by decide +kernel
abbrev cX6_init : ByteArray := prog_1_method_1_code
def yX6_init : MethodName := ⟨RX6, "<init>", "()V"⟩
abbrev cX6_write : ByteArray := prog_1_method_2_code
def yX6_write : MethodName := ⟨RX6, "write", "(I)I"⟩
abbrev cX6_wipe : ByteArray := prog_1_method_3_code
def yX6_wipe : MethodName := ⟨RX6, "wipe", "()I"⟩
abbrev cX6_fault : ByteArray := prog_1_method_4_code
def yX6_fault : MethodName := ⟨RX6, "fault", "()I"⟩
abbrev cX6_lay : ByteArray := prog_1_method_5_code
def yX6_lay : MethodName := ⟨RX6, "lay", "()I"⟩
abbrev cX6_level : ByteArray := prog_1_method_6_code
def yX6_level : MethodName := ⟨RX6, "level", "(II)I"⟩
abbrev cX6_bound : ByteArray := prog_1_method_7_code
def yX6_bound : MethodName := ⟨RX6, "bound", "(II)I"⟩
abbrev cX6_reach : ByteArray := prog_1_method_8_code
def yX6_reach : MethodName := ⟨RX6, "reach", "(II)I"⟩
abbrev cX6_ask : ByteArray := prog_1_method_9_code
def yX6_ask : MethodName := ⟨RX6, "ask", "(III)I"⟩
abbrev cX6_retract : ByteArray := prog_1_method_10_code
def yX6_retract : MethodName := ⟨RX6, "retract", "(I)I"⟩
abbrev cX6_rename : ByteArray := prog_1_method_11_code
def yX6_rename : MethodName := ⟨RX6, "rename", "(II)I"⟩
abbrev cX6_undo : ByteArray := prog_1_method_12_code
def yX6_undo : MethodName := ⟨RX6, "undo", "()I"⟩
abbrev cX6_round : ByteArray := prog_1_method_13_code
def yX6_round : MethodName := ⟨RX6, "round", "(I)I"⟩
abbrev cX6_follows : ByteArray := prog_1_method_14_code
def yX6_follows : MethodName := ⟨RX6, "follows", "(III)I"⟩
abbrev cX6_raised : ByteArray := prog_1_method_15_code
def yX6_raised : MethodName := ⟨RX6, "raised", "(III)I"⟩
abbrev cX6_top : ByteArray := prog_1_method_16_code
def yX6_top : MethodName := ⟨RX6, "top", "(III)I"⟩
abbrev cX6_stands : ByteArray := prog_1_method_17_code
def yX6_stands : MethodName := ⟨RX6, "stands", "(IIII)I"⟩
abbrev cX6_term : ByteArray := prog_1_method_18_code
def yX6_term : MethodName := ⟨RX6, "term", "(II)I"⟩
abbrev cX6_empty : ByteArray := prog_1_method_19_code
def yX6_empty : MethodName := ⟨RX6, "empty", "()I"⟩
abbrev cX6_brief : ByteArray := prog_1_method_20_code
def yX6_brief : MethodName := ⟨RX6, "brief", "()I"⟩
abbrev cX6_below : ByteArray := prog_1_method_21_code
def yX6_below : MethodName := ⟨RX6, "below", "(II)I"⟩
abbrev cX6_worth : ByteArray := prog_1_method_22_code
def yX6_worth : MethodName := ⟨RX6, "worth", "()I"⟩
abbrev cX6_roots : ByteArray := prog_1_method_23_code
def yX6_roots : MethodName := ⟨RX6, "roots", "(I)I"⟩
abbrev cX6_loose : ByteArray := prog_1_method_24_code
def yX6_loose : MethodName := ⟨RX6, "loose", "(II)I"⟩
abbrev cX6_keep : ByteArray := prog_1_method_25_code
def yX6_keep : MethodName := ⟨RX6, "keep", "()I"⟩
abbrev cX6_back : ByteArray := prog_1_method_26_code
def yX6_back : MethodName := ⟨RX6, "back", "()I"⟩
abbrev cX6_count : ByteArray := prog_1_method_27_code
def yX6_count : MethodName := ⟨RX6, "count", "(I)I"⟩
abbrev cX6_isLevel : ByteArray := prog_1_method_28_code
def yX6_isLevel : MethodName := ⟨RX6, "isLevel", "(I)Z"⟩
abbrev cX6_areUnlike : ByteArray := prog_1_method_29_code
def yX6_areUnlike : MethodName := ⟨RX6, "areUnlike", "(II)Z"⟩
abbrev cX6_isBound : ByteArray := prog_1_method_30_code
def yX6_isBound : MethodName := ⟨RX6, "isBound", "(I)Z"⟩
abbrev cX6_isK : ByteArray := prog_1_method_31_code
def yX6_isK : MethodName := ⟨RX6, "isK", "(I)Z"⟩
abbrev cX6_isX : ByteArray := prog_1_method_32_code
def yX6_isX : MethodName := ⟨RX6, "isX", "(I)Z"⟩
abbrev cX6_layText : ByteArray := prog_1_method_33_code
def yX6_layText : MethodName := ⟨RX6, "layText", "()V"⟩
abbrev cX6_layItem : ByteArray := prog_1_method_34_code
def yX6_layItem : MethodName := ⟨RX6, "layItem", "(I[I)V"⟩
abbrev cX6_pose : ByteArray := prog_1_method_35_code
def yX6_pose : MethodName := ⟨RX6, "pose", "(III)I"⟩
abbrev cX6_remember : ByteArray := prog_1_method_36_code
def yX6_remember : MethodName := ⟨RX6, "remember", "()V"⟩
abbrev cX6_resume : ByteArray := prog_1_method_37_code
def yX6_resume : MethodName := ⟨RX6, "resume", "(LUniverseLevels$State;)V"⟩
abbrev cX6_placeOf : ByteArray := prog_1_method_38_code
def yX6_placeOf : MethodName := ⟨RX6, "placeOf", "(I)I"⟩
abbrev cX6_sameAs : ByteArray := prog_1_method_39_code
def yX6_sameAs : MethodName := ⟨RX6, "sameAs", "(I)I"⟩
abbrev cX6_isNeedless : ByteArray := prog_1_method_40_code
def yX6_isNeedless : MethodName := ⟨RX6, "isNeedless", "(I)Z"⟩
abbrev cX6_slackOf : ByteArray := prog_1_method_41_code
def yX6_slackOf : MethodName := ⟨RX6, "slackOf", "(I)I"⟩
abbrev cX6_floatingOnes : ByteArray := prog_1_method_42_code
def yX6_floatingOnes : MethodName := ⟨RX6, "floatingOnes", "()I"⟩
abbrev cX6_isRoot : ByteArray := prog_1_method_43_code
def yX6_isRoot : MethodName := ⟨RX6, "isRoot", "(II)Z"⟩
abbrev cX6_gatherRoots : ByteArray := prog_1_method_44_code
def yX6_gatherRoots : MethodName := ⟨RX6, "gatherRoots", "(I)V"⟩
abbrev cX6_isLoose : ByteArray := prog_1_method_45_code
def yX6_isLoose : MethodName := ⟨RX6, "isLoose", "(I)Z"⟩
abbrev cX6_isPinned : ByteArray := prog_1_method_46_code
def yX6_isPinned : MethodName := ⟨RX6, "isPinned", "(I)Z"⟩
def RX7 : String := "UniverseLevelsModel"
def TX7 : u_T := fun k => match k with
  | 0 => ("UniverseLevelsModel", "length", "I", false)
  | 1 => ("UniverseLevelsModel", "text", "[I", true)
  | 2 => ("UniverseLevelsModel", "levels", "I", false)
  | 3 => ("UniverseLevelsModel", "readLevels", "I", false)
  | 4 => ("UniverseLevelsModel", "readAsked", "I", false)
  | 5 => ("UniverseLevelsModel", "asked", "[I", true)
  | 6 => ("UniverseLevelsModel", "readKinds", "[I", true)
  | 7 => ("UniverseLevelsModel", "now", "[I", true)
  | 8 => ("UniverseLevelsModel", "before", "[I", true)
  | 9 => ("UniverseLevelsModel", "undoMany", "I", false)
  | 10 => ("UniverseLevelsModel", "kept", "[I", true)
  | 11 => ("UniverseLevelsModel", "keptMany", "I", false)
  | 12 => ("UniverseLevelsModel", "refused", "I", false)
  | 13 => ("UniverseLevelsModel", "roundMany", "I", false)
  | 14 => ("UniverseLevelsModel", "roundOver", "I", false)
  | 15 => ("UniverseLevelsModel", "round", "[I", true)
  | 16 => ("UniverseLevelsModel", "terms", "I", false)
  | 17 => ("UniverseLevelsModel", "termLevel", "[I", true)
  | 18 => ("UniverseLevelsModel", "termAdd", "[I", true)
  | 19 => ("UniverseLevelsModel", "spot", "I", false)
  | 20 => ("UniverseLevelsModel", "number", "[I", true)
  | 21 => ("UniverseLevelsModel", "reach", "[I", true)
  | 22 => ("UniverseLevelsModel", "edge", "[I", true)
  | _ => ("UniverseLevelsModel", "by", "[I", true)
def tyX7 : Nat → FieldType := fun k => match k with
  | 0 => .int
  | 1 => .array .int
  | 2 => .int
  | 3 => .int
  | 4 => .int
  | 5 => .array .int
  | 6 => .array .int
  | 7 => .array .int
  | 8 => .array .int
  | 9 => .int
  | 10 => .array .int
  | 11 => .int
  | 12 => .int
  | 13 => .int
  | 14 => .int
  | 15 => .array .int
  | 16 => .int
  | 17 => .array .int
  | 18 => .array .int
  | 19 => .int
  | 20 => .array .int
  | 21 => .array .int
  | 22 => .array .int
  | _ => .array .int
abbrev wsX70 : List Cond := u_ws RX7 TX7 24
theorem nmX7 : ∀ a, a < 24 → ∀ b, b < 24 → a ≠ b → (TX7 a).2.1 ≠ (TX7 b).2.1 := by decide +kernel
theorem tyX7_ok : ∀ k, k < 24 → parseFieldDescriptor (TX7 k).2.2.1 = some (tyX7 k) := by decide +kernel
abbrev cX7_init : ByteArray := prog_9_method_1_code
def yX7_init : MethodName := ⟨RX7, "<init>", "()V"⟩
abbrev cX7_in : ByteArray := prog_9_method_2_code
def yX7_in : MethodName := ⟨RX7, "in", "(JJJ)Z"⟩
abbrev cX7_has : ByteArray := prog_9_method_3_code
def yX7_has : MethodName := ⟨RX7, "has", "(II)Z"⟩
abbrev cX7_readNone : ByteArray := prog_9_method_4_code
def yX7_readNone : MethodName := ⟨RX7, "readNone", "()V"⟩
abbrev cX7_levelIs : ByteArray := prog_9_method_5_code
def yX7_levelIs : MethodName := ⟨RX7, "levelIs", "(I)V"⟩
abbrev cX7_askedIs : ByteArray := prog_9_method_6_code
def yX7_askedIs : MethodName := ⟨RX7, "askedIs", "(III)V"⟩
abbrev cX7_write : ByteArray := prog_9_method_7_code
def yX7_write : MethodName := ⟨RX7, "write", "(I)I"⟩
abbrev cX7_wipe : ByteArray := prog_9_method_8_code
def yX7_wipe : MethodName := ⟨RX7, "wipe", "()I"⟩
abbrev cX7_letterAt : ByteArray := prog_9_method_9_code
def yX7_letterAt : MethodName := ⟨RX7, "letterAt", "(I)I"⟩
abbrev cX7_numbers : ByteArray := prog_9_method_10_code
def yX7_numbers : MethodName := ⟨RX7, "numbers", "(I)Z"⟩
abbrev cX7_item : ByteArray := prog_9_method_11_code
def yX7_item : MethodName := ⟨RX7, "item", "()Z"⟩
abbrev cX7_readAll : ByteArray := prog_9_method_12_code
def yX7_readAll : MethodName := ⟨RX7, "readAll", "()I"⟩
abbrev cX7_fault : ByteArray := prog_9_method_13_code
def yX7_fault : MethodName := ⟨RX7, "fault", "()I"⟩
abbrev cX7_lay : ByteArray := prog_9_method_14_code
def yX7_lay : MethodName := ⟨RX7, "lay", "()I"⟩
abbrev cX7_begin : ByteArray := prog_9_method_15_code
def yX7_begin : MethodName := ⟨RX7, "begin", "()V"⟩
abbrev cX7_isLevel : ByteArray := prog_9_method_16_code
def yX7_isLevel : MethodName := ⟨RX7, "isLevel", "(I)Z"⟩
abbrev cX7_isAdd : ByteArray := prog_9_method_17_code
def yX7_isAdd : MethodName := ⟨RX7, "isAdd", "(I)Z"⟩
abbrev cX7_isWay : ByteArray := prog_9_method_18_code
def yX7_isWay : MethodName := ⟨RX7, "isWay", "(I)Z"⟩
abbrev cX7_findBut : ByteArray := prog_9_method_19_code
def yX7_findBut : MethodName := ⟨RX7, "findBut", "(I)V"⟩
abbrev cX7_find : ByteArray := prog_9_method_20_code
def yX7_find : MethodName := ⟨RX7, "find", "()V"⟩
abbrev cX7_weightTo : ByteArray := prog_9_method_21_code
def yX7_weightTo : MethodName := ⟨RX7, "weightTo", "(II)I"⟩
abbrev cX7_clashes : ByteArray := prog_9_method_22_code
def yX7_clashes : MethodName := ⟨RX7, "clashes", "(II)Z"⟩
abbrev cX7_findRound : ByteArray := prog_9_method_23_code
def yX7_findRound : MethodName := ⟨RX7, "findRound", "(III)V"⟩
abbrev cX7_mayTake : ByteArray := prog_9_method_24_code
def yX7_mayTake : MethodName := ⟨RX7, "mayTake", "(III)Z"⟩
abbrev cX7_takeBound : ByteArray := prog_9_method_25_code
def yX7_takeBound : MethodName := ⟨RX7, "takeBound", "(III)V"⟩
abbrev cX7_valueOf : ByteArray := prog_9_method_26_code
def yX7_valueOf : MethodName := ⟨RX7, "valueOf", "(I)I"⟩
abbrev cX7_areSame : ByteArray := prog_9_method_27_code
def yX7_areSame : MethodName := ⟨RX7, "areSame", "(II)Z"⟩
abbrev cX7_isFloating : ByteArray := prog_9_method_28_code
def yX7_isFloating : MethodName := ⟨RX7, "isFloating", "(I)Z"⟩
abbrev cX7_level : ByteArray := prog_9_method_29_code
def yX7_level : MethodName := ⟨RX7, "level", "(II)I"⟩
abbrev cX7_bound : ByteArray := prog_9_method_30_code
def yX7_bound : MethodName := ⟨RX7, "bound", "(II)I"⟩
abbrev cX7_reach : ByteArray := prog_9_method_31_code
def yX7_reach : MethodName := ⟨RX7, "reach", "(II)I"⟩
abbrev cX7_note : ByteArray := prog_9_method_32_code
def yX7_note : MethodName := ⟨RX7, "note", "()V"⟩
abbrev cX7_ask : ByteArray := prog_9_method_33_code
def yX7_ask : MethodName := ⟨RX7, "ask", "(III)I"⟩
abbrev cX7_retract : ByteArray := prog_9_method_34_code
def yX7_retract : MethodName := ⟨RX7, "retract", "(I)I"⟩
abbrev cX7_rename : ByteArray := prog_9_method_35_code
def yX7_rename : MethodName := ⟨RX7, "rename", "(II)I"⟩
abbrev cX7_undo : ByteArray := prog_9_method_36_code
def yX7_undo : MethodName := ⟨RX7, "undo", "()I"⟩
abbrev cX7_round : ByteArray := prog_9_method_37_code
def yX7_round : MethodName := ⟨RX7, "round", "(I)I"⟩
abbrev cX7_isSo : ByteArray := prog_9_method_38_code
def yX7_isSo : MethodName := ⟨RX7, "isSo", "(III)Z"⟩
abbrev cX7_follows : ByteArray := prog_9_method_39_code
def yX7_follows : MethodName := ⟨RX7, "follows", "(III)I"⟩
abbrev cX7_raised : ByteArray := prog_9_method_40_code
def yX7_raised : MethodName := ⟨RX7, "raised", "(III)I"⟩
abbrev cX7_top : ByteArray := prog_9_method_41_code
def yX7_top : MethodName := ⟨RX7, "top", "(III)I"⟩
abbrev cX7_ones : ByteArray := prog_9_method_42_code
def yX7_ones : MethodName := ⟨RX7, "ones", "(I)I"⟩
abbrev cX7_nth : ByteArray := prog_9_method_43_code
def yX7_nth : MethodName := ⟨RX7, "nth", "(II)I"⟩
abbrev cX7_isAhead : ByteArray := prog_9_method_44_code
def yX7_isAhead : MethodName := ⟨RX7, "isAhead", "(II)Z"⟩
abbrev cX7_stands : ByteArray := prog_9_method_45_code
def yX7_stands : MethodName := ⟨RX7, "stands", "(IIII)I"⟩
abbrev cX7_term : ByteArray := prog_9_method_46_code
def yX7_term : MethodName := ⟨RX7, "term", "(II)I"⟩
abbrev cX7_empty : ByteArray := prog_9_method_47_code
def yX7_empty : MethodName := ⟨RX7, "empty", "()I"⟩
abbrev cX7_isNoMore : ByteArray := prog_9_method_48_code
def yX7_isNoMore : MethodName := ⟨RX7, "isNoMore", "(II)Z"⟩
abbrev cX7_brief : ByteArray := prog_9_method_49_code
def yX7_brief : MethodName := ⟨RX7, "brief", "()I"⟩
abbrev cX7_below : ByteArray := prog_9_method_50_code
def yX7_below : MethodName := ⟨RX7, "below", "(II)I"⟩
abbrev cX7_worth : ByteArray := prog_9_method_51_code
def yX7_worth : MethodName := ⟨RX7, "worth", "()I"⟩
abbrev cX7_isRoot : ByteArray := prog_9_method_52_code
def yX7_isRoot : MethodName := ⟨RX7, "isRoot", "(II)Z"⟩
abbrev cX7_roots : ByteArray := prog_9_method_53_code
def yX7_roots : MethodName := ⟨RX7, "roots", "(I)I"⟩
abbrev cX7_loose : ByteArray := prog_9_method_54_code
def yX7_loose : MethodName := ⟨RX7, "loose", "(II)I"⟩
abbrev cX7_keep : ByteArray := prog_9_method_55_code
def yX7_keep : MethodName := ⟨RX7, "keep", "()I"⟩
abbrev cX7_back : ByteArray := prog_9_method_56_code
def yX7_back : MethodName := ⟨RX7, "back", "()I"⟩
abbrev cX7_greatest : ByteArray := prog_9_method_57_code
def yX7_greatest : MethodName := ⟨RX7, "greatest", "()I"⟩
abbrev cX7_pairs : ByteArray := prog_9_method_58_code
def yX7_pairs : MethodName := ⟨RX7, "pairs", "()I"⟩
abbrev cX7_floatingMany : ByteArray := prog_9_method_59_code
def yX7_floatingMany : MethodName := ⟨RX7, "floatingMany", "()I"⟩
abbrev cX7_count : ByteArray := prog_9_method_60_code
def yX7_count : MethodName := ⟨RX7, "count", "(I)I"⟩
def RJx145de : String := "java/io/Serializable"
def TJx145de : u_T := fun k => match k with
  | _ => ("", "", "", false)
def tyJx145de : Nat → FieldType := fun k => match k with
  | _ => .int
abbrev wsJx145de0 : List Cond := u_ws RJx145de TJx145de 0
theorem nmJx145de : ∀ a, a < 0 → ∀ b, b < 0 → a ≠ b → (TJx145de a).2.1 ≠ (TJx145de b).2.1 := by decide +kernel
theorem tyJx145de_ok : ∀ k, k < 0 → parseFieldDescriptor (TJx145de k).2.2.1 = some (tyJx145de k) := by decide +kernel
def RJx9f9b0 : String := "java/lang/CharSequence"
def TJx9f9b0 : u_T := fun k => match k with
  | _ => ("", "", "", false)
def tyJx9f9b0 : Nat → FieldType := fun k => match k with
  | _ => .int
abbrev wsJx9f9b00 : List Cond := u_ws RJx9f9b0 TJx9f9b0 0
theorem nmJx9f9b0 : ∀ a, a < 0 → ∀ b, b < 0 → a ≠ b → (TJx9f9b0 a).2.1 ≠ (TJx9f9b0 b).2.1 := by decide +kernel
theorem tyJx9f9b0_ok : ∀ k, k < 0 → parseFieldDescriptor (TJx9f9b0 k).2.2.1 = some (tyJx9f9b0 k) := by decide +kernel
def RJxb160c : String := "java/lang/Comparable"
def TJxb160c : u_T := fun k => match k with
  | _ => ("", "", "", false)
def tyJxb160c : Nat → FieldType := fun k => match k with
  | _ => .int
abbrev wsJxb160c0 : List Cond := u_ws RJxb160c TJxb160c 0
theorem nmJxb160c : ∀ a, a < 0 → ∀ b, b < 0 → a ≠ b → (TJxb160c a).2.1 ≠ (TJxb160c b).2.1 := by decide +kernel
theorem tyJxb160c_ok : ∀ k, k < 0 → parseFieldDescriptor (TJxb160c k).2.2.1 = some (tyJxb160c k) := by decide +kernel
def RJ9 : String := "java/lang/Math"
def TJ9 : u_T := fun k => match k with
  | _ => ("", "", "", false)
def tyJ9 : Nat → FieldType := fun k => match k with
  | _ => .int
abbrev wsJ90 : List Cond := u_ws RJ9 TJ9 0
theorem nmJ9 : ∀ a, a < 0 → ∀ b, b < 0 → a ≠ b → (TJ9 a).2.1 ≠ (TJ9 b).2.1 := by decide +kernel
theorem tyJ9_ok : ∀ k, k < 0 → parseFieldDescriptor (TJ9 k).2.2.1 = some (tyJ9 k) := by decide +kernel
abbrev cJ9_max_7cf53 : ByteArray := prog_10_method_65_code
def yJ9_max_7cf53 : MethodName := ⟨RJ9, "max", "(II)I"⟩
abbrev cJ9_min_7cf53 : ByteArray := prog_10_method_69_code
def yJ9_min_7cf53 : MethodName := ⟨RJ9, "min", "(II)I"⟩
def RJ0 : String := "java/lang/String"
def TJ0 : u_T := fun k => match k with
  | _ => ("", "", "", false)
def tyJ0 : Nat → FieldType := fun k => match k with
  | _ => .int
abbrev wsJ00 : List Cond := u_ws RJ0 TJ0 0
theorem nmJ0 : ∀ a, a < 0 → ∀ b, b < 0 → a ≠ b → (TJ0 a).2.1 ≠ (TJ0 b).2.1 := by decide +kernel
theorem tyJ0_ok : ∀ k, k < 0 → parseFieldDescriptor (TJ0 k).2.2.1 = some (tyJ0 k) := by decide +kernel
abbrev cJ0_length_8abf5 : ByteArray := prog_11_method_54_code
def yJ0_length_8abf5 : MethodName := ⟨RJ0, "length", "()I"⟩
abbrev cJ0_charAt_5068e : ByteArray := prog_11_method_56_code
def yJ0_charAt_5068e : MethodName := ⟨RJ0, "charAt", "(I)C"⟩
abbrev cJ0_coder_7d493 : ByteArray := prog_11_method_152_code
def yJ0_coder_7d493 : MethodName := ⟨RJ0, "coder", "()B"⟩
abbrev cJ0_isLatin1_aae02 : ByteArray := prog_11_method_154_code
def yJ0_isLatin1_aae02 : MethodName := ⟨RJ0, "isLatin1", "()Z"⟩
abbrev cJ0_checkIndex_df160 : ByteArray := prog_11_method_155_code
def yJ0_checkIndex_df160 : MethodName := ⟨RJ0, "checkIndex", "(II)V"⟩
def RJ1 : String := "java/lang/StringLatin1"
def TJ1 : u_T := fun k => match k with
  | _ => ("", "", "", false)
def tyJ1 : Nat → FieldType := fun k => match k with
  | _ => .int
abbrev wsJ10 : List Cond := u_ws RJ1 TJ1 0
theorem nmJ1 : ∀ a, a < 0 → ∀ b, b < 0 → a ≠ b → (TJ1 a).2.1 ≠ (TJ1 b).2.1 := by decide +kernel
theorem tyJ1_ok : ∀ k, k < 0 → parseFieldDescriptor (TJ1 k).2.2.1 = some (tyJ1 k) := by decide +kernel
abbrev cJ1_charAt_3b067 : ByteArray := prog_12_method_2_code
def yJ1_charAt_3b067 : MethodName := ⟨RJ1, "charAt", "([BI)C"⟩
def RJ2 : String := "java/lang/StringUTF16"
def TJ2 : u_T := fun k => match k with
  | _ => ("", "", "", false)
def tyJ2 : Nat → FieldType := fun k => match k with
  | _ => .int
abbrev wsJ20 : List Cond := u_ws RJ2 TJ2 0
theorem nmJ2 : ∀ a, a < 0 → ∀ b, b < 0 → a ≠ b → (TJ2 a).2.1 ≠ (TJ2 b).2.1 := by decide +kernel
theorem tyJ2_ok : ∀ k, k < 0 → parseFieldDescriptor (TJ2 k).2.2.1 = some (tyJ2 k) := by decide +kernel
abbrev cJ2_getChar_3b067 : ByteArray := prog_13_method_5_code
def yJ2_getChar_3b067 : MethodName := ⟨RJ2, "getChar", "([BI)C"⟩
abbrev cJ2_length_9d52b : ByteArray := prog_13_method_6_code
def yJ2_length_9d52b : MethodName := ⟨RJ2, "length", "([B)I"⟩
abbrev cJ2_charAt_3b067 : ByteArray := prog_13_method_83_code
def yJ2_charAt_3b067 : MethodName := ⟨RJ2, "charAt", "([BI)C"⟩
abbrev cJ2_checkIndex_2214a : ByteArray := prog_13_method_91_code
def yJ2_checkIndex_2214a : MethodName := ⟨RJ2, "checkIndex", "(I[B)V"⟩
def RJ10 : String := "java/lang/System"
def TJ10 : u_T := fun k => match k with
  | _ => ("", "", "", false)
def tyJ10 : Nat → FieldType := fun k => match k with
  | _ => .int
abbrev wsJ100 : List Cond := u_ws RJ10 TJ10 0
theorem nmJ10 : ∀ a, a < 0 → ∀ b, b < 0 → a ≠ b → (TJ10 a).2.1 ≠ (TJ10 b).2.1 := by decide +kernel
theorem tyJ10_ok : ∀ k, k < 0 → parseFieldDescriptor (TJ10 k).2.2.1 = some (tyJ10 k) := by decide +kernel
def RJxfd54e : String := "java/lang/constant/Constable"
def TJxfd54e : u_T := fun k => match k with
  | _ => ("", "", "", false)
def tyJxfd54e : Nat → FieldType := fun k => match k with
  | _ => .int
abbrev wsJxfd54e0 : List Cond := u_ws RJxfd54e TJxfd54e 0
theorem nmJxfd54e : ∀ a, a < 0 → ∀ b, b < 0 → a ≠ b → (TJxfd54e a).2.1 ≠ (TJxfd54e b).2.1 := by decide +kernel
theorem tyJxfd54e_ok : ∀ k, k < 0 → parseFieldDescriptor (TJxfd54e k).2.2.1 = some (tyJxfd54e k) := by decide +kernel
def RJx3cf43 : String := "java/lang/constant/ConstantDesc"
def TJx3cf43 : u_T := fun k => match k with
  | _ => ("", "", "", false)
def tyJx3cf43 : Nat → FieldType := fun k => match k with
  | _ => .int
abbrev wsJx3cf430 : List Cond := u_ws RJx3cf43 TJx3cf43 0
theorem nmJx3cf43 : ∀ a, a < 0 → ∀ b, b < 0 → a ≠ b → (TJx3cf43 a).2.1 ≠ (TJx3cf43 b).2.1 := by decide +kernel
theorem tyJx3cf43_ok : ∀ k, k < 0 → parseFieldDescriptor (TJx3cf43 k).2.2.1 = some (tyJx3cf43 k) := by decide +kernel
def RJ7 : String := "java/util/Arrays"
def TJ7 : u_T := fun k => match k with
  | _ => ("", "", "", false)
def tyJ7 : Nat → FieldType := fun k => match k with
  | _ => .int
abbrev wsJ70 : List Cond := u_ws RJ7 TJ7 0
theorem nmJ7 : ∀ a, a < 0 → ∀ b, b < 0 → a ≠ b → (TJ7 a).2.1 ≠ (TJ7 b).2.1 := by decide +kernel
theorem tyJ7_ok : ∀ k, k < 0 → parseFieldDescriptor (TJ7 k).2.2.1 = some (tyJ7 k) := by decide +kernel
abbrev cJ7_fill_53178 : ByteArray := prog_15_method_103_code
def yJ7_fill_53178 : MethodName := ⟨RJ7, "fill", "([II)V"⟩
def RJ3 : String := "jdk/internal/util/Preconditions"
def TJ3 : u_T := fun k => match k with
  | _ => ("", "", "", false)
def tyJ3 : Nat → FieldType := fun k => match k with
  | _ => .int
abbrev wsJ30 : List Cond := u_ws RJ3 TJ3 0
theorem nmJ3 : ∀ a, a < 0 → ∀ b, b < 0 → a ≠ b → (TJ3 a).2.1 ≠ (TJ3 b).2.1 := by decide +kernel
theorem tyJ3_ok : ∀ k, k < 0 → parseFieldDescriptor (TJ3 k).2.2.1 = some (tyJ3 k) := by decide +kernel
abbrev cJ3_checkIndex_8e157 : ByteArray := prog_16_method_11_code
def yJ3_checkIndex_8e157 : MethodName := ⟨RJ3, "checkIndex", "(IILjava/util/function/BiFunction;)I"⟩
def RL : String := "UniverseLevelsLaw"
abbrev cL_law : ByteArray := code
def yL_law : MethodName := ⟨RL, "law", "([I)Z"⟩
abbrev vwCl : List vw_C := [(RX0, TX0, 4), (RX1, TX1, 2), (RX2, TX2, 4), (RX3, TX3, 3), (RX4, TX4, 6), (RX5, TX5, 3), (RX6, TX6, 13), (RX7, TX7, 24)]
end
section
theorem dX0_init_0 : decode cX0_init 0 = .ok (.aload_n 0, 1) := by decide +kernel
theorem dX0_init_1 : decode cX0_init 1 = .ok (.invokespecial 3, 3) := by decide +kernel
theorem dX0_init_4 : decode cX0_init 4 = .ok (.aload_n 0, 1) := by decide +kernel
theorem dX0_init_5 : decode cX0_init 5 = .ok (.bipush 16, 2) := by decide +kernel
theorem dX0_init_7 : decode cX0_init 7 = .ok (.newarray .int, 2) := by decide +kernel
theorem dX0_init_9 : decode cX0_init 9 = .ok (.putfield 9, 3) := by decide +kernel
theorem dX0_init_12 : decode cX0_init 12 = .ok (.aload_n 0, 1) := by decide +kernel
theorem dX0_init_13 : decode cX0_init 13 = .ok (.iconst 3, 1) := by decide +kernel
theorem dX0_init_14 : decode cX0_init 14 = .ok (.newarray .int, 2) := by decide +kernel
theorem dX0_init_16 : decode cX0_init 16 = .ok (.putfield 15, 3) := by decide +kernel
theorem dX0_init_19 : decode cX0_init 19 = .ok (.aload_n 0, 1) := by decide +kernel
theorem dX0_init_20 : decode cX0_init 20 = .ok (.bipush 10, 2) := by decide +kernel
theorem dX0_init_22 : decode cX0_init 22 = .ok (.newarray .int, 2) := by decide +kernel
theorem dX0_init_24 : decode cX0_init 24 = .ok (.putfield 18, 3) := by decide +kernel
theorem dX0_init_27 : decode cX0_init 27 = .ok (.return_, 1) := by decide +kernel
theorem dX0_numberOf_0 : decode cX0_numberOf 0 = .ok (.aload_n 0, 1) := by decide +kernel
theorem dX0_numberOf_1 : decode cX0_numberOf 1 = .ok (.getfield 9, 3) := by decide +kernel
theorem dX0_numberOf_4 : decode cX0_numberOf 4 = .ok (.aload_n 0, 1) := by decide +kernel
theorem dX0_numberOf_5 : decode cX0_numberOf 5 = .ok (.getfield 15, 3) := by decide +kernel
theorem dX0_numberOf_8 : decode cX0_numberOf 8 = .ok (.iload_n 1, 1) := by decide +kernel
theorem dX0_numberOf_9 : decode cX0_numberOf 9 = .ok (.iaload, 1) := by decide +kernel
theorem dX0_numberOf_10 : decode cX0_numberOf 10 = .ok (.iaload, 1) := by decide +kernel
theorem dX0_numberOf_11 : decode cX0_numberOf 11 = .ok (.ireturn, 1) := by decide +kernel
theorem dX0_choose_0 : decode cX0_choose 0 = .ok (.aload_n 0, 1) := by decide +kernel
theorem dX0_choose_1 : decode cX0_choose 1 = .ok (.aload_n 1, 1) := by decide +kernel
theorem dX0_choose_2 : decode cX0_choose 2 = .ok (.aload_n 2, 1) := by decide +kernel
theorem dX0_choose_3 : decode cX0_choose 3 = .ok (.iload_n 3, 1) := by decide +kernel
theorem dX0_choose_4 : decode cX0_choose 4 = .ok (.iload 4, 2) := by decide +kernel
theorem dX0_choose_6 : decode cX0_choose 6 = .ok (.iload 5, 2) := by decide +kernel
theorem dX0_choose_8 : decode cX0_choose 8 = .ok (.invokevirtual 21, 3) := by decide +kernel
theorem dX0_choose_11 : decode cX0_choose 11 = .ok (.iconst 0, 1) := by decide +kernel
theorem dX0_choose_12 : decode cX0_choose 12 = .ok (.istore 6, 2) := by decide +kernel
theorem dX0_choose_14 : decode cX0_choose 14 = .ok (.iload 6, 2) := by decide +kernel
theorem dX0_choose_16 : decode cX0_choose 16 = .ok (.iconst 3, 1) := by decide +kernel
theorem dX0_choose_17 : decode cX0_choose 17 = .ok (.if_icmp .gt 107, 3) := by decide +kernel
theorem dX0_choose_20 : decode cX0_choose 20 = .ok (.iload 6, 2) := by decide +kernel
theorem dX0_choose_22 : decode cX0_choose 22 = .ok (.aload_n 0, 1) := by decide +kernel
theorem dX0_choose_23 : decode cX0_choose 23 = .ok (.getfield 25, 3) := by decide +kernel
theorem dX0_choose_26 : decode cX0_choose 26 = .ok (.if_icmp .gt 98, 3) := by decide +kernel
theorem dX0_choose_29 : decode cX0_choose 29 = .ok (.iconst 0, 1) := by decide +kernel
theorem dX0_choose_30 : decode cX0_choose 30 = .ok (.istore 7, 2) := by decide +kernel
theorem dX0_choose_32 : decode cX0_choose 32 = .ok (.iload 7, 2) := by decide +kernel
theorem dX0_choose_34 : decode cX0_choose 34 = .ok (.iload 6, 2) := by decide +kernel
theorem dX0_choose_36 : decode cX0_choose 36 = .ok (.if_icmp .ge 18, 3) := by decide +kernel
theorem dX0_choose_39 : decode cX0_choose 39 = .ok (.aload_n 0, 1) := by decide +kernel
theorem dX0_choose_40 : decode cX0_choose 40 = .ok (.getfield 15, 3) := by decide +kernel
theorem dX0_choose_43 : decode cX0_choose 43 = .ok (.iload 7, 2) := by decide +kernel
theorem dX0_choose_45 : decode cX0_choose 45 = .ok (.iload 7, 2) := by decide +kernel
theorem dX0_choose_47 : decode cX0_choose 47 = .ok (.iastore, 1) := by decide +kernel
theorem dX0_choose_48 : decode cX0_choose 48 = .ok (.iinc 7 1, 3) := by decide +kernel
theorem dX0_choose_51 : decode cX0_choose 51 = .ok (.goto (-19), 3) := by decide +kernel
theorem dX0_choose_54 : decode cX0_choose 54 = .ok (.iconst 1, 1) := by decide +kernel
theorem dX0_choose_55 : decode cX0_choose 55 = .ok (.istore 7, 2) := by decide +kernel
theorem dX0_choose_57 : decode cX0_choose 57 = .ok (.iconst 0, 1) := by decide +kernel
theorem dX0_choose_58 : decode cX0_choose 58 = .ok (.istore 8, 2) := by decide +kernel
theorem dX0_choose_60 : decode cX0_choose 60 = .ok (.iload 8, 2) := by decide +kernel
theorem dX0_choose_62 : decode cX0_choose 62 = .ok (.sipush 560, 3) := by decide +kernel
theorem dX0_choose_65 : decode cX0_choose 65 = .ok (.if_icmp .ge 53, 3) := by decide +kernel
theorem dX0_choose_68 : decode cX0_choose 68 = .ok (.iload 7, 2) := by decide +kernel
theorem dX0_choose_70 : decode cX0_choose 70 = .ok (.ifCond .eq 48, 3) := by decide +kernel
theorem dX0_choose_73 : decode cX0_choose 73 = .ok (.aload_n 1, 1) := by decide +kernel
theorem dX0_choose_74 : decode cX0_choose 74 = .ok (.iload 5, 2) := by decide +kernel
theorem dX0_choose_76 : decode cX0_choose 76 = .ok (.aload_n 0, 1) := by decide +kernel
theorem dX0_choose_77 : decode cX0_choose 77 = .ok (.iload 6, 2) := by decide +kernel
theorem dX0_choose_79 : decode cX0_choose 79 = .ok (.invokevirtual 29, 3) := by decide +kernel
theorem dX0_choose_82 : decode cX0_choose 82 = .ok (.aload_n 0, 1) := by decide +kernel
theorem dX0_choose_83 : decode cX0_choose 83 = .ok (.getfield 18, 3) := by decide +kernel
theorem dX0_choose_86 : decode cX0_choose 86 = .ok (.invokevirtual 33, 3) := by decide +kernel
theorem dX0_choose_89 : decode cX0_choose 89 = .ok (.aload_n 0, 1) := by decide +kernel
theorem dX0_choose_90 : decode cX0_choose 90 = .ok (.getfield 18, 3) := by decide +kernel
theorem dX0_choose_93 : decode cX0_choose 93 = .ok (.iload_n 3, 1) := by decide +kernel
theorem dX0_choose_94 : decode cX0_choose 94 = .ok (.iaload, 1) := by decide +kernel
theorem dX0_choose_95 : decode cX0_choose 95 = .ok (.iload 4, 2) := by decide +kernel
theorem dX0_choose_97 : decode cX0_choose 97 = .ok (.iadd, 1) := by decide +kernel
theorem dX0_choose_98 : decode cX0_choose 98 = .ok (.ifCond .gt 6, 3) := by decide +kernel
theorem dX0_choose_101 : decode cX0_choose 101 = .ok (.iload 6, 2) := by decide +kernel
theorem dX0_choose_103 : decode cX0_choose 103 = .ok (.ireturn, 1) := by decide +kernel
theorem dX0_choose_104 : decode cX0_choose 104 = .ok (.aload_n 0, 1) := by decide +kernel
theorem dX0_choose_105 : decode cX0_choose 105 = .ok (.iload 6, 2) := by decide +kernel
theorem dX0_choose_107 : decode cX0_choose 107 = .ok (.invokevirtual 39, 3) := by decide +kernel
theorem dX0_choose_110 : decode cX0_choose 110 = .ok (.istore 7, 2) := by decide +kernel
theorem dX0_choose_112 : decode cX0_choose 112 = .ok (.iinc 8 1, 3) := by decide +kernel
theorem dX0_choose_115 : decode cX0_choose 115 = .ok (.goto (-55), 3) := by decide +kernel
theorem dX0_choose_118 : decode cX0_choose 118 = .ok (.iinc 6 1, 3) := by decide +kernel
theorem dX0_choose_121 : decode cX0_choose 121 = .ok (.goto (-107), 3) := by decide +kernel
theorem dX0_choose_124 : decode cX0_choose 124 = .ok (.bipush (-4), 2) := by decide +kernel
theorem dX0_choose_126 : decode cX0_choose 126 = .ok (.ireturn, 1) := by decide +kernel
theorem dX0_gather_0 : decode cX0_gather 0 = .ok (.aload_n 0, 1) := by decide +kernel
theorem dX0_gather_1 : decode cX0_gather 1 = .ok (.iconst 0, 1) := by decide +kernel
theorem dX0_gather_2 : decode cX0_gather 2 = .ok (.putfield 25, 3) := by decide +kernel
theorem dX0_gather_5 : decode cX0_gather 5 = .ok (.iconst 0, 1) := by decide +kernel
theorem dX0_gather_6 : decode cX0_gather 6 = .ok (.istore 6, 2) := by decide +kernel
theorem dX0_gather_8 : decode cX0_gather 8 = .ok (.iload 6, 2) := by decide +kernel
theorem dX0_gather_10 : decode cX0_gather 10 = .ok (.aload_n 1, 1) := by decide +kernel
theorem dX0_gather_11 : decode cX0_gather 11 = .ok (.getfield 43, 3) := by decide +kernel
theorem dX0_gather_14 : decode cX0_gather 14 = .ok (.if_icmp .ge 96, 3) := by decide +kernel
theorem dX0_gather_17 : decode cX0_gather 17 = .ok (.aload_n 2, 1) := by decide +kernel
theorem dX0_gather_18 : decode cX0_gather 18 = .ok (.getfield 46, 3) := by decide +kernel
theorem dX0_gather_21 : decode cX0_gather 21 = .ok (.iload 5, 2) := by decide +kernel
theorem dX0_gather_23 : decode cX0_gather 23 = .ok (.aaload, 1) := by decide +kernel
theorem dX0_gather_24 : decode cX0_gather 24 = .ok (.aload_n 1, 1) := by decide +kernel
theorem dX0_gather_25 : decode cX0_gather 25 = .ok (.getfield 52, 3) := by decide +kernel
theorem dX0_gather_28 : decode cX0_gather 28 = .ok (.iload 6, 2) := by decide +kernel
theorem dX0_gather_30 : decode cX0_gather 30 = .ok (.iaload, 1) := by decide +kernel
theorem dX0_gather_31 : decode cX0_gather 31 = .ok (.iaload, 1) := by decide +kernel
theorem dX0_gather_32 : decode cX0_gather 32 = .ok (.istore 7, 2) := by decide +kernel
theorem dX0_gather_34 : decode cX0_gather 34 = .ok (.aload_n 2, 1) := by decide +kernel
theorem dX0_gather_35 : decode cX0_gather 35 = .ok (.getfield 46, 3) := by decide +kernel
theorem dX0_gather_38 : decode cX0_gather 38 = .ok (.aload_n 1, 1) := by decide +kernel
theorem dX0_gather_39 : decode cX0_gather 39 = .ok (.getfield 55, 3) := by decide +kernel
theorem dX0_gather_42 : decode cX0_gather 42 = .ok (.iload 6, 2) := by decide +kernel
theorem dX0_gather_44 : decode cX0_gather 44 = .ok (.iaload, 1) := by decide +kernel
theorem dX0_gather_45 : decode cX0_gather 45 = .ok (.aaload, 1) := by decide +kernel
theorem dX0_gather_46 : decode cX0_gather 46 = .ok (.iload_n 3, 1) := by decide +kernel
theorem dX0_gather_47 : decode cX0_gather 47 = .ok (.iaload, 1) := by decide +kernel
theorem dX0_gather_48 : decode cX0_gather 48 = .ok (.istore 8, 2) := by decide +kernel
theorem dX0_gather_50 : decode cX0_gather 50 = .ok (.iload 7, 2) := by decide +kernel
theorem dX0_gather_52 : decode cX0_gather 52 = .ok (.ldc 58, 2) := by decide +kernel
theorem dX0_gather_54 : decode cX0_gather 54 = .ok (.if_icmp .eq 50, 3) := by decide +kernel
theorem dX0_gather_57 : decode cX0_gather 57 = .ok (.iload 8, 2) := by decide +kernel
theorem dX0_gather_59 : decode cX0_gather 59 = .ok (.ldc 58, 2) := by decide +kernel
theorem dX0_gather_61 : decode cX0_gather 61 = .ok (.if_icmp .eq 43, 3) := by decide +kernel
theorem dX0_gather_64 : decode cX0_gather 64 = .ok (.iload 7, 2) := by decide +kernel
theorem dX0_gather_66 : decode cX0_gather 66 = .ok (.aload_n 1, 1) := by decide +kernel
theorem dX0_gather_67 : decode cX0_gather 67 = .ok (.getfield 59, 3) := by decide +kernel
theorem dX0_gather_70 : decode cX0_gather 70 = .ok (.iload 6, 2) := by decide +kernel
theorem dX0_gather_72 : decode cX0_gather 72 = .ok (.iaload, 1) := by decide +kernel
theorem dX0_gather_73 : decode cX0_gather 73 = .ok (.iadd, 1) := by decide +kernel
theorem dX0_gather_74 : decode cX0_gather 74 = .ok (.iload 8, 2) := by decide +kernel
theorem dX0_gather_76 : decode cX0_gather 76 = .ok (.iadd, 1) := by decide +kernel
theorem dX0_gather_77 : decode cX0_gather 77 = .ok (.iload 4, 2) := by decide +kernel
theorem dX0_gather_79 : decode cX0_gather 79 = .ok (.iadd, 1) := by decide +kernel
theorem dX0_gather_80 : decode cX0_gather 80 = .ok (.ifCond .le 24, 3) := by decide +kernel
theorem dX0_gather_83 : decode cX0_gather 83 = .ok (.aload_n 0, 1) := by decide +kernel
theorem dX0_gather_84 : decode cX0_gather 84 = .ok (.getfield 9, 3) := by decide +kernel
theorem dX0_gather_87 : decode cX0_gather 87 = .ok (.aload_n 0, 1) := by decide +kernel
theorem dX0_gather_88 : decode cX0_gather 88 = .ok (.getfield 25, 3) := by decide +kernel
theorem dX0_gather_91 : decode cX0_gather 91 = .ok (.iload 6, 2) := by decide +kernel
theorem dX0_gather_93 : decode cX0_gather 93 = .ok (.iastore, 1) := by decide +kernel
theorem dX0_gather_94 : decode cX0_gather 94 = .ok (.aload_n 0, 1) := by decide +kernel
theorem dX0_gather_95 : decode cX0_gather 95 = .ok (.dup, 1) := by decide +kernel
theorem dX0_gather_96 : decode cX0_gather 96 = .ok (.getfield 25, 3) := by decide +kernel
theorem dX0_gather_99 : decode cX0_gather 99 = .ok (.iconst 1, 1) := by decide +kernel
theorem dX0_gather_100 : decode cX0_gather 100 = .ok (.iadd, 1) := by decide +kernel
theorem dX0_gather_101 : decode cX0_gather 101 = .ok (.putfield 25, 3) := by decide +kernel
theorem dX0_gather_104 : decode cX0_gather 104 = .ok (.iinc 6 1, 3) := by decide +kernel
theorem dX0_gather_107 : decode cX0_gather 107 = .ok (.goto (-99), 3) := by decide +kernel
theorem dX0_gather_110 : decode cX0_gather 110 = .ok (.return_, 1) := by decide +kernel
theorem dX0_pickedBits_0 : decode cX0_pickedBits 0 = .ok (.iconst 0, 1) := by decide +kernel
theorem dX0_pickedBits_1 : decode cX0_pickedBits 1 = .ok (.istore_n 2, 1) := by decide +kernel
theorem dX0_pickedBits_2 : decode cX0_pickedBits 2 = .ok (.iconst 0, 1) := by decide +kernel
theorem dX0_pickedBits_3 : decode cX0_pickedBits 3 = .ok (.istore_n 3, 1) := by decide +kernel
theorem dX0_pickedBits_4 : decode cX0_pickedBits 4 = .ok (.iload_n 3, 1) := by decide +kernel
theorem dX0_pickedBits_5 : decode cX0_pickedBits 5 = .ok (.iload_n 1, 1) := by decide +kernel
theorem dX0_pickedBits_6 : decode cX0_pickedBits 6 = .ok (.if_icmp .ge 19, 3) := by decide +kernel
theorem dX0_pickedBits_9 : decode cX0_pickedBits 9 = .ok (.iload_n 2, 1) := by decide +kernel
theorem dX0_pickedBits_10 : decode cX0_pickedBits 10 = .ok (.iconst 1, 1) := by decide +kernel
theorem dX0_pickedBits_11 : decode cX0_pickedBits 11 = .ok (.aload_n 0, 1) := by decide +kernel
theorem dX0_pickedBits_12 : decode cX0_pickedBits 12 = .ok (.iload_n 3, 1) := by decide +kernel
theorem dX0_pickedBits_13 : decode cX0_pickedBits 13 = .ok (.invokevirtual 62, 3) := by decide +kernel
theorem dX0_pickedBits_16 : decode cX0_pickedBits 16 = .ok (.ishl, 1) := by decide +kernel
theorem dX0_pickedBits_17 : decode cX0_pickedBits 17 = .ok (.ior, 1) := by decide +kernel
theorem dX0_pickedBits_18 : decode cX0_pickedBits 18 = .ok (.istore_n 2, 1) := by decide +kernel
theorem dX0_pickedBits_19 : decode cX0_pickedBits 19 = .ok (.iinc 3 1, 3) := by decide +kernel
theorem dX0_pickedBits_22 : decode cX0_pickedBits 22 = .ok (.goto (-18), 3) := by decide +kernel
theorem dX0_pickedBits_25 : decode cX0_pickedBits 25 = .ok (.iload_n 2, 1) := by decide +kernel
theorem dX0_pickedBits_26 : decode cX0_pickedBits 26 = .ok (.ireturn, 1) := by decide +kernel
theorem dX0_nextChoice_0 : decode cX0_nextChoice 0 = .ok (.iload_n 1, 1) := by decide +kernel
theorem dX0_nextChoice_1 : decode cX0_nextChoice 1 = .ok (.iconst 1, 1) := by decide +kernel
theorem dX0_nextChoice_2 : decode cX0_nextChoice 2 = .ok (.isub, 1) := by decide +kernel
theorem dX0_nextChoice_3 : decode cX0_nextChoice 3 = .ok (.istore_n 2, 1) := by decide +kernel
theorem dX0_nextChoice_4 : decode cX0_nextChoice 4 = .ok (.iload_n 2, 1) := by decide +kernel
theorem dX0_nextChoice_5 : decode cX0_nextChoice 5 = .ok (.ifCond .lt 69, 3) := by decide +kernel
theorem dX0_nextChoice_8 : decode cX0_nextChoice 8 = .ok (.aload_n 0, 1) := by decide +kernel
theorem dX0_nextChoice_9 : decode cX0_nextChoice 9 = .ok (.getfield 15, 3) := by decide +kernel
theorem dX0_nextChoice_12 : decode cX0_nextChoice 12 = .ok (.iload_n 2, 1) := by decide +kernel
theorem dX0_nextChoice_13 : decode cX0_nextChoice 13 = .ok (.iaload, 1) := by decide +kernel
theorem dX0_nextChoice_14 : decode cX0_nextChoice 14 = .ok (.aload_n 0, 1) := by decide +kernel
theorem dX0_nextChoice_15 : decode cX0_nextChoice 15 = .ok (.getfield 25, 3) := by decide +kernel
theorem dX0_nextChoice_18 : decode cX0_nextChoice 18 = .ok (.iload_n 1, 1) := by decide +kernel
theorem dX0_nextChoice_19 : decode cX0_nextChoice 19 = .ok (.isub, 1) := by decide +kernel
theorem dX0_nextChoice_20 : decode cX0_nextChoice 20 = .ok (.iload_n 2, 1) := by decide +kernel
theorem dX0_nextChoice_21 : decode cX0_nextChoice 21 = .ok (.iadd, 1) := by decide +kernel
theorem dX0_nextChoice_22 : decode cX0_nextChoice 22 = .ok (.if_icmp .ge 46, 3) := by decide +kernel
theorem dX0_nextChoice_25 : decode cX0_nextChoice 25 = .ok (.aload_n 0, 1) := by decide +kernel
theorem dX0_nextChoice_26 : decode cX0_nextChoice 26 = .ok (.getfield 15, 3) := by decide +kernel
theorem dX0_nextChoice_29 : decode cX0_nextChoice 29 = .ok (.iload_n 2, 1) := by decide +kernel
theorem dX0_nextChoice_30 : decode cX0_nextChoice 30 = .ok (.dup2, 1) := by decide +kernel
theorem dX0_nextChoice_31 : decode cX0_nextChoice 31 = .ok (.iaload, 1) := by decide +kernel
theorem dX0_nextChoice_32 : decode cX0_nextChoice 32 = .ok (.iconst 1, 1) := by decide +kernel
theorem dX0_nextChoice_33 : decode cX0_nextChoice 33 = .ok (.iadd, 1) := by decide +kernel
theorem dX0_nextChoice_34 : decode cX0_nextChoice 34 = .ok (.iastore, 1) := by decide +kernel
theorem dX0_nextChoice_35 : decode cX0_nextChoice 35 = .ok (.iload_n 2, 1) := by decide +kernel
theorem dX0_nextChoice_36 : decode cX0_nextChoice 36 = .ok (.iconst 1, 1) := by decide +kernel
theorem dX0_nextChoice_37 : decode cX0_nextChoice 37 = .ok (.iadd, 1) := by decide +kernel
theorem dX0_nextChoice_38 : decode cX0_nextChoice 38 = .ok (.istore_n 3, 1) := by decide +kernel
theorem dX0_nextChoice_39 : decode cX0_nextChoice 39 = .ok (.iload_n 3, 1) := by decide +kernel
theorem dX0_nextChoice_40 : decode cX0_nextChoice 40 = .ok (.iload_n 1, 1) := by decide +kernel
theorem dX0_nextChoice_41 : decode cX0_nextChoice 41 = .ok (.if_icmp .ge 25, 3) := by decide +kernel
theorem dX0_nextChoice_44 : decode cX0_nextChoice 44 = .ok (.aload_n 0, 1) := by decide +kernel
theorem dX0_nextChoice_45 : decode cX0_nextChoice 45 = .ok (.getfield 15, 3) := by decide +kernel
theorem dX0_nextChoice_48 : decode cX0_nextChoice 48 = .ok (.iload_n 3, 1) := by decide +kernel
theorem dX0_nextChoice_49 : decode cX0_nextChoice 49 = .ok (.aload_n 0, 1) := by decide +kernel
theorem dX0_nextChoice_50 : decode cX0_nextChoice 50 = .ok (.getfield 15, 3) := by decide +kernel
theorem dX0_nextChoice_53 : decode cX0_nextChoice 53 = .ok (.iload_n 3, 1) := by decide +kernel
theorem dX0_nextChoice_54 : decode cX0_nextChoice 54 = .ok (.iconst 1, 1) := by decide +kernel
theorem dX0_nextChoice_55 : decode cX0_nextChoice 55 = .ok (.isub, 1) := by decide +kernel
theorem dX0_nextChoice_56 : decode cX0_nextChoice 56 = .ok (.iaload, 1) := by decide +kernel
theorem dX0_nextChoice_57 : decode cX0_nextChoice 57 = .ok (.iconst 1, 1) := by decide +kernel
theorem dX0_nextChoice_58 : decode cX0_nextChoice 58 = .ok (.iadd, 1) := by decide +kernel
theorem dX0_nextChoice_59 : decode cX0_nextChoice 59 = .ok (.iastore, 1) := by decide +kernel
theorem dX0_nextChoice_60 : decode cX0_nextChoice 60 = .ok (.iinc 3 1, 3) := by decide +kernel
theorem dX0_nextChoice_63 : decode cX0_nextChoice 63 = .ok (.goto (-24), 3) := by decide +kernel
theorem dX0_nextChoice_66 : decode cX0_nextChoice 66 = .ok (.iconst 1, 1) := by decide +kernel
theorem dX0_nextChoice_67 : decode cX0_nextChoice 67 = .ok (.ireturn, 1) := by decide +kernel
theorem dX0_nextChoice_68 : decode cX0_nextChoice 68 = .ok (.iinc 2 (-1), 3) := by decide +kernel
theorem dX0_nextChoice_71 : decode cX0_nextChoice 71 = .ok (.goto (-67), 3) := by decide +kernel
theorem dX0_nextChoice_74 : decode cX0_nextChoice 74 = .ok (.iconst 0, 1) := by decide +kernel
theorem dX0_nextChoice_75 : decode cX0_nextChoice 75 = .ok (.ireturn, 1) := by decide +kernel
theorem dX1_init_0 : decode cX1_init 0 = .ok (.aload_n 0, 1) := by decide +kernel
theorem dX1_init_1 : decode cX1_init 1 = .ok (.invokespecial 3, 3) := by decide +kernel
theorem dX1_init_4 : decode cX1_init 4 = .ok (.aload_n 0, 1) := by decide +kernel
theorem dX1_init_5 : decode cX1_init 5 = .ok (.bipush 10, 2) := by decide +kernel
theorem dX1_init_7 : decode cX1_init 7 = .ok (.bipush 10, 2) := by decide +kernel
theorem dX1_init_9 : decode cX1_init 9 = .ok (.multianewarray 9 2, 4) := by decide +kernel
theorem dX1_init_13 : decode cX1_init 13 = .ok (.putfield 11, 3) := by decide +kernel
theorem dX1_init_16 : decode cX1_init 16 = .ok (.return_, 1) := by decide +kernel
theorem dX1_measure_0 : decode cX1_measure 0 = .ok (.aload_n 0, 1) := by decide +kernel
theorem dX1_measure_1 : decode cX1_measure 1 = .ok (.aload_n 1, 1) := by decide +kernel
theorem dX1_measure_2 : decode cX1_measure 2 = .ok (.getfield 16, 3) := by decide +kernel
theorem dX1_measure_5 : decode cX1_measure 5 = .ok (.putfield 22, 3) := by decide +kernel
theorem dX1_measure_8 : decode cX1_measure 8 = .ok (.iconst 0, 1) := by decide +kernel
theorem dX1_measure_9 : decode cX1_measure 9 = .ok (.istore_n 2, 1) := by decide +kernel
theorem dX1_measure_10 : decode cX1_measure 10 = .ok (.iload_n 2, 1) := by decide +kernel
theorem dX1_measure_11 : decode cX1_measure 11 = .ok (.aload_n 0, 1) := by decide +kernel
theorem dX1_measure_12 : decode cX1_measure 12 = .ok (.getfield 22, 3) := by decide +kernel
theorem dX1_measure_15 : decode cX1_measure 15 = .ok (.if_icmp .ge 21, 3) := by decide +kernel
theorem dX1_measure_18 : decode cX1_measure 18 = .ok (.aload_n 1, 1) := by decide +kernel
theorem dX1_measure_19 : decode cX1_measure 19 = .ok (.iload_n 2, 1) := by decide +kernel
theorem dX1_measure_20 : decode cX1_measure 20 = .ok (.iconst 0, 1) := by decide +kernel
theorem dX1_measure_21 : decode cX1_measure 21 = .ok (.aload_n 0, 1) := by decide +kernel
theorem dX1_measure_22 : decode cX1_measure 22 = .ok (.getfield 11, 3) := by decide +kernel
theorem dX1_measure_25 : decode cX1_measure 25 = .ok (.iload_n 2, 1) := by decide +kernel
theorem dX1_measure_26 : decode cX1_measure 26 = .ok (.aaload, 1) := by decide +kernel
theorem dX1_measure_27 : decode cX1_measure 27 = .ok (.invokevirtual 23, 3) := by decide +kernel
theorem dX1_measure_30 : decode cX1_measure 30 = .ok (.iinc 2 1, 3) := by decide +kernel
theorem dX1_measure_33 : decode cX1_measure 33 = .ok (.goto (-23), 3) := by decide +kernel
theorem dX1_measure_36 : decode cX1_measure 36 = .ok (.return_, 1) := by decide +kernel
theorem dX1_leads_0 : decode cX1_leads 0 = .ok (.aload_n 0, 1) := by decide +kernel
theorem dX1_leads_1 : decode cX1_leads 1 = .ok (.getfield 11, 3) := by decide +kernel
theorem dX1_leads_4 : decode cX1_leads 4 = .ok (.iload_n 1, 1) := by decide +kernel
theorem dX1_leads_5 : decode cX1_leads 5 = .ok (.aaload, 1) := by decide +kernel
theorem dX1_leads_6 : decode cX1_leads 6 = .ok (.iload_n 2, 1) := by decide +kernel
theorem dX1_leads_7 : decode cX1_leads 7 = .ok (.iaload, 1) := by decide +kernel
theorem dX1_leads_8 : decode cX1_leads 8 = .ok (.ldc 27, 2) := by decide +kernel
theorem dX1_leads_10 : decode cX1_leads 10 = .ok (.if_icmp .eq 7, 3) := by decide +kernel
theorem dX1_leads_13 : decode cX1_leads 13 = .ok (.iconst 1, 1) := by decide +kernel
theorem dX1_leads_14 : decode cX1_leads 14 = .ok (.goto 4, 3) := by decide +kernel
theorem dX1_leads_17 : decode cX1_leads 17 = .ok (.iconst 0, 1) := by decide +kernel
theorem dX1_leads_18 : decode cX1_leads 18 = .ok (.ireturn, 1) := by decide +kernel
theorem dX1_implies_0 : decode cX1_implies 0 = .ok (.aload_n 0, 1) := by decide +kernel
theorem dX1_implies_1 : decode cX1_implies 1 = .ok (.iload_n 1, 1) := by decide +kernel
theorem dX1_implies_2 : decode cX1_implies 2 = .ok (.iload_n 3, 1) := by decide +kernel
theorem dX1_implies_3 : decode cX1_implies 3 = .ok (.invokevirtual 28, 3) := by decide +kernel
theorem dX1_implies_6 : decode cX1_implies 6 = .ok (.ifCond .eq 19, 3) := by decide +kernel
theorem dX1_implies_9 : decode cX1_implies 9 = .ok (.aload_n 0, 1) := by decide +kernel
theorem dX1_implies_10 : decode cX1_implies 10 = .ok (.getfield 11, 3) := by decide +kernel
theorem dX1_implies_13 : decode cX1_implies 13 = .ok (.iload_n 1, 1) := by decide +kernel
theorem dX1_implies_14 : decode cX1_implies 14 = .ok (.aaload, 1) := by decide +kernel
theorem dX1_implies_15 : decode cX1_implies 15 = .ok (.iload_n 3, 1) := by decide +kernel
theorem dX1_implies_16 : decode cX1_implies 16 = .ok (.iaload, 1) := by decide +kernel
theorem dX1_implies_17 : decode cX1_implies 17 = .ok (.iload_n 2, 1) := by decide +kernel
theorem dX1_implies_18 : decode cX1_implies 18 = .ok (.if_icmp .lt 7, 3) := by decide +kernel
theorem dX1_implies_21 : decode cX1_implies 21 = .ok (.iconst 1, 1) := by decide +kernel
theorem dX1_implies_22 : decode cX1_implies 22 = .ok (.goto 4, 3) := by decide +kernel
theorem dX1_implies_25 : decode cX1_implies 25 = .ok (.iconst 0, 1) := by decide +kernel
theorem dX1_implies_26 : decode cX1_implies 26 = .ok (.ireturn, 1) := by decide +kernel
theorem dX1_valueOf_0 : decode cX1_valueOf 0 = .ok (.iconst 0, 1) := by decide +kernel
theorem dX1_valueOf_1 : decode cX1_valueOf 1 = .ok (.istore_n 2, 1) := by decide +kernel
theorem dX1_valueOf_2 : decode cX1_valueOf 2 = .ok (.iconst 0, 1) := by decide +kernel
theorem dX1_valueOf_3 : decode cX1_valueOf 3 = .ok (.istore_n 3, 1) := by decide +kernel
theorem dX1_valueOf_4 : decode cX1_valueOf 4 = .ok (.iload_n 3, 1) := by decide +kernel
theorem dX1_valueOf_5 : decode cX1_valueOf 5 = .ok (.aload_n 0, 1) := by decide +kernel
theorem dX1_valueOf_6 : decode cX1_valueOf 6 = .ok (.getfield 22, 3) := by decide +kernel
theorem dX1_valueOf_9 : decode cX1_valueOf 9 = .ok (.if_icmp .ge 22, 3) := by decide +kernel
theorem dX1_valueOf_12 : decode cX1_valueOf 12 = .ok (.iload_n 2, 1) := by decide +kernel
theorem dX1_valueOf_13 : decode cX1_valueOf 13 = .ok (.aload_n 0, 1) := by decide +kernel
theorem dX1_valueOf_14 : decode cX1_valueOf 14 = .ok (.getfield 11, 3) := by decide +kernel
theorem dX1_valueOf_17 : decode cX1_valueOf 17 = .ok (.iload_n 3, 1) := by decide +kernel
theorem dX1_valueOf_18 : decode cX1_valueOf 18 = .ok (.aaload, 1) := by decide +kernel
theorem dX1_valueOf_19 : decode cX1_valueOf 19 = .ok (.iload_n 1, 1) := by decide +kernel
theorem dX1_valueOf_20 : decode cX1_valueOf 20 = .ok (.iaload, 1) := by decide +kernel
theorem dX1_valueOf_21 : decode cX1_valueOf 21 = .ok (.invokestatic 32, 3) := by decide +kernel
theorem dX1_valueOf_24 : decode cX1_valueOf 24 = .ok (.istore_n 2, 1) := by decide +kernel
theorem dX1_valueOf_25 : decode cX1_valueOf 25 = .ok (.iinc 3 1, 3) := by decide +kernel
theorem dX1_valueOf_28 : decode cX1_valueOf 28 = .ok (.goto (-24), 3) := by decide +kernel
theorem dX1_valueOf_31 : decode cX1_valueOf 31 = .ok (.iload_n 2, 1) := by decide +kernel
theorem dX1_valueOf_32 : decode cX1_valueOf 32 = .ok (.ireturn, 1) := by decide +kernel
theorem dX1_greatestValue_0 : decode cX1_greatestValue 0 = .ok (.iconst 0, 1) := by decide +kernel
theorem dX1_greatestValue_1 : decode cX1_greatestValue 1 = .ok (.istore_n 1, 1) := by decide +kernel
theorem dX1_greatestValue_2 : decode cX1_greatestValue 2 = .ok (.iconst 0, 1) := by decide +kernel
theorem dX1_greatestValue_3 : decode cX1_greatestValue 3 = .ok (.istore_n 2, 1) := by decide +kernel
theorem dX1_greatestValue_4 : decode cX1_greatestValue 4 = .ok (.iload_n 2, 1) := by decide +kernel
theorem dX1_greatestValue_5 : decode cX1_greatestValue 5 = .ok (.aload_n 0, 1) := by decide +kernel
theorem dX1_greatestValue_6 : decode cX1_greatestValue 6 = .ok (.getfield 22, 3) := by decide +kernel
theorem dX1_greatestValue_9 : decode cX1_greatestValue 9 = .ok (.if_icmp .ge 19, 3) := by decide +kernel
theorem dX1_greatestValue_12 : decode cX1_greatestValue 12 = .ok (.iload_n 1, 1) := by decide +kernel
theorem dX1_greatestValue_13 : decode cX1_greatestValue 13 = .ok (.aload_n 0, 1) := by decide +kernel
theorem dX1_greatestValue_14 : decode cX1_greatestValue 14 = .ok (.iload_n 2, 1) := by decide +kernel
theorem dX1_greatestValue_15 : decode cX1_greatestValue 15 = .ok (.invokevirtual 38, 3) := by decide +kernel
theorem dX1_greatestValue_18 : decode cX1_greatestValue 18 = .ok (.invokestatic 32, 3) := by decide +kernel
theorem dX1_greatestValue_21 : decode cX1_greatestValue 21 = .ok (.istore_n 1, 1) := by decide +kernel
theorem dX1_greatestValue_22 : decode cX1_greatestValue 22 = .ok (.iinc 2 1, 3) := by decide +kernel
theorem dX1_greatestValue_25 : decode cX1_greatestValue 25 = .ok (.goto (-21), 3) := by decide +kernel
theorem dX1_greatestValue_28 : decode cX1_greatestValue 28 = .ok (.iload_n 1, 1) := by decide +kernel
theorem dX1_greatestValue_29 : decode cX1_greatestValue 29 = .ok (.ireturn, 1) := by decide +kernel
theorem dX1_pairs_0 : decode cX1_pairs 0 = .ok (.iconst 0, 1) := by decide +kernel
theorem dX1_pairs_1 : decode cX1_pairs 1 = .ok (.istore_n 1, 1) := by decide +kernel
theorem dX1_pairs_2 : decode cX1_pairs 2 = .ok (.iconst 0, 1) := by decide +kernel
theorem dX1_pairs_3 : decode cX1_pairs 3 = .ok (.istore_n 2, 1) := by decide +kernel
theorem dX1_pairs_4 : decode cX1_pairs 4 = .ok (.iload_n 2, 1) := by decide +kernel
theorem dX1_pairs_5 : decode cX1_pairs 5 = .ok (.aload_n 0, 1) := by decide +kernel
theorem dX1_pairs_6 : decode cX1_pairs 6 = .ok (.getfield 22, 3) := by decide +kernel
theorem dX1_pairs_9 : decode cX1_pairs 9 = .ok (.if_icmp .ge 42, 3) := by decide +kernel
theorem dX1_pairs_12 : decode cX1_pairs 12 = .ok (.iconst 0, 1) := by decide +kernel
theorem dX1_pairs_13 : decode cX1_pairs 13 = .ok (.istore_n 3, 1) := by decide +kernel
theorem dX1_pairs_14 : decode cX1_pairs 14 = .ok (.iload_n 3, 1) := by decide +kernel
theorem dX1_pairs_15 : decode cX1_pairs 15 = .ok (.aload_n 0, 1) := by decide +kernel
theorem dX1_pairs_16 : decode cX1_pairs 16 = .ok (.getfield 22, 3) := by decide +kernel
theorem dX1_pairs_19 : decode cX1_pairs 19 = .ok (.if_icmp .ge 26, 3) := by decide +kernel
theorem dX1_pairs_22 : decode cX1_pairs 22 = .ok (.iload_n 2, 1) := by decide +kernel
theorem dX1_pairs_23 : decode cX1_pairs 23 = .ok (.iload_n 3, 1) := by decide +kernel
theorem dX1_pairs_24 : decode cX1_pairs 24 = .ok (.if_icmp .eq 15, 3) := by decide +kernel
theorem dX1_pairs_27 : decode cX1_pairs 27 = .ok (.aload_n 0, 1) := by decide +kernel
theorem dX1_pairs_28 : decode cX1_pairs 28 = .ok (.iload_n 2, 1) := by decide +kernel
theorem dX1_pairs_29 : decode cX1_pairs 29 = .ok (.iload_n 3, 1) := by decide +kernel
theorem dX1_pairs_30 : decode cX1_pairs 30 = .ok (.invokevirtual 28, 3) := by decide +kernel
theorem dX1_pairs_33 : decode cX1_pairs 33 = .ok (.ifCond .eq 6, 3) := by decide +kernel
theorem dX1_pairs_36 : decode cX1_pairs 36 = .ok (.iinc 1 1, 3) := by decide +kernel
theorem dX1_pairs_39 : decode cX1_pairs 39 = .ok (.iinc 3 1, 3) := by decide +kernel
theorem dX1_pairs_42 : decode cX1_pairs 42 = .ok (.goto (-28), 3) := by decide +kernel
theorem dX1_pairs_45 : decode cX1_pairs 45 = .ok (.iinc 2 1, 3) := by decide +kernel
theorem dX1_pairs_48 : decode cX1_pairs 48 = .ok (.goto (-44), 3) := by decide +kernel
theorem dX1_pairs_51 : decode cX1_pairs 51 = .ok (.iload_n 1, 1) := by decide +kernel
theorem dX1_pairs_52 : decode cX1_pairs 52 = .ok (.ireturn, 1) := by decide +kernel
theorem dX2_init_0 : decode cX2_init 0 = .ok (.aload_n 0, 1) := by decide +kernel
theorem dX2_init_1 : decode cX2_init 1 = .ok (.invokespecial 3, 3) := by decide +kernel
theorem dX2_init_4 : decode cX2_init 4 = .ok (.aload_n 0, 1) := by decide +kernel
theorem dX2_init_5 : decode cX2_init 5 = .ok (.bipush 10, 2) := by decide +kernel
theorem dX2_init_7 : decode cX2_init 7 = .ok (.newarray .int, 2) := by decide +kernel
theorem dX2_init_9 : decode cX2_init 9 = .ok (.putfield 9, 3) := by decide +kernel
theorem dX2_init_12 : decode cX2_init 12 = .ok (.aload_n 0, 1) := by decide +kernel
theorem dX2_init_13 : decode cX2_init 13 = .ok (.bipush 10, 2) := by decide +kernel
theorem dX2_init_15 : decode cX2_init 15 = .ok (.newarray .int, 2) := by decide +kernel
theorem dX2_init_17 : decode cX2_init 17 = .ok (.putfield 15, 3) := by decide +kernel
theorem dX2_init_20 : decode cX2_init 20 = .ok (.return_, 1) := by decide +kernel
theorem dX2_trace_0 : decode cX2_trace 0 = .ok (.aload_n 0, 1) := by decide +kernel
theorem dX2_trace_1 : decode cX2_trace 1 = .ok (.aload_n 1, 1) := by decide +kernel
theorem dX2_trace_2 : decode cX2_trace 2 = .ok (.aload_n 2, 1) := by decide +kernel
theorem dX2_trace_3 : decode cX2_trace 3 = .ok (.iload 4, 2) := by decide +kernel
theorem dX2_trace_5 : decode cX2_trace 5 = .ok (.invokevirtual 18, 3) := by decide +kernel
theorem dX2_trace_8 : decode cX2_trace 8 = .ok (.aload_n 0, 1) := by decide +kernel
theorem dX2_trace_9 : decode cX2_trace 9 = .ok (.iconst 0, 1) := by decide +kernel
theorem dX2_trace_10 : decode cX2_trace 10 = .ok (.putfield 22, 3) := by decide +kernel
theorem dX2_trace_13 : decode cX2_trace 13 = .ok (.iload_n 3, 1) := by decide +kernel
theorem dX2_trace_14 : decode cX2_trace 14 = .ok (.istore 5, 2) := by decide +kernel
theorem dX2_trace_16 : decode cX2_trace 16 = .ok (.iconst 0, 1) := by decide +kernel
theorem dX2_trace_17 : decode cX2_trace 17 = .ok (.istore 6, 2) := by decide +kernel
theorem dX2_trace_19 : decode cX2_trace 19 = .ok (.iload 6, 2) := by decide +kernel
theorem dX2_trace_21 : decode cX2_trace 21 = .ok (.bipush 10, 2) := by decide +kernel
theorem dX2_trace_23 : decode cX2_trace 23 = .ok (.if_icmp .ge 59, 3) := by decide +kernel
theorem dX2_trace_26 : decode cX2_trace 26 = .ok (.iload 5, 2) := by decide +kernel
theorem dX2_trace_28 : decode cX2_trace 28 = .ok (.ifCond .lt 54, 3) := by decide +kernel
theorem dX2_trace_31 : decode cX2_trace 31 = .ok (.aload_n 0, 1) := by decide +kernel
theorem dX2_trace_32 : decode cX2_trace 32 = .ok (.getfield 9, 3) := by decide +kernel
theorem dX2_trace_35 : decode cX2_trace 35 = .ok (.aload_n 0, 1) := by decide +kernel
theorem dX2_trace_36 : decode cX2_trace 36 = .ok (.getfield 22, 3) := by decide +kernel
theorem dX2_trace_39 : decode cX2_trace 39 = .ok (.iload 5, 2) := by decide +kernel
theorem dX2_trace_41 : decode cX2_trace 41 = .ok (.iastore, 1) := by decide +kernel
theorem dX2_trace_42 : decode cX2_trace 42 = .ok (.aload_n 0, 1) := by decide +kernel
theorem dX2_trace_43 : decode cX2_trace 43 = .ok (.dup, 1) := by decide +kernel
theorem dX2_trace_44 : decode cX2_trace 44 = .ok (.getfield 22, 3) := by decide +kernel
theorem dX2_trace_47 : decode cX2_trace 47 = .ok (.iconst 1, 1) := by decide +kernel
theorem dX2_trace_48 : decode cX2_trace 48 = .ok (.iadd, 1) := by decide +kernel
theorem dX2_trace_49 : decode cX2_trace 49 = .ok (.putfield 22, 3) := by decide +kernel
theorem dX2_trace_52 : decode cX2_trace 52 = .ok (.iload 5, 2) := by decide +kernel
theorem dX2_trace_54 : decode cX2_trace 54 = .ok (.iload 4, 2) := by decide +kernel
theorem dX2_trace_56 : decode cX2_trace 56 = .ok (.if_icmp .ne 8, 3) := by decide +kernel
theorem dX2_trace_59 : decode cX2_trace 59 = .ok (.bipush (-4), 2) := by decide +kernel
theorem dX2_trace_61 : decode cX2_trace 61 = .ok (.goto 13, 3) := by decide +kernel
theorem dX2_trace_64 : decode cX2_trace 64 = .ok (.aload_n 0, 1) := by decide +kernel
theorem dX2_trace_65 : decode cX2_trace 65 = .ok (.aload_n 1, 1) := by decide +kernel
theorem dX2_trace_66 : decode cX2_trace 66 = .ok (.aload_n 2, 1) := by decide +kernel
theorem dX2_trace_67 : decode cX2_trace 67 = .ok (.iload 5, 2) := by decide +kernel
theorem dX2_trace_69 : decode cX2_trace 69 = .ok (.iload 4, 2) := by decide +kernel
theorem dX2_trace_71 : decode cX2_trace 71 = .ok (.invokevirtual 26, 3) := by decide +kernel
theorem dX2_trace_74 : decode cX2_trace 74 = .ok (.istore 5, 2) := by decide +kernel
theorem dX2_trace_76 : decode cX2_trace 76 = .ok (.iinc 6 1, 3) := by decide +kernel
theorem dX2_trace_79 : decode cX2_trace 79 = .ok (.goto (-60), 3) := by decide +kernel
theorem dX2_trace_82 : decode cX2_trace 82 = .ok (.return_, 1) := by decide +kernel
theorem dX2_countFewest_0 : decode cX2_countFewest 0 = .ok (.aload_n 0, 1) := by decide +kernel
theorem dX2_countFewest_1 : decode cX2_countFewest 1 = .ok (.getfield 15, 3) := by decide +kernel
theorem dX2_countFewest_4 : decode cX2_countFewest 4 = .ok (.bipush 10, 2) := by decide +kernel
theorem dX2_countFewest_6 : decode cX2_countFewest 6 = .ok (.invokestatic 30, 3) := by decide +kernel
theorem dX2_countFewest_9 : decode cX2_countFewest 9 = .ok (.aload_n 0, 1) := by decide +kernel
theorem dX2_countFewest_10 : decode cX2_countFewest 10 = .ok (.getfield 15, 3) := by decide +kernel
theorem dX2_countFewest_13 : decode cX2_countFewest 13 = .ok (.iload_n 3, 1) := by decide +kernel
theorem dX2_countFewest_14 : decode cX2_countFewest 14 = .ok (.iconst 0, 1) := by decide +kernel
theorem dX2_countFewest_15 : decode cX2_countFewest 15 = .ok (.iastore, 1) := by decide +kernel
theorem dX2_countFewest_16 : decode cX2_countFewest 16 = .ok (.iconst 0, 1) := by decide +kernel
theorem dX2_countFewest_17 : decode cX2_countFewest 17 = .ok (.istore 4, 2) := by decide +kernel
theorem dX2_countFewest_19 : decode cX2_countFewest 19 = .ok (.iload 4, 2) := by decide +kernel
theorem dX2_countFewest_21 : decode cX2_countFewest 21 = .ok (.aload_n 1, 1) := by decide +kernel
theorem dX2_countFewest_22 : decode cX2_countFewest 22 = .ok (.getfield 36, 3) := by decide +kernel
theorem dX2_countFewest_25 : decode cX2_countFewest 25 = .ok (.if_icmp .ge 78, 3) := by decide +kernel
theorem dX2_countFewest_28 : decode cX2_countFewest 28 = .ok (.iconst 0, 1) := by decide +kernel
theorem dX2_countFewest_29 : decode cX2_countFewest 29 = .ok (.istore 5, 2) := by decide +kernel
theorem dX2_countFewest_31 : decode cX2_countFewest 31 = .ok (.iload 5, 2) := by decide +kernel
theorem dX2_countFewest_33 : decode cX2_countFewest 33 = .ok (.aload_n 1, 1) := by decide +kernel
theorem dX2_countFewest_34 : decode cX2_countFewest 34 = .ok (.getfield 40, 3) := by decide +kernel
theorem dX2_countFewest_37 : decode cX2_countFewest 37 = .ok (.if_icmp .ge 60, 3) := by decide +kernel
theorem dX2_countFewest_40 : decode cX2_countFewest 40 = .ok (.aload_n 1, 1) := by decide +kernel
theorem dX2_countFewest_41 : decode cX2_countFewest 41 = .ok (.aload_n 2, 1) := by decide +kernel
theorem dX2_countFewest_42 : decode cX2_countFewest 42 = .ok (.iload 5, 2) := by decide +kernel
theorem dX2_countFewest_44 : decode cX2_countFewest 44 = .ok (.iload_n 3, 1) := by decide +kernel
theorem dX2_countFewest_45 : decode cX2_countFewest 45 = .ok (.invokestatic 43, 3) := by decide +kernel
theorem dX2_countFewest_48 : decode cX2_countFewest 48 = .ok (.ifCond .eq 43, 3) := by decide +kernel
theorem dX2_countFewest_51 : decode cX2_countFewest 51 = .ok (.aload_n 1, 1) := by decide +kernel
theorem dX2_countFewest_52 : decode cX2_countFewest 52 = .ok (.getfield 47, 3) := by decide +kernel
theorem dX2_countFewest_55 : decode cX2_countFewest 55 = .ok (.iload 5, 2) := by decide +kernel
theorem dX2_countFewest_57 : decode cX2_countFewest 57 = .ok (.iaload, 1) := by decide +kernel
theorem dX2_countFewest_58 : decode cX2_countFewest 58 = .ok (.istore 6, 2) := by decide +kernel
theorem dX2_countFewest_60 : decode cX2_countFewest 60 = .ok (.aload_n 0, 1) := by decide +kernel
theorem dX2_countFewest_61 : decode cX2_countFewest 61 = .ok (.getfield 15, 3) := by decide +kernel
theorem dX2_countFewest_64 : decode cX2_countFewest 64 = .ok (.iload 6, 2) := by decide +kernel
theorem dX2_countFewest_66 : decode cX2_countFewest 66 = .ok (.aload_n 0, 1) := by decide +kernel
theorem dX2_countFewest_67 : decode cX2_countFewest 67 = .ok (.getfield 15, 3) := by decide +kernel
theorem dX2_countFewest_70 : decode cX2_countFewest 70 = .ok (.iload 6, 2) := by decide +kernel
theorem dX2_countFewest_72 : decode cX2_countFewest 72 = .ok (.iaload, 1) := by decide +kernel
theorem dX2_countFewest_73 : decode cX2_countFewest 73 = .ok (.aload_n 0, 1) := by decide +kernel
theorem dX2_countFewest_74 : decode cX2_countFewest 74 = .ok (.getfield 15, 3) := by decide +kernel
theorem dX2_countFewest_77 : decode cX2_countFewest 77 = .ok (.aload_n 1, 1) := by decide +kernel
theorem dX2_countFewest_78 : decode cX2_countFewest 78 = .ok (.getfield 50, 3) := by decide +kernel
theorem dX2_countFewest_81 : decode cX2_countFewest 81 = .ok (.iload 5, 2) := by decide +kernel
theorem dX2_countFewest_83 : decode cX2_countFewest 83 = .ok (.iaload, 1) := by decide +kernel
theorem dX2_countFewest_84 : decode cX2_countFewest 84 = .ok (.iaload, 1) := by decide +kernel
theorem dX2_countFewest_85 : decode cX2_countFewest 85 = .ok (.iconst 1, 1) := by decide +kernel
theorem dX2_countFewest_86 : decode cX2_countFewest 86 = .ok (.iadd, 1) := by decide +kernel
theorem dX2_countFewest_87 : decode cX2_countFewest 87 = .ok (.invokestatic 53, 3) := by decide +kernel
theorem dX2_countFewest_90 : decode cX2_countFewest 90 = .ok (.iastore, 1) := by decide +kernel
theorem dX2_countFewest_91 : decode cX2_countFewest 91 = .ok (.iinc 5 1, 3) := by decide +kernel
theorem dX2_countFewest_94 : decode cX2_countFewest 94 = .ok (.goto (-63), 3) := by decide +kernel
theorem dX2_countFewest_97 : decode cX2_countFewest 97 = .ok (.iinc 4 1, 3) := by decide +kernel
theorem dX2_countFewest_100 : decode cX2_countFewest 100 = .ok (.goto (-81), 3) := by decide +kernel
theorem dX2_countFewest_103 : decode cX2_countFewest 103 = .ok (.return_, 1) := by decide +kernel
theorem dX2_nextLevel_0 : decode cX2_nextLevel 0 = .ok (.bipush (-4), 2) := by decide +kernel
theorem dX2_nextLevel_2 : decode cX2_nextLevel 2 = .ok (.istore 5, 2) := by decide +kernel
theorem dX2_nextLevel_4 : decode cX2_nextLevel 4 = .ok (.iconst 0, 1) := by decide +kernel
theorem dX2_nextLevel_5 : decode cX2_nextLevel 5 = .ok (.istore 6, 2) := by decide +kernel
theorem dX2_nextLevel_7 : decode cX2_nextLevel 7 = .ok (.iload 6, 2) := by decide +kernel
theorem dX2_nextLevel_9 : decode cX2_nextLevel 9 = .ok (.aload_n 1, 1) := by decide +kernel
theorem dX2_nextLevel_10 : decode cX2_nextLevel 10 = .ok (.getfield 40, 3) := by decide +kernel
theorem dX2_nextLevel_13 : decode cX2_nextLevel 13 = .ok (.if_icmp .ge 77, 3) := by decide +kernel
theorem dX2_nextLevel_16 : decode cX2_nextLevel 16 = .ok (.aload_n 1, 1) := by decide +kernel
theorem dX2_nextLevel_17 : decode cX2_nextLevel 17 = .ok (.getfield 50, 3) := by decide +kernel
theorem dX2_nextLevel_20 : decode cX2_nextLevel 20 = .ok (.iload 6, 2) := by decide +kernel
theorem dX2_nextLevel_22 : decode cX2_nextLevel 22 = .ok (.iaload, 1) := by decide +kernel
theorem dX2_nextLevel_23 : decode cX2_nextLevel 23 = .ok (.istore 7, 2) := by decide +kernel
theorem dX2_nextLevel_25 : decode cX2_nextLevel 25 = .ok (.aload_n 1, 1) := by decide +kernel
theorem dX2_nextLevel_26 : decode cX2_nextLevel 26 = .ok (.getfield 47, 3) := by decide +kernel
theorem dX2_nextLevel_29 : decode cX2_nextLevel 29 = .ok (.iload 6, 2) := by decide +kernel
theorem dX2_nextLevel_31 : decode cX2_nextLevel 31 = .ok (.iaload, 1) := by decide +kernel
theorem dX2_nextLevel_32 : decode cX2_nextLevel 32 = .ok (.iload_n 3, 1) := by decide +kernel
theorem dX2_nextLevel_33 : decode cX2_nextLevel 33 = .ok (.if_icmp .ne 51, 3) := by decide +kernel
theorem dX2_nextLevel_36 : decode cX2_nextLevel 36 = .ok (.aload_n 0, 1) := by decide +kernel
theorem dX2_nextLevel_37 : decode cX2_nextLevel 37 = .ok (.getfield 15, 3) := by decide +kernel
theorem dX2_nextLevel_40 : decode cX2_nextLevel 40 = .ok (.iload 7, 2) := by decide +kernel
theorem dX2_nextLevel_42 : decode cX2_nextLevel 42 = .ok (.iaload, 1) := by decide +kernel
theorem dX2_nextLevel_43 : decode cX2_nextLevel 43 = .ok (.aload_n 0, 1) := by decide +kernel
theorem dX2_nextLevel_44 : decode cX2_nextLevel 44 = .ok (.getfield 15, 3) := by decide +kernel
theorem dX2_nextLevel_47 : decode cX2_nextLevel 47 = .ok (.iload_n 3, 1) := by decide +kernel
theorem dX2_nextLevel_48 : decode cX2_nextLevel 48 = .ok (.iaload, 1) := by decide +kernel
theorem dX2_nextLevel_49 : decode cX2_nextLevel 49 = .ok (.iconst 1, 1) := by decide +kernel
theorem dX2_nextLevel_50 : decode cX2_nextLevel 50 = .ok (.isub, 1) := by decide +kernel
theorem dX2_nextLevel_51 : decode cX2_nextLevel 51 = .ok (.if_icmp .ne 33, 3) := by decide +kernel
theorem dX2_nextLevel_54 : decode cX2_nextLevel 54 = .ok (.aload_n 1, 1) := by decide +kernel
theorem dX2_nextLevel_55 : decode cX2_nextLevel 55 = .ok (.aload_n 2, 1) := by decide +kernel
theorem dX2_nextLevel_56 : decode cX2_nextLevel 56 = .ok (.iload 6, 2) := by decide +kernel
theorem dX2_nextLevel_58 : decode cX2_nextLevel 58 = .ok (.iload 4, 2) := by decide +kernel
theorem dX2_nextLevel_60 : decode cX2_nextLevel 60 = .ok (.invokestatic 43, 3) := by decide +kernel
theorem dX2_nextLevel_63 : decode cX2_nextLevel 63 = .ok (.ifCond .eq 21, 3) := by decide +kernel
theorem dX2_nextLevel_66 : decode cX2_nextLevel 66 = .ok (.iload 5, 2) := by decide +kernel
theorem dX2_nextLevel_68 : decode cX2_nextLevel 68 = .ok (.bipush (-4), 2) := by decide +kernel
theorem dX2_nextLevel_70 : decode cX2_nextLevel 70 = .ok (.if_icmp .eq 10, 3) := by decide +kernel
theorem dX2_nextLevel_73 : decode cX2_nextLevel 73 = .ok (.iload 7, 2) := by decide +kernel
theorem dX2_nextLevel_75 : decode cX2_nextLevel 75 = .ok (.iload 5, 2) := by decide +kernel
theorem dX2_nextLevel_77 : decode cX2_nextLevel 77 = .ok (.if_icmp .ge 7, 3) := by decide +kernel
theorem dX2_nextLevel_80 : decode cX2_nextLevel 80 = .ok (.iload 7, 2) := by decide +kernel
theorem dX2_nextLevel_82 : decode cX2_nextLevel 82 = .ok (.istore 5, 2) := by decide +kernel
theorem dX2_nextLevel_84 : decode cX2_nextLevel 84 = .ok (.iinc 6 1, 3) := by decide +kernel
theorem dX2_nextLevel_87 : decode cX2_nextLevel 87 = .ok (.goto (-80), 3) := by decide +kernel
theorem dX2_nextLevel_90 : decode cX2_nextLevel 90 = .ok (.iload 5, 2) := by decide +kernel
theorem dX2_nextLevel_92 : decode cX2_nextLevel 92 = .ok (.ireturn, 1) := by decide +kernel
theorem dX2_isOnLongest_0 : decode cX2_isOnLongest 0 = .ok (.aload_n 0, 1) := by decide +kernel
theorem dX2_isOnLongest_1 : decode cX2_isOnLongest 1 = .ok (.getfield 47, 3) := by decide +kernel
theorem dX2_isOnLongest_4 : decode cX2_isOnLongest 4 = .ok (.iload_n 2, 1) := by decide +kernel
theorem dX2_isOnLongest_5 : decode cX2_isOnLongest 5 = .ok (.iaload, 1) := by decide +kernel
theorem dX2_isOnLongest_6 : decode cX2_isOnLongest 6 = .ok (.istore 4, 2) := by decide +kernel
theorem dX2_isOnLongest_8 : decode cX2_isOnLongest 8 = .ok (.aload_n 0, 1) := by decide +kernel
theorem dX2_isOnLongest_9 : decode cX2_isOnLongest 9 = .ok (.getfield 50, 3) := by decide +kernel
theorem dX2_isOnLongest_12 : decode cX2_isOnLongest 12 = .ok (.iload_n 2, 1) := by decide +kernel
theorem dX2_isOnLongest_13 : decode cX2_isOnLongest 13 = .ok (.iaload, 1) := by decide +kernel
theorem dX2_isOnLongest_14 : decode cX2_isOnLongest 14 = .ok (.istore 5, 2) := by decide +kernel
theorem dX2_isOnLongest_16 : decode cX2_isOnLongest 16 = .ok (.aload_n 1, 1) := by decide +kernel
theorem dX2_isOnLongest_17 : decode cX2_isOnLongest 17 = .ok (.getfield 59, 3) := by decide +kernel
theorem dX2_isOnLongest_20 : decode cX2_isOnLongest 20 = .ok (.iload 5, 2) := by decide +kernel
theorem dX2_isOnLongest_22 : decode cX2_isOnLongest 22 = .ok (.aaload, 1) := by decide +kernel
theorem dX2_isOnLongest_23 : decode cX2_isOnLongest 23 = .ok (.iload_n 3, 1) := by decide +kernel
theorem dX2_isOnLongest_24 : decode cX2_isOnLongest 24 = .ok (.iaload, 1) := by decide +kernel
theorem dX2_isOnLongest_25 : decode cX2_isOnLongest 25 = .ok (.istore 6, 2) := by decide +kernel
theorem dX2_isOnLongest_27 : decode cX2_isOnLongest 27 = .ok (.iload 6, 2) := by decide +kernel
theorem dX2_isOnLongest_29 : decode cX2_isOnLongest 29 = .ok (.ldc 65, 2) := by decide +kernel
theorem dX2_isOnLongest_31 : decode cX2_isOnLongest 31 = .ok (.if_icmp .eq 28, 3) := by decide +kernel
theorem dX2_isOnLongest_34 : decode cX2_isOnLongest 34 = .ok (.aload_n 1, 1) := by decide +kernel
theorem dX2_isOnLongest_35 : decode cX2_isOnLongest 35 = .ok (.getfield 59, 3) := by decide +kernel
theorem dX2_isOnLongest_38 : decode cX2_isOnLongest 38 = .ok (.iload 4, 2) := by decide +kernel
theorem dX2_isOnLongest_40 : decode cX2_isOnLongest 40 = .ok (.aaload, 1) := by decide +kernel
theorem dX2_isOnLongest_41 : decode cX2_isOnLongest 41 = .ok (.iload_n 3, 1) := by decide +kernel
theorem dX2_isOnLongest_42 : decode cX2_isOnLongest 42 = .ok (.iaload, 1) := by decide +kernel
theorem dX2_isOnLongest_43 : decode cX2_isOnLongest 43 = .ok (.aload_n 0, 1) := by decide +kernel
theorem dX2_isOnLongest_44 : decode cX2_isOnLongest 44 = .ok (.getfield 66, 3) := by decide +kernel
theorem dX2_isOnLongest_47 : decode cX2_isOnLongest 47 = .ok (.iload_n 2, 1) := by decide +kernel
theorem dX2_isOnLongest_48 : decode cX2_isOnLongest 48 = .ok (.iaload, 1) := by decide +kernel
theorem dX2_isOnLongest_49 : decode cX2_isOnLongest 49 = .ok (.iload 6, 2) := by decide +kernel
theorem dX2_isOnLongest_51 : decode cX2_isOnLongest 51 = .ok (.iadd, 1) := by decide +kernel
theorem dX2_isOnLongest_52 : decode cX2_isOnLongest 52 = .ok (.if_icmp .ne 7, 3) := by decide +kernel
theorem dX2_isOnLongest_55 : decode cX2_isOnLongest 55 = .ok (.iconst 1, 1) := by decide +kernel
theorem dX2_isOnLongest_56 : decode cX2_isOnLongest 56 = .ok (.goto 4, 3) := by decide +kernel
theorem dX2_isOnLongest_59 : decode cX2_isOnLongest 59 = .ok (.iconst 0, 1) := by decide +kernel
theorem dX2_isOnLongest_60 : decode cX2_isOnLongest 60 = .ok (.ireturn, 1) := by decide +kernel
theorem dX3_init_0 : decode cX3_init 0 = .ok (.aload_n 0, 1) := by decide +kernel
theorem dX3_init_1 : decode cX3_init 1 = .ok (.invokespecial 3, 3) := by decide +kernel
theorem dX3_init_4 : decode cX3_init 4 = .ok (.aload_n 0, 1) := by decide +kernel
theorem dX3_init_5 : decode cX3_init 5 = .ok (.bipush 10, 2) := by decide +kernel
theorem dX3_init_7 : decode cX3_init 7 = .ok (.newarray .int, 2) := by decide +kernel
theorem dX3_init_9 : decode cX3_init 9 = .ok (.putfield 9, 3) := by decide +kernel
theorem dX3_init_12 : decode cX3_init 12 = .ok (.aload_n 0, 1) := by decide +kernel
theorem dX3_init_13 : decode cX3_init 13 = .ok (.bipush 10, 2) := by decide +kernel
theorem dX3_init_15 : decode cX3_init 15 = .ok (.newarray .int, 2) := by decide +kernel
theorem dX3_init_17 : decode cX3_init 17 = .ok (.putfield 15, 3) := by decide +kernel
theorem dX3_init_20 : decode cX3_init 20 = .ok (.return_, 1) := by decide +kernel
theorem dX3_add_0 : decode cX3_add 0 = .ok (.aload_n 0, 1) := by decide +kernel
theorem dX3_add_1 : decode cX3_add 1 = .ok (.getfield 18, 3) := by decide +kernel
theorem dX3_add_4 : decode cX3_add 4 = .ok (.bipush 10, 2) := by decide +kernel
theorem dX3_add_6 : decode cX3_add 6 = .ok (.if_icmp .ge 33, 3) := by decide +kernel
theorem dX3_add_9 : decode cX3_add 9 = .ok (.aload_n 0, 1) := by decide +kernel
theorem dX3_add_10 : decode cX3_add 10 = .ok (.getfield 9, 3) := by decide +kernel
theorem dX3_add_13 : decode cX3_add 13 = .ok (.aload_n 0, 1) := by decide +kernel
theorem dX3_add_14 : decode cX3_add 14 = .ok (.getfield 18, 3) := by decide +kernel
theorem dX3_add_17 : decode cX3_add 17 = .ok (.iload_n 1, 1) := by decide +kernel
theorem dX3_add_18 : decode cX3_add 18 = .ok (.iastore, 1) := by decide +kernel
theorem dX3_add_19 : decode cX3_add 19 = .ok (.aload_n 0, 1) := by decide +kernel
theorem dX3_add_20 : decode cX3_add 20 = .ok (.getfield 15, 3) := by decide +kernel
theorem dX3_add_23 : decode cX3_add 23 = .ok (.aload_n 0, 1) := by decide +kernel
theorem dX3_add_24 : decode cX3_add 24 = .ok (.getfield 18, 3) := by decide +kernel
theorem dX3_add_27 : decode cX3_add 27 = .ok (.iload_n 2, 1) := by decide +kernel
theorem dX3_add_28 : decode cX3_add 28 = .ok (.iastore, 1) := by decide +kernel
theorem dX3_add_29 : decode cX3_add 29 = .ok (.aload_n 0, 1) := by decide +kernel
theorem dX3_add_30 : decode cX3_add 30 = .ok (.dup, 1) := by decide +kernel
theorem dX3_add_31 : decode cX3_add 31 = .ok (.getfield 18, 3) := by decide +kernel
theorem dX3_add_34 : decode cX3_add 34 = .ok (.iconst 1, 1) := by decide +kernel
theorem dX3_add_35 : decode cX3_add 35 = .ok (.iadd, 1) := by decide +kernel
theorem dX3_add_36 : decode cX3_add 36 = .ok (.putfield 18, 3) := by decide +kernel
theorem dX3_add_39 : decode cX3_add 39 = .ok (.return_, 1) := by decide +kernel
theorem dX3_isShort_0 : decode cX3_isShort 0 = .ok (.iconst 0, 1) := by decide +kernel
theorem dX3_isShort_1 : decode cX3_isShort 1 = .ok (.istore_n 3, 1) := by decide +kernel
theorem dX3_isShort_2 : decode cX3_isShort 2 = .ok (.iload_n 3, 1) := by decide +kernel
theorem dX3_isShort_3 : decode cX3_isShort 3 = .ok (.aload_n 0, 1) := by decide +kernel
theorem dX3_isShort_4 : decode cX3_isShort 4 = .ok (.getfield 18, 3) := by decide +kernel
theorem dX3_isShort_7 : decode cX3_isShort 7 = .ok (.if_icmp .ge 26, 3) := by decide +kernel
theorem dX3_isShort_10 : decode cX3_isShort 10 = .ok (.iload_n 3, 1) := by decide +kernel
theorem dX3_isShort_11 : decode cX3_isShort 11 = .ok (.iload_n 1, 1) := by decide +kernel
theorem dX3_isShort_12 : decode cX3_isShort 12 = .ok (.if_icmp .eq 15, 3) := by decide +kernel
theorem dX3_isShort_15 : decode cX3_isShort 15 = .ok (.aload_n 0, 1) := by decide +kernel
theorem dX3_isShort_16 : decode cX3_isShort 16 = .ok (.iload_n 1, 1) := by decide +kernel
theorem dX3_isShort_17 : decode cX3_isShort 17 = .ok (.iload_n 3, 1) := by decide +kernel
theorem dX3_isShort_18 : decode cX3_isShort 18 = .ok (.aload_n 2, 1) := by decide +kernel
theorem dX3_isShort_19 : decode cX3_isShort 19 = .ok (.invokevirtual 22, 3) := by decide +kernel
theorem dX3_isShort_22 : decode cX3_isShort 22 = .ok (.ifCond .eq 5, 3) := by decide +kernel
theorem dX3_isShort_25 : decode cX3_isShort 25 = .ok (.iconst 0, 1) := by decide +kernel
theorem dX3_isShort_26 : decode cX3_isShort 26 = .ok (.ireturn, 1) := by decide +kernel
theorem dX3_isShort_27 : decode cX3_isShort 27 = .ok (.iinc 3 1, 3) := by decide +kernel
theorem dX3_isShort_30 : decode cX3_isShort 30 = .ok (.goto (-28), 3) := by decide +kernel
theorem dX3_isShort_33 : decode cX3_isShort 33 = .ok (.iconst 1, 1) := by decide +kernel
theorem dX3_isShort_34 : decode cX3_isShort 34 = .ok (.ireturn, 1) := by decide +kernel
theorem dX3_isCovered_0 : decode cX3_isCovered 0 = .ok (.aload_n 0, 1) := by decide +kernel
theorem dX3_isCovered_1 : decode cX3_isCovered 1 = .ok (.iload_n 1, 1) := by decide +kernel
theorem dX3_isCovered_2 : decode cX3_isCovered 2 = .ok (.iload_n 2, 1) := by decide +kernel
theorem dX3_isCovered_3 : decode cX3_isCovered 3 = .ok (.aload_n 3, 1) := by decide +kernel
theorem dX3_isCovered_4 : decode cX3_isCovered 4 = .ok (.invokevirtual 26, 3) := by decide +kernel
theorem dX3_isCovered_7 : decode cX3_isCovered 7 = .ok (.ifCond .eq 22, 3) := by decide +kernel
theorem dX3_isCovered_10 : decode cX3_isCovered 10 = .ok (.iload_n 2, 1) := by decide +kernel
theorem dX3_isCovered_11 : decode cX3_isCovered 11 = .ok (.iload_n 1, 1) := by decide +kernel
theorem dX3_isCovered_12 : decode cX3_isCovered 12 = .ok (.if_icmp .lt 13, 3) := by decide +kernel
theorem dX3_isCovered_15 : decode cX3_isCovered 15 = .ok (.aload_n 0, 1) := by decide +kernel
theorem dX3_isCovered_16 : decode cX3_isCovered 16 = .ok (.iload_n 2, 1) := by decide +kernel
theorem dX3_isCovered_17 : decode cX3_isCovered 17 = .ok (.iload_n 1, 1) := by decide +kernel
theorem dX3_isCovered_18 : decode cX3_isCovered 18 = .ok (.aload_n 3, 1) := by decide +kernel
theorem dX3_isCovered_19 : decode cX3_isCovered 19 = .ok (.invokevirtual 26, 3) := by decide +kernel
theorem dX3_isCovered_22 : decode cX3_isCovered 22 = .ok (.ifCond .ne 7, 3) := by decide +kernel
theorem dX3_isCovered_25 : decode cX3_isCovered 25 = .ok (.iconst 1, 1) := by decide +kernel
theorem dX3_isCovered_26 : decode cX3_isCovered 26 = .ok (.goto 4, 3) := by decide +kernel
theorem dX3_isCovered_29 : decode cX3_isCovered 29 = .ok (.iconst 0, 1) := by decide +kernel
theorem dX3_isCovered_30 : decode cX3_isCovered 30 = .ok (.ireturn, 1) := by decide +kernel
theorem dX3_isNoMore_0 : decode cX3_isNoMore 0 = .ok (.aload_n 3, 1) := by decide +kernel
theorem dX3_isNoMore_1 : decode cX3_isNoMore 1 = .ok (.aload_n 0, 1) := by decide +kernel
theorem dX3_isNoMore_2 : decode cX3_isNoMore 2 = .ok (.getfield 9, 3) := by decide +kernel
theorem dX3_isNoMore_5 : decode cX3_isNoMore 5 = .ok (.iload_n 1, 1) := by decide +kernel
theorem dX3_isNoMore_6 : decode cX3_isNoMore 6 = .ok (.iaload, 1) := by decide +kernel
theorem dX3_isNoMore_7 : decode cX3_isNoMore 7 = .ok (.aload_n 0, 1) := by decide +kernel
theorem dX3_isNoMore_8 : decode cX3_isNoMore 8 = .ok (.getfield 15, 3) := by decide +kernel
theorem dX3_isNoMore_11 : decode cX3_isNoMore 11 = .ok (.iload_n 1, 1) := by decide +kernel
theorem dX3_isNoMore_12 : decode cX3_isNoMore 12 = .ok (.iaload, 1) := by decide +kernel
theorem dX3_isNoMore_13 : decode cX3_isNoMore 13 = .ok (.aload_n 0, 1) := by decide +kernel
theorem dX3_isNoMore_14 : decode cX3_isNoMore 14 = .ok (.getfield 15, 3) := by decide +kernel
theorem dX3_isNoMore_17 : decode cX3_isNoMore 17 = .ok (.iload_n 2, 1) := by decide +kernel
theorem dX3_isNoMore_18 : decode cX3_isNoMore 18 = .ok (.iaload, 1) := by decide +kernel
theorem dX3_isNoMore_19 : decode cX3_isNoMore 19 = .ok (.isub, 1) := by decide +kernel
theorem dX3_isNoMore_20 : decode cX3_isNoMore 20 = .ok (.aload_n 0, 1) := by decide +kernel
theorem dX3_isNoMore_21 : decode cX3_isNoMore 21 = .ok (.getfield 9, 3) := by decide +kernel
theorem dX3_isNoMore_24 : decode cX3_isNoMore 24 = .ok (.iload_n 2, 1) := by decide +kernel
theorem dX3_isNoMore_25 : decode cX3_isNoMore 25 = .ok (.iaload, 1) := by decide +kernel
theorem dX3_isNoMore_26 : decode cX3_isNoMore 26 = .ok (.invokevirtual 29, 3) := by decide +kernel
theorem dX3_isNoMore_29 : decode cX3_isNoMore 29 = .ok (.ireturn, 1) := by decide +kernel
theorem dX4_init_0 : decode cX4_init 0 = .ok (.aload_n 0, 1) := by decide +kernel
theorem dX4_init_1 : decode cX4_init 1 = .ok (.invokespecial 3, 3) := by decide +kernel
theorem dX4_init_4 : decode cX4_init 4 = .ok (.aload_n 0, 1) := by decide +kernel
theorem dX4_init_5 : decode cX4_init 5 = .ok (.bipush 10, 2) := by decide +kernel
theorem dX4_init_7 : decode cX4_init 7 = .ok (.newarray .int, 2) := by decide +kernel
theorem dX4_init_9 : decode cX4_init 9 = .ok (.putfield 9, 3) := by decide +kernel
theorem dX4_init_12 : decode cX4_init 12 = .ok (.aload_n 0, 1) := by decide +kernel
theorem dX4_init_13 : decode cX4_init 13 = .ok (.bipush 16, 2) := by decide +kernel
theorem dX4_init_15 : decode cX4_init 15 = .ok (.newarray .int, 2) := by decide +kernel
theorem dX4_init_17 : decode cX4_init 17 = .ok (.putfield 15, 3) := by decide +kernel
theorem dX4_init_20 : decode cX4_init 20 = .ok (.aload_n 0, 1) := by decide +kernel
theorem dX4_init_21 : decode cX4_init 21 = .ok (.bipush 16, 2) := by decide +kernel
theorem dX4_init_23 : decode cX4_init 23 = .ok (.newarray .int, 2) := by decide +kernel
theorem dX4_init_25 : decode cX4_init 25 = .ok (.putfield 18, 3) := by decide +kernel
theorem dX4_init_28 : decode cX4_init 28 = .ok (.aload_n 0, 1) := by decide +kernel
theorem dX4_init_29 : decode cX4_init 29 = .ok (.bipush 16, 2) := by decide +kernel
theorem dX4_init_31 : decode cX4_init 31 = .ok (.newarray .int, 2) := by decide +kernel
theorem dX4_init_33 : decode cX4_init 33 = .ok (.putfield 21, 3) := by decide +kernel
theorem dX4_init_36 : decode cX4_init 36 = .ok (.return_, 1) := by decide +kernel
theorem dX4_copy_0 : decode cX4_copy 0 = .ok (.aload_n 1, 1) := by decide +kernel
theorem dX4_copy_1 : decode cX4_copy 1 = .ok (.getfield 9, 3) := by decide +kernel
theorem dX4_copy_4 : decode cX4_copy 4 = .ok (.iconst 0, 1) := by decide +kernel
theorem dX4_copy_5 : decode cX4_copy 5 = .ok (.aload_n 0, 1) := by decide +kernel
theorem dX4_copy_6 : decode cX4_copy 6 = .ok (.getfield 9, 3) := by decide +kernel
theorem dX4_copy_9 : decode cX4_copy 9 = .ok (.iconst 0, 1) := by decide +kernel
theorem dX4_copy_10 : decode cX4_copy 10 = .ok (.bipush 10, 2) := by decide +kernel
theorem dX4_copy_12 : decode cX4_copy 12 = .ok (.invokestatic 24, 3) := by decide +kernel
theorem dX4_copy_15 : decode cX4_copy 15 = .ok (.aload_n 1, 1) := by decide +kernel
theorem dX4_copy_16 : decode cX4_copy 16 = .ok (.getfield 15, 3) := by decide +kernel
theorem dX4_copy_19 : decode cX4_copy 19 = .ok (.iconst 0, 1) := by decide +kernel
theorem dX4_copy_20 : decode cX4_copy 20 = .ok (.aload_n 0, 1) := by decide +kernel
theorem dX4_copy_21 : decode cX4_copy 21 = .ok (.getfield 15, 3) := by decide +kernel
theorem dX4_copy_24 : decode cX4_copy 24 = .ok (.iconst 0, 1) := by decide +kernel
theorem dX4_copy_25 : decode cX4_copy 25 = .ok (.bipush 16, 2) := by decide +kernel
theorem dX4_copy_27 : decode cX4_copy 27 = .ok (.invokestatic 24, 3) := by decide +kernel
theorem dX4_copy_30 : decode cX4_copy 30 = .ok (.aload_n 1, 1) := by decide +kernel
theorem dX4_copy_31 : decode cX4_copy 31 = .ok (.getfield 18, 3) := by decide +kernel
theorem dX4_copy_34 : decode cX4_copy 34 = .ok (.iconst 0, 1) := by decide +kernel
theorem dX4_copy_35 : decode cX4_copy 35 = .ok (.aload_n 0, 1) := by decide +kernel
theorem dX4_copy_36 : decode cX4_copy 36 = .ok (.getfield 18, 3) := by decide +kernel
theorem dX4_copy_39 : decode cX4_copy 39 = .ok (.iconst 0, 1) := by decide +kernel
theorem dX4_copy_40 : decode cX4_copy 40 = .ok (.bipush 16, 2) := by decide +kernel
theorem dX4_copy_42 : decode cX4_copy 42 = .ok (.invokestatic 24, 3) := by decide +kernel
theorem dX4_copy_45 : decode cX4_copy 45 = .ok (.aload_n 1, 1) := by decide +kernel
theorem dX4_copy_46 : decode cX4_copy 46 = .ok (.getfield 21, 3) := by decide +kernel
theorem dX4_copy_49 : decode cX4_copy 49 = .ok (.iconst 0, 1) := by decide +kernel
theorem dX4_copy_50 : decode cX4_copy 50 = .ok (.aload_n 0, 1) := by decide +kernel
theorem dX4_copy_51 : decode cX4_copy 51 = .ok (.getfield 21, 3) := by decide +kernel
theorem dX4_copy_54 : decode cX4_copy 54 = .ok (.iconst 0, 1) := by decide +kernel
theorem dX4_copy_55 : decode cX4_copy 55 = .ok (.bipush 16, 2) := by decide +kernel
theorem dX4_copy_57 : decode cX4_copy 57 = .ok (.invokestatic 24, 3) := by decide +kernel
theorem dX4_copy_60 : decode cX4_copy 60 = .ok (.aload_n 0, 1) := by decide +kernel
theorem dX4_copy_61 : decode cX4_copy 61 = .ok (.aload_n 1, 1) := by decide +kernel
theorem dX4_copy_62 : decode cX4_copy 62 = .ok (.getfield 30, 3) := by decide +kernel
theorem dX4_copy_65 : decode cX4_copy 65 = .ok (.putfield 30, 3) := by decide +kernel
theorem dX4_copy_68 : decode cX4_copy 68 = .ok (.aload_n 0, 1) := by decide +kernel
theorem dX4_copy_69 : decode cX4_copy 69 = .ok (.aload_n 1, 1) := by decide +kernel
theorem dX4_copy_70 : decode cX4_copy 70 = .ok (.getfield 34, 3) := by decide +kernel
theorem dX4_copy_73 : decode cX4_copy 73 = .ok (.putfield 34, 3) := by decide +kernel
theorem dX4_copy_76 : decode cX4_copy 76 = .ok (.return_, 1) := by decide +kernel
theorem dX4_addLevel_0 : decode cX4_addLevel 0 = .ok (.aload_n 0, 1) := by decide +kernel
theorem dX4_addLevel_1 : decode cX4_addLevel 1 = .ok (.getfield 30, 3) := by decide +kernel
theorem dX4_addLevel_4 : decode cX4_addLevel 4 = .ok (.bipush 10, 2) := by decide +kernel
theorem dX4_addLevel_6 : decode cX4_addLevel 6 = .ok (.if_icmp .ge 23, 3) := by decide +kernel
theorem dX4_addLevel_9 : decode cX4_addLevel 9 = .ok (.aload_n 0, 1) := by decide +kernel
theorem dX4_addLevel_10 : decode cX4_addLevel 10 = .ok (.getfield 9, 3) := by decide +kernel
theorem dX4_addLevel_13 : decode cX4_addLevel 13 = .ok (.aload_n 0, 1) := by decide +kernel
theorem dX4_addLevel_14 : decode cX4_addLevel 14 = .ok (.getfield 30, 3) := by decide +kernel
theorem dX4_addLevel_17 : decode cX4_addLevel 17 = .ok (.iload_n 1, 1) := by decide +kernel
theorem dX4_addLevel_18 : decode cX4_addLevel 18 = .ok (.iastore, 1) := by decide +kernel
theorem dX4_addLevel_19 : decode cX4_addLevel 19 = .ok (.aload_n 0, 1) := by decide +kernel
theorem dX4_addLevel_20 : decode cX4_addLevel 20 = .ok (.dup, 1) := by decide +kernel
theorem dX4_addLevel_21 : decode cX4_addLevel 21 = .ok (.getfield 30, 3) := by decide +kernel
theorem dX4_addLevel_24 : decode cX4_addLevel 24 = .ok (.iconst 1, 1) := by decide +kernel
theorem dX4_addLevel_25 : decode cX4_addLevel 25 = .ok (.iadd, 1) := by decide +kernel
theorem dX4_addLevel_26 : decode cX4_addLevel 26 = .ok (.putfield 30, 3) := by decide +kernel
theorem dX4_addLevel_29 : decode cX4_addLevel 29 = .ok (.return_, 1) := by decide +kernel
theorem dX4_isFloating_0 : decode cX4_isFloating 0 = .ok (.aload_n 0, 1) := by decide +kernel
theorem dX4_isFloating_1 : decode cX4_isFloating 1 = .ok (.getfield 9, 3) := by decide +kernel
theorem dX4_isFloating_4 : decode cX4_isFloating 4 = .ok (.iload_n 1, 1) := by decide +kernel
theorem dX4_isFloating_5 : decode cX4_isFloating 5 = .ok (.iaload, 1) := by decide +kernel
theorem dX4_isFloating_6 : decode cX4_isFloating 6 = .ok (.iconst 1, 1) := by decide +kernel
theorem dX4_isFloating_7 : decode cX4_isFloating 7 = .ok (.if_icmp .eq 13, 3) := by decide +kernel
theorem dX4_isFloating_10 : decode cX4_isFloating 10 = .ok (.aload_n 0, 1) := by decide +kernel
theorem dX4_isFloating_11 : decode cX4_isFloating 11 = .ok (.getfield 9, 3) := by decide +kernel
theorem dX4_isFloating_14 : decode cX4_isFloating 14 = .ok (.iload_n 1, 1) := by decide +kernel
theorem dX4_isFloating_15 : decode cX4_isFloating 15 = .ok (.iaload, 1) := by decide +kernel
theorem dX4_isFloating_16 : decode cX4_isFloating 16 = .ok (.iconst 3, 1) := by decide +kernel
theorem dX4_isFloating_17 : decode cX4_isFloating 17 = .ok (.if_icmp .ne 7, 3) := by decide +kernel
theorem dX4_isFloating_20 : decode cX4_isFloating 20 = .ok (.iconst 1, 1) := by decide +kernel
theorem dX4_isFloating_21 : decode cX4_isFloating 21 = .ok (.goto 4, 3) := by decide +kernel
theorem dX4_isFloating_24 : decode cX4_isFloating 24 = .ok (.iconst 0, 1) := by decide +kernel
theorem dX4_isFloating_25 : decode cX4_isFloating 25 = .ok (.ireturn, 1) := by decide +kernel
theorem dX4_weightTowards_0 : decode cX4_weightTowards 0 = .ok (.aload_n 0, 1) := by decide +kernel
theorem dX4_weightTowards_1 : decode cX4_weightTowards 1 = .ok (.getfield 9, 3) := by decide +kernel
theorem dX4_weightTowards_4 : decode cX4_weightTowards 4 = .ok (.iload_n 1, 1) := by decide +kernel
theorem dX4_weightTowards_5 : decode cX4_weightTowards 5 = .ok (.iaload, 1) := by decide +kernel
theorem dX4_weightTowards_6 : decode cX4_weightTowards 6 = .ok (.lookupswitch 34 #[(2, 26), (3, 30)], 26) := by decide +kernel
theorem dX4_weightTowards_32 : decode cX4_weightTowards 32 = .ok (.iload_n 2, 1) := by decide +kernel
theorem dX4_weightTowards_33 : decode cX4_weightTowards 33 = .ok (.iconst 1, 1) := by decide +kernel
theorem dX4_weightTowards_34 : decode cX4_weightTowards 34 = .ok (.iadd, 1) := by decide +kernel
theorem dX4_weightTowards_35 : decode cX4_weightTowards 35 = .ok (.ireturn, 1) := by decide +kernel
theorem dX4_weightTowards_36 : decode cX4_weightTowards 36 = .ok (.iload_n 2, 1) := by decide +kernel
theorem dX4_weightTowards_37 : decode cX4_weightTowards 37 = .ok (.iconst 1, 1) := by decide +kernel
theorem dX4_weightTowards_38 : decode cX4_weightTowards 38 = .ok (.isub, 1) := by decide +kernel
theorem dX4_weightTowards_39 : decode cX4_weightTowards 39 = .ok (.ireturn, 1) := by decide +kernel
theorem dX4_weightTowards_40 : decode cX4_weightTowards 40 = .ok (.iload_n 2, 1) := by decide +kernel
theorem dX4_weightTowards_41 : decode cX4_weightTowards 41 = .ok (.ireturn, 1) := by decide +kernel
theorem dX4_take_0 : decode cX4_take 0 = .ok (.aload_n 0, 1) := by decide +kernel
theorem dX4_take_1 : decode cX4_take 1 = .ok (.getfield 34, 3) := by decide +kernel
theorem dX4_take_4 : decode cX4_take 4 = .ok (.bipush 16, 2) := by decide +kernel
theorem dX4_take_6 : decode cX4_take 6 = .ok (.if_icmp .ge 43, 3) := by decide +kernel
theorem dX4_take_9 : decode cX4_take 9 = .ok (.aload_n 0, 1) := by decide +kernel
theorem dX4_take_10 : decode cX4_take 10 = .ok (.getfield 15, 3) := by decide +kernel
theorem dX4_take_13 : decode cX4_take 13 = .ok (.aload_n 0, 1) := by decide +kernel
theorem dX4_take_14 : decode cX4_take 14 = .ok (.getfield 34, 3) := by decide +kernel
theorem dX4_take_17 : decode cX4_take 17 = .ok (.iload_n 1, 1) := by decide +kernel
theorem dX4_take_18 : decode cX4_take 18 = .ok (.iastore, 1) := by decide +kernel
theorem dX4_take_19 : decode cX4_take 19 = .ok (.aload_n 0, 1) := by decide +kernel
theorem dX4_take_20 : decode cX4_take 20 = .ok (.getfield 18, 3) := by decide +kernel
theorem dX4_take_23 : decode cX4_take 23 = .ok (.aload_n 0, 1) := by decide +kernel
theorem dX4_take_24 : decode cX4_take 24 = .ok (.getfield 34, 3) := by decide +kernel
theorem dX4_take_27 : decode cX4_take 27 = .ok (.iload_n 3, 1) := by decide +kernel
theorem dX4_take_28 : decode cX4_take 28 = .ok (.iastore, 1) := by decide +kernel
theorem dX4_take_29 : decode cX4_take 29 = .ok (.aload_n 0, 1) := by decide +kernel
theorem dX4_take_30 : decode cX4_take 30 = .ok (.getfield 21, 3) := by decide +kernel
theorem dX4_take_33 : decode cX4_take 33 = .ok (.aload_n 0, 1) := by decide +kernel
theorem dX4_take_34 : decode cX4_take 34 = .ok (.getfield 34, 3) := by decide +kernel
theorem dX4_take_37 : decode cX4_take 37 = .ok (.iload_n 2, 1) := by decide +kernel
theorem dX4_take_38 : decode cX4_take 38 = .ok (.iastore, 1) := by decide +kernel
theorem dX4_take_39 : decode cX4_take 39 = .ok (.aload_n 0, 1) := by decide +kernel
theorem dX4_take_40 : decode cX4_take 40 = .ok (.dup, 1) := by decide +kernel
theorem dX4_take_41 : decode cX4_take 41 = .ok (.getfield 34, 3) := by decide +kernel
theorem dX4_take_44 : decode cX4_take 44 = .ok (.iconst 1, 1) := by decide +kernel
theorem dX4_take_45 : decode cX4_take 45 = .ok (.iadd, 1) := by decide +kernel
theorem dX4_take_46 : decode cX4_take 46 = .ok (.putfield 34, 3) := by decide +kernel
theorem dX4_take_49 : decode cX4_take 49 = .ok (.return_, 1) := by decide +kernel
theorem dX4_takeBack_0 : decode cX4_takeBack 0 = .ok (.iload_n 1, 1) := by decide +kernel
theorem dX4_takeBack_1 : decode cX4_takeBack 1 = .ok (.iconst 1, 1) := by decide +kernel
theorem dX4_takeBack_2 : decode cX4_takeBack 2 = .ok (.iadd, 1) := by decide +kernel
theorem dX4_takeBack_3 : decode cX4_takeBack 3 = .ok (.istore_n 2, 1) := by decide +kernel
theorem dX4_takeBack_4 : decode cX4_takeBack 4 = .ok (.iload_n 2, 1) := by decide +kernel
theorem dX4_takeBack_5 : decode cX4_takeBack 5 = .ok (.aload_n 0, 1) := by decide +kernel
theorem dX4_takeBack_6 : decode cX4_takeBack 6 = .ok (.getfield 34, 3) := by decide +kernel
theorem dX4_takeBack_9 : decode cX4_takeBack 9 = .ok (.if_icmp .ge 51, 3) := by decide +kernel
theorem dX4_takeBack_12 : decode cX4_takeBack 12 = .ok (.aload_n 0, 1) := by decide +kernel
theorem dX4_takeBack_13 : decode cX4_takeBack 13 = .ok (.getfield 15, 3) := by decide +kernel
theorem dX4_takeBack_16 : decode cX4_takeBack 16 = .ok (.iload_n 2, 1) := by decide +kernel
theorem dX4_takeBack_17 : decode cX4_takeBack 17 = .ok (.iconst 1, 1) := by decide +kernel
theorem dX4_takeBack_18 : decode cX4_takeBack 18 = .ok (.isub, 1) := by decide +kernel
theorem dX4_takeBack_19 : decode cX4_takeBack 19 = .ok (.aload_n 0, 1) := by decide +kernel
theorem dX4_takeBack_20 : decode cX4_takeBack 20 = .ok (.getfield 15, 3) := by decide +kernel
theorem dX4_takeBack_23 : decode cX4_takeBack 23 = .ok (.iload_n 2, 1) := by decide +kernel
theorem dX4_takeBack_24 : decode cX4_takeBack 24 = .ok (.iaload, 1) := by decide +kernel
theorem dX4_takeBack_25 : decode cX4_takeBack 25 = .ok (.iastore, 1) := by decide +kernel
theorem dX4_takeBack_26 : decode cX4_takeBack 26 = .ok (.aload_n 0, 1) := by decide +kernel
theorem dX4_takeBack_27 : decode cX4_takeBack 27 = .ok (.getfield 18, 3) := by decide +kernel
theorem dX4_takeBack_30 : decode cX4_takeBack 30 = .ok (.iload_n 2, 1) := by decide +kernel
theorem dX4_takeBack_31 : decode cX4_takeBack 31 = .ok (.iconst 1, 1) := by decide +kernel
theorem dX4_takeBack_32 : decode cX4_takeBack 32 = .ok (.isub, 1) := by decide +kernel
theorem dX4_takeBack_33 : decode cX4_takeBack 33 = .ok (.aload_n 0, 1) := by decide +kernel
theorem dX4_takeBack_34 : decode cX4_takeBack 34 = .ok (.getfield 18, 3) := by decide +kernel
theorem dX4_takeBack_37 : decode cX4_takeBack 37 = .ok (.iload_n 2, 1) := by decide +kernel
theorem dX4_takeBack_38 : decode cX4_takeBack 38 = .ok (.iaload, 1) := by decide +kernel
theorem dX4_takeBack_39 : decode cX4_takeBack 39 = .ok (.iastore, 1) := by decide +kernel
theorem dX4_takeBack_40 : decode cX4_takeBack 40 = .ok (.aload_n 0, 1) := by decide +kernel
theorem dX4_takeBack_41 : decode cX4_takeBack 41 = .ok (.getfield 21, 3) := by decide +kernel
theorem dX4_takeBack_44 : decode cX4_takeBack 44 = .ok (.iload_n 2, 1) := by decide +kernel
theorem dX4_takeBack_45 : decode cX4_takeBack 45 = .ok (.iconst 1, 1) := by decide +kernel
theorem dX4_takeBack_46 : decode cX4_takeBack 46 = .ok (.isub, 1) := by decide +kernel
theorem dX4_takeBack_47 : decode cX4_takeBack 47 = .ok (.aload_n 0, 1) := by decide +kernel
theorem dX4_takeBack_48 : decode cX4_takeBack 48 = .ok (.getfield 21, 3) := by decide +kernel
theorem dX4_takeBack_51 : decode cX4_takeBack 51 = .ok (.iload_n 2, 1) := by decide +kernel
theorem dX4_takeBack_52 : decode cX4_takeBack 52 = .ok (.iaload, 1) := by decide +kernel
theorem dX4_takeBack_53 : decode cX4_takeBack 53 = .ok (.iastore, 1) := by decide +kernel
theorem dX4_takeBack_54 : decode cX4_takeBack 54 = .ok (.iinc 2 1, 3) := by decide +kernel
theorem dX4_takeBack_57 : decode cX4_takeBack 57 = .ok (.goto (-53), 3) := by decide +kernel
theorem dX4_takeBack_60 : decode cX4_takeBack 60 = .ok (.aload_n 0, 1) := by decide +kernel
theorem dX4_takeBack_61 : decode cX4_takeBack 61 = .ok (.dup, 1) := by decide +kernel
theorem dX4_takeBack_62 : decode cX4_takeBack 62 = .ok (.getfield 34, 3) := by decide +kernel
theorem dX4_takeBack_65 : decode cX4_takeBack 65 = .ok (.iconst 1, 1) := by decide +kernel
theorem dX4_takeBack_66 : decode cX4_takeBack 66 = .ok (.isub, 1) := by decide +kernel
theorem dX4_takeBack_67 : decode cX4_takeBack 67 = .ok (.putfield 34, 3) := by decide +kernel
theorem dX4_takeBack_70 : decode cX4_takeBack 70 = .ok (.return_, 1) := by decide +kernel
theorem dX4_lengthsFrom_0 : decode cX4_lengthsFrom 0 = .ok (.aload_n 3, 1) := by decide +kernel
theorem dX4_lengthsFrom_1 : decode cX4_lengthsFrom 1 = .ok (.ldc 37, 2) := by decide +kernel
theorem dX4_lengthsFrom_3 : decode cX4_lengthsFrom 3 = .ok (.invokestatic 38, 3) := by decide +kernel
theorem dX4_lengthsFrom_6 : decode cX4_lengthsFrom 6 = .ok (.aload_n 3, 1) := by decide +kernel
theorem dX4_lengthsFrom_7 : decode cX4_lengthsFrom 7 = .ok (.iload_n 1, 1) := by decide +kernel
theorem dX4_lengthsFrom_8 : decode cX4_lengthsFrom 8 = .ok (.iconst 0, 1) := by decide +kernel
theorem dX4_lengthsFrom_9 : decode cX4_lengthsFrom 9 = .ok (.iastore, 1) := by decide +kernel
theorem dX4_lengthsFrom_10 : decode cX4_lengthsFrom 10 = .ok (.iconst 1, 1) := by decide +kernel
theorem dX4_lengthsFrom_11 : decode cX4_lengthsFrom 11 = .ok (.istore 4, 2) := by decide +kernel
theorem dX4_lengthsFrom_13 : decode cX4_lengthsFrom 13 = .ok (.iconst 0, 1) := by decide +kernel
theorem dX4_lengthsFrom_14 : decode cX4_lengthsFrom 14 = .ok (.istore 5, 2) := by decide +kernel
theorem dX4_lengthsFrom_16 : decode cX4_lengthsFrom 16 = .ok (.iload 5, 2) := by decide +kernel
theorem dX4_lengthsFrom_18 : decode cX4_lengthsFrom 18 = .ok (.aload_n 0, 1) := by decide +kernel
theorem dX4_lengthsFrom_19 : decode cX4_lengthsFrom 19 = .ok (.getfield 30, 3) := by decide +kernel
theorem dX4_lengthsFrom_22 : decode cX4_lengthsFrom 22 = .ok (.if_icmp .ge 57, 3) := by decide +kernel
theorem dX4_lengthsFrom_25 : decode cX4_lengthsFrom 25 = .ok (.iload 4, 2) := by decide +kernel
theorem dX4_lengthsFrom_27 : decode cX4_lengthsFrom 27 = .ok (.ifCond .eq 52, 3) := by decide +kernel
theorem dX4_lengthsFrom_30 : decode cX4_lengthsFrom 30 = .ok (.iconst 0, 1) := by decide +kernel
theorem dX4_lengthsFrom_31 : decode cX4_lengthsFrom 31 = .ok (.istore 4, 2) := by decide +kernel
theorem dX4_lengthsFrom_33 : decode cX4_lengthsFrom 33 = .ok (.iconst 0, 1) := by decide +kernel
theorem dX4_lengthsFrom_34 : decode cX4_lengthsFrom 34 = .ok (.istore 6, 2) := by decide +kernel
theorem dX4_lengthsFrom_36 : decode cX4_lengthsFrom 36 = .ok (.iload 6, 2) := by decide +kernel
theorem dX4_lengthsFrom_38 : decode cX4_lengthsFrom 38 = .ok (.aload_n 0, 1) := by decide +kernel
theorem dX4_lengthsFrom_39 : decode cX4_lengthsFrom 39 = .ok (.getfield 34, 3) := by decide +kernel
theorem dX4_lengthsFrom_42 : decode cX4_lengthsFrom 42 = .ok (.if_icmp .ge 31, 3) := by decide +kernel
theorem dX4_lengthsFrom_45 : decode cX4_lengthsFrom 45 = .ok (.iload_n 2, 1) := by decide +kernel
theorem dX4_lengthsFrom_46 : decode cX4_lengthsFrom 46 = .ok (.iload 6, 2) := by decide +kernel
theorem dX4_lengthsFrom_48 : decode cX4_lengthsFrom 48 = .ok (.ishr, 1) := by decide +kernel
theorem dX4_lengthsFrom_49 : decode cX4_lengthsFrom 49 = .ok (.iconst 1, 1) := by decide +kernel
theorem dX4_lengthsFrom_50 : decode cX4_lengthsFrom 50 = .ok (.iand, 1) := by decide +kernel
theorem dX4_lengthsFrom_51 : decode cX4_lengthsFrom 51 = .ok (.ifCond .ne 16, 3) := by decide +kernel
theorem dX4_lengthsFrom_54 : decode cX4_lengthsFrom 54 = .ok (.aload_n 0, 1) := by decide +kernel
theorem dX4_lengthsFrom_55 : decode cX4_lengthsFrom 55 = .ok (.iload 6, 2) := by decide +kernel
theorem dX4_lengthsFrom_57 : decode cX4_lengthsFrom 57 = .ok (.aload_n 3, 1) := by decide +kernel
theorem dX4_lengthsFrom_58 : decode cX4_lengthsFrom 58 = .ok (.invokevirtual 44, 3) := by decide +kernel
theorem dX4_lengthsFrom_61 : decode cX4_lengthsFrom 61 = .ok (.ifCond .eq 6, 3) := by decide +kernel
theorem dX4_lengthsFrom_64 : decode cX4_lengthsFrom 64 = .ok (.iconst 1, 1) := by decide +kernel
theorem dX4_lengthsFrom_65 : decode cX4_lengthsFrom 65 = .ok (.istore 4, 2) := by decide +kernel
theorem dX4_lengthsFrom_67 : decode cX4_lengthsFrom 67 = .ok (.iinc 6 1, 3) := by decide +kernel
theorem dX4_lengthsFrom_70 : decode cX4_lengthsFrom 70 = .ok (.goto (-34), 3) := by decide +kernel
theorem dX4_lengthsFrom_73 : decode cX4_lengthsFrom 73 = .ok (.iinc 5 1, 3) := by decide +kernel
theorem dX4_lengthsFrom_76 : decode cX4_lengthsFrom 76 = .ok (.goto (-60), 3) := by decide +kernel
theorem dX4_lengthsFrom_79 : decode cX4_lengthsFrom 79 = .ok (.return_, 1) := by decide +kernel
theorem dX4_lengthen_0 : decode cX4_lengthen 0 = .ok (.aload_n 2, 1) := by decide +kernel
theorem dX4_lengthen_1 : decode cX4_lengthen 1 = .ok (.aload_n 0, 1) := by decide +kernel
theorem dX4_lengthen_2 : decode cX4_lengthen 2 = .ok (.getfield 15, 3) := by decide +kernel
theorem dX4_lengthen_5 : decode cX4_lengthen 5 = .ok (.iload_n 1, 1) := by decide +kernel
theorem dX4_lengthen_6 : decode cX4_lengthen 6 = .ok (.iaload, 1) := by decide +kernel
theorem dX4_lengthen_7 : decode cX4_lengthen 7 = .ok (.iaload, 1) := by decide +kernel
theorem dX4_lengthen_8 : decode cX4_lengthen 8 = .ok (.istore_n 3, 1) := by decide +kernel
theorem dX4_lengthen_9 : decode cX4_lengthen 9 = .ok (.iload_n 3, 1) := by decide +kernel
theorem dX4_lengthen_10 : decode cX4_lengthen 10 = .ok (.ldc 37, 2) := by decide +kernel
theorem dX4_lengthen_12 : decode cX4_lengthen 12 = .ok (.if_icmp .eq 22, 3) := by decide +kernel
theorem dX4_lengthen_15 : decode cX4_lengthen 15 = .ok (.iload_n 3, 1) := by decide +kernel
theorem dX4_lengthen_16 : decode cX4_lengthen 16 = .ok (.aload_n 0, 1) := by decide +kernel
theorem dX4_lengthen_17 : decode cX4_lengthen 17 = .ok (.getfield 21, 3) := by decide +kernel
theorem dX4_lengthen_20 : decode cX4_lengthen 20 = .ok (.iload_n 1, 1) := by decide +kernel
theorem dX4_lengthen_21 : decode cX4_lengthen 21 = .ok (.iaload, 1) := by decide +kernel
theorem dX4_lengthen_22 : decode cX4_lengthen 22 = .ok (.iadd, 1) := by decide +kernel
theorem dX4_lengthen_23 : decode cX4_lengthen 23 = .ok (.aload_n 2, 1) := by decide +kernel
theorem dX4_lengthen_24 : decode cX4_lengthen 24 = .ok (.aload_n 0, 1) := by decide +kernel
theorem dX4_lengthen_25 : decode cX4_lengthen 25 = .ok (.getfield 18, 3) := by decide +kernel
theorem dX4_lengthen_28 : decode cX4_lengthen 28 = .ok (.iload_n 1, 1) := by decide +kernel
theorem dX4_lengthen_29 : decode cX4_lengthen 29 = .ok (.iaload, 1) := by decide +kernel
theorem dX4_lengthen_30 : decode cX4_lengthen 30 = .ok (.iaload, 1) := by decide +kernel
theorem dX4_lengthen_31 : decode cX4_lengthen 31 = .ok (.if_icmp .gt 5, 3) := by decide +kernel
theorem dX4_lengthen_34 : decode cX4_lengthen 34 = .ok (.iconst 0, 1) := by decide +kernel
theorem dX4_lengthen_35 : decode cX4_lengthen 35 = .ok (.ireturn, 1) := by decide +kernel
theorem dX4_lengthen_36 : decode cX4_lengthen 36 = .ok (.aload_n 2, 1) := by decide +kernel
theorem dX4_lengthen_37 : decode cX4_lengthen 37 = .ok (.aload_n 0, 1) := by decide +kernel
theorem dX4_lengthen_38 : decode cX4_lengthen 38 = .ok (.getfield 18, 3) := by decide +kernel
theorem dX4_lengthen_41 : decode cX4_lengthen 41 = .ok (.iload_n 1, 1) := by decide +kernel
theorem dX4_lengthen_42 : decode cX4_lengthen 42 = .ok (.iaload, 1) := by decide +kernel
theorem dX4_lengthen_43 : decode cX4_lengthen 43 = .ok (.iload_n 3, 1) := by decide +kernel
theorem dX4_lengthen_44 : decode cX4_lengthen 44 = .ok (.aload_n 0, 1) := by decide +kernel
theorem dX4_lengthen_45 : decode cX4_lengthen 45 = .ok (.getfield 21, 3) := by decide +kernel
theorem dX4_lengthen_48 : decode cX4_lengthen 48 = .ok (.iload_n 1, 1) := by decide +kernel
theorem dX4_lengthen_49 : decode cX4_lengthen 49 = .ok (.iaload, 1) := by decide +kernel
theorem dX4_lengthen_50 : decode cX4_lengthen 50 = .ok (.iadd, 1) := by decide +kernel
theorem dX4_lengthen_51 : decode cX4_lengthen 51 = .ok (.iastore, 1) := by decide +kernel
theorem dX4_lengthen_52 : decode cX4_lengthen 52 = .ok (.iconst 1, 1) := by decide +kernel
theorem dX4_lengthen_53 : decode cX4_lengthen 53 = .ok (.ireturn, 1) := by decide +kernel
theorem dX5_init_0 : decode cX5_init 0 = .ok (.aload_n 0, 1) := by decide +kernel
theorem dX5_init_1 : decode cX5_init 1 = .ok (.invokespecial 3, 3) := by decide +kernel
theorem dX5_init_4 : decode cX5_init 4 = .ok (.aload_n 0, 1) := by decide +kernel
theorem dX5_init_5 : decode cX5_init 5 = .ok (.sipush 200, 3) := by decide +kernel
theorem dX5_init_8 : decode cX5_init 8 = .ok (.newarray .int, 2) := by decide +kernel
theorem dX5_init_10 : decode cX5_init 10 = .ok (.putfield 9, 3) := by decide +kernel
theorem dX5_init_13 : decode cX5_init 13 = .ok (.aload_n 0, 1) := by decide +kernel
theorem dX5_init_14 : decode cX5_init 14 = .ok (.iconst 3, 1) := by decide +kernel
theorem dX5_init_15 : decode cX5_init 15 = .ok (.newarray .int, 2) := by decide +kernel
theorem dX5_init_17 : decode cX5_init 17 = .ok (.putfield 15, 3) := by decide +kernel
theorem dX5_init_20 : decode cX5_init 20 = .ok (.return_, 1) := by decide +kernel
theorem dX5_append_0 : decode cX5_append 0 = .ok (.aload_n 0, 1) := by decide +kernel
theorem dX5_append_1 : decode cX5_append 1 = .ok (.getfield 18, 3) := by decide +kernel
theorem dX5_append_4 : decode cX5_append 4 = .ok (.sipush 200, 3) := by decide +kernel
theorem dX5_append_7 : decode cX5_append 7 = .ok (.if_icmp .lt 5, 3) := by decide +kernel
theorem dX5_append_10 : decode cX5_append 10 = .ok (.iconst 0, 1) := by decide +kernel
theorem dX5_append_11 : decode cX5_append 11 = .ok (.ireturn, 1) := by decide +kernel
theorem dX5_append_12 : decode cX5_append 12 = .ok (.aload_n 0, 1) := by decide +kernel
theorem dX5_append_13 : decode cX5_append 13 = .ok (.getfield 9, 3) := by decide +kernel
theorem dX5_append_16 : decode cX5_append 16 = .ok (.aload_n 0, 1) := by decide +kernel
theorem dX5_append_17 : decode cX5_append 17 = .ok (.getfield 18, 3) := by decide +kernel
theorem dX5_append_20 : decode cX5_append 20 = .ok (.iload_n 1, 1) := by decide +kernel
theorem dX5_append_21 : decode cX5_append 21 = .ok (.iastore, 1) := by decide +kernel
theorem dX5_append_22 : decode cX5_append 22 = .ok (.aload_n 0, 1) := by decide +kernel
theorem dX5_append_23 : decode cX5_append 23 = .ok (.dup, 1) := by decide +kernel
theorem dX5_append_24 : decode cX5_append 24 = .ok (.getfield 18, 3) := by decide +kernel
theorem dX5_append_27 : decode cX5_append 27 = .ok (.iconst 1, 1) := by decide +kernel
theorem dX5_append_28 : decode cX5_append 28 = .ok (.iadd, 1) := by decide +kernel
theorem dX5_append_29 : decode cX5_append 29 = .ok (.putfield 18, 3) := by decide +kernel
theorem dX5_append_32 : decode cX5_append 32 = .ok (.iconst 1, 1) := by decide +kernel
theorem dX5_append_33 : decode cX5_append 33 = .ok (.ireturn, 1) := by decide +kernel
theorem dX5_letterAt_0 : decode cX5_letterAt 0 = .ok (.iload_n 1, 1) := by decide +kernel
theorem dX5_letterAt_1 : decode cX5_letterAt 1 = .ok (.ifCond .lt 20, 3) := by decide +kernel
theorem dX5_letterAt_4 : decode cX5_letterAt 4 = .ok (.iload_n 1, 1) := by decide +kernel
theorem dX5_letterAt_5 : decode cX5_letterAt 5 = .ok (.aload_n 0, 1) := by decide +kernel
theorem dX5_letterAt_6 : decode cX5_letterAt 6 = .ok (.getfield 18, 3) := by decide +kernel
theorem dX5_letterAt_9 : decode cX5_letterAt 9 = .ok (.if_icmp .ge 12, 3) := by decide +kernel
theorem dX5_letterAt_12 : decode cX5_letterAt 12 = .ok (.aload_n 0, 1) := by decide +kernel
theorem dX5_letterAt_13 : decode cX5_letterAt 13 = .ok (.getfield 9, 3) := by decide +kernel
theorem dX5_letterAt_16 : decode cX5_letterAt 16 = .ok (.iload_n 1, 1) := by decide +kernel
theorem dX5_letterAt_17 : decode cX5_letterAt 17 = .ok (.iaload, 1) := by decide +kernel
theorem dX5_letterAt_18 : decode cX5_letterAt 18 = .ok (.goto 4, 3) := by decide +kernel
theorem dX5_letterAt_21 : decode cX5_letterAt 21 = .ok (.iconst 0, 1) := by decide +kernel
theorem dX5_letterAt_22 : decode cX5_letterAt 22 = .ok (.ireturn, 1) := by decide +kernel
theorem dX5_firstFault_0 : decode cX5_firstFault 0 = .ok (.iconst 0, 1) := by decide +kernel
theorem dX5_firstFault_1 : decode cX5_firstFault 1 = .ok (.istore_n 1, 1) := by decide +kernel
theorem dX5_firstFault_2 : decode cX5_firstFault 2 = .ok (.iconst 0, 1) := by decide +kernel
theorem dX5_firstFault_3 : decode cX5_firstFault 3 = .ok (.istore_n 2, 1) := by decide +kernel
theorem dX5_firstFault_4 : decode cX5_firstFault 4 = .ok (.iconst 0, 1) := by decide +kernel
theorem dX5_firstFault_5 : decode cX5_firstFault 5 = .ok (.istore_n 3, 1) := by decide +kernel
theorem dX5_firstFault_6 : decode cX5_firstFault 6 = .ok (.iload_n 3, 1) := by decide +kernel
theorem dX5_firstFault_7 : decode cX5_firstFault 7 = .ok (.sipush 200, 3) := by decide +kernel
theorem dX5_firstFault_10 : decode cX5_firstFault 10 = .ok (.if_icmp .ge 60, 3) := by decide +kernel
theorem dX5_firstFault_13 : decode cX5_firstFault 13 = .ok (.iload_n 2, 1) := by decide +kernel
theorem dX5_firstFault_14 : decode cX5_firstFault 14 = .ok (.aload_n 0, 1) := by decide +kernel
theorem dX5_firstFault_15 : decode cX5_firstFault 15 = .ok (.getfield 18, 3) := by decide +kernel
theorem dX5_firstFault_18 : decode cX5_firstFault 18 = .ok (.if_icmp .ge 52, 3) := by decide +kernel
theorem dX5_firstFault_21 : decode cX5_firstFault 21 = .ok (.aload_n 0, 1) := by decide +kernel
theorem dX5_firstFault_22 : decode cX5_firstFault 22 = .ok (.iload_n 2, 1) := by decide +kernel
theorem dX5_firstFault_23 : decode cX5_firstFault 23 = .ok (.invokevirtual 22, 3) := by decide +kernel
theorem dX5_firstFault_26 : decode cX5_firstFault 26 = .ok (.istore 4, 2) := by decide +kernel
theorem dX5_firstFault_28 : decode cX5_firstFault 28 = .ok (.iload 4, 2) := by decide +kernel
theorem dX5_firstFault_30 : decode cX5_firstFault 30 = .ok (.ifCond .lt 16, 3) := by decide +kernel
theorem dX5_firstFault_33 : decode cX5_firstFault 33 = .ok (.aload_n 0, 1) := by decide +kernel
theorem dX5_firstFault_34 : decode cX5_firstFault 34 = .ok (.aload_n 0, 1) := by decide +kernel
theorem dX5_firstFault_35 : decode cX5_firstFault 35 = .ok (.iload_n 2, 1) := by decide +kernel
theorem dX5_firstFault_36 : decode cX5_firstFault 36 = .ok (.invokevirtual 26, 3) := by decide +kernel
theorem dX5_firstFault_39 : decode cX5_firstFault 39 = .ok (.iload_n 1, 1) := by decide +kernel
theorem dX5_firstFault_40 : decode cX5_firstFault 40 = .ok (.invokevirtual 29, 3) := by decide +kernel
theorem dX5_firstFault_43 : decode cX5_firstFault 43 = .ok (.ifCond .ne 5, 3) := by decide +kernel
theorem dX5_firstFault_46 : decode cX5_firstFault 46 = .ok (.iload_n 2, 1) := by decide +kernel
theorem dX5_firstFault_47 : decode cX5_firstFault 47 = .ok (.ireturn, 1) := by decide +kernel
theorem dX5_firstFault_48 : decode cX5_firstFault 48 = .ok (.aload_n 0, 1) := by decide +kernel
theorem dX5_firstFault_49 : decode cX5_firstFault 49 = .ok (.iload_n 2, 1) := by decide +kernel
theorem dX5_firstFault_50 : decode cX5_firstFault 50 = .ok (.invokevirtual 26, 3) := by decide +kernel
theorem dX5_firstFault_53 : decode cX5_firstFault 53 = .ok (.bipush 118, 2) := by decide +kernel
theorem dX5_firstFault_55 : decode cX5_firstFault 55 = .ok (.if_icmp .ne 6, 3) := by decide +kernel
theorem dX5_firstFault_58 : decode cX5_firstFault 58 = .ok (.iinc 1 1, 3) := by decide +kernel
theorem dX5_firstFault_61 : decode cX5_firstFault 61 = .ok (.iload 4, 2) := by decide +kernel
theorem dX5_firstFault_63 : decode cX5_firstFault 63 = .ok (.istore_n 2, 1) := by decide +kernel
theorem dX5_firstFault_64 : decode cX5_firstFault 64 = .ok (.iinc 3 1, 3) := by decide +kernel
theorem dX5_firstFault_67 : decode cX5_firstFault 67 = .ok (.goto (-61), 3) := by decide +kernel
theorem dX5_firstFault_70 : decode cX5_firstFault 70 = .ok (.bipush (-4), 2) := by decide +kernel
theorem dX5_firstFault_72 : decode cX5_firstFault 72 = .ok (.ireturn, 1) := by decide +kernel
theorem dX5_isAllowed_0 : decode cX5_isAllowed 0 = .ok (.iload_n 1, 1) := by decide +kernel
theorem dX5_isAllowed_1 : decode cX5_isAllowed 1 = .ok (.bipush 118, 2) := by decide +kernel
theorem dX5_isAllowed_3 : decode cX5_isAllowed 3 = .ok (.if_icmp .ne 25, 3) := by decide +kernel
theorem dX5_isAllowed_6 : decode cX5_isAllowed 6 = .ok (.iload_n 2, 1) := by decide +kernel
theorem dX5_isAllowed_7 : decode cX5_isAllowed 7 = .ok (.bipush 10, 2) := by decide +kernel
theorem dX5_isAllowed_9 : decode cX5_isAllowed 9 = .ok (.if_icmp .ge 17, 3) := by decide +kernel
theorem dX5_isAllowed_12 : decode cX5_isAllowed 12 = .ok (.aload_n 0, 1) := by decide +kernel
theorem dX5_isAllowed_13 : decode cX5_isAllowed 13 = .ok (.getfield 15, 3) := by decide +kernel
theorem dX5_isAllowed_16 : decode cX5_isAllowed 16 = .ok (.iconst 0, 1) := by decide +kernel
theorem dX5_isAllowed_17 : decode cX5_isAllowed 17 = .ok (.iaload, 1) := by decide +kernel
theorem dX5_isAllowed_18 : decode cX5_isAllowed 18 = .ok (.iconst 3, 1) := by decide +kernel
theorem dX5_isAllowed_19 : decode cX5_isAllowed 19 = .ok (.if_icmp .gt 7, 3) := by decide +kernel
theorem dX5_isAllowed_22 : decode cX5_isAllowed 22 = .ok (.iconst 1, 1) := by decide +kernel
theorem dX5_isAllowed_23 : decode cX5_isAllowed 23 = .ok (.goto 4, 3) := by decide +kernel
theorem dX5_isAllowed_26 : decode cX5_isAllowed 26 = .ok (.iconst 0, 1) := by decide +kernel
theorem dX5_isAllowed_27 : decode cX5_isAllowed 27 = .ok (.ireturn, 1) := by decide +kernel
theorem dX5_isAllowed_28 : decode cX5_isAllowed 28 = .ok (.iload_n 1, 1) := by decide +kernel
theorem dX5_isAllowed_29 : decode cX5_isAllowed 29 = .ok (.bipush 99, 2) := by decide +kernel
theorem dX5_isAllowed_31 : decode cX5_isAllowed 31 = .ok (.if_icmp .ne 12, 3) := by decide +kernel
theorem dX5_isAllowed_34 : decode cX5_isAllowed 34 = .ok (.aload_n 0, 1) := by decide +kernel
theorem dX5_isAllowed_35 : decode cX5_isAllowed 35 = .ok (.getfield 15, 3) := by decide +kernel
theorem dX5_isAllowed_38 : decode cX5_isAllowed 38 = .ok (.iconst 2, 1) := by decide +kernel
theorem dX5_isAllowed_39 : decode cX5_isAllowed 39 = .ok (.iaload, 1) := by decide +kernel
theorem dX5_isAllowed_40 : decode cX5_isAllowed 40 = .ok (.goto 9, 3) := by decide +kernel
theorem dX5_isAllowed_43 : decode cX5_isAllowed 43 = .ok (.aload_n 0, 1) := by decide +kernel
theorem dX5_isAllowed_44 : decode cX5_isAllowed 44 = .ok (.getfield 15, 3) := by decide +kernel
theorem dX5_isAllowed_47 : decode cX5_isAllowed 47 = .ok (.iconst 1, 1) := by decide +kernel
theorem dX5_isAllowed_48 : decode cX5_isAllowed 48 = .ok (.iaload, 1) := by decide +kernel
theorem dX5_isAllowed_49 : decode cX5_isAllowed 49 = .ok (.istore_n 3, 1) := by decide +kernel
theorem dX5_isAllowed_50 : decode cX5_isAllowed 50 = .ok (.iload_n 1, 1) := by decide +kernel
theorem dX5_isAllowed_51 : decode cX5_isAllowed 51 = .ok (.bipush 99, 2) := by decide +kernel
theorem dX5_isAllowed_53 : decode cX5_isAllowed 53 = .ok (.if_icmp .ne 12, 3) := by decide +kernel
theorem dX5_isAllowed_56 : decode cX5_isAllowed 56 = .ok (.aload_n 0, 1) := by decide +kernel
theorem dX5_isAllowed_57 : decode cX5_isAllowed 57 = .ok (.getfield 15, 3) := by decide +kernel
theorem dX5_isAllowed_60 : decode cX5_isAllowed 60 = .ok (.iconst 1, 1) := by decide +kernel
theorem dX5_isAllowed_61 : decode cX5_isAllowed 61 = .ok (.iaload, 1) := by decide +kernel
theorem dX5_isAllowed_62 : decode cX5_isAllowed 62 = .ok (.goto 9, 3) := by decide +kernel
theorem dX5_isAllowed_65 : decode cX5_isAllowed 65 = .ok (.aload_n 0, 1) := by decide +kernel
theorem dX5_isAllowed_66 : decode cX5_isAllowed 66 = .ok (.getfield 15, 3) := by decide +kernel
theorem dX5_isAllowed_69 : decode cX5_isAllowed 69 = .ok (.iconst 2, 1) := by decide +kernel
theorem dX5_isAllowed_70 : decode cX5_isAllowed 70 = .ok (.iaload, 1) := by decide +kernel
theorem dX5_isAllowed_71 : decode cX5_isAllowed 71 = .ok (.istore 4, 2) := by decide +kernel
theorem dX5_isAllowed_73 : decode cX5_isAllowed 73 = .ok (.aload_n 0, 1) := by decide +kernel
theorem dX5_isAllowed_74 : decode cX5_isAllowed 74 = .ok (.getfield 15, 3) := by decide +kernel
theorem dX5_isAllowed_77 : decode cX5_isAllowed 77 = .ok (.iconst 0, 1) := by decide +kernel
theorem dX5_isAllowed_78 : decode cX5_isAllowed 78 = .ok (.iaload, 1) := by decide +kernel
theorem dX5_isAllowed_79 : decode cX5_isAllowed 79 = .ok (.iload_n 2, 1) := by decide +kernel
theorem dX5_isAllowed_80 : decode cX5_isAllowed 80 = .ok (.if_icmp .ge 29, 3) := by decide +kernel
theorem dX5_isAllowed_83 : decode cX5_isAllowed 83 = .ok (.iload_n 3, 1) := by decide +kernel
theorem dX5_isAllowed_84 : decode cX5_isAllowed 84 = .ok (.iload_n 2, 1) := by decide +kernel
theorem dX5_isAllowed_85 : decode cX5_isAllowed 85 = .ok (.if_icmp .ge 24, 3) := by decide +kernel
theorem dX5_isAllowed_88 : decode cX5_isAllowed 88 = .ok (.aload_n 0, 1) := by decide +kernel
theorem dX5_isAllowed_89 : decode cX5_isAllowed 89 = .ok (.getfield 15, 3) := by decide +kernel
theorem dX5_isAllowed_92 : decode cX5_isAllowed 92 = .ok (.iconst 0, 1) := by decide +kernel
theorem dX5_isAllowed_93 : decode cX5_isAllowed 93 = .ok (.iaload, 1) := by decide +kernel
theorem dX5_isAllowed_94 : decode cX5_isAllowed 94 = .ok (.iload_n 3, 1) := by decide +kernel
theorem dX5_isAllowed_95 : decode cX5_isAllowed 95 = .ok (.if_icmp .eq 14, 3) := by decide +kernel
theorem dX5_isAllowed_98 : decode cX5_isAllowed 98 = .ok (.iload 4, 2) := by decide +kernel
theorem dX5_isAllowed_100 : decode cX5_isAllowed 100 = .ok (.bipush 9, 2) := by decide +kernel
theorem dX5_isAllowed_102 : decode cX5_isAllowed 102 = .ok (.if_icmp .gt 7, 3) := by decide +kernel
theorem dX5_isAllowed_105 : decode cX5_isAllowed 105 = .ok (.iconst 1, 1) := by decide +kernel
theorem dX5_isAllowed_106 : decode cX5_isAllowed 106 = .ok (.goto 4, 3) := by decide +kernel
theorem dX5_isAllowed_109 : decode cX5_isAllowed 109 = .ok (.iconst 0, 1) := by decide +kernel
theorem dX5_isAllowed_110 : decode cX5_isAllowed 110 = .ok (.ireturn, 1) := by decide +kernel
theorem dX5_readItem_0 : decode cX5_readItem 0 = .ok (.aload_n 0, 1) := by decide +kernel
theorem dX5_readItem_1 : decode cX5_readItem 1 = .ok (.iload_n 1, 1) := by decide +kernel
theorem dX5_readItem_2 : decode cX5_readItem 2 = .ok (.invokevirtual 26, 3) := by decide +kernel
theorem dX5_readItem_5 : decode cX5_readItem 5 = .ok (.invokestatic 33, 3) := by decide +kernel
theorem dX5_readItem_8 : decode cX5_readItem 8 = .ok (.istore_n 2, 1) := by decide +kernel
theorem dX5_readItem_9 : decode cX5_readItem 9 = .ok (.iload_n 1, 1) := by decide +kernel
theorem dX5_readItem_10 : decode cX5_readItem 10 = .ok (.iconst 1, 1) := by decide +kernel
theorem dX5_readItem_11 : decode cX5_readItem 11 = .ok (.iadd, 1) := by decide +kernel
theorem dX5_readItem_12 : decode cX5_readItem 12 = .ok (.istore_n 3, 1) := by decide +kernel
theorem dX5_readItem_13 : decode cX5_readItem 13 = .ok (.iconst 0, 1) := by decide +kernel
theorem dX5_readItem_14 : decode cX5_readItem 14 = .ok (.istore 4, 2) := by decide +kernel
theorem dX5_readItem_16 : decode cX5_readItem 16 = .ok (.iload 4, 2) := by decide +kernel
theorem dX5_readItem_18 : decode cX5_readItem 18 = .ok (.iload_n 2, 1) := by decide +kernel
theorem dX5_readItem_19 : decode cX5_readItem 19 = .ok (.if_icmp .ge 75, 3) := by decide +kernel
theorem dX5_readItem_22 : decode cX5_readItem 22 = .ok (.aload_n 0, 1) := by decide +kernel
theorem dX5_readItem_23 : decode cX5_readItem 23 = .ok (.iload_n 3, 1) := by decide +kernel
theorem dX5_readItem_24 : decode cX5_readItem 24 = .ok (.invokevirtual 36, 3) := by decide +kernel
theorem dX5_readItem_27 : decode cX5_readItem 27 = .ok (.istore 5, 2) := by decide +kernel
theorem dX5_readItem_29 : decode cX5_readItem 29 = .ok (.iload 4, 2) := by decide +kernel
theorem dX5_readItem_31 : decode cX5_readItem 31 = .ok (.iload_n 2, 1) := by decide +kernel
theorem dX5_readItem_32 : decode cX5_readItem 32 = .ok (.iconst 1, 1) := by decide +kernel
theorem dX5_readItem_33 : decode cX5_readItem 33 = .ok (.isub, 1) := by decide +kernel
theorem dX5_readItem_34 : decode cX5_readItem 34 = .ok (.if_icmp .ne 8, 3) := by decide +kernel
theorem dX5_readItem_37 : decode cX5_readItem 37 = .ok (.bipush 59, 2) := by decide +kernel
theorem dX5_readItem_39 : decode cX5_readItem 39 = .ok (.goto 5, 3) := by decide +kernel
theorem dX5_readItem_42 : decode cX5_readItem 42 = .ok (.bipush 44, 2) := by decide +kernel
theorem dX5_readItem_44 : decode cX5_readItem 44 = .ok (.istore 6, 2) := by decide +kernel
theorem dX5_readItem_46 : decode cX5_readItem 46 = .ok (.iload 5, 2) := by decide +kernel
theorem dX5_readItem_48 : decode cX5_readItem 48 = .ok (.ifCond .eq 16, 3) := by decide +kernel
theorem dX5_readItem_51 : decode cX5_readItem 51 = .ok (.aload_n 0, 1) := by decide +kernel
theorem dX5_readItem_52 : decode cX5_readItem 52 = .ok (.iload_n 3, 1) := by decide +kernel
theorem dX5_readItem_53 : decode cX5_readItem 53 = .ok (.iload 5, 2) := by decide +kernel
theorem dX5_readItem_55 : decode cX5_readItem 55 = .ok (.iadd, 1) := by decide +kernel
theorem dX5_readItem_56 : decode cX5_readItem 56 = .ok (.invokevirtual 26, 3) := by decide +kernel
theorem dX5_readItem_59 : decode cX5_readItem 59 = .ok (.iload 6, 2) := by decide +kernel
theorem dX5_readItem_61 : decode cX5_readItem 61 = .ok (.if_icmp .eq 6, 3) := by decide +kernel
theorem dX5_readItem_64 : decode cX5_readItem 64 = .ok (.bipush (-4), 2) := by decide +kernel
theorem dX5_readItem_66 : decode cX5_readItem 66 = .ok (.ireturn, 1) := by decide +kernel
theorem dX5_readItem_67 : decode cX5_readItem 67 = .ok (.aload_n 0, 1) := by decide +kernel
theorem dX5_readItem_68 : decode cX5_readItem 68 = .ok (.getfield 15, 3) := by decide +kernel
theorem dX5_readItem_71 : decode cX5_readItem 71 = .ok (.iload 4, 2) := by decide +kernel
theorem dX5_readItem_73 : decode cX5_readItem 73 = .ok (.aload_n 0, 1) := by decide +kernel
theorem dX5_readItem_74 : decode cX5_readItem 74 = .ok (.iload_n 3, 1) := by decide +kernel
theorem dX5_readItem_75 : decode cX5_readItem 75 = .ok (.iload 5, 2) := by decide +kernel
theorem dX5_readItem_77 : decode cX5_readItem 77 = .ok (.invokevirtual 39, 3) := by decide +kernel
theorem dX5_readItem_80 : decode cX5_readItem 80 = .ok (.iastore, 1) := by decide +kernel
theorem dX5_readItem_81 : decode cX5_readItem 81 = .ok (.iload_n 3, 1) := by decide +kernel
theorem dX5_readItem_82 : decode cX5_readItem 82 = .ok (.iload 5, 2) := by decide +kernel
theorem dX5_readItem_84 : decode cX5_readItem 84 = .ok (.iconst 1, 1) := by decide +kernel
theorem dX5_readItem_85 : decode cX5_readItem 85 = .ok (.iadd, 1) := by decide +kernel
theorem dX5_readItem_86 : decode cX5_readItem 86 = .ok (.iadd, 1) := by decide +kernel
theorem dX5_readItem_87 : decode cX5_readItem 87 = .ok (.istore_n 3, 1) := by decide +kernel
theorem dX5_readItem_88 : decode cX5_readItem 88 = .ok (.iinc 4 1, 3) := by decide +kernel
theorem dX5_readItem_91 : decode cX5_readItem 91 = .ok (.goto (-75), 3) := by decide +kernel
theorem dX5_readItem_94 : decode cX5_readItem 94 = .ok (.iload_n 2, 1) := by decide +kernel
theorem dX5_readItem_95 : decode cX5_readItem 95 = .ok (.ifCond .ne 8, 3) := by decide +kernel
theorem dX5_readItem_98 : decode cX5_readItem 98 = .ok (.bipush (-4), 2) := by decide +kernel
theorem dX5_readItem_100 : decode cX5_readItem 100 = .ok (.goto 4, 3) := by decide +kernel
theorem dX5_readItem_103 : decode cX5_readItem 103 = .ok (.iload_n 3, 1) := by decide +kernel
theorem dX5_readItem_104 : decode cX5_readItem 104 = .ok (.ireturn, 1) := by decide +kernel
theorem dX5_numbersBehind_0 : decode cX5_numbersBehind 0 = .ok (.iload_n 0, 1) := by decide +kernel
theorem dX5_numbersBehind_1 : decode cX5_numbersBehind 1 = .ok (.lookupswitch 39 #[(99, 37), (100, 37), (118, 35)], 35) := by decide +kernel
theorem dX5_numbersBehind_36 : decode cX5_numbersBehind 36 = .ok (.iconst 1, 1) := by decide +kernel
theorem dX5_numbersBehind_37 : decode cX5_numbersBehind 37 = .ok (.ireturn, 1) := by decide +kernel
theorem dX5_numbersBehind_38 : decode cX5_numbersBehind 38 = .ok (.iconst 3, 1) := by decide +kernel
theorem dX5_numbersBehind_39 : decode cX5_numbersBehind 39 = .ok (.ireturn, 1) := by decide +kernel
theorem dX5_numbersBehind_40 : decode cX5_numbersBehind 40 = .ok (.iconst 0, 1) := by decide +kernel
theorem dX5_numbersBehind_41 : decode cX5_numbersBehind 41 = .ok (.ireturn, 1) := by decide +kernel
theorem dX5_figuresAt_0 : decode cX5_figuresAt 0 = .ok (.aload_n 0, 1) := by decide +kernel
theorem dX5_figuresAt_1 : decode cX5_figuresAt 1 = .ok (.iload_n 1, 1) := by decide +kernel
theorem dX5_figuresAt_2 : decode cX5_figuresAt 2 = .ok (.invokevirtual 26, 3) := by decide +kernel
theorem dX5_figuresAt_5 : decode cX5_figuresAt 5 = .ok (.invokestatic 43, 3) := by decide +kernel
theorem dX5_figuresAt_8 : decode cX5_figuresAt 8 = .ok (.ifCond .ne 5, 3) := by decide +kernel
theorem dX5_figuresAt_11 : decode cX5_figuresAt 11 = .ok (.iconst 0, 1) := by decide +kernel
theorem dX5_figuresAt_12 : decode cX5_figuresAt 12 = .ok (.ireturn, 1) := by decide +kernel
theorem dX5_figuresAt_13 : decode cX5_figuresAt 13 = .ok (.aload_n 0, 1) := by decide +kernel
theorem dX5_figuresAt_14 : decode cX5_figuresAt 14 = .ok (.iload_n 1, 1) := by decide +kernel
theorem dX5_figuresAt_15 : decode cX5_figuresAt 15 = .ok (.iconst 1, 1) := by decide +kernel
theorem dX5_figuresAt_16 : decode cX5_figuresAt 16 = .ok (.iadd, 1) := by decide +kernel
theorem dX5_figuresAt_17 : decode cX5_figuresAt 17 = .ok (.invokevirtual 26, 3) := by decide +kernel
theorem dX5_figuresAt_20 : decode cX5_figuresAt 20 = .ok (.invokestatic 43, 3) := by decide +kernel
theorem dX5_figuresAt_23 : decode cX5_figuresAt 23 = .ok (.ifCond .eq 7, 3) := by decide +kernel
theorem dX5_figuresAt_26 : decode cX5_figuresAt 26 = .ok (.iconst 2, 1) := by decide +kernel
theorem dX5_figuresAt_27 : decode cX5_figuresAt 27 = .ok (.goto 4, 3) := by decide +kernel
theorem dX5_figuresAt_30 : decode cX5_figuresAt 30 = .ok (.iconst 1, 1) := by decide +kernel
theorem dX5_figuresAt_31 : decode cX5_figuresAt 31 = .ok (.ireturn, 1) := by decide +kernel
theorem dX5_numberAt_0 : decode cX5_numberAt 0 = .ok (.aload_n 0, 1) := by decide +kernel
theorem dX5_numberAt_1 : decode cX5_numberAt 1 = .ok (.iload_n 1, 1) := by decide +kernel
theorem dX5_numberAt_2 : decode cX5_numberAt 2 = .ok (.invokevirtual 26, 3) := by decide +kernel
theorem dX5_numberAt_5 : decode cX5_numberAt 5 = .ok (.bipush 48, 2) := by decide +kernel
theorem dX5_numberAt_7 : decode cX5_numberAt 7 = .ok (.isub, 1) := by decide +kernel
theorem dX5_numberAt_8 : decode cX5_numberAt 8 = .ok (.istore_n 3, 1) := by decide +kernel
theorem dX5_numberAt_9 : decode cX5_numberAt 9 = .ok (.iload_n 2, 1) := by decide +kernel
theorem dX5_numberAt_10 : decode cX5_numberAt 10 = .ok (.iconst 1, 1) := by decide +kernel
theorem dX5_numberAt_11 : decode cX5_numberAt 11 = .ok (.if_icmp .ne 7, 3) := by decide +kernel
theorem dX5_numberAt_14 : decode cX5_numberAt 14 = .ok (.iload_n 3, 1) := by decide +kernel
theorem dX5_numberAt_15 : decode cX5_numberAt 15 = .ok (.goto 18, 3) := by decide +kernel
theorem dX5_numberAt_18 : decode cX5_numberAt 18 = .ok (.iload_n 3, 1) := by decide +kernel
theorem dX5_numberAt_19 : decode cX5_numberAt 19 = .ok (.bipush 10, 2) := by decide +kernel
theorem dX5_numberAt_21 : decode cX5_numberAt 21 = .ok (.imul, 1) := by decide +kernel
theorem dX5_numberAt_22 : decode cX5_numberAt 22 = .ok (.aload_n 0, 1) := by decide +kernel
theorem dX5_numberAt_23 : decode cX5_numberAt 23 = .ok (.iload_n 1, 1) := by decide +kernel
theorem dX5_numberAt_24 : decode cX5_numberAt 24 = .ok (.iconst 1, 1) := by decide +kernel
theorem dX5_numberAt_25 : decode cX5_numberAt 25 = .ok (.iadd, 1) := by decide +kernel
theorem dX5_numberAt_26 : decode cX5_numberAt 26 = .ok (.invokevirtual 26, 3) := by decide +kernel
theorem dX5_numberAt_29 : decode cX5_numberAt 29 = .ok (.iadd, 1) := by decide +kernel
theorem dX5_numberAt_30 : decode cX5_numberAt 30 = .ok (.bipush 48, 2) := by decide +kernel
theorem dX5_numberAt_32 : decode cX5_numberAt 32 = .ok (.isub, 1) := by decide +kernel
theorem dX5_numberAt_33 : decode cX5_numberAt 33 = .ok (.ireturn, 1) := by decide +kernel
theorem dX5_isFigure_0 : decode cX5_isFigure 0 = .ok (.iload_n 0, 1) := by decide +kernel
theorem dX5_isFigure_1 : decode cX5_isFigure 1 = .ok (.bipush 48, 2) := by decide +kernel
theorem dX5_isFigure_3 : decode cX5_isFigure 3 = .ok (.if_icmp .lt 13, 3) := by decide +kernel
theorem dX5_isFigure_6 : decode cX5_isFigure 6 = .ok (.iload_n 0, 1) := by decide +kernel
theorem dX5_isFigure_7 : decode cX5_isFigure 7 = .ok (.bipush 57, 2) := by decide +kernel
theorem dX5_isFigure_9 : decode cX5_isFigure 9 = .ok (.if_icmp .gt 7, 3) := by decide +kernel
theorem dX5_isFigure_12 : decode cX5_isFigure 12 = .ok (.iconst 1, 1) := by decide +kernel
theorem dX5_isFigure_13 : decode cX5_isFigure 13 = .ok (.goto 4, 3) := by decide +kernel
theorem dX5_isFigure_16 : decode cX5_isFigure 16 = .ok (.iconst 0, 1) := by decide +kernel
theorem dX5_isFigure_17 : decode cX5_isFigure 17 = .ok (.ireturn, 1) := by decide +kernel
end
section
theorem dL_law_0 : decode cL_law 0 = .ok (.new 7, 3) := by decide +kernel
theorem dL_law_3 : decode cL_law 3 = .ok (.dup, 1) := by decide +kernel
theorem dL_law_4 : decode cL_law 4 = .ok (.invokespecial 9, 3) := by decide +kernel
theorem dL_law_7 : decode cL_law 7 = .ok (.astore_n 1, 1) := by decide +kernel
theorem dL_law_8 : decode cL_law 8 = .ok (.new 10, 3) := by decide +kernel
theorem dL_law_11 : decode cL_law 11 = .ok (.dup, 1) := by decide +kernel
theorem dL_law_12 : decode cL_law 12 = .ok (.invokespecial 12, 3) := by decide +kernel
theorem dL_law_15 : decode cL_law 15 = .ok (.astore_n 2, 1) := by decide +kernel
theorem dL_law_16 : decode cL_law 16 = .ok (.iconst 0, 1) := by decide +kernel
theorem dL_law_17 : decode cL_law 17 = .ok (.istore_n 3, 1) := by decide +kernel
theorem dL_law_18 : decode cL_law 18 = .ok (.iload_n 3, 1) := by decide +kernel
theorem dL_law_19 : decode cL_law 19 = .ok (.aload_n 0, 1) := by decide +kernel
theorem dL_law_20 : decode cL_law 20 = .ok (.arraylength, 1) := by decide +kernel
theorem dL_law_21 : decode cL_law 21 = .ok (.iconst 5, 1) := by decide +kernel
theorem dL_law_22 : decode cL_law 22 = .ok (.isub, 1) := by decide +kernel
theorem dL_law_23 : decode cL_law 23 = .ok (.if_icmp .gt 823, 3) := by decide +kernel
theorem dL_law_26 : decode cL_law 26 = .ok (.aload_n 0, 1) := by decide +kernel
theorem dL_law_27 : decode cL_law 27 = .ok (.iload_n 3, 1) := by decide +kernel
theorem dL_law_28 : decode cL_law 28 = .ok (.iaload, 1) := by decide +kernel
theorem dL_law_29 : decode cL_law 29 = .ok (.bipush 31, 2) := by decide +kernel
theorem dL_law_31 : decode cL_law 31 = .ok (.iand, 1) := by decide +kernel
theorem dL_law_32 : decode cL_law 32 = .ok (.tableswitch 808 0 25 #[120, 143, 156, 169, 182, 215, 248, 281, 324, 347, 380, 393, 416, 459, 502, 545, 598, 631, 644, 657, 690, 703, 726, 759, 772, 785], 120) := by decide +kernel
theorem dL_law_152 : decode cL_law 152 = .ok (.aload_n 1, 1) := by decide +kernel
theorem dL_law_153 : decode cL_law 153 = .ok (.aload_n 0, 1) := by decide +kernel
theorem dL_law_154 : decode cL_law 154 = .ok (.iload_n 3, 1) := by decide +kernel
theorem dL_law_155 : decode cL_law 155 = .ok (.iconst 1, 1) := by decide +kernel
theorem dL_law_156 : decode cL_law 156 = .ok (.iadd, 1) := by decide +kernel
theorem dL_law_157 : decode cL_law 157 = .ok (.iaload, 1) := by decide +kernel
theorem dL_law_158 : decode cL_law 158 = .ok (.invokevirtual 13, 3) := by decide +kernel
theorem dL_law_161 : decode cL_law 161 = .ok (.aload_n 2, 1) := by decide +kernel
theorem dL_law_162 : decode cL_law 162 = .ok (.aload_n 0, 1) := by decide +kernel
theorem dL_law_163 : decode cL_law 163 = .ok (.iload_n 3, 1) := by decide +kernel
theorem dL_law_164 : decode cL_law 164 = .ok (.iconst 1, 1) := by decide +kernel
theorem dL_law_165 : decode cL_law 165 = .ok (.iadd, 1) := by decide +kernel
theorem dL_law_166 : decode cL_law 166 = .ok (.iaload, 1) := by decide +kernel
theorem dL_law_167 : decode cL_law 167 = .ok (.invokevirtual 17, 3) := by decide +kernel
theorem dL_law_170 : decode cL_law 170 = .ok (.if_icmp .eq 670, 3) := by decide +kernel
theorem dL_law_173 : decode cL_law 173 = .ok (.iconst 0, 1) := by decide +kernel
theorem dL_law_174 : decode cL_law 174 = .ok (.ireturn, 1) := by decide +kernel
theorem dL_law_175 : decode cL_law 175 = .ok (.aload_n 1, 1) := by decide +kernel
theorem dL_law_176 : decode cL_law 176 = .ok (.invokevirtual 18, 3) := by decide +kernel
theorem dL_law_179 : decode cL_law 179 = .ok (.aload_n 2, 1) := by decide +kernel
theorem dL_law_180 : decode cL_law 180 = .ok (.invokevirtual 22, 3) := by decide +kernel
theorem dL_law_183 : decode cL_law 183 = .ok (.if_icmp .eq 657, 3) := by decide +kernel
theorem dL_law_186 : decode cL_law 186 = .ok (.iconst 0, 1) := by decide +kernel
theorem dL_law_187 : decode cL_law 187 = .ok (.ireturn, 1) := by decide +kernel
theorem dL_law_188 : decode cL_law 188 = .ok (.aload_n 1, 1) := by decide +kernel
theorem dL_law_189 : decode cL_law 189 = .ok (.invokevirtual 23, 3) := by decide +kernel
theorem dL_law_192 : decode cL_law 192 = .ok (.aload_n 2, 1) := by decide +kernel
theorem dL_law_193 : decode cL_law 193 = .ok (.invokevirtual 26, 3) := by decide +kernel
theorem dL_law_196 : decode cL_law 196 = .ok (.if_icmp .eq 644, 3) := by decide +kernel
theorem dL_law_199 : decode cL_law 199 = .ok (.iconst 0, 1) := by decide +kernel
theorem dL_law_200 : decode cL_law 200 = .ok (.ireturn, 1) := by decide +kernel
theorem dL_law_201 : decode cL_law 201 = .ok (.aload_n 1, 1) := by decide +kernel
theorem dL_law_202 : decode cL_law 202 = .ok (.invokevirtual 27, 3) := by decide +kernel
theorem dL_law_205 : decode cL_law 205 = .ok (.aload_n 2, 1) := by decide +kernel
theorem dL_law_206 : decode cL_law 206 = .ok (.invokevirtual 30, 3) := by decide +kernel
theorem dL_law_209 : decode cL_law 209 = .ok (.if_icmp .eq 631, 3) := by decide +kernel
theorem dL_law_212 : decode cL_law 212 = .ok (.iconst 0, 1) := by decide +kernel
theorem dL_law_213 : decode cL_law 213 = .ok (.ireturn, 1) := by decide +kernel
theorem dL_law_214 : decode cL_law 214 = .ok (.aload_n 1, 1) := by decide +kernel
theorem dL_law_215 : decode cL_law 215 = .ok (.aload_n 0, 1) := by decide +kernel
theorem dL_law_216 : decode cL_law 216 = .ok (.iload_n 3, 1) := by decide +kernel
theorem dL_law_217 : decode cL_law 217 = .ok (.iconst 1, 1) := by decide +kernel
theorem dL_law_218 : decode cL_law 218 = .ok (.iadd, 1) := by decide +kernel
theorem dL_law_219 : decode cL_law 219 = .ok (.iaload, 1) := by decide +kernel
theorem dL_law_220 : decode cL_law 220 = .ok (.aload_n 0, 1) := by decide +kernel
theorem dL_law_221 : decode cL_law 221 = .ok (.iload_n 3, 1) := by decide +kernel
theorem dL_law_222 : decode cL_law 222 = .ok (.iconst 2, 1) := by decide +kernel
theorem dL_law_223 : decode cL_law 223 = .ok (.iadd, 1) := by decide +kernel
theorem dL_law_224 : decode cL_law 224 = .ok (.iaload, 1) := by decide +kernel
theorem dL_law_225 : decode cL_law 225 = .ok (.invokevirtual 31, 3) := by decide +kernel
theorem dL_law_228 : decode cL_law 228 = .ok (.aload_n 2, 1) := by decide +kernel
theorem dL_law_229 : decode cL_law 229 = .ok (.aload_n 0, 1) := by decide +kernel
theorem dL_law_230 : decode cL_law 230 = .ok (.iload_n 3, 1) := by decide +kernel
theorem dL_law_231 : decode cL_law 231 = .ok (.iconst 1, 1) := by decide +kernel
theorem dL_law_232 : decode cL_law 232 = .ok (.iadd, 1) := by decide +kernel
theorem dL_law_233 : decode cL_law 233 = .ok (.iaload, 1) := by decide +kernel
theorem dL_law_234 : decode cL_law 234 = .ok (.aload_n 0, 1) := by decide +kernel
theorem dL_law_235 : decode cL_law 235 = .ok (.iload_n 3, 1) := by decide +kernel
theorem dL_law_236 : decode cL_law 236 = .ok (.iconst 2, 1) := by decide +kernel
theorem dL_law_237 : decode cL_law 237 = .ok (.iadd, 1) := by decide +kernel
theorem dL_law_238 : decode cL_law 238 = .ok (.iaload, 1) := by decide +kernel
theorem dL_law_239 : decode cL_law 239 = .ok (.invokevirtual 35, 3) := by decide +kernel
theorem dL_law_242 : decode cL_law 242 = .ok (.if_icmp .eq 598, 3) := by decide +kernel
theorem dL_law_245 : decode cL_law 245 = .ok (.iconst 0, 1) := by decide +kernel
theorem dL_law_246 : decode cL_law 246 = .ok (.ireturn, 1) := by decide +kernel
theorem dL_law_247 : decode cL_law 247 = .ok (.aload_n 1, 1) := by decide +kernel
theorem dL_law_248 : decode cL_law 248 = .ok (.aload_n 0, 1) := by decide +kernel
theorem dL_law_249 : decode cL_law 249 = .ok (.iload_n 3, 1) := by decide +kernel
theorem dL_law_250 : decode cL_law 250 = .ok (.iconst 1, 1) := by decide +kernel
theorem dL_law_251 : decode cL_law 251 = .ok (.iadd, 1) := by decide +kernel
theorem dL_law_252 : decode cL_law 252 = .ok (.iaload, 1) := by decide +kernel
theorem dL_law_253 : decode cL_law 253 = .ok (.aload_n 0, 1) := by decide +kernel
theorem dL_law_254 : decode cL_law 254 = .ok (.iload_n 3, 1) := by decide +kernel
theorem dL_law_255 : decode cL_law 255 = .ok (.iconst 2, 1) := by decide +kernel
theorem dL_law_256 : decode cL_law 256 = .ok (.iadd, 1) := by decide +kernel
theorem dL_law_257 : decode cL_law 257 = .ok (.iaload, 1) := by decide +kernel
theorem dL_law_258 : decode cL_law 258 = .ok (.invokevirtual 36, 3) := by decide +kernel
theorem dL_law_261 : decode cL_law 261 = .ok (.aload_n 2, 1) := by decide +kernel
theorem dL_law_262 : decode cL_law 262 = .ok (.aload_n 0, 1) := by decide +kernel
theorem dL_law_263 : decode cL_law 263 = .ok (.iload_n 3, 1) := by decide +kernel
theorem dL_law_264 : decode cL_law 264 = .ok (.iconst 1, 1) := by decide +kernel
theorem dL_law_265 : decode cL_law 265 = .ok (.iadd, 1) := by decide +kernel
theorem dL_law_266 : decode cL_law 266 = .ok (.iaload, 1) := by decide +kernel
theorem dL_law_267 : decode cL_law 267 = .ok (.aload_n 0, 1) := by decide +kernel
theorem dL_law_268 : decode cL_law 268 = .ok (.iload_n 3, 1) := by decide +kernel
theorem dL_law_269 : decode cL_law 269 = .ok (.iconst 2, 1) := by decide +kernel
theorem dL_law_270 : decode cL_law 270 = .ok (.iadd, 1) := by decide +kernel
theorem dL_law_271 : decode cL_law 271 = .ok (.iaload, 1) := by decide +kernel
theorem dL_law_272 : decode cL_law 272 = .ok (.invokevirtual 39, 3) := by decide +kernel
theorem dL_law_275 : decode cL_law 275 = .ok (.if_icmp .eq 565, 3) := by decide +kernel
theorem dL_law_278 : decode cL_law 278 = .ok (.iconst 0, 1) := by decide +kernel
theorem dL_law_279 : decode cL_law 279 = .ok (.ireturn, 1) := by decide +kernel
theorem dL_law_280 : decode cL_law 280 = .ok (.aload_n 1, 1) := by decide +kernel
theorem dL_law_281 : decode cL_law 281 = .ok (.aload_n 0, 1) := by decide +kernel
theorem dL_law_282 : decode cL_law 282 = .ok (.iload_n 3, 1) := by decide +kernel
theorem dL_law_283 : decode cL_law 283 = .ok (.iconst 1, 1) := by decide +kernel
theorem dL_law_284 : decode cL_law 284 = .ok (.iadd, 1) := by decide +kernel
theorem dL_law_285 : decode cL_law 285 = .ok (.iaload, 1) := by decide +kernel
theorem dL_law_286 : decode cL_law 286 = .ok (.aload_n 0, 1) := by decide +kernel
theorem dL_law_287 : decode cL_law 287 = .ok (.iload_n 3, 1) := by decide +kernel
theorem dL_law_288 : decode cL_law 288 = .ok (.iconst 2, 1) := by decide +kernel
theorem dL_law_289 : decode cL_law 289 = .ok (.iadd, 1) := by decide +kernel
theorem dL_law_290 : decode cL_law 290 = .ok (.iaload, 1) := by decide +kernel
theorem dL_law_291 : decode cL_law 291 = .ok (.invokevirtual 40, 3) := by decide +kernel
theorem dL_law_294 : decode cL_law 294 = .ok (.aload_n 2, 1) := by decide +kernel
theorem dL_law_295 : decode cL_law 295 = .ok (.aload_n 0, 1) := by decide +kernel
theorem dL_law_296 : decode cL_law 296 = .ok (.iload_n 3, 1) := by decide +kernel
theorem dL_law_297 : decode cL_law 297 = .ok (.iconst 1, 1) := by decide +kernel
theorem dL_law_298 : decode cL_law 298 = .ok (.iadd, 1) := by decide +kernel
theorem dL_law_299 : decode cL_law 299 = .ok (.iaload, 1) := by decide +kernel
theorem dL_law_300 : decode cL_law 300 = .ok (.aload_n 0, 1) := by decide +kernel
theorem dL_law_301 : decode cL_law 301 = .ok (.iload_n 3, 1) := by decide +kernel
theorem dL_law_302 : decode cL_law 302 = .ok (.iconst 2, 1) := by decide +kernel
theorem dL_law_303 : decode cL_law 303 = .ok (.iadd, 1) := by decide +kernel
theorem dL_law_304 : decode cL_law 304 = .ok (.iaload, 1) := by decide +kernel
theorem dL_law_305 : decode cL_law 305 = .ok (.invokevirtual 43, 3) := by decide +kernel
theorem dL_law_308 : decode cL_law 308 = .ok (.if_icmp .eq 532, 3) := by decide +kernel
theorem dL_law_311 : decode cL_law 311 = .ok (.iconst 0, 1) := by decide +kernel
theorem dL_law_312 : decode cL_law 312 = .ok (.ireturn, 1) := by decide +kernel
theorem dL_law_313 : decode cL_law 313 = .ok (.aload_n 1, 1) := by decide +kernel
theorem dL_law_314 : decode cL_law 314 = .ok (.aload_n 0, 1) := by decide +kernel
theorem dL_law_315 : decode cL_law 315 = .ok (.iload_n 3, 1) := by decide +kernel
theorem dL_law_316 : decode cL_law 316 = .ok (.iconst 1, 1) := by decide +kernel
theorem dL_law_317 : decode cL_law 317 = .ok (.iadd, 1) := by decide +kernel
theorem dL_law_318 : decode cL_law 318 = .ok (.iaload, 1) := by decide +kernel
theorem dL_law_319 : decode cL_law 319 = .ok (.aload_n 0, 1) := by decide +kernel
theorem dL_law_320 : decode cL_law 320 = .ok (.iload_n 3, 1) := by decide +kernel
theorem dL_law_321 : decode cL_law 321 = .ok (.iconst 2, 1) := by decide +kernel
theorem dL_law_322 : decode cL_law 322 = .ok (.iadd, 1) := by decide +kernel
theorem dL_law_323 : decode cL_law 323 = .ok (.iaload, 1) := by decide +kernel
theorem dL_law_324 : decode cL_law 324 = .ok (.aload_n 0, 1) := by decide +kernel
theorem dL_law_325 : decode cL_law 325 = .ok (.iload_n 3, 1) := by decide +kernel
theorem dL_law_326 : decode cL_law 326 = .ok (.iconst 3, 1) := by decide +kernel
theorem dL_law_327 : decode cL_law 327 = .ok (.iadd, 1) := by decide +kernel
theorem dL_law_328 : decode cL_law 328 = .ok (.iaload, 1) := by decide +kernel
theorem dL_law_329 : decode cL_law 329 = .ok (.invokevirtual 44, 3) := by decide +kernel
theorem dL_law_332 : decode cL_law 332 = .ok (.aload_n 2, 1) := by decide +kernel
theorem dL_law_333 : decode cL_law 333 = .ok (.aload_n 0, 1) := by decide +kernel
theorem dL_law_334 : decode cL_law 334 = .ok (.iload_n 3, 1) := by decide +kernel
theorem dL_law_335 : decode cL_law 335 = .ok (.iconst 1, 1) := by decide +kernel
theorem dL_law_336 : decode cL_law 336 = .ok (.iadd, 1) := by decide +kernel
theorem dL_law_337 : decode cL_law 337 = .ok (.iaload, 1) := by decide +kernel
theorem dL_law_338 : decode cL_law 338 = .ok (.aload_n 0, 1) := by decide +kernel
theorem dL_law_339 : decode cL_law 339 = .ok (.iload_n 3, 1) := by decide +kernel
theorem dL_law_340 : decode cL_law 340 = .ok (.iconst 2, 1) := by decide +kernel
theorem dL_law_341 : decode cL_law 341 = .ok (.iadd, 1) := by decide +kernel
theorem dL_law_342 : decode cL_law 342 = .ok (.iaload, 1) := by decide +kernel
theorem dL_law_343 : decode cL_law 343 = .ok (.aload_n 0, 1) := by decide +kernel
theorem dL_law_344 : decode cL_law 344 = .ok (.iload_n 3, 1) := by decide +kernel
theorem dL_law_345 : decode cL_law 345 = .ok (.iconst 3, 1) := by decide +kernel
theorem dL_law_346 : decode cL_law 346 = .ok (.iadd, 1) := by decide +kernel
theorem dL_law_347 : decode cL_law 347 = .ok (.iaload, 1) := by decide +kernel
theorem dL_law_348 : decode cL_law 348 = .ok (.invokevirtual 48, 3) := by decide +kernel
theorem dL_law_351 : decode cL_law 351 = .ok (.if_icmp .eq 489, 3) := by decide +kernel
theorem dL_law_354 : decode cL_law 354 = .ok (.iconst 0, 1) := by decide +kernel
theorem dL_law_355 : decode cL_law 355 = .ok (.ireturn, 1) := by decide +kernel
theorem dL_law_356 : decode cL_law 356 = .ok (.aload_n 1, 1) := by decide +kernel
theorem dL_law_357 : decode cL_law 357 = .ok (.aload_n 0, 1) := by decide +kernel
theorem dL_law_358 : decode cL_law 358 = .ok (.iload_n 3, 1) := by decide +kernel
theorem dL_law_359 : decode cL_law 359 = .ok (.iconst 1, 1) := by decide +kernel
theorem dL_law_360 : decode cL_law 360 = .ok (.iadd, 1) := by decide +kernel
theorem dL_law_361 : decode cL_law 361 = .ok (.iaload, 1) := by decide +kernel
theorem dL_law_362 : decode cL_law 362 = .ok (.invokevirtual 49, 3) := by decide +kernel
theorem dL_law_365 : decode cL_law 365 = .ok (.aload_n 2, 1) := by decide +kernel
theorem dL_law_366 : decode cL_law 366 = .ok (.aload_n 0, 1) := by decide +kernel
theorem dL_law_367 : decode cL_law 367 = .ok (.iload_n 3, 1) := by decide +kernel
theorem dL_law_368 : decode cL_law 368 = .ok (.iconst 1, 1) := by decide +kernel
theorem dL_law_369 : decode cL_law 369 = .ok (.iadd, 1) := by decide +kernel
theorem dL_law_370 : decode cL_law 370 = .ok (.iaload, 1) := by decide +kernel
theorem dL_law_371 : decode cL_law 371 = .ok (.invokevirtual 52, 3) := by decide +kernel
theorem dL_law_374 : decode cL_law 374 = .ok (.if_icmp .eq 466, 3) := by decide +kernel
theorem dL_law_377 : decode cL_law 377 = .ok (.iconst 0, 1) := by decide +kernel
theorem dL_law_378 : decode cL_law 378 = .ok (.ireturn, 1) := by decide +kernel
theorem dL_law_379 : decode cL_law 379 = .ok (.aload_n 1, 1) := by decide +kernel
theorem dL_law_380 : decode cL_law 380 = .ok (.aload_n 0, 1) := by decide +kernel
theorem dL_law_381 : decode cL_law 381 = .ok (.iload_n 3, 1) := by decide +kernel
theorem dL_law_382 : decode cL_law 382 = .ok (.iconst 1, 1) := by decide +kernel
theorem dL_law_383 : decode cL_law 383 = .ok (.iadd, 1) := by decide +kernel
theorem dL_law_384 : decode cL_law 384 = .ok (.iaload, 1) := by decide +kernel
theorem dL_law_385 : decode cL_law 385 = .ok (.aload_n 0, 1) := by decide +kernel
theorem dL_law_386 : decode cL_law 386 = .ok (.iload_n 3, 1) := by decide +kernel
theorem dL_law_387 : decode cL_law 387 = .ok (.iconst 2, 1) := by decide +kernel
theorem dL_law_388 : decode cL_law 388 = .ok (.iadd, 1) := by decide +kernel
theorem dL_law_389 : decode cL_law 389 = .ok (.iaload, 1) := by decide +kernel
theorem dL_law_390 : decode cL_law 390 = .ok (.invokevirtual 53, 3) := by decide +kernel
theorem dL_law_393 : decode cL_law 393 = .ok (.aload_n 2, 1) := by decide +kernel
theorem dL_law_394 : decode cL_law 394 = .ok (.aload_n 0, 1) := by decide +kernel
theorem dL_law_395 : decode cL_law 395 = .ok (.iload_n 3, 1) := by decide +kernel
theorem dL_law_396 : decode cL_law 396 = .ok (.iconst 1, 1) := by decide +kernel
theorem dL_law_397 : decode cL_law 397 = .ok (.iadd, 1) := by decide +kernel
theorem dL_law_398 : decode cL_law 398 = .ok (.iaload, 1) := by decide +kernel
theorem dL_law_399 : decode cL_law 399 = .ok (.aload_n 0, 1) := by decide +kernel
theorem dL_law_400 : decode cL_law 400 = .ok (.iload_n 3, 1) := by decide +kernel
theorem dL_law_401 : decode cL_law 401 = .ok (.iconst 2, 1) := by decide +kernel
theorem dL_law_402 : decode cL_law 402 = .ok (.iadd, 1) := by decide +kernel
theorem dL_law_403 : decode cL_law 403 = .ok (.iaload, 1) := by decide +kernel
theorem dL_law_404 : decode cL_law 404 = .ok (.invokevirtual 56, 3) := by decide +kernel
theorem dL_law_407 : decode cL_law 407 = .ok (.if_icmp .eq 433, 3) := by decide +kernel
theorem dL_law_410 : decode cL_law 410 = .ok (.iconst 0, 1) := by decide +kernel
theorem dL_law_411 : decode cL_law 411 = .ok (.ireturn, 1) := by decide +kernel
theorem dL_law_412 : decode cL_law 412 = .ok (.aload_n 1, 1) := by decide +kernel
theorem dL_law_413 : decode cL_law 413 = .ok (.invokevirtual 57, 3) := by decide +kernel
theorem dL_law_416 : decode cL_law 416 = .ok (.aload_n 2, 1) := by decide +kernel
theorem dL_law_417 : decode cL_law 417 = .ok (.invokevirtual 60, 3) := by decide +kernel
theorem dL_law_420 : decode cL_law 420 = .ok (.if_icmp .eq 420, 3) := by decide +kernel
theorem dL_law_423 : decode cL_law 423 = .ok (.iconst 0, 1) := by decide +kernel
theorem dL_law_424 : decode cL_law 424 = .ok (.ireturn, 1) := by decide +kernel
theorem dL_law_425 : decode cL_law 425 = .ok (.aload_n 1, 1) := by decide +kernel
theorem dL_law_426 : decode cL_law 426 = .ok (.aload_n 0, 1) := by decide +kernel
theorem dL_law_427 : decode cL_law 427 = .ok (.iload_n 3, 1) := by decide +kernel
theorem dL_law_428 : decode cL_law 428 = .ok (.iconst 1, 1) := by decide +kernel
theorem dL_law_429 : decode cL_law 429 = .ok (.iadd, 1) := by decide +kernel
theorem dL_law_430 : decode cL_law 430 = .ok (.iaload, 1) := by decide +kernel
theorem dL_law_431 : decode cL_law 431 = .ok (.invokevirtual 61, 3) := by decide +kernel
theorem dL_law_434 : decode cL_law 434 = .ok (.aload_n 2, 1) := by decide +kernel
theorem dL_law_435 : decode cL_law 435 = .ok (.aload_n 0, 1) := by decide +kernel
theorem dL_law_436 : decode cL_law 436 = .ok (.iload_n 3, 1) := by decide +kernel
theorem dL_law_437 : decode cL_law 437 = .ok (.iconst 1, 1) := by decide +kernel
theorem dL_law_438 : decode cL_law 438 = .ok (.iadd, 1) := by decide +kernel
theorem dL_law_439 : decode cL_law 439 = .ok (.iaload, 1) := by decide +kernel
theorem dL_law_440 : decode cL_law 440 = .ok (.invokevirtual 64, 3) := by decide +kernel
theorem dL_law_443 : decode cL_law 443 = .ok (.if_icmp .eq 397, 3) := by decide +kernel
theorem dL_law_446 : decode cL_law 446 = .ok (.iconst 0, 1) := by decide +kernel
theorem dL_law_447 : decode cL_law 447 = .ok (.ireturn, 1) := by decide +kernel
theorem dL_law_448 : decode cL_law 448 = .ok (.aload_n 1, 1) := by decide +kernel
theorem dL_law_449 : decode cL_law 449 = .ok (.aload_n 0, 1) := by decide +kernel
theorem dL_law_450 : decode cL_law 450 = .ok (.iload_n 3, 1) := by decide +kernel
theorem dL_law_451 : decode cL_law 451 = .ok (.iconst 1, 1) := by decide +kernel
theorem dL_law_452 : decode cL_law 452 = .ok (.iadd, 1) := by decide +kernel
theorem dL_law_453 : decode cL_law 453 = .ok (.iaload, 1) := by decide +kernel
theorem dL_law_454 : decode cL_law 454 = .ok (.aload_n 0, 1) := by decide +kernel
theorem dL_law_455 : decode cL_law 455 = .ok (.iload_n 3, 1) := by decide +kernel
theorem dL_law_456 : decode cL_law 456 = .ok (.iconst 2, 1) := by decide +kernel
theorem dL_law_457 : decode cL_law 457 = .ok (.iadd, 1) := by decide +kernel
theorem dL_law_458 : decode cL_law 458 = .ok (.iaload, 1) := by decide +kernel
theorem dL_law_459 : decode cL_law 459 = .ok (.aload_n 0, 1) := by decide +kernel
theorem dL_law_460 : decode cL_law 460 = .ok (.iload_n 3, 1) := by decide +kernel
theorem dL_law_461 : decode cL_law 461 = .ok (.iconst 3, 1) := by decide +kernel
theorem dL_law_462 : decode cL_law 462 = .ok (.iadd, 1) := by decide +kernel
theorem dL_law_463 : decode cL_law 463 = .ok (.iaload, 1) := by decide +kernel
theorem dL_law_464 : decode cL_law 464 = .ok (.invokevirtual 65, 3) := by decide +kernel
theorem dL_law_467 : decode cL_law 467 = .ok (.aload_n 2, 1) := by decide +kernel
theorem dL_law_468 : decode cL_law 468 = .ok (.aload_n 0, 1) := by decide +kernel
theorem dL_law_469 : decode cL_law 469 = .ok (.iload_n 3, 1) := by decide +kernel
theorem dL_law_470 : decode cL_law 470 = .ok (.iconst 1, 1) := by decide +kernel
theorem dL_law_471 : decode cL_law 471 = .ok (.iadd, 1) := by decide +kernel
theorem dL_law_472 : decode cL_law 472 = .ok (.iaload, 1) := by decide +kernel
theorem dL_law_473 : decode cL_law 473 = .ok (.aload_n 0, 1) := by decide +kernel
theorem dL_law_474 : decode cL_law 474 = .ok (.iload_n 3, 1) := by decide +kernel
theorem dL_law_475 : decode cL_law 475 = .ok (.iconst 2, 1) := by decide +kernel
theorem dL_law_476 : decode cL_law 476 = .ok (.iadd, 1) := by decide +kernel
theorem dL_law_477 : decode cL_law 477 = .ok (.iaload, 1) := by decide +kernel
theorem dL_law_478 : decode cL_law 478 = .ok (.aload_n 0, 1) := by decide +kernel
theorem dL_law_479 : decode cL_law 479 = .ok (.iload_n 3, 1) := by decide +kernel
theorem dL_law_480 : decode cL_law 480 = .ok (.iconst 3, 1) := by decide +kernel
theorem dL_law_481 : decode cL_law 481 = .ok (.iadd, 1) := by decide +kernel
theorem dL_law_482 : decode cL_law 482 = .ok (.iaload, 1) := by decide +kernel
theorem dL_law_483 : decode cL_law 483 = .ok (.invokevirtual 68, 3) := by decide +kernel
theorem dL_law_486 : decode cL_law 486 = .ok (.if_icmp .eq 354, 3) := by decide +kernel
theorem dL_law_489 : decode cL_law 489 = .ok (.iconst 0, 1) := by decide +kernel
theorem dL_law_490 : decode cL_law 490 = .ok (.ireturn, 1) := by decide +kernel
theorem dL_law_491 : decode cL_law 491 = .ok (.aload_n 1, 1) := by decide +kernel
theorem dL_law_492 : decode cL_law 492 = .ok (.aload_n 0, 1) := by decide +kernel
theorem dL_law_493 : decode cL_law 493 = .ok (.iload_n 3, 1) := by decide +kernel
theorem dL_law_494 : decode cL_law 494 = .ok (.iconst 1, 1) := by decide +kernel
theorem dL_law_495 : decode cL_law 495 = .ok (.iadd, 1) := by decide +kernel
theorem dL_law_496 : decode cL_law 496 = .ok (.iaload, 1) := by decide +kernel
theorem dL_law_497 : decode cL_law 497 = .ok (.aload_n 0, 1) := by decide +kernel
theorem dL_law_498 : decode cL_law 498 = .ok (.iload_n 3, 1) := by decide +kernel
theorem dL_law_499 : decode cL_law 499 = .ok (.iconst 2, 1) := by decide +kernel
theorem dL_law_500 : decode cL_law 500 = .ok (.iadd, 1) := by decide +kernel
theorem dL_law_501 : decode cL_law 501 = .ok (.iaload, 1) := by decide +kernel
theorem dL_law_502 : decode cL_law 502 = .ok (.aload_n 0, 1) := by decide +kernel
theorem dL_law_503 : decode cL_law 503 = .ok (.iload_n 3, 1) := by decide +kernel
theorem dL_law_504 : decode cL_law 504 = .ok (.iconst 3, 1) := by decide +kernel
theorem dL_law_505 : decode cL_law 505 = .ok (.iadd, 1) := by decide +kernel
theorem dL_law_506 : decode cL_law 506 = .ok (.iaload, 1) := by decide +kernel
theorem dL_law_507 : decode cL_law 507 = .ok (.invokevirtual 69, 3) := by decide +kernel
theorem dL_law_510 : decode cL_law 510 = .ok (.aload_n 2, 1) := by decide +kernel
theorem dL_law_511 : decode cL_law 511 = .ok (.aload_n 0, 1) := by decide +kernel
theorem dL_law_512 : decode cL_law 512 = .ok (.iload_n 3, 1) := by decide +kernel
theorem dL_law_513 : decode cL_law 513 = .ok (.iconst 1, 1) := by decide +kernel
theorem dL_law_514 : decode cL_law 514 = .ok (.iadd, 1) := by decide +kernel
theorem dL_law_515 : decode cL_law 515 = .ok (.iaload, 1) := by decide +kernel
theorem dL_law_516 : decode cL_law 516 = .ok (.aload_n 0, 1) := by decide +kernel
theorem dL_law_517 : decode cL_law 517 = .ok (.iload_n 3, 1) := by decide +kernel
theorem dL_law_518 : decode cL_law 518 = .ok (.iconst 2, 1) := by decide +kernel
theorem dL_law_519 : decode cL_law 519 = .ok (.iadd, 1) := by decide +kernel
theorem dL_law_520 : decode cL_law 520 = .ok (.iaload, 1) := by decide +kernel
theorem dL_law_521 : decode cL_law 521 = .ok (.aload_n 0, 1) := by decide +kernel
theorem dL_law_522 : decode cL_law 522 = .ok (.iload_n 3, 1) := by decide +kernel
theorem dL_law_523 : decode cL_law 523 = .ok (.iconst 3, 1) := by decide +kernel
theorem dL_law_524 : decode cL_law 524 = .ok (.iadd, 1) := by decide +kernel
theorem dL_law_525 : decode cL_law 525 = .ok (.iaload, 1) := by decide +kernel
theorem dL_law_526 : decode cL_law 526 = .ok (.invokevirtual 72, 3) := by decide +kernel
theorem dL_law_529 : decode cL_law 529 = .ok (.if_icmp .eq 311, 3) := by decide +kernel
theorem dL_law_532 : decode cL_law 532 = .ok (.iconst 0, 1) := by decide +kernel
theorem dL_law_533 : decode cL_law 533 = .ok (.ireturn, 1) := by decide +kernel
theorem dL_law_534 : decode cL_law 534 = .ok (.aload_n 1, 1) := by decide +kernel
theorem dL_law_535 : decode cL_law 535 = .ok (.aload_n 0, 1) := by decide +kernel
theorem dL_law_536 : decode cL_law 536 = .ok (.iload_n 3, 1) := by decide +kernel
theorem dL_law_537 : decode cL_law 537 = .ok (.iconst 1, 1) := by decide +kernel
theorem dL_law_538 : decode cL_law 538 = .ok (.iadd, 1) := by decide +kernel
theorem dL_law_539 : decode cL_law 539 = .ok (.iaload, 1) := by decide +kernel
theorem dL_law_540 : decode cL_law 540 = .ok (.aload_n 0, 1) := by decide +kernel
theorem dL_law_541 : decode cL_law 541 = .ok (.iload_n 3, 1) := by decide +kernel
theorem dL_law_542 : decode cL_law 542 = .ok (.iconst 2, 1) := by decide +kernel
theorem dL_law_543 : decode cL_law 543 = .ok (.iadd, 1) := by decide +kernel
theorem dL_law_544 : decode cL_law 544 = .ok (.iaload, 1) := by decide +kernel
theorem dL_law_545 : decode cL_law 545 = .ok (.aload_n 0, 1) := by decide +kernel
theorem dL_law_546 : decode cL_law 546 = .ok (.iload_n 3, 1) := by decide +kernel
theorem dL_law_547 : decode cL_law 547 = .ok (.iconst 3, 1) := by decide +kernel
theorem dL_law_548 : decode cL_law 548 = .ok (.iadd, 1) := by decide +kernel
theorem dL_law_549 : decode cL_law 549 = .ok (.iaload, 1) := by decide +kernel
theorem dL_law_550 : decode cL_law 550 = .ok (.invokevirtual 73, 3) := by decide +kernel
theorem dL_law_553 : decode cL_law 553 = .ok (.aload_n 2, 1) := by decide +kernel
theorem dL_law_554 : decode cL_law 554 = .ok (.aload_n 0, 1) := by decide +kernel
theorem dL_law_555 : decode cL_law 555 = .ok (.iload_n 3, 1) := by decide +kernel
theorem dL_law_556 : decode cL_law 556 = .ok (.iconst 1, 1) := by decide +kernel
theorem dL_law_557 : decode cL_law 557 = .ok (.iadd, 1) := by decide +kernel
theorem dL_law_558 : decode cL_law 558 = .ok (.iaload, 1) := by decide +kernel
theorem dL_law_559 : decode cL_law 559 = .ok (.aload_n 0, 1) := by decide +kernel
theorem dL_law_560 : decode cL_law 560 = .ok (.iload_n 3, 1) := by decide +kernel
theorem dL_law_561 : decode cL_law 561 = .ok (.iconst 2, 1) := by decide +kernel
theorem dL_law_562 : decode cL_law 562 = .ok (.iadd, 1) := by decide +kernel
theorem dL_law_563 : decode cL_law 563 = .ok (.iaload, 1) := by decide +kernel
theorem dL_law_564 : decode cL_law 564 = .ok (.aload_n 0, 1) := by decide +kernel
theorem dL_law_565 : decode cL_law 565 = .ok (.iload_n 3, 1) := by decide +kernel
theorem dL_law_566 : decode cL_law 566 = .ok (.iconst 3, 1) := by decide +kernel
theorem dL_law_567 : decode cL_law 567 = .ok (.iadd, 1) := by decide +kernel
theorem dL_law_568 : decode cL_law 568 = .ok (.iaload, 1) := by decide +kernel
theorem dL_law_569 : decode cL_law 569 = .ok (.invokevirtual 76, 3) := by decide +kernel
theorem dL_law_572 : decode cL_law 572 = .ok (.if_icmp .eq 268, 3) := by decide +kernel
theorem dL_law_575 : decode cL_law 575 = .ok (.iconst 0, 1) := by decide +kernel
theorem dL_law_576 : decode cL_law 576 = .ok (.ireturn, 1) := by decide +kernel
theorem dL_law_577 : decode cL_law 577 = .ok (.aload_n 1, 1) := by decide +kernel
theorem dL_law_578 : decode cL_law 578 = .ok (.aload_n 0, 1) := by decide +kernel
theorem dL_law_579 : decode cL_law 579 = .ok (.iload_n 3, 1) := by decide +kernel
theorem dL_law_580 : decode cL_law 580 = .ok (.iconst 1, 1) := by decide +kernel
theorem dL_law_581 : decode cL_law 581 = .ok (.iadd, 1) := by decide +kernel
theorem dL_law_582 : decode cL_law 582 = .ok (.iaload, 1) := by decide +kernel
theorem dL_law_583 : decode cL_law 583 = .ok (.aload_n 0, 1) := by decide +kernel
theorem dL_law_584 : decode cL_law 584 = .ok (.iload_n 3, 1) := by decide +kernel
theorem dL_law_585 : decode cL_law 585 = .ok (.iconst 2, 1) := by decide +kernel
theorem dL_law_586 : decode cL_law 586 = .ok (.iadd, 1) := by decide +kernel
theorem dL_law_587 : decode cL_law 587 = .ok (.iaload, 1) := by decide +kernel
theorem dL_law_588 : decode cL_law 588 = .ok (.aload_n 0, 1) := by decide +kernel
theorem dL_law_589 : decode cL_law 589 = .ok (.iload_n 3, 1) := by decide +kernel
theorem dL_law_590 : decode cL_law 590 = .ok (.iconst 3, 1) := by decide +kernel
theorem dL_law_591 : decode cL_law 591 = .ok (.iadd, 1) := by decide +kernel
theorem dL_law_592 : decode cL_law 592 = .ok (.iaload, 1) := by decide +kernel
theorem dL_law_593 : decode cL_law 593 = .ok (.aload_n 0, 1) := by decide +kernel
theorem dL_law_594 : decode cL_law 594 = .ok (.iload_n 3, 1) := by decide +kernel
theorem dL_law_595 : decode cL_law 595 = .ok (.iconst 4, 1) := by decide +kernel
theorem dL_law_596 : decode cL_law 596 = .ok (.iadd, 1) := by decide +kernel
theorem dL_law_597 : decode cL_law 597 = .ok (.iaload, 1) := by decide +kernel
theorem dL_law_598 : decode cL_law 598 = .ok (.invokevirtual 77, 3) := by decide +kernel
theorem dL_law_601 : decode cL_law 601 = .ok (.aload_n 2, 1) := by decide +kernel
theorem dL_law_602 : decode cL_law 602 = .ok (.aload_n 0, 1) := by decide +kernel
theorem dL_law_603 : decode cL_law 603 = .ok (.iload_n 3, 1) := by decide +kernel
theorem dL_law_604 : decode cL_law 604 = .ok (.iconst 1, 1) := by decide +kernel
theorem dL_law_605 : decode cL_law 605 = .ok (.iadd, 1) := by decide +kernel
theorem dL_law_606 : decode cL_law 606 = .ok (.iaload, 1) := by decide +kernel
theorem dL_law_607 : decode cL_law 607 = .ok (.aload_n 0, 1) := by decide +kernel
theorem dL_law_608 : decode cL_law 608 = .ok (.iload_n 3, 1) := by decide +kernel
theorem dL_law_609 : decode cL_law 609 = .ok (.iconst 2, 1) := by decide +kernel
theorem dL_law_610 : decode cL_law 610 = .ok (.iadd, 1) := by decide +kernel
theorem dL_law_611 : decode cL_law 611 = .ok (.iaload, 1) := by decide +kernel
theorem dL_law_612 : decode cL_law 612 = .ok (.aload_n 0, 1) := by decide +kernel
theorem dL_law_613 : decode cL_law 613 = .ok (.iload_n 3, 1) := by decide +kernel
theorem dL_law_614 : decode cL_law 614 = .ok (.iconst 3, 1) := by decide +kernel
theorem dL_law_615 : decode cL_law 615 = .ok (.iadd, 1) := by decide +kernel
theorem dL_law_616 : decode cL_law 616 = .ok (.iaload, 1) := by decide +kernel
theorem dL_law_617 : decode cL_law 617 = .ok (.aload_n 0, 1) := by decide +kernel
theorem dL_law_618 : decode cL_law 618 = .ok (.iload_n 3, 1) := by decide +kernel
theorem dL_law_619 : decode cL_law 619 = .ok (.iconst 4, 1) := by decide +kernel
theorem dL_law_620 : decode cL_law 620 = .ok (.iadd, 1) := by decide +kernel
theorem dL_law_621 : decode cL_law 621 = .ok (.iaload, 1) := by decide +kernel
theorem dL_law_622 : decode cL_law 622 = .ok (.invokevirtual 81, 3) := by decide +kernel
theorem dL_law_625 : decode cL_law 625 = .ok (.if_icmp .eq 215, 3) := by decide +kernel
theorem dL_law_628 : decode cL_law 628 = .ok (.iconst 0, 1) := by decide +kernel
theorem dL_law_629 : decode cL_law 629 = .ok (.ireturn, 1) := by decide +kernel
theorem dL_law_630 : decode cL_law 630 = .ok (.aload_n 1, 1) := by decide +kernel
theorem dL_law_631 : decode cL_law 631 = .ok (.aload_n 0, 1) := by decide +kernel
theorem dL_law_632 : decode cL_law 632 = .ok (.iload_n 3, 1) := by decide +kernel
theorem dL_law_633 : decode cL_law 633 = .ok (.iconst 1, 1) := by decide +kernel
theorem dL_law_634 : decode cL_law 634 = .ok (.iadd, 1) := by decide +kernel
theorem dL_law_635 : decode cL_law 635 = .ok (.iaload, 1) := by decide +kernel
theorem dL_law_636 : decode cL_law 636 = .ok (.aload_n 0, 1) := by decide +kernel
theorem dL_law_637 : decode cL_law 637 = .ok (.iload_n 3, 1) := by decide +kernel
theorem dL_law_638 : decode cL_law 638 = .ok (.iconst 2, 1) := by decide +kernel
theorem dL_law_639 : decode cL_law 639 = .ok (.iadd, 1) := by decide +kernel
theorem dL_law_640 : decode cL_law 640 = .ok (.iaload, 1) := by decide +kernel
theorem dL_law_641 : decode cL_law 641 = .ok (.invokevirtual 82, 3) := by decide +kernel
theorem dL_law_644 : decode cL_law 644 = .ok (.aload_n 2, 1) := by decide +kernel
theorem dL_law_645 : decode cL_law 645 = .ok (.aload_n 0, 1) := by decide +kernel
theorem dL_law_646 : decode cL_law 646 = .ok (.iload_n 3, 1) := by decide +kernel
theorem dL_law_647 : decode cL_law 647 = .ok (.iconst 1, 1) := by decide +kernel
theorem dL_law_648 : decode cL_law 648 = .ok (.iadd, 1) := by decide +kernel
theorem dL_law_649 : decode cL_law 649 = .ok (.iaload, 1) := by decide +kernel
theorem dL_law_650 : decode cL_law 650 = .ok (.aload_n 0, 1) := by decide +kernel
theorem dL_law_651 : decode cL_law 651 = .ok (.iload_n 3, 1) := by decide +kernel
theorem dL_law_652 : decode cL_law 652 = .ok (.iconst 2, 1) := by decide +kernel
theorem dL_law_653 : decode cL_law 653 = .ok (.iadd, 1) := by decide +kernel
theorem dL_law_654 : decode cL_law 654 = .ok (.iaload, 1) := by decide +kernel
theorem dL_law_655 : decode cL_law 655 = .ok (.invokevirtual 85, 3) := by decide +kernel
theorem dL_law_658 : decode cL_law 658 = .ok (.if_icmp .eq 182, 3) := by decide +kernel
theorem dL_law_661 : decode cL_law 661 = .ok (.iconst 0, 1) := by decide +kernel
theorem dL_law_662 : decode cL_law 662 = .ok (.ireturn, 1) := by decide +kernel
theorem dL_law_663 : decode cL_law 663 = .ok (.aload_n 1, 1) := by decide +kernel
theorem dL_law_664 : decode cL_law 664 = .ok (.invokevirtual 86, 3) := by decide +kernel
theorem dL_law_667 : decode cL_law 667 = .ok (.aload_n 2, 1) := by decide +kernel
theorem dL_law_668 : decode cL_law 668 = .ok (.invokevirtual 89, 3) := by decide +kernel
theorem dL_law_671 : decode cL_law 671 = .ok (.if_icmp .eq 169, 3) := by decide +kernel
theorem dL_law_674 : decode cL_law 674 = .ok (.iconst 0, 1) := by decide +kernel
theorem dL_law_675 : decode cL_law 675 = .ok (.ireturn, 1) := by decide +kernel
theorem dL_law_676 : decode cL_law 676 = .ok (.aload_n 1, 1) := by decide +kernel
theorem dL_law_677 : decode cL_law 677 = .ok (.invokevirtual 90, 3) := by decide +kernel
theorem dL_law_680 : decode cL_law 680 = .ok (.aload_n 2, 1) := by decide +kernel
theorem dL_law_681 : decode cL_law 681 = .ok (.invokevirtual 93, 3) := by decide +kernel
theorem dL_law_684 : decode cL_law 684 = .ok (.if_icmp .eq 156, 3) := by decide +kernel
theorem dL_law_687 : decode cL_law 687 = .ok (.iconst 0, 1) := by decide +kernel
theorem dL_law_688 : decode cL_law 688 = .ok (.ireturn, 1) := by decide +kernel
theorem dL_law_689 : decode cL_law 689 = .ok (.aload_n 1, 1) := by decide +kernel
theorem dL_law_690 : decode cL_law 690 = .ok (.aload_n 0, 1) := by decide +kernel
theorem dL_law_691 : decode cL_law 691 = .ok (.iload_n 3, 1) := by decide +kernel
theorem dL_law_692 : decode cL_law 692 = .ok (.iconst 1, 1) := by decide +kernel
theorem dL_law_693 : decode cL_law 693 = .ok (.iadd, 1) := by decide +kernel
theorem dL_law_694 : decode cL_law 694 = .ok (.iaload, 1) := by decide +kernel
theorem dL_law_695 : decode cL_law 695 = .ok (.aload_n 0, 1) := by decide +kernel
theorem dL_law_696 : decode cL_law 696 = .ok (.iload_n 3, 1) := by decide +kernel
theorem dL_law_697 : decode cL_law 697 = .ok (.iconst 2, 1) := by decide +kernel
theorem dL_law_698 : decode cL_law 698 = .ok (.iadd, 1) := by decide +kernel
theorem dL_law_699 : decode cL_law 699 = .ok (.iaload, 1) := by decide +kernel
theorem dL_law_700 : decode cL_law 700 = .ok (.invokevirtual 94, 3) := by decide +kernel
theorem dL_law_703 : decode cL_law 703 = .ok (.aload_n 2, 1) := by decide +kernel
theorem dL_law_704 : decode cL_law 704 = .ok (.aload_n 0, 1) := by decide +kernel
theorem dL_law_705 : decode cL_law 705 = .ok (.iload_n 3, 1) := by decide +kernel
theorem dL_law_706 : decode cL_law 706 = .ok (.iconst 1, 1) := by decide +kernel
theorem dL_law_707 : decode cL_law 707 = .ok (.iadd, 1) := by decide +kernel
theorem dL_law_708 : decode cL_law 708 = .ok (.iaload, 1) := by decide +kernel
theorem dL_law_709 : decode cL_law 709 = .ok (.aload_n 0, 1) := by decide +kernel
theorem dL_law_710 : decode cL_law 710 = .ok (.iload_n 3, 1) := by decide +kernel
theorem dL_law_711 : decode cL_law 711 = .ok (.iconst 2, 1) := by decide +kernel
theorem dL_law_712 : decode cL_law 712 = .ok (.iadd, 1) := by decide +kernel
theorem dL_law_713 : decode cL_law 713 = .ok (.iaload, 1) := by decide +kernel
theorem dL_law_714 : decode cL_law 714 = .ok (.invokevirtual 97, 3) := by decide +kernel
theorem dL_law_717 : decode cL_law 717 = .ok (.if_icmp .eq 123, 3) := by decide +kernel
theorem dL_law_720 : decode cL_law 720 = .ok (.iconst 0, 1) := by decide +kernel
theorem dL_law_721 : decode cL_law 721 = .ok (.ireturn, 1) := by decide +kernel
theorem dL_law_722 : decode cL_law 722 = .ok (.aload_n 1, 1) := by decide +kernel
theorem dL_law_723 : decode cL_law 723 = .ok (.invokevirtual 98, 3) := by decide +kernel
theorem dL_law_726 : decode cL_law 726 = .ok (.aload_n 2, 1) := by decide +kernel
theorem dL_law_727 : decode cL_law 727 = .ok (.invokevirtual 101, 3) := by decide +kernel
theorem dL_law_730 : decode cL_law 730 = .ok (.if_icmp .eq 110, 3) := by decide +kernel
theorem dL_law_733 : decode cL_law 733 = .ok (.iconst 0, 1) := by decide +kernel
theorem dL_law_734 : decode cL_law 734 = .ok (.ireturn, 1) := by decide +kernel
theorem dL_law_735 : decode cL_law 735 = .ok (.aload_n 1, 1) := by decide +kernel
theorem dL_law_736 : decode cL_law 736 = .ok (.aload_n 0, 1) := by decide +kernel
theorem dL_law_737 : decode cL_law 737 = .ok (.iload_n 3, 1) := by decide +kernel
theorem dL_law_738 : decode cL_law 738 = .ok (.iconst 1, 1) := by decide +kernel
theorem dL_law_739 : decode cL_law 739 = .ok (.iadd, 1) := by decide +kernel
theorem dL_law_740 : decode cL_law 740 = .ok (.iaload, 1) := by decide +kernel
theorem dL_law_741 : decode cL_law 741 = .ok (.invokevirtual 102, 3) := by decide +kernel
theorem dL_law_744 : decode cL_law 744 = .ok (.aload_n 2, 1) := by decide +kernel
theorem dL_law_745 : decode cL_law 745 = .ok (.aload_n 0, 1) := by decide +kernel
theorem dL_law_746 : decode cL_law 746 = .ok (.iload_n 3, 1) := by decide +kernel
theorem dL_law_747 : decode cL_law 747 = .ok (.iconst 1, 1) := by decide +kernel
theorem dL_law_748 : decode cL_law 748 = .ok (.iadd, 1) := by decide +kernel
theorem dL_law_749 : decode cL_law 749 = .ok (.iaload, 1) := by decide +kernel
theorem dL_law_750 : decode cL_law 750 = .ok (.invokevirtual 105, 3) := by decide +kernel
theorem dL_law_753 : decode cL_law 753 = .ok (.if_icmp .eq 87, 3) := by decide +kernel
theorem dL_law_756 : decode cL_law 756 = .ok (.iconst 0, 1) := by decide +kernel
theorem dL_law_757 : decode cL_law 757 = .ok (.ireturn, 1) := by decide +kernel
theorem dL_law_758 : decode cL_law 758 = .ok (.aload_n 1, 1) := by decide +kernel
theorem dL_law_759 : decode cL_law 759 = .ok (.aload_n 0, 1) := by decide +kernel
theorem dL_law_760 : decode cL_law 760 = .ok (.iload_n 3, 1) := by decide +kernel
theorem dL_law_761 : decode cL_law 761 = .ok (.iconst 1, 1) := by decide +kernel
theorem dL_law_762 : decode cL_law 762 = .ok (.iadd, 1) := by decide +kernel
theorem dL_law_763 : decode cL_law 763 = .ok (.iaload, 1) := by decide +kernel
theorem dL_law_764 : decode cL_law 764 = .ok (.aload_n 0, 1) := by decide +kernel
theorem dL_law_765 : decode cL_law 765 = .ok (.iload_n 3, 1) := by decide +kernel
theorem dL_law_766 : decode cL_law 766 = .ok (.iconst 2, 1) := by decide +kernel
theorem dL_law_767 : decode cL_law 767 = .ok (.iadd, 1) := by decide +kernel
theorem dL_law_768 : decode cL_law 768 = .ok (.iaload, 1) := by decide +kernel
theorem dL_law_769 : decode cL_law 769 = .ok (.invokevirtual 106, 3) := by decide +kernel
theorem dL_law_772 : decode cL_law 772 = .ok (.aload_n 2, 1) := by decide +kernel
theorem dL_law_773 : decode cL_law 773 = .ok (.aload_n 0, 1) := by decide +kernel
theorem dL_law_774 : decode cL_law 774 = .ok (.iload_n 3, 1) := by decide +kernel
theorem dL_law_775 : decode cL_law 775 = .ok (.iconst 1, 1) := by decide +kernel
theorem dL_law_776 : decode cL_law 776 = .ok (.iadd, 1) := by decide +kernel
theorem dL_law_777 : decode cL_law 777 = .ok (.iaload, 1) := by decide +kernel
theorem dL_law_778 : decode cL_law 778 = .ok (.aload_n 0, 1) := by decide +kernel
theorem dL_law_779 : decode cL_law 779 = .ok (.iload_n 3, 1) := by decide +kernel
theorem dL_law_780 : decode cL_law 780 = .ok (.iconst 2, 1) := by decide +kernel
theorem dL_law_781 : decode cL_law 781 = .ok (.iadd, 1) := by decide +kernel
theorem dL_law_782 : decode cL_law 782 = .ok (.iaload, 1) := by decide +kernel
theorem dL_law_783 : decode cL_law 783 = .ok (.invokevirtual 109, 3) := by decide +kernel
theorem dL_law_786 : decode cL_law 786 = .ok (.if_icmp .eq 54, 3) := by decide +kernel
theorem dL_law_789 : decode cL_law 789 = .ok (.iconst 0, 1) := by decide +kernel
theorem dL_law_790 : decode cL_law 790 = .ok (.ireturn, 1) := by decide +kernel
theorem dL_law_791 : decode cL_law 791 = .ok (.aload_n 1, 1) := by decide +kernel
theorem dL_law_792 : decode cL_law 792 = .ok (.invokevirtual 110, 3) := by decide +kernel
theorem dL_law_795 : decode cL_law 795 = .ok (.aload_n 2, 1) := by decide +kernel
theorem dL_law_796 : decode cL_law 796 = .ok (.invokevirtual 113, 3) := by decide +kernel
theorem dL_law_799 : decode cL_law 799 = .ok (.if_icmp .eq 41, 3) := by decide +kernel
theorem dL_law_802 : decode cL_law 802 = .ok (.iconst 0, 1) := by decide +kernel
theorem dL_law_803 : decode cL_law 803 = .ok (.ireturn, 1) := by decide +kernel
theorem dL_law_804 : decode cL_law 804 = .ok (.aload_n 1, 1) := by decide +kernel
theorem dL_law_805 : decode cL_law 805 = .ok (.invokevirtual 114, 3) := by decide +kernel
theorem dL_law_808 : decode cL_law 808 = .ok (.aload_n 2, 1) := by decide +kernel
theorem dL_law_809 : decode cL_law 809 = .ok (.invokevirtual 117, 3) := by decide +kernel
theorem dL_law_812 : decode cL_law 812 = .ok (.if_icmp .eq 28, 3) := by decide +kernel
theorem dL_law_815 : decode cL_law 815 = .ok (.iconst 0, 1) := by decide +kernel
theorem dL_law_816 : decode cL_law 816 = .ok (.ireturn, 1) := by decide +kernel
theorem dL_law_817 : decode cL_law 817 = .ok (.aload_n 1, 1) := by decide +kernel
theorem dL_law_818 : decode cL_law 818 = .ok (.aload_n 0, 1) := by decide +kernel
theorem dL_law_819 : decode cL_law 819 = .ok (.iload_n 3, 1) := by decide +kernel
theorem dL_law_820 : decode cL_law 820 = .ok (.iconst 1, 1) := by decide +kernel
theorem dL_law_821 : decode cL_law 821 = .ok (.iadd, 1) := by decide +kernel
theorem dL_law_822 : decode cL_law 822 = .ok (.iaload, 1) := by decide +kernel
theorem dL_law_823 : decode cL_law 823 = .ok (.invokevirtual 118, 3) := by decide +kernel
theorem dL_law_826 : decode cL_law 826 = .ok (.aload_n 2, 1) := by decide +kernel
theorem dL_law_827 : decode cL_law 827 = .ok (.aload_n 0, 1) := by decide +kernel
theorem dL_law_828 : decode cL_law 828 = .ok (.iload_n 3, 1) := by decide +kernel
theorem dL_law_829 : decode cL_law 829 = .ok (.iconst 1, 1) := by decide +kernel
theorem dL_law_830 : decode cL_law 830 = .ok (.iadd, 1) := by decide +kernel
theorem dL_law_831 : decode cL_law 831 = .ok (.iaload, 1) := by decide +kernel
theorem dL_law_832 : decode cL_law 832 = .ok (.invokevirtual 121, 3) := by decide +kernel
theorem dL_law_835 : decode cL_law 835 = .ok (.if_icmp .eq 5, 3) := by decide +kernel
theorem dL_law_838 : decode cL_law 838 = .ok (.iconst 0, 1) := by decide +kernel
theorem dL_law_839 : decode cL_law 839 = .ok (.ireturn, 1) := by decide +kernel
theorem dL_law_840 : decode cL_law 840 = .ok (.iinc 3 5, 3) := by decide +kernel
theorem dL_law_843 : decode cL_law 843 = .ok (.goto (-825), 3) := by decide +kernel
theorem dL_law_846 : decode cL_law 846 = .ok (.iconst 1, 1) := by decide +kernel
theorem dL_law_847 : decode cL_law 847 = .ok (.ireturn, 1) := by decide +kernel
theorem dJ9_max_7cf53_0 : decode cJ9_max_7cf53 0 = .ok (.iload_n 0, 1) := by decide +kernel
theorem dJ9_max_7cf53_1 : decode cJ9_max_7cf53 1 = .ok (.iload_n 1, 1) := by decide +kernel
theorem dJ9_max_7cf53_2 : decode cJ9_max_7cf53 2 = .ok (.if_icmp .lt 7, 3) := by decide +kernel
theorem dJ9_max_7cf53_5 : decode cJ9_max_7cf53 5 = .ok (.iload_n 0, 1) := by decide +kernel
theorem dJ9_max_7cf53_6 : decode cJ9_max_7cf53 6 = .ok (.goto 4, 3) := by decide +kernel
theorem dJ9_max_7cf53_9 : decode cJ9_max_7cf53 9 = .ok (.iload_n 1, 1) := by decide +kernel
theorem dJ9_max_7cf53_10 : decode cJ9_max_7cf53 10 = .ok (.ireturn, 1) := by decide +kernel
theorem dJ9_min_7cf53_0 : decode cJ9_min_7cf53 0 = .ok (.iload_n 0, 1) := by decide +kernel
theorem dJ9_min_7cf53_1 : decode cJ9_min_7cf53 1 = .ok (.iload_n 1, 1) := by decide +kernel
theorem dJ9_min_7cf53_2 : decode cJ9_min_7cf53 2 = .ok (.if_icmp .gt 7, 3) := by decide +kernel
theorem dJ9_min_7cf53_5 : decode cJ9_min_7cf53 5 = .ok (.iload_n 0, 1) := by decide +kernel
theorem dJ9_min_7cf53_6 : decode cJ9_min_7cf53 6 = .ok (.goto 4, 3) := by decide +kernel
theorem dJ9_min_7cf53_9 : decode cJ9_min_7cf53 9 = .ok (.iload_n 1, 1) := by decide +kernel
theorem dJ9_min_7cf53_10 : decode cJ9_min_7cf53 10 = .ok (.ireturn, 1) := by decide +kernel
theorem dJ0_length_8abf5_0 : decode cJ0_length_8abf5 0 = .ok (.aload_n 0, 1) := by decide +kernel
theorem dJ0_length_8abf5_1 : decode cJ0_length_8abf5 1 = .ok (.getfield 9, 3) := by decide +kernel
theorem dJ0_length_8abf5_4 : decode cJ0_length_8abf5 4 = .ok (.arraylength, 1) := by decide +kernel
theorem dJ0_length_8abf5_5 : decode cJ0_length_8abf5 5 = .ok (.aload_n 0, 1) := by decide +kernel
theorem dJ0_length_8abf5_6 : decode cJ0_length_8abf5 6 = .ok (.invokevirtual 335, 3) := by decide +kernel
theorem dJ0_length_8abf5_9 : decode cJ0_length_8abf5 9 = .ok (.ishr, 1) := by decide +kernel
theorem dJ0_length_8abf5_10 : decode cJ0_length_8abf5 10 = .ok (.ireturn, 1) := by decide +kernel
theorem dJ0_charAt_5068e_0 : decode cJ0_charAt_5068e 0 = .ok (.aload_n 0, 1) := by decide +kernel
theorem dJ0_charAt_5068e_1 : decode cJ0_charAt_5068e 1 = .ok (.invokevirtual 492, 3) := by decide +kernel
theorem dJ0_charAt_5068e_4 : decode cJ0_charAt_5068e 4 = .ok (.ifCond .eq 12, 3) := by decide +kernel
theorem dJ0_charAt_5068e_7 : decode cJ0_charAt_5068e 7 = .ok (.aload_n 0, 1) := by decide +kernel
theorem dJ0_charAt_5068e_8 : decode cJ0_charAt_5068e 8 = .ok (.getfield 9, 3) := by decide +kernel
theorem dJ0_charAt_5068e_11 : decode cJ0_charAt_5068e 11 = .ok (.iload_n 1, 1) := by decide +kernel
theorem dJ0_charAt_5068e_12 : decode cJ0_charAt_5068e 12 = .ok (.invokestatic 495, 3) := by decide +kernel
theorem dJ0_charAt_5068e_15 : decode cJ0_charAt_5068e 15 = .ok (.ireturn, 1) := by decide +kernel
theorem dJ0_charAt_5068e_16 : decode cJ0_charAt_5068e 16 = .ok (.aload_n 0, 1) := by decide +kernel
theorem dJ0_charAt_5068e_17 : decode cJ0_charAt_5068e 17 = .ok (.getfield 9, 3) := by decide +kernel
theorem dJ0_charAt_5068e_20 : decode cJ0_charAt_5068e 20 = .ok (.iload_n 1, 1) := by decide +kernel
theorem dJ0_charAt_5068e_21 : decode cJ0_charAt_5068e 21 = .ok (.invokestatic 498, 3) := by decide +kernel
theorem dJ0_charAt_5068e_24 : decode cJ0_charAt_5068e 24 = .ok (.ireturn, 1) := by decide +kernel
theorem dJ0_coder_7d493_0 : decode cJ0_coder_7d493 0 = .ok (.getstatic 38, 3) := by decide +kernel
theorem dJ0_coder_7d493_3 : decode cJ0_coder_7d493 3 = .ok (.ifCond .eq 10, 3) := by decide +kernel
theorem dJ0_coder_7d493_6 : decode cJ0_coder_7d493 6 = .ok (.aload_n 0, 1) := by decide +kernel
theorem dJ0_coder_7d493_7 : decode cJ0_coder_7d493 7 = .ok (.getfield 15, 3) := by decide +kernel
theorem dJ0_coder_7d493_10 : decode cJ0_coder_7d493 10 = .ok (.goto 4, 3) := by decide +kernel
theorem dJ0_coder_7d493_13 : decode cJ0_coder_7d493 13 = .ok (.iconst 1, 1) := by decide +kernel
theorem dJ0_coder_7d493_14 : decode cJ0_coder_7d493 14 = .ok (.ireturn, 1) := by decide +kernel
theorem dJ0_isLatin1_aae02_0 : decode cJ0_isLatin1_aae02 0 = .ok (.getstatic 38, 3) := by decide +kernel
theorem dJ0_isLatin1_aae02_3 : decode cJ0_isLatin1_aae02 3 = .ok (.ifCond .eq 14, 3) := by decide +kernel
theorem dJ0_isLatin1_aae02_6 : decode cJ0_isLatin1_aae02 6 = .ok (.aload_n 0, 1) := by decide +kernel
theorem dJ0_isLatin1_aae02_7 : decode cJ0_isLatin1_aae02 7 = .ok (.getfield 15, 3) := by decide +kernel
theorem dJ0_isLatin1_aae02_10 : decode cJ0_isLatin1_aae02 10 = .ok (.ifCond .ne 7, 3) := by decide +kernel
theorem dJ0_isLatin1_aae02_13 : decode cJ0_isLatin1_aae02 13 = .ok (.iconst 1, 1) := by decide +kernel
theorem dJ0_isLatin1_aae02_14 : decode cJ0_isLatin1_aae02 14 = .ok (.goto 4, 3) := by decide +kernel
theorem dJ0_isLatin1_aae02_17 : decode cJ0_isLatin1_aae02 17 = .ok (.iconst 0, 1) := by decide +kernel
theorem dJ0_isLatin1_aae02_18 : decode cJ0_isLatin1_aae02 18 = .ok (.ireturn, 1) := by decide +kernel
theorem dJ0_checkIndex_df160_0 : decode cJ0_checkIndex_df160 0 = .ok (.iload_n 0, 1) := by decide +kernel
theorem dJ0_checkIndex_df160_1 : decode cJ0_checkIndex_df160 1 = .ok (.iload_n 1, 1) := by decide +kernel
theorem dJ0_checkIndex_df160_2 : decode cJ0_checkIndex_df160 2 = .ok (.getstatic 1053, 3) := by decide +kernel
theorem dJ0_checkIndex_df160_5 : decode cJ0_checkIndex_df160 5 = .ok (.invokestatic 1059, 3) := by decide +kernel
theorem dJ0_checkIndex_df160_8 : decode cJ0_checkIndex_df160 8 = .ok (.pop, 1) := by decide +kernel
theorem dJ0_checkIndex_df160_9 : decode cJ0_checkIndex_df160 9 = .ok (.return_, 1) := by decide +kernel
theorem dJ1_charAt_3b067_0 : decode cJ1_charAt_3b067 0 = .ok (.iload_n 1, 1) := by decide +kernel
theorem dJ1_charAt_3b067_1 : decode cJ1_charAt_3b067 1 = .ok (.aload_n 0, 1) := by decide +kernel
theorem dJ1_charAt_3b067_2 : decode cJ1_charAt_3b067 2 = .ok (.arraylength, 1) := by decide +kernel
theorem dJ1_charAt_3b067_3 : decode cJ1_charAt_3b067 3 = .ok (.invokestatic 9, 3) := by decide +kernel
theorem dJ1_charAt_3b067_6 : decode cJ1_charAt_3b067 6 = .ok (.aload_n 0, 1) := by decide +kernel
theorem dJ1_charAt_3b067_7 : decode cJ1_charAt_3b067 7 = .ok (.iload_n 1, 1) := by decide +kernel
theorem dJ1_charAt_3b067_8 : decode cJ1_charAt_3b067 8 = .ok (.baload, 1) := by decide +kernel
theorem dJ1_charAt_3b067_9 : decode cJ1_charAt_3b067 9 = .ok (.sipush 255, 3) := by decide +kernel
theorem dJ1_charAt_3b067_12 : decode cJ1_charAt_3b067 12 = .ok (.iand, 1) := by decide +kernel
theorem dJ1_charAt_3b067_13 : decode cJ1_charAt_3b067 13 = .ok (.i2c, 1) := by decide +kernel
theorem dJ1_charAt_3b067_14 : decode cJ1_charAt_3b067 14 = .ok (.ireturn, 1) := by decide +kernel
theorem dJ2_getChar_3b067_0 : decode cJ2_getChar_3b067 0 = .ok (.getstatic 44, 3) := by decide +kernel
theorem dJ2_getChar_3b067_3 : decode cJ2_getChar_3b067 3 = .ok (.ifCond .ne 25, 3) := by decide +kernel
theorem dJ2_getChar_3b067_6 : decode cJ2_getChar_3b067 6 = .ok (.iload_n 1, 1) := by decide +kernel
theorem dJ2_getChar_3b067_7 : decode cJ2_getChar_3b067 7 = .ok (.ifCond .lt 11, 3) := by decide +kernel
theorem dJ2_getChar_3b067_10 : decode cJ2_getChar_3b067 10 = .ok (.iload_n 1, 1) := by decide +kernel
theorem dJ2_getChar_3b067_11 : decode cJ2_getChar_3b067 11 = .ok (.aload_n 0, 1) := by decide +kernel
theorem dJ2_getChar_3b067_12 : decode cJ2_getChar_3b067 12 = .ok (.invokestatic 48, 3) := by decide +kernel
theorem dJ2_getChar_3b067_15 : decode cJ2_getChar_3b067 15 = .ok (.if_icmp .lt 13, 3) := by decide +kernel
theorem dJ2_getChar_3b067_18 : decode cJ2_getChar_3b067 18 = .ok (.new 52, 3) := by decide +kernel
theorem dJ2_getChar_3b067_21 : decode cJ2_getChar_3b067 21 = .ok (.dup, 1) := by decide +kernel
theorem dJ2_getChar_3b067_22 : decode cJ2_getChar_3b067 22 = .ok (.ldc 54, 2) := by decide +kernel
theorem dJ2_getChar_3b067_24 : decode cJ2_getChar_3b067 24 = .ok (.invokespecial 56, 3) := by decide +kernel
theorem dJ2_getChar_3b067_27 : decode cJ2_getChar_3b067 27 = .ok (.athrow, 1) := by decide +kernel
theorem dJ2_getChar_3b067_28 : decode cJ2_getChar_3b067 28 = .ok (.iload_n 1, 1) := by decide +kernel
theorem dJ2_getChar_3b067_29 : decode cJ2_getChar_3b067 29 = .ok (.iconst 1, 1) := by decide +kernel
theorem dJ2_getChar_3b067_30 : decode cJ2_getChar_3b067 30 = .ok (.ishl, 1) := by decide +kernel
theorem dJ2_getChar_3b067_31 : decode cJ2_getChar_3b067 31 = .ok (.istore_n 1, 1) := by decide +kernel
theorem dJ2_getChar_3b067_32 : decode cJ2_getChar_3b067 32 = .ok (.aload_n 0, 1) := by decide +kernel
theorem dJ2_getChar_3b067_33 : decode cJ2_getChar_3b067 33 = .ok (.iload_n 1, 1) := by decide +kernel
theorem dJ2_getChar_3b067_34 : decode cJ2_getChar_3b067 34 = .ok (.iinc 1 1, 3) := by decide +kernel
theorem dJ2_getChar_3b067_37 : decode cJ2_getChar_3b067 37 = .ok (.baload, 1) := by decide +kernel
theorem dJ2_getChar_3b067_38 : decode cJ2_getChar_3b067 38 = .ok (.sipush 255, 3) := by decide +kernel
theorem dJ2_getChar_3b067_41 : decode cJ2_getChar_3b067 41 = .ok (.iand, 1) := by decide +kernel
theorem dJ2_getChar_3b067_42 : decode cJ2_getChar_3b067 42 = .ok (.getstatic 59, 3) := by decide +kernel
theorem dJ2_getChar_3b067_45 : decode cJ2_getChar_3b067 45 = .ok (.ishl, 1) := by decide +kernel
theorem dJ2_getChar_3b067_46 : decode cJ2_getChar_3b067 46 = .ok (.aload_n 0, 1) := by decide +kernel
theorem dJ2_getChar_3b067_47 : decode cJ2_getChar_3b067 47 = .ok (.iload_n 1, 1) := by decide +kernel
theorem dJ2_getChar_3b067_48 : decode cJ2_getChar_3b067 48 = .ok (.baload, 1) := by decide +kernel
theorem dJ2_getChar_3b067_49 : decode cJ2_getChar_3b067 49 = .ok (.sipush 255, 3) := by decide +kernel
theorem dJ2_getChar_3b067_52 : decode cJ2_getChar_3b067 52 = .ok (.iand, 1) := by decide +kernel
theorem dJ2_getChar_3b067_53 : decode cJ2_getChar_3b067 53 = .ok (.getstatic 63, 3) := by decide +kernel
theorem dJ2_getChar_3b067_56 : decode cJ2_getChar_3b067 56 = .ok (.ishl, 1) := by decide +kernel
theorem dJ2_getChar_3b067_57 : decode cJ2_getChar_3b067 57 = .ok (.ior, 1) := by decide +kernel
theorem dJ2_getChar_3b067_58 : decode cJ2_getChar_3b067 58 = .ok (.i2c, 1) := by decide +kernel
theorem dJ2_getChar_3b067_59 : decode cJ2_getChar_3b067 59 = .ok (.ireturn, 1) := by decide +kernel
theorem dJ2_length_9d52b_0 : decode cJ2_length_9d52b 0 = .ok (.aload_n 0, 1) := by decide +kernel
theorem dJ2_length_9d52b_1 : decode cJ2_length_9d52b 1 = .ok (.arraylength, 1) := by decide +kernel
theorem dJ2_length_9d52b_2 : decode cJ2_length_9d52b 2 = .ok (.iconst 1, 1) := by decide +kernel
theorem dJ2_length_9d52b_3 : decode cJ2_length_9d52b 3 = .ok (.ishr, 1) := by decide +kernel
theorem dJ2_length_9d52b_4 : decode cJ2_length_9d52b 4 = .ok (.ireturn, 1) := by decide +kernel
theorem dJ2_charAt_3b067_0 : decode cJ2_charAt_3b067 0 = .ok (.iload_n 1, 1) := by decide +kernel
theorem dJ2_charAt_3b067_1 : decode cJ2_charAt_3b067 1 = .ok (.aload_n 0, 1) := by decide +kernel
theorem dJ2_charAt_3b067_2 : decode cJ2_charAt_3b067 2 = .ok (.invokestatic 67, 3) := by decide +kernel
theorem dJ2_charAt_3b067_5 : decode cJ2_charAt_3b067 5 = .ok (.aload_n 0, 1) := by decide +kernel
theorem dJ2_charAt_3b067_6 : decode cJ2_charAt_3b067 6 = .ok (.iload_n 1, 1) := by decide +kernel
theorem dJ2_charAt_3b067_7 : decode cJ2_charAt_3b067 7 = .ok (.invokestatic 71, 3) := by decide +kernel
theorem dJ2_charAt_3b067_10 : decode cJ2_charAt_3b067 10 = .ok (.ireturn, 1) := by decide +kernel
theorem dJ2_checkIndex_2214a_0 : decode cJ2_checkIndex_2214a 0 = .ok (.iload_n 0, 1) := by decide +kernel
theorem dJ2_checkIndex_2214a_1 : decode cJ2_checkIndex_2214a 1 = .ok (.aload_n 1, 1) := by decide +kernel
theorem dJ2_checkIndex_2214a_2 : decode cJ2_checkIndex_2214a 2 = .ok (.invokestatic 48, 3) := by decide +kernel
theorem dJ2_checkIndex_2214a_5 : decode cJ2_checkIndex_2214a 5 = .ok (.invokestatic 414, 3) := by decide +kernel
theorem dJ2_checkIndex_2214a_8 : decode cJ2_checkIndex_2214a 8 = .ok (.return_, 1) := by decide +kernel
theorem dJ7_fill_53178_0 : decode cJ7_fill_53178 0 = .ok (.iconst 0, 1) := by decide +kernel
theorem dJ7_fill_53178_1 : decode cJ7_fill_53178 1 = .ok (.istore_n 2, 1) := by decide +kernel
theorem dJ7_fill_53178_2 : decode cJ7_fill_53178 2 = .ok (.aload_n 0, 1) := by decide +kernel
theorem dJ7_fill_53178_3 : decode cJ7_fill_53178 3 = .ok (.arraylength, 1) := by decide +kernel
theorem dJ7_fill_53178_4 : decode cJ7_fill_53178 4 = .ok (.istore_n 3, 1) := by decide +kernel
theorem dJ7_fill_53178_5 : decode cJ7_fill_53178 5 = .ok (.iload_n 2, 1) := by decide +kernel
theorem dJ7_fill_53178_6 : decode cJ7_fill_53178 6 = .ok (.iload_n 3, 1) := by decide +kernel
theorem dJ7_fill_53178_7 : decode cJ7_fill_53178 7 = .ok (.if_icmp .ge 13, 3) := by decide +kernel
theorem dJ7_fill_53178_10 : decode cJ7_fill_53178 10 = .ok (.aload_n 0, 1) := by decide +kernel
theorem dJ7_fill_53178_11 : decode cJ7_fill_53178 11 = .ok (.iload_n 2, 1) := by decide +kernel
theorem dJ7_fill_53178_12 : decode cJ7_fill_53178 12 = .ok (.iload_n 1, 1) := by decide +kernel
theorem dJ7_fill_53178_13 : decode cJ7_fill_53178 13 = .ok (.iastore, 1) := by decide +kernel
theorem dJ7_fill_53178_14 : decode cJ7_fill_53178 14 = .ok (.iinc 2 1, 3) := by decide +kernel
theorem dJ7_fill_53178_17 : decode cJ7_fill_53178 17 = .ok (.goto (-12), 3) := by decide +kernel
theorem dJ7_fill_53178_20 : decode cJ7_fill_53178 20 = .ok (.return_, 1) := by decide +kernel
theorem dJ3_checkIndex_8e157_0 : decode cJ3_checkIndex_8e157 0 = .ok (.iload_n 0, 1) := by decide +kernel
theorem dJ3_checkIndex_8e157_1 : decode cJ3_checkIndex_8e157 1 = .ok (.ifCond .lt 8, 3) := by decide +kernel
theorem dJ3_checkIndex_8e157_4 : decode cJ3_checkIndex_8e157 4 = .ok (.iload_n 0, 1) := by decide +kernel
theorem dJ3_checkIndex_8e157_5 : decode cJ3_checkIndex_8e157 5 = .ok (.iload_n 1, 1) := by decide +kernel
theorem dJ3_checkIndex_8e157_6 : decode cJ3_checkIndex_8e157 6 = .ok (.if_icmp .lt 10, 3) := by decide +kernel
theorem dJ3_checkIndex_8e157_9 : decode cJ3_checkIndex_8e157 9 = .ok (.aload_n 2, 1) := by decide +kernel
theorem dJ3_checkIndex_8e157_10 : decode cJ3_checkIndex_8e157 10 = .ok (.iload_n 0, 1) := by decide +kernel
theorem dJ3_checkIndex_8e157_11 : decode cJ3_checkIndex_8e157 11 = .ok (.iload_n 1, 1) := by decide +kernel
theorem dJ3_checkIndex_8e157_12 : decode cJ3_checkIndex_8e157 12 = .ok (.invokestatic 95, 3) := by decide +kernel
theorem dJ3_checkIndex_8e157_15 : decode cJ3_checkIndex_8e157 15 = .ok (.athrow, 1) := by decide +kernel
theorem dJ3_checkIndex_8e157_16 : decode cJ3_checkIndex_8e157 16 = .ok (.iload_n 0, 1) := by decide +kernel
theorem dJ3_checkIndex_8e157_17 : decode cJ3_checkIndex_8e157 17 = .ok (.ireturn, 1) := by decide +kernel
end
section
/-! The worlds' judgement J: the cells, the place, the locals, the stack; what the tables say is carried in AW and NW. -/
def AW (U : State) : Prop := ∀ w ∈ lw_tbl, goodWord w = true → ∀ a : Array Value, w.before a U = true
theorem AW.warm {s U : State} (hW : s.WarmedH U.vm) (h : AW s) : AW U := fun w hw hg a => word_at (args := #[]) hW (good_of_word hg) (h w hw hg #[])
def nestF : List (String × Nat × String × String × String × String) := [("UniverseLevels", 244, "UniverseLevels$Text", "numbers", "[I", "UniverseLevels"), ("UniverseLevels", 84, "UniverseLevels$Text", "length", "I", "UniverseLevels"), ("UniverseLevels", 96, "UniverseLevels$State", "kinds", "[I", "UniverseLevels"), ("UniverseLevels$Round", 47, "UniverseLevels$State", "from", "[I", "UniverseLevels"), ("UniverseLevels$Against", 52, "UniverseLevels$State", "from", "[I", "UniverseLevels"), ("UniverseLevels", 115, "UniverseLevels$State", "from", "[I", "UniverseLevels"), ("UniverseLevels$Round", 50, "UniverseLevels$State", "to", "[I", "UniverseLevels"), ("UniverseLevels$Against", 55, "UniverseLevels$State", "to", "[I", "UniverseLevels"), ("UniverseLevels", 118, "UniverseLevels$State", "to", "[I", "UniverseLevels"), ("UniverseLevels$Against", 59, "UniverseLevels$State", "weight", "[I", "UniverseLevels"), ("UniverseLevels$Round", 66, "UniverseLevels$State", "weight", "[I", "UniverseLevels"), ("UniverseLevels", 121, "UniverseLevels$State", "weight", "[I", "UniverseLevels"), ("UniverseLevels$Lengths", 16, "UniverseLevels$State", "levels", "I", "UniverseLevels"), ("UniverseLevels$Round", 36, "UniverseLevels$State", "levels", "I", "UniverseLevels"), ("UniverseLevels", 224, "UniverseLevels$State", "levels", "I", "UniverseLevels"), ("UniverseLevels$Round", 40, "UniverseLevels$State", "bounds", "I", "UniverseLevels"), ("UniverseLevels$Against", 43, "UniverseLevels$State", "bounds", "I", "UniverseLevels"), ("UniverseLevels", 90, "UniverseLevels$State", "bounds", "I", "UniverseLevels"), ("UniverseLevels$Against", 46, "UniverseLevels$Lengths", "greatest", "[[I", "UniverseLevels"), ("UniverseLevels$Round", 59, "UniverseLevels$Lengths", "greatest", "[[I", "UniverseLevels"), ("UniverseLevels", 134, "UniverseLevels$Lengths", "greatest", "[[I", "UniverseLevels"), ("UniverseLevels", 205, "UniverseLevels$Rows", "levels", "[I", "UniverseLevels"), ("UniverseLevels", 206, "UniverseLevels$Rows", "more", "[I", "UniverseLevels"), ("UniverseLevels", 196, "UniverseLevels$Rows", "size", "I", "UniverseLevels"), ("UniverseLevels", 171, "UniverseLevels$Round", "levels", "[I", "UniverseLevels"), ("UniverseLevels", 165, "UniverseLevels$Round", "size", "I", "UniverseLevels"), ("UniverseLevels", 168, "UniverseLevels$Round", "above", "I", "UniverseLevels")]
def nestM : List (String × Nat × MethodName × String) := [("UniverseLevels", 9, ⟨"UniverseLevels$Text", "<init>", "()V"⟩, "UniverseLevels"), ("UniverseLevels", 18, ⟨"UniverseLevels$State", "<init>", "()V"⟩, "UniverseLevels"), ("UniverseLevels", 32, ⟨"UniverseLevels$Lengths", "<init>", "()V"⟩, "UniverseLevels"), ("UniverseLevels", 43, ⟨"UniverseLevels$Against", "<init>", "()V"⟩, "UniverseLevels"), ("UniverseLevels", 50, ⟨"UniverseLevels$Rows", "<init>", "()V"⟩, "UniverseLevels"), ("UniverseLevels", 60, ⟨"UniverseLevels$Round", "<init>", "()V"⟩, "UniverseLevels"), ("UniverseLevels", 77, ⟨"UniverseLevels$Text", "append", "(I)Z"⟩, "UniverseLevels"), ("UniverseLevels", 238, ⟨"UniverseLevels$Text", "letterAt", "(I)I"⟩, "UniverseLevels"), ("UniverseLevels", 241, ⟨"UniverseLevels$Text", "readItem", "(I)I"⟩, "UniverseLevels"), ("UniverseLevels", 251, ⟨"UniverseLevels$State", "addLevel", "(I)V"⟩, "UniverseLevels"), ("UniverseLevels", 155, ⟨"UniverseLevels$Lengths", "measure", "(LUniverseLevels$State;)V"⟩, "UniverseLevels"), ("UniverseLevels$Lengths", 23, ⟨"UniverseLevels$State", "lengthsFrom", "(II[I)V"⟩, "UniverseLevels"), ("UniverseLevels", 186, ⟨"UniverseLevels$State", "weightTowards", "(II)I"⟩, "UniverseLevels"), ("UniverseLevels", 130, ⟨"UniverseLevels$Lengths", "leads", "(II)Z"⟩, "UniverseLevels"), ("UniverseLevels", 254, ⟨"UniverseLevels$Round", "trace", "(LUniverseLevels$State;LUniverseLevels$Lengths;II)V"⟩, "UniverseLevels"), ("UniverseLevels", 221, ⟨"UniverseLevels$State", "copy", "(LUniverseLevels$State;)V"⟩, "UniverseLevels"), ("UniverseLevels", 258, ⟨"UniverseLevels$State", "take", "(III)V"⟩, "UniverseLevels"), ("UniverseLevels", 87, ⟨"UniverseLevels$Text", "firstFault", "()I"⟩, "UniverseLevels"), ("UniverseLevels", 99, ⟨"UniverseLevels$Lengths", "valueOf", "(I)I"⟩, "UniverseLevels"), ("UniverseLevels", 109, ⟨"UniverseLevels$State", "isFloating", "(I)Z"⟩, "UniverseLevels"), ("UniverseLevels", 262, ⟨"UniverseLevels$State", "lengthsFrom", "(II[I)V"⟩, "UniverseLevels"), ("UniverseLevels", 151, ⟨"UniverseLevels$State", "takeBack", "(I)V"⟩, "UniverseLevels"), ("UniverseLevels", 174, ⟨"UniverseLevels$Lengths", "implies", "(III)Z"⟩, "UniverseLevels"), ("UniverseLevels", 189, ⟨"UniverseLevels$Against", "choose", "(LUniverseLevels$State;LUniverseLevels$Lengths;III)I"⟩, "UniverseLevels"), ("UniverseLevels$Against", 33, ⟨"UniverseLevels$State", "lengthsFrom", "(II[I)V"⟩, "UniverseLevels"), ("UniverseLevels", 193, ⟨"UniverseLevels$Against", "numberOf", "(I)I"⟩, "UniverseLevels"), ("UniverseLevels", 197, ⟨"UniverseLevels$Rows", "add", "(II)V"⟩, "UniverseLevels"), ("UniverseLevels", 201, ⟨"UniverseLevels$Rows", "isShort", "(ILUniverseLevels$Lengths;)Z"⟩, "UniverseLevels"), ("UniverseLevels$Rows", 29, ⟨"UniverseLevels$Lengths", "implies", "(III)Z"⟩, "UniverseLevels"), ("UniverseLevels", 229, ⟨"UniverseLevels$Lengths", "greatestValue", "()I"⟩, "UniverseLevels"), ("UniverseLevels", 235, ⟨"UniverseLevels$Lengths", "pairs", "()I"⟩, "UniverseLevels")]
def NW (U : State) : Prop := (∀ q ∈ nestF, va_Nw (.fieldLinkNest q.1 q.2.1 q.2.2.1 q.2.2.2.1 q.2.2.2.2.1 q.2.2.2.2.2) U) ∧ ∀ q ∈ nestM, va_Nw (.methodLinkNest q.1 q.2.1 q.2.2.1 q.2.2.2) U
theorem NW.warm {s U : State} (hW : s.WarmedH U.vm) (h : NW s) : NW U := ⟨fun q hq => va_Nw.warmF hW (h.1 q hq), fun q hq => va_Nw.warmM hW (h.2 q hq)⟩
def aS (ws : va_W) : Nat → Prop := fun q => ∃ (k : Nat) (e : va_E), ws[k]? = some (q, e)
def jK (D : va_G) (tys : List (ClassId × FieldType)) (U : State) : Prop := va_K D vwCl tys U ∧ AW U ∧ NW U
theorem jK.warm {D : va_G} {tys : List (ClassId × FieldType)} {s U : State} (hW : s.WarmedH U.vm) (h : jK D tys s) : jK D tys U := ⟨va_K.moved hW.alike h.1, h.2.1.warm hW, h.2.2.warm hW⟩
def cPre (D : va_G) (tys : List (ClassId × FieldType)) (av : List Value) (ws : va_W) : Array Value → State → Prop := fun v U => v = av.toArray ∧ va_P D vwCl ws U.heap ∧ jK D tys U ∧ va_D (fun _ => True) ws
def cPost (D : va_G) (A : Nat → Prop) (ro : Option Int32) (wf : va_W) : Array Value → State → Outcome → State → Prop := fun _ st oc t => oc = .returned (ro.map Value.int) ∧ va_P D vwCl wf t.heap ∧ st.heap.size ≤ t.heap.size ∧ ∀ q : Nat, q < st.heap.size → ¬ A q → t.heap[q]? = st.heap[q]?
def MJ (l : Launch) (y : MethodName) (cc : ByteArray) (nL : Nat) (rt : Option FieldType) (R : Room) (D : va_G) (tys : List (ClassId × FieldType)) (av : List Value) (ws : va_W) (ro : Option Int32) (wf : va_W) : Prop := Met l y [Cond.code y cc nL rt] R (cPre D tys av ws) (cPost D (aS ws) ro wf) 0 0 (aS ws)
abbrev jT : Type := va_W → Nat → List (Nat × Value) → List Value → Prop
def jJ (l : Launch) (cc : ByteArray) (nL : Nat) (D : va_G) (tys : List (ClassId × FieldType)) (own : String) (R : Room) (rt : Option FieldType) (A : Nat → Prop) (ro : Option Int32) (wf : va_W) (J : jT) : Prop :=
  ∃ (p : Program) (e : Env) (s : State) (m : MethodId) (args : Array Value) (below : List Frame) (meth : Method) (c : Code), p.tables.exec = Jvm.exec ∧ c.code = cc ∧ c.maxLocals = nL ∧ s.vm.findClass own = some m.cls ∧ jK D tys s ∧ meth.sig.returnType = rt ∧ meth.locks = false ∧
    J = fun ws pc lv st => ∀ (H : Heap) (locs : List Loc) (ls : Array Slot), va_P D vwCl ws H → va_D A ws → va_S A s.heap H locs → lv_has ls nL lv → W p l e R s m args below meth c H locs 0 0 (MQ below (cPost D A ro wf) args s 0 0 A) (F0 m pc ls st)
theorem mj_of {l : Launch} {y : MethodName} {cc : ByteArray} {nL : Nat} {rt : Option FieldType} {R : Room} {D : va_G} {tys : List (ClassId × FieldType)} {av : List Value} {ws : va_W} {ro : Option Int32} {wf : va_W} {own : String}
    (hy : plainName y.cls = true) (ho : y.cls = own) (hav : (lg_sl av).length ≤ nL) (body : ∀ J : jT, jJ l cc nL D tys own R rt (aS ws) ro wf J → J ws 0 (lv_args 0 av) []) : MJ l y cc nL rt R D tys av ws ro wf := by
  refine Met.ofW (cc := cc) (maxL := nL) (ret := rt) hy rfl ?_
  intro p e s m args below meth c s₁ B hml hv
  obtain ⟨rfl, hP, hK, hD0⟩ := hv
  have hl := lv_entry av (n := nL) hav
  rw [lg_entry_eq]
  have hown : s.vm.findClass own = some m.cls := by rw [← ho]; exact findClass_of_methodNamed B.named
  exact body _ ⟨p, e, s, m, av.toArray, below, meth, c, B.exec, B.bytes, hml, hown, hK, B.returns, B.notSynchronized, rfl⟩ s.heap [] _ hP ⟨hD0.1, fun k q hk => ⟨k, q.2, hk⟩⟩ va_S.rf hl
theorem ob {α β : Type} {x : Option α} {k : α → Option β} {r : β} (h : x.bind k = some r) : ∃ a, x = some a ∧ k a = some r := by
  cases x with
  | none => cases h
  | some a => exact ⟨a, rfl, h⟩
theorem ip {α : Type} {c : Prop} [Decidable c] {a b r : α} (hc : c) (h : (if c then a else b) = r) : a = r := by rw [if_pos hc] at h; exact h
theorem iq {α : Type} {c : Prop} [Decidable c] {a b r : α} (hc : ¬ c) (h : (if c then a else b) = r) : b = r := by rw [if_neg hc] at h; exact h
def rd (f : Nat → Int32) (n : Nat) (i : Int32) : Option Int32 := if i < 0 ∨ n ≤ i.toNatClampNeg then none else some (f i.toNatClampNeg)
def wr (f : Nat → Int32) (n : Nat) (i x : Int32) : Option (Nat → Int32) := if i < 0 ∨ n ≤ i.toNatClampNeg then none else some (upd f i.toNatClampNeg x)
def ix (n : Nat) (i : Int32) : Option Nat := if i < 0 ∨ n ≤ i.toNatClampNeg then none else some i.toNatClampNeg
theorem rd_some {f : Nat → Int32} {n : Nat} {i x : Int32} (h : rd f n i = some x) : vp_in i n ∧ f i.toNatClampNeg = x := by
  unfold rd at h
  by_cases hc : i < 0 ∨ n ≤ i.toNatClampNeg
  · rw [if_pos hc] at h; cases h
  · rw [if_neg hc] at h; exact ⟨hc, Option.some.inj h⟩
theorem wr_some {f : Nat → Int32} {n : Nat} {i x : Int32} {g : Nat → Int32} (h : wr f n i x = some g) : vp_in i n ∧ upd f i.toNatClampNeg x = g := by
  unfold wr at h
  by_cases hc : i < 0 ∨ n ≤ i.toNatClampNeg
  · rw [if_pos hc] at h; cases h
  · rw [if_neg hc] at h; exact ⟨hc, Option.some.inj h⟩
theorem ix_some {n : Nat} {i : Int32} {k : Nat} (h : ix n i = some k) : vp_in i n ∧ i.toNatClampNeg = k ∧ k < n := by
  unfold ix at h
  by_cases hc : i < 0 ∨ n ≤ i.toNatClampNeg
  · rw [if_pos hc] at h; cases h
  · rw [if_neg hc] at h; exact ⟨hc, Option.some.inj h, by rw [← Option.some.inj h]; exact Nat.not_le.mp fun q => hc (Or.inr q)⟩
section JR
variable {l : Launch} {cc : ByteArray} {nL : Nat} {D : va_G} {tys : List (ClassId × FieldType)} {own : String} {R : Room} {rt : Option FieldType} {A : Nat → Prop} {ro : Option Int32} {wf : va_W} {J : jT} {ws : va_W} {pc : Nat} {lv : List (Nat × Value)} {st : List Value}
theorem jj_iconst (hJ : jJ l cc nL D tys own R rt A ro wf J) {n : Int} {v : Int32} (hd : decode cc pc = .ok (.iconst n, 1)) (hv : Int32.ofInt n = v) (kk : J ws (pc + 1) lv (.int v :: st)) : J ws pc lv (st) := by
  obtain ⟨p, e, s, m, args, below, meth, c, hx, hb, hml, ho, hK, hr, hlk, rfl⟩ := hJ
  intro H locs ls hP hD hS hl
  exact lv_iconst hx hb hd hv (kk H locs ls hP hD hS hl)
theorem jj_bipush (hJ : jJ l cc nL D tys own R rt A ro wf J) {n : Int} {v : Int32} (hd : decode cc pc = .ok (.bipush n, 2)) (hv : (Int8.ofInt n).toInt32 = v) (kk : J ws (pc + 2) lv (.int v :: st)) : J ws pc lv (st) := by
  obtain ⟨p, e, s, m, args, below, meth, c, hx, hb, hml, ho, hK, hr, hlk, rfl⟩ := hJ
  intro H locs ls hP hD hS hl
  exact lv_bipush hx hb hd hv (kk H locs ls hP hD hS hl)
theorem jj_sipush (hJ : jJ l cc nL D tys own R rt A ro wf J) {n : Int} {v : Int32} (hd : decode cc pc = .ok (.sipush n, 3)) (hv : (Int16.ofInt n).toInt32 = v) (kk : J ws (pc + 3) lv (.int v :: st)) : J ws pc lv (st) := by
  obtain ⟨p, e, s, m, args, below, meth, c, hx, hb, hml, ho, hK, hr, hlk, rfl⟩ := hJ
  intro H locs ls hP hD hS hl
  exact lv_sipush hx hb hd hv (kk H locs ls hP hD hS hl)
theorem jj_lconst (hJ : jJ l cc nL D tys own R rt A ro wf J) {n : Fin 2} {v : Int64} (hd : decode cc pc = .ok (.lconst n, 1)) (hv : Int64.ofNat (n : Nat) = v) (kk : J ws (pc + 1) lv (.long v :: st)) : J ws pc lv (st) := by
  obtain ⟨p, e, s, m, args, below, meth, c, hx, hb, hml, ho, hK, hr, hlk, rfl⟩ := hJ
  intro H locs ls hP hD hS hl
  exact lv_lconst hx hb hd hv (kk H locs ls hP hD hS hl)
theorem jj_ldc (hJ : jJ l cc nL D tys own R rt A ro wf J) {index : Nat} {v : Int32} (hd : decode cc pc = .ok (.ldc index, 2)) (hw : Cond.constant own index v ∈ lw_tbl) (kk : J ws (pc + 2) lv (.int v :: st)) : J ws pc lv (st) := by
  obtain ⟨p, e, s, m, args, below, meth, c, hx, hb, hml, ho, hK, hr, hlk, rfl⟩ := hJ
  intro H locs ls hP hD hS hl
  exact lv_ldc hx hb ho (hK.2.1 _ hw rfl args) hd (kk H locs ls hP hD hS hl)
theorem jj_ldc2 (hJ : jJ l cc nL D tys own R rt A ro wf J) {index : Nat} {v : Int64} (hd : decode cc pc = .ok (.ldc2_w index, 3)) (hw : Cond.constantLong own index v ∈ lw_tbl) (kk : J ws (pc + 3) lv (.long v :: st)) : J ws pc lv (st) := by
  obtain ⟨p, e, s, m, args, below, meth, c, hx, hb, hml, ho, hK, hr, hlk, rfl⟩ := hJ
  intro H locs ls hP hD hS hl
  exact lv_ldc2 hx hb ho (hK.2.1 _ hw rfl args) hd (kk H locs ls hP hD hS hl)
theorem jj_iload_n (hJ : jJ l cc nL D tys own R rt A ro wf J) {i : Nat} {k : Fin 4} {x : Int32} (hd : decode cc pc = .ok (.iload_n k, 1)) (j : Nat) (hj : lv[j]? = some (i, .int x)) (hi : (k : Nat) = i) (kk : J ws (pc + 1) lv (.int x :: st)) : J ws pc lv (st) := by
  obtain ⟨p, e, s, m, args, below, meth, c, hx, hb, hml, ho, hK, hr, hlk, rfl⟩ := hJ
  intro H locs ls hP hD hS hl
  exact lv_iload_n hx hb hd hi (lv_at hl j hj) (kk H locs ls hP hD hS hl)
theorem jj_iload (hJ : jJ l cc nL D tys own R rt A ro wf J) {i : Nat} {x : Int32} (hd : decode cc pc = .ok (.iload i, 2)) (j : Nat) (hj : lv[j]? = some (i, .int x)) (kk : J ws (pc + 2) lv (.int x :: st)) : J ws pc lv (st) := by
  obtain ⟨p, e, s, m, args, below, meth, c, hx, hb, hml, ho, hK, hr, hlk, rfl⟩ := hJ
  intro H locs ls hP hD hS hl
  exact lv_iload hx hb hd (lv_at hl j hj) (kk H locs ls hP hD hS hl)
theorem jj_lload_n (hJ : jJ l cc nL D tys own R rt A ro wf J) {i : Nat} {k : Fin 4} {x : Int64} (hd : decode cc pc = .ok (.lload_n k, 1)) (j : Nat) (hj : lv[j]? = some (i, .long x)) (hi : (k : Nat) = i) (kk : J ws (pc + 1) lv (.long x :: st)) : J ws pc lv (st) := by
  obtain ⟨p, e, s, m, args, below, meth, c, hx, hb, hml, ho, hK, hr, hlk, rfl⟩ := hJ
  intro H locs ls hP hD hS hl
  exact lv_lload_n hx hb hd hi (lv_at hl j hj) (kk H locs ls hP hD hS hl)
theorem jj_lload (hJ : jJ l cc nL D tys own R rt A ro wf J) {i : Nat} {x : Int64} (hd : decode cc pc = .ok (.lload i, 2)) (j : Nat) (hj : lv[j]? = some (i, .long x)) (kk : J ws (pc + 2) lv (.long x :: st)) : J ws pc lv (st) := by
  obtain ⟨p, e, s, m, args, below, meth, c, hx, hb, hml, ho, hK, hr, hlk, rfl⟩ := hJ
  intro H locs ls hP hD hS hl
  exact lv_lload hx hb hd (lv_at hl j hj) (kk H locs ls hP hD hS hl)
theorem jj_aload_n (hJ : jJ l cc nL D tys own R rt A ro wf J) {i : Nat} {k : Fin 4} {x : Nat} (hd : decode cc pc = .ok (.aload_n k, 1)) (j : Nat) (hj : lv[j]? = some (i, .ref x)) (hi : (k : Nat) = i) (kk : J ws (pc + 1) lv (.ref x :: st)) : J ws pc lv (st) := by
  obtain ⟨p, e, s, m, args, below, meth, c, hx, hb, hml, ho, hK, hr, hlk, rfl⟩ := hJ
  intro H locs ls hP hD hS hl
  exact lv_aload_n hx hb hd hi (lv_at hl j hj) (kk H locs ls hP hD hS hl)
theorem jj_aload (hJ : jJ l cc nL D tys own R rt A ro wf J) {i : Nat} {x : Nat} (hd : decode cc pc = .ok (.aload i, 2)) (j : Nat) (hj : lv[j]? = some (i, .ref x)) (kk : J ws (pc + 2) lv (.ref x :: st)) : J ws pc lv (st) := by
  obtain ⟨p, e, s, m, args, below, meth, c, hx, hb, hml, ho, hK, hr, hlk, rfl⟩ := hJ
  intro H locs ls hP hD hS hl
  exact lv_aload hx hb hd (lv_at hl j hj) (kk H locs ls hP hD hS hl)
theorem jj_istore_n (hJ : jJ l cc nL D tys own R rt A ro wf J) {i : Nat} {k : Fin 4} {x : Int32} {lv' : List (Nat × Value)} (hd : decode cc pc = .ok (.istore_n k, 1)) (hi : (k : Nat) = i) (hn : i < nL) (hl9 : (i, Value.int x) :: lv.filter (fun q => !(q.1 == i) && !(q.1 + 1 == i && q.2.category == 2)) = lv') (kk : J ws (pc + 1) lv' st) : J ws pc lv (.int x :: st) := by
  obtain ⟨p, e, s, m, args, below, meth, c, hx, hb, hml, ho, hK, hr, hlk, rfl⟩ := hJ
  intro H locs ls hP hD hS hl
  exact lv_istore_n hx hb hd hi hl hn hl9 (fun ls hl => kk H locs ls hP hD hS hl)
theorem jj_istore (hJ : jJ l cc nL D tys own R rt A ro wf J) {i : Nat}  {x : Int32} {lv' : List (Nat × Value)} (hd : decode cc pc = .ok (.istore i, 2))  (hn : i < nL) (hl9 : (i, Value.int x) :: lv.filter (fun q => !(q.1 == i) && !(q.1 + 1 == i && q.2.category == 2)) = lv') (kk : J ws (pc + 2) lv' st) : J ws pc lv (.int x :: st) := by
  obtain ⟨p, e, s, m, args, below, meth, c, hx, hb, hml, ho, hK, hr, hlk, rfl⟩ := hJ
  intro H locs ls hP hD hS hl
  exact lv_istore hx hb hd hl hn hl9 (fun ls hl => kk H locs ls hP hD hS hl)
theorem jj_astore_n (hJ : jJ l cc nL D tys own R rt A ro wf J) {i : Nat} {k : Fin 4} {x : Nat} {lv' : List (Nat × Value)} (hd : decode cc pc = .ok (.astore_n k, 1)) (hi : (k : Nat) = i) (hn : i < nL) (hl9 : (i, Value.ref x) :: lv.filter (fun q => !(q.1 == i) && !(q.1 + 1 == i && q.2.category == 2)) = lv') (kk : J ws (pc + 1) lv' st) : J ws pc lv (.ref x :: st) := by
  obtain ⟨p, e, s, m, args, below, meth, c, hx, hb, hml, ho, hK, hr, hlk, rfl⟩ := hJ
  intro H locs ls hP hD hS hl
  exact lv_astore_n hx hb hd hi hl hn hl9 (fun ls hl => kk H locs ls hP hD hS hl)
theorem jj_astore (hJ : jJ l cc nL D tys own R rt A ro wf J) {i : Nat}  {x : Nat} {lv' : List (Nat × Value)} (hd : decode cc pc = .ok (.astore i, 2))  (hn : i < nL) (hl9 : (i, Value.ref x) :: lv.filter (fun q => !(q.1 == i) && !(q.1 + 1 == i && q.2.category == 2)) = lv') (kk : J ws (pc + 2) lv' st) : J ws pc lv (.ref x :: st) := by
  obtain ⟨p, e, s, m, args, below, meth, c, hx, hb, hml, ho, hK, hr, hlk, rfl⟩ := hJ
  intro H locs ls hP hD hS hl
  exact lv_astore hx hb hd hl hn hl9 (fun ls hl => kk H locs ls hP hD hS hl)
theorem jj_iinc (hJ : jJ l cc nL D tys own R rt A ro wf J) {i : Nat} {n : Int} {x v : Int32} {lv' : List (Nat × Value)} (hd : decode cc pc = .ok (.iinc i n, 3)) (j : Nat) (hj : lv[j]? = some (i, .int x)) (hv : x + Int32.ofInt n = v) (hn : i < nL) (hl9 : (i, Value.int v) :: lv.filter (fun q => !(q.1 == i) && !(q.1 + 1 == i && q.2.category == 2)) = lv') (kk : J ws (pc + 3) lv' st) : J ws pc lv st := by
  obtain ⟨p, e, s, m, args, below, meth, c, hx, hb, hml, ho, hK, hr, hlk, rfl⟩ := hJ
  intro H locs ls hP hD hS hl
  exact lv_iinc hx hb hd hl hj hv hn hl9 (fun ls hl => kk H locs ls hP hD hS hl)
theorem jj_iadd (hJ : jJ l cc nL D tys own R rt A ro wf J) {x y : Int32} (hd : decode cc pc = .ok (.iadd, 1)) (kk : J ws (pc + 1) lv (.int (x + y) :: st)) : J ws pc lv (.int y :: .int x :: st) := by
  obtain ⟨p, e, s, m, args, below, meth, c, hx, hb, hml, ho, hK, hr, hlk, rfl⟩ := hJ
  intro H locs ls hP hD hS hl
  exact lv_iadd hx hb hd (kk H locs ls hP hD hS hl)
theorem jj_isub (hJ : jJ l cc nL D tys own R rt A ro wf J) {x y : Int32} (hd : decode cc pc = .ok (.isub, 1)) (kk : J ws (pc + 1) lv (.int (x - y) :: st)) : J ws pc lv (.int y :: .int x :: st) := by
  obtain ⟨p, e, s, m, args, below, meth, c, hx, hb, hml, ho, hK, hr, hlk, rfl⟩ := hJ
  intro H locs ls hP hD hS hl
  exact lv_isub hx hb hd (kk H locs ls hP hD hS hl)
theorem jj_imul (hJ : jJ l cc nL D tys own R rt A ro wf J) {x y : Int32} (hd : decode cc pc = .ok (.imul, 1)) (kk : J ws (pc + 1) lv (.int (x * y) :: st)) : J ws pc lv (.int y :: .int x :: st) := by
  obtain ⟨p, e, s, m, args, below, meth, c, hx, hb, hml, ho, hK, hr, hlk, rfl⟩ := hJ
  intro H locs ls hP hD hS hl
  exact lv_imul hx hb hd (kk H locs ls hP hD hS hl)
theorem jj_iand (hJ : jJ l cc nL D tys own R rt A ro wf J) {x y : Int32} (hd : decode cc pc = .ok (.iand, 1)) (kk : J ws (pc + 1) lv (.int (x &&& y) :: st)) : J ws pc lv (.int y :: .int x :: st) := by
  obtain ⟨p, e, s, m, args, below, meth, c, hx, hb, hml, ho, hK, hr, hlk, rfl⟩ := hJ
  intro H locs ls hP hD hS hl
  exact lv_iand hx hb hd (kk H locs ls hP hD hS hl)
theorem jj_ior (hJ : jJ l cc nL D tys own R rt A ro wf J) {x y : Int32} (hd : decode cc pc = .ok (.ior, 1)) (kk : J ws (pc + 1) lv (.int (x ||| y) :: st)) : J ws pc lv (.int y :: .int x :: st) := by
  obtain ⟨p, e, s, m, args, below, meth, c, hx, hb, hml, ho, hK, hr, hlk, rfl⟩ := hJ
  intro H locs ls hP hD hS hl
  exact lv_ior hx hb hd (kk H locs ls hP hD hS hl)
theorem jj_ixor (hJ : jJ l cc nL D tys own R rt A ro wf J) {x y : Int32} (hd : decode cc pc = .ok (.ixor, 1)) (kk : J ws (pc + 1) lv (.int (x ^^^ y) :: st)) : J ws pc lv (.int y :: .int x :: st) := by
  obtain ⟨p, e, s, m, args, below, meth, c, hx, hb, hml, ho, hK, hr, hlk, rfl⟩ := hJ
  intro H locs ls hP hD hS hl
  exact lv_ixor hx hb hd (kk H locs ls hP hD hS hl)
theorem jj_ishl (hJ : jJ l cc nL D tys own R rt A ro wf J) {x y : Int32} (hd : decode cc pc = .ok (.ishl, 1)) (kk : J ws (pc + 1) lv (.int (x <<< (y &&& 31)) :: st)) : J ws pc lv (.int y :: .int x :: st) := by
  obtain ⟨p, e, s, m, args, below, meth, c, hx, hb, hml, ho, hK, hr, hlk, rfl⟩ := hJ
  intro H locs ls hP hD hS hl
  exact lv_ishl hx hb hd (kk H locs ls hP hD hS hl)
theorem jj_ishr (hJ : jJ l cc nL D tys own R rt A ro wf J) {x y : Int32} (hd : decode cc pc = .ok (.ishr, 1)) (kk : J ws (pc + 1) lv (.int (x >>> (y &&& 31)) :: st)) : J ws pc lv (.int y :: .int x :: st) := by
  obtain ⟨p, e, s, m, args, below, meth, c, hx, hb, hml, ho, hK, hr, hlk, rfl⟩ := hJ
  intro H locs ls hP hD hS hl
  exact lv_ishr hx hb hd (kk H locs ls hP hD hS hl)
theorem jj_irem (hJ : jJ l cc nL D tys own R rt A ro wf J) {x y : Int32} (hd : decode cc pc = .ok (.irem, 1)) (hne : ¬ y = 0) (kk : J ws (pc + 1) lv (.int (x - x / y * y) :: st)) : J ws pc lv (.int y :: .int x :: st) := by
  obtain ⟨p, e, s, m, args, below, meth, c, hx, hb, hml, ho, hK, hr, hlk, rfl⟩ := hJ
  intro H locs ls hP hD hS hl
  exact lv_irem hx hb hd hne (kk H locs ls hP hD hS hl)
theorem jj_ineg (hJ : jJ l cc nL D tys own R rt A ro wf J) {x : Int32} (hd : decode cc pc = .ok (.ineg, 1)) (kk : J ws (pc + 1) lv (.int (-x) :: st)) : J ws pc lv (.int x :: st) := by
  obtain ⟨p, e, s, m, args, below, meth, c, hx, hb, hml, ho, hK, hr, hlk, rfl⟩ := hJ
  intro H locs ls hP hD hS hl
  exact lv_ineg hx hb hd (kk H locs ls hP hD hS hl)
theorem jj_i2l (hJ : jJ l cc nL D tys own R rt A ro wf J) {x : Int32} (hd : decode cc pc = .ok (.i2l, 1)) (kk : J ws (pc + 1) lv (.long x.toInt64 :: st)) : J ws pc lv (.int x :: st) := by
  obtain ⟨p, e, s, m, args, below, meth, c, hx, hb, hml, ho, hK, hr, hlk, rfl⟩ := hJ
  intro H locs ls hP hD hS hl
  exact lv_i2l hx hb hd rfl (kk H locs ls hP hD hS hl)
theorem jj_lcmp (hJ : jJ l cc nL D tys own R rt A ro wf J) {x y : Int64} (hd : decode cc pc = .ok (.lcmp, 1)) (kk : J ws (pc + 1) lv (.int (lg_cmp x y) :: st)) : J ws pc lv (.long y :: .long x :: st) := by
  obtain ⟨p, e, s, m, args, below, meth, c, hx, hb, hml, ho, hK, hr, hlk, rfl⟩ := hJ
  intro H locs ls hP hD hS hl
  exact W.lcmp hx hb hd (kk H locs ls hP hD hS hl)
theorem jj_dup (hJ : jJ l cc nL D tys own R rt A ro wf J) {va : Value} (hd : decode cc pc = .ok (.dup, 1)) (h1 : va.category = 1) (kk : J ws (pc + 1) lv (va :: va :: st)) : J ws pc lv (va :: st) := by
  obtain ⟨p, e, s, m, args, below, meth, c, hx, hb, hml, ho, hK, hr, hlk, rfl⟩ := hJ
  intro H locs ls hP hD hS hl
  exact lv_dup hx hb hd h1 (kk H locs ls hP hD hS hl)
theorem jj_pop (hJ : jJ l cc nL D tys own R rt A ro wf J) {va : Value} (hd : decode cc pc = .ok (.pop, 1)) (h1 : va.category = 1) (kk : J ws (pc + 1) lv (st)) : J ws pc lv (va :: st) := by
  obtain ⟨p, e, s, m, args, below, meth, c, hx, hb, hml, ho, hK, hr, hlk, rfl⟩ := hJ
  intro H locs ls hP hD hS hl
  exact lv_pop hx hb hd h1 (kk H locs ls hP hD hS hl)
theorem jj_dup2 (hJ : jJ l cc nL D tys own R rt A ro wf J) {va vb : Value} (hd : decode cc pc = .ok (.dup2, 1)) (h1 : va.category = 1) (h2 : vb.category = 1) (kk : J ws (pc + 1) lv (va :: vb :: va :: vb :: st)) : J ws pc lv (va :: vb :: st) := by
  obtain ⟨p, e, s, m, args, below, meth, c, hx, hb, hml, ho, hK, hr, hlk, rfl⟩ := hJ
  intro H locs ls hP hD hS hl
  exact lv_dup2_11 hx hb hd h1 h2 (kk H locs ls hP hD hS hl)
theorem jj_if_eq (hJ : jJ l cc nL D tys own R rt A ro wf J) {x : Int32} {off : Int} (tgt : Nat) (hd : decode cc pc = .ok (.ifCond .eq off, 3)) (ht : (pc : Int) + off = (tgt : Int)) (kt : x = 0 → J ws tgt lv st) (kf : ¬ x = 0 → J ws (pc + 3) lv st) : J ws pc lv (.int x :: st) := by
  obtain ⟨p, e, s, m, args, below, meth, c, hx, hb, hml, ho, hK, hr, hlk, rfl⟩ := hJ
  intro H locs ls hP hD hS hl
  exact lv_if_eq hx hb hd ht (fun h => kt h H locs ls hP hD hS hl) (fun h => kf h H locs ls hP hD hS hl)
theorem jj_if_ne (hJ : jJ l cc nL D tys own R rt A ro wf J) {x : Int32} {off : Int} (tgt : Nat) (hd : decode cc pc = .ok (.ifCond .ne off, 3)) (ht : (pc : Int) + off = (tgt : Int)) (kt : ¬ x = 0 → J ws tgt lv st) (kf : x = 0 → J ws (pc + 3) lv st) : J ws pc lv (.int x :: st) := by
  obtain ⟨p, e, s, m, args, below, meth, c, hx, hb, hml, ho, hK, hr, hlk, rfl⟩ := hJ
  intro H locs ls hP hD hS hl
  exact lv_if_ne hx hb hd ht (fun h => kt h H locs ls hP hD hS hl) (fun h => kf h H locs ls hP hD hS hl)
theorem jj_if_lt (hJ : jJ l cc nL D tys own R rt A ro wf J) {x : Int32} {off : Int} (tgt : Nat) (hd : decode cc pc = .ok (.ifCond .lt off, 3)) (ht : (pc : Int) + off = (tgt : Int)) (kt : x < 0 → J ws tgt lv st) (kf : ¬ x < 0 → J ws (pc + 3) lv st) : J ws pc lv (.int x :: st) := by
  obtain ⟨p, e, s, m, args, below, meth, c, hx, hb, hml, ho, hK, hr, hlk, rfl⟩ := hJ
  intro H locs ls hP hD hS hl
  exact lv_if_lt hx hb hd ht (fun h => kt h H locs ls hP hD hS hl) (fun h => kf h H locs ls hP hD hS hl)
theorem jj_if_ge (hJ : jJ l cc nL D tys own R rt A ro wf J) {x : Int32} {off : Int} (tgt : Nat) (hd : decode cc pc = .ok (.ifCond .ge off, 3)) (ht : (pc : Int) + off = (tgt : Int)) (kt : 0 ≤ x → J ws tgt lv st) (kf : ¬ 0 ≤ x → J ws (pc + 3) lv st) : J ws pc lv (.int x :: st) := by
  obtain ⟨p, e, s, m, args, below, meth, c, hx, hb, hml, ho, hK, hr, hlk, rfl⟩ := hJ
  intro H locs ls hP hD hS hl
  exact lv_if_ge hx hb hd ht (fun h => kt h H locs ls hP hD hS hl) (fun h => kf h H locs ls hP hD hS hl)
theorem jj_if_gt (hJ : jJ l cc nL D tys own R rt A ro wf J) {x : Int32} {off : Int} (tgt : Nat) (hd : decode cc pc = .ok (.ifCond .gt off, 3)) (ht : (pc : Int) + off = (tgt : Int)) (kt : 0 < x → J ws tgt lv st) (kf : ¬ 0 < x → J ws (pc + 3) lv st) : J ws pc lv (.int x :: st) := by
  obtain ⟨p, e, s, m, args, below, meth, c, hx, hb, hml, ho, hK, hr, hlk, rfl⟩ := hJ
  intro H locs ls hP hD hS hl
  exact lv_if_gt hx hb hd ht (fun h => kt h H locs ls hP hD hS hl) (fun h => kf h H locs ls hP hD hS hl)
theorem jj_if_le (hJ : jJ l cc nL D tys own R rt A ro wf J) {x : Int32} {off : Int} (tgt : Nat) (hd : decode cc pc = .ok (.ifCond .le off, 3)) (ht : (pc : Int) + off = (tgt : Int)) (kt : x ≤ 0 → J ws tgt lv st) (kf : ¬ x ≤ 0 → J ws (pc + 3) lv st) : J ws pc lv (.int x :: st) := by
  obtain ⟨p, e, s, m, args, below, meth, c, hx, hb, hml, ho, hK, hr, hlk, rfl⟩ := hJ
  intro H locs ls hP hD hS hl
  exact lv_if_le hx hb hd ht (fun h => kt h H locs ls hP hD hS hl) (fun h => kf h H locs ls hP hD hS hl)
theorem jj_icmp_eq (hJ : jJ l cc nL D tys own R rt A ro wf J) {x y : Int32} {off : Int} (tgt : Nat) (hd : decode cc pc = .ok (.if_icmp .eq off, 3)) (ht : (pc : Int) + off = (tgt : Int)) (kt : x = y → J ws tgt lv st) (kf : ¬ x = y → J ws (pc + 3) lv st) : J ws pc lv (.int y :: .int x :: st) := by
  obtain ⟨p, e, s, m, args, below, meth, c, hx, hb, hml, ho, hK, hr, hlk, rfl⟩ := hJ
  intro H locs ls hP hD hS hl
  exact lv_icmp_eq hx hb hd ht (fun h => kt h H locs ls hP hD hS hl) (fun h => kf h H locs ls hP hD hS hl)
theorem jj_icmp_ne (hJ : jJ l cc nL D tys own R rt A ro wf J) {x y : Int32} {off : Int} (tgt : Nat) (hd : decode cc pc = .ok (.if_icmp .ne off, 3)) (ht : (pc : Int) + off = (tgt : Int)) (kt : ¬ x = y → J ws tgt lv st) (kf : x = y → J ws (pc + 3) lv st) : J ws pc lv (.int y :: .int x :: st) := by
  obtain ⟨p, e, s, m, args, below, meth, c, hx, hb, hml, ho, hK, hr, hlk, rfl⟩ := hJ
  intro H locs ls hP hD hS hl
  exact lv_icmp_ne hx hb hd ht (fun h => kt h H locs ls hP hD hS hl) (fun h => kf h H locs ls hP hD hS hl)
theorem jj_icmp_lt (hJ : jJ l cc nL D tys own R rt A ro wf J) {x y : Int32} {off : Int} (tgt : Nat) (hd : decode cc pc = .ok (.if_icmp .lt off, 3)) (ht : (pc : Int) + off = (tgt : Int)) (kt : x < y → J ws tgt lv st) (kf : ¬ x < y → J ws (pc + 3) lv st) : J ws pc lv (.int y :: .int x :: st) := by
  obtain ⟨p, e, s, m, args, below, meth, c, hx, hb, hml, ho, hK, hr, hlk, rfl⟩ := hJ
  intro H locs ls hP hD hS hl
  exact lv_icmp_lt hx hb hd ht (fun h => kt h H locs ls hP hD hS hl) (fun h => kf h H locs ls hP hD hS hl)
theorem jj_icmp_ge (hJ : jJ l cc nL D tys own R rt A ro wf J) {x y : Int32} {off : Int} (tgt : Nat) (hd : decode cc pc = .ok (.if_icmp .ge off, 3)) (ht : (pc : Int) + off = (tgt : Int)) (kt : y ≤ x → J ws tgt lv st) (kf : ¬ y ≤ x → J ws (pc + 3) lv st) : J ws pc lv (.int y :: .int x :: st) := by
  obtain ⟨p, e, s, m, args, below, meth, c, hx, hb, hml, ho, hK, hr, hlk, rfl⟩ := hJ
  intro H locs ls hP hD hS hl
  exact lv_icmp_ge hx hb hd ht (fun h => kt h H locs ls hP hD hS hl) (fun h => kf h H locs ls hP hD hS hl)
theorem jj_icmp_gt (hJ : jJ l cc nL D tys own R rt A ro wf J) {x y : Int32} {off : Int} (tgt : Nat) (hd : decode cc pc = .ok (.if_icmp .gt off, 3)) (ht : (pc : Int) + off = (tgt : Int)) (kt : y < x → J ws tgt lv st) (kf : ¬ y < x → J ws (pc + 3) lv st) : J ws pc lv (.int y :: .int x :: st) := by
  obtain ⟨p, e, s, m, args, below, meth, c, hx, hb, hml, ho, hK, hr, hlk, rfl⟩ := hJ
  intro H locs ls hP hD hS hl
  exact lv_icmp_gt hx hb hd ht (fun h => kt h H locs ls hP hD hS hl) (fun h => kf h H locs ls hP hD hS hl)
theorem jj_icmp_le (hJ : jJ l cc nL D tys own R rt A ro wf J) {x y : Int32} {off : Int} (tgt : Nat) (hd : decode cc pc = .ok (.if_icmp .le off, 3)) (ht : (pc : Int) + off = (tgt : Int)) (kt : x ≤ y → J ws tgt lv st) (kf : ¬ x ≤ y → J ws (pc + 3) lv st) : J ws pc lv (.int y :: .int x :: st) := by
  obtain ⟨p, e, s, m, args, below, meth, c, hx, hb, hml, ho, hK, hr, hlk, rfl⟩ := hJ
  intro H locs ls hP hD hS hl
  exact lv_icmp_le hx hb hd ht (fun h => kt h H locs ls hP hD hS hl) (fun h => kf h H locs ls hP hD hS hl)
theorem jj_goto (hJ : jJ l cc nL D tys own R rt A ro wf J) {off : Int} (tgt : Nat) (hd : decode cc pc = .ok (.goto off, 3)) (ht : (pc : Int) + off = (tgt : Int)) (kk : J ws tgt lv st) : J ws pc lv st := by
  obtain ⟨p, e, s, m, args, below, meth, c, hx, hb, hml, ho, hK, hr, hlk, rfl⟩ := hJ
  intro H locs ls hP hD hS hl
  exact lv_goto hx hb hd ht (kk H locs ls hP hD hS hl)
theorem jj_tin (hJ : jJ l cc nL D tys own R rt A ro wf J) {dflt lo hi : Int} {offs : Array Int} {len : Nat} {x : Int32} {off : Int} (tgt : Nat) (hd : decode cc pc = .ok (.tableswitch dflt lo hi offs, len)) (h1 : ¬ x.toInt < lo) (h2 : ¬ hi < x.toInt) (h3 : offs[(x.toInt - lo).toNat]? = some off) (ht : (pc : Int) + off = (tgt : Int)) (kk : J ws tgt lv st) : J ws pc lv (.int x :: st) := by
  obtain ⟨p, e, s, m, args, below, meth, c, hx, hb, hml, ho, hK, hr, hlk, rfl⟩ := hJ
  intro H locs ls hP hD hS hl
  exact lv_tableIn hx hb hd h1 h2 h3 ht (kk H locs ls hP hD hS hl)
theorem jj_tout (hJ : jJ l cc nL D tys own R rt A ro wf J) {dflt lo hi : Int} {offs : Array Int} {len : Nat} {x : Int32} (tgt : Nat) (hd : decode cc pc = .ok (.tableswitch dflt lo hi offs, len)) (h1 : x.toInt < lo ∨ hi < x.toInt) (ht : (pc : Int) + dflt = (tgt : Int)) (kk : J ws tgt lv st) : J ws pc lv (.int x :: st) := by
  obtain ⟨p, e, s, m, args, below, meth, c, hx, hb, hml, ho, hK, hr, hlk, rfl⟩ := hJ
  intro H locs ls hP hD hS hl
  exact lv_tableOut hx hb hd h1 ht (kk H locs ls hP hD hS hl)
theorem jj_lsw (hJ : jJ l cc nL D tys own R rt A ro wf J) {dflt : Int} {ps : Array (Int × Int)} {len : Nat} {x : Int32} {off : Int} (tgt : Nat) (hd : decode cc pc = .ok (.lookupswitch dflt ps, len)) (hp : (ps.toList.zip (ps.toList.drop 1)).all (fun (a, next) => a.1 < next.1) = true) (h3 : Op.lookupswitch.offset ps.toList dflt x.toInt = off) (ht : (pc : Int) + off = (tgt : Int)) (kk : J ws tgt lv st) : J ws pc lv (.int x :: st) := by
  obtain ⟨p, e, s, m, args, below, meth, c, hx, hb, hml, ho, hK, hr, hlk, rfl⟩ := hJ
  intro H locs ls hP hD hS hl
  exact lv_lookup hx hb hd hp h3 ht (kk H locs ls hP hD hS hl)
theorem jj_lv (hJ : jJ l cc nL D tys own R rt A ro wf J) {lv' : List (Nat × Value)} (ks : List Nat) (hk : lv_pick lv ks = lv') (kk : J ws pc lv' st) : J ws pc lv st := by
  obtain ⟨p, e, s, m, args, below, meth, c, hx, hb, hml, ho, hK, hr, hlk, rfl⟩ := hJ
  intro H locs ls hP hD hS hl
  exact kk H locs ls hP hD hS (lv_sub hl ks hk)
theorem jj_get (hJ : jJ l cc nL D tys own R rt A ro wf J) {C : String} {T : u_T} {N ci index a : Nat} {fs : List Value} {v : Value} (hlay : ∀ w ∈ u_ws C T N, w ∈ lw_tbl ∧ goodWord w = true) (hd : decode cc pc = .ok (.getfield index, 3)) (q0 k : Nat) (he : ws[q0]? = some (a, .inr (ci, fs))) (hc : vwCl[ci]? = some (C, T, N)) (hk : k < N) (hw : Cond.fieldLink own index (T k).1 (T k).2.1 (T k).2.2.1 ∈ lw_tbl) (hv : fs[k]? = some v) (kk : J ws (pc + 3) lv (v :: st)) : J ws pc lv (.ref a :: st) := by
  obtain ⟨p, e, s, m, args, below, meth, c, hx, hb, hml, ho, hK, hr, hlk, rfl⟩ := hJ
  intro H locs ls hP hD hS hl
  exact va_get (Ts := u_ws C T N) hx hb (fun w h => hK.2.1 w (hlay w h).1 (hlay w h).2 args) (fun _ h => h) ho hK.1 hP q0 he hc k hk (hK.2.1 _ hw rfl args) (fun _ h => h) hv hd (kk H locs ls hP hD hS hl)
theorem jj_getN (hJ : jJ l cc nL D tys own R rt A ro wf J) {C host : String} {T : u_T} {N ci index a : Nat} {fs : List Value} {v : Value} (hlay : ∀ w ∈ u_ws C T N, w ∈ lw_tbl ∧ goodWord w = true) (hd : decode cc pc = .ok (.getfield index, 3)) (q0 k : Nat) (he : ws[q0]? = some (a, .inr (ci, fs))) (hc : vwCl[ci]? = some (C, T, N)) (hk : k < N) (hw : (own, index, (T k).1, (T k).2.1, (T k).2.2.1, host) ∈ nestF) (hv : fs[k]? = some v) (kk : J ws (pc + 3) lv (v :: st)) : J ws pc lv (.ref a :: st) := by
  obtain ⟨p, e, s, m, args, below, meth, c, hx, hb, hml, ho, hK, hr, hlk, rfl⟩ := hJ
  intro H locs ls hP hD hS hl
  exact va_getN (Ts := u_ws C T N) hx hb (fun w h => hK.2.1 w (hlay w h).1 (hlay w h).2 args) (fun _ h => h) ho hK.1 hP q0 he hc k hk (va_Nw.use rfl (hK.2.2.1 _ hw)) (fun _ h => h) hv hd (kk H locs ls hP hD hS hl)
theorem jj_puti (hJ : jJ l cc nL D tys own R rt A ro wf J) {C : String} {T : u_T} {N ci index a : Nat} {fs : List Value} {x : Int32} {wn : va_W} (hlay : ∀ w ∈ u_ws C T N, w ∈ lw_tbl ∧ goodWord w = true)(ty0 : Nat → FieldType) (hty : ∀ k, k < N → parseFieldDescriptor (T k).2.2.1 = some (ty0 k)) (hnm : ∀ a, a < N → ∀ b, b < N → a ≠ b → (T a).2.1 ≠ (T b).2.1) (hd : decode cc pc = .ok (.putfield index, 3)) (q0 k : Nat) (he : ws[q0]? = some (a, .inr (ci, fs))) (hc : vwCl[ci]? = some (C, T, N)) (hk : k < N) (hw : Cond.fieldLink own index (T k).1 (T k).2.1 (T k).2.2.1 ∈ lw_tbl) (hfin : (T k).2.2.2 = false) (hpd : parseFieldDescriptor (T k).2.2.1 = some .int) (hlen : k < fs.length) (hwn : ws.set q0 (a, .inr (ci, fs.set k (.int x))) = wn) (kk : J wn (pc + 3) lv st) : J ws pc lv (.int x :: .ref a :: st) := by
  obtain ⟨p, e, s, m, args, below, meth, c, hx, hb, hml, ho, hK, hr, hlk, rfl⟩ := hJ
  intro H locs ls hP hD hS hl
  subst hwn
  exact va_put (Ts := u_ws C T N) (ty := .int) hx hb (fun w h => hK.2.1 w (hlay w h).1 (hlay w h).2 args) (fun _ h => h) ty0 hty hnm ho hK.1 hP hD hS q0 he hc k hk (hK.2.1 _ hw rfl args) (fun _ h => h) hfin hpd rfl rfl hlen hd (fun H locs hP hD hS => kk H locs ls hP hD hS hl)
theorem jj_putN (hJ : jJ l cc nL D tys own R rt A ro wf J) {C host : String} {T : u_T} {N ci index a : Nat} {fs : List Value} {x : Int32} {wn : va_W} (hlay : ∀ w ∈ u_ws C T N, w ∈ lw_tbl ∧ goodWord w = true)(ty0 : Nat → FieldType) (hty : ∀ k, k < N → parseFieldDescriptor (T k).2.2.1 = some (ty0 k)) (hnm : ∀ a, a < N → ∀ b, b < N → a ≠ b → (T a).2.1 ≠ (T b).2.1) (hd : decode cc pc = .ok (.putfield index, 3)) (q0 k : Nat) (he : ws[q0]? = some (a, .inr (ci, fs))) (hc : vwCl[ci]? = some (C, T, N)) (hk : k < N) (hw : (own, index, (T k).1, (T k).2.1, (T k).2.2.1, host) ∈ nestF) (hfin : (T k).2.2.2 = false) (hpd : parseFieldDescriptor (T k).2.2.1 = some .int) (hlen : k < fs.length) (hwn : ws.set q0 (a, .inr (ci, fs.set k (.int x))) = wn) (kk : J wn (pc + 3) lv st) : J ws pc lv (.int x :: .ref a :: st) := by
  obtain ⟨p, e, s, m, args, below, meth, c, hx, hb, hml, ho, hK, hr, hlk, rfl⟩ := hJ
  intro H locs ls hP hD hS hl
  subst hwn
  exact va_putN (Ts := u_ws C T N) (ty := .int) hx hb (fun w h => hK.2.1 w (hlay w h).1 (hlay w h).2 args) (fun _ h => h) ty0 hty hnm ho hK.1 hP hD hS q0 he hc k hk (va_Nw.use rfl (hK.2.2.1 _ hw)) (fun _ h => h) hfin hpd rfl rfl hlen hd (fun H locs hP hD hS => kk H locs ls hP hD hS hl)
theorem jj_iald (hJ : jJ l cc nL D tys own R rt A ro wf J) {cA : ClassId} {n a : Nat} {f : Nat → Int32} {i x : Int32} (hd : decode cc pc = .ok (.iaload, 1)) (q0 t0 : Nat) (ha : ws[q0]? = some (a, .inl (cA, n, .inl f))) (ht : tys[t0]? = some (cA, .int)) (hr9 : rd f n i = some x) (kk : J ws (pc + 1) lv (.int x :: st)) : J ws pc lv (.int i :: .ref a :: st) := by
  obtain ⟨p, e, s, m, args, below, meth, c, hx, hb, hml, ho, hK, hr, hlk, rfl⟩ := hJ
  intro H locs ls hP hD hS hl
  obtain ⟨hin, rfl⟩ := rd_some hr9
  exact va_iald hx hb hK.1 hP q0 t0 ha ht hin hd (kk H locs ls hP hD hS hl)
theorem jj_iast (hJ : jJ l cc nL D tys own R rt A ro wf J) {cA : ClassId} {n a : Nat} {f g : Nat → Int32} {i x : Int32} {wn : va_W} (hd : decode cc pc = .ok (.iastore, 1)) (q0 t0 : Nat) (ha : ws[q0]? = some (a, .inl (cA, n, .inl f))) (ht : tys[t0]? = some (cA, .int)) (hr9 : wr f n i x = some g) (hwn : ws.set q0 (a, .inl (cA, n, .inl g)) = wn) (kk : J wn (pc + 1) lv st) : J ws pc lv (.int x :: .int i :: .ref a :: st) := by
  obtain ⟨p, e, s, m, args, below, meth, c, hx, hb, hml, ho, hK, hr, hlk, rfl⟩ := hJ
  intro H locs ls hP hD hS hl
  obtain ⟨hin, rfl⟩ := wr_some hr9
  subst hwn
  exact va_iast hx hb hK.1 hP hD hS q0 t0 ha ht hin hd (fun H locs hP hD hS => kk H locs ls hP hD hS hl)
theorem jj_aald (hJ : jJ l cc nL D tys own R rt A ro wf J) {cA : ClassId} {ty : FieldType} {n a b : Nat} {f : Nat → Option Nat} {i : Int32} (hd : decode cc pc = .ok (.aaload, 1)) (q0 t0 : Nat) (ha : ws[q0]? = some (a, .inl (cA, n, .inr (.inr (.inr (.inr f)))))) (ht : tys[t0]? = some (cA, ty)) (hty : ty.isReference = true) (hin : vp_in i n) (hb9 : f i.toNatClampNeg = some b) (kk : J ws (pc + 1) lv (.ref b :: st)) : J ws pc lv (.int i :: .ref a :: st) := by
  obtain ⟨p, e, s, m, args, below, meth, c, hx, hb, hml, ho, hK, hr, hlk, rfl⟩ := hJ
  intro H locs ls hP hD hS hl
  have hlt : i.toNatClampNeg < n := Nat.not_le.mp fun q => hin (Or.inr q)
  have e9 : va_rf (f i.toNatClampNeg) = .ref b := by rw [hb9]; rfl
  exact W.aald (v := .ref b) (ty := ty) hx hb (hP q0 _ ha) ((hK.1.2 t0 _ ht).1 n (fun j => va_rf (f j))) hty (fun q => by cases q) (by show ¬ (i < 0 ∨ (arrV _ _ _).slots.size ≤ _); rw [arrV_size]; exact hin) (by show (arrV _ _ _).slots[_]? = _; rw [arrV_read _ _ hlt, e9]) rfl rfl hd (kk H locs ls hP hD hS hl)
theorem jj_aast (hJ : jJ l cc nL D tys own R rt A ro wf J) {cA : ClassId} {r : vw_C} {n a v ci : Nat} {vs : List Value} {f g : Nat → Option Nat} {i : Int32} {wn : va_W} (hd : decode cc pc = .ok (.aastore, 1)) (q0 t0 qk : Nat) (ha : ws[q0]? = some (a, .inl (cA, n, .inr (.inr (.inr (.inr f)))))) (ht : tys[t0]? = some (cA, .object r.1)) (hv : ws[qk]? = some (v, .inr (ci, vs))) (hc : vwCl[ci]? = some r) (hin : vp_in i n) (hg : va_up f i.toNatClampNeg (some v) = g) (hwn : ws.set q0 (a, .inl (cA, n, .inr (.inr (.inr (.inr g))))) = wn) (kk : J wn (pc + 1) lv st) : J ws pc lv (.ref v :: .int i :: .ref a :: st) := by
  obtain ⟨p, e, s, m, args, below, meth, c, hx, hb, hml, ho, hK, hr, hlk, rfl⟩ := hJ
  intro H locs ls hP hD hS hl
  subst hg
  subst hwn
  exact va_astq hx hb hK.1 hP hD hS q0 t0 qk ci ha ht hv hc hin hd (fun H locs hP hD hS => kk H locs ls hP hD hS hl)
theorem jj_iret {v9 : Int32} (hJ : jJ l cc nL D tys own R (some .int) A (some v9) wf J) (hd : decode cc pc = .ok (.ireturn, 1)) : J wf pc lv [.int v9] := by
  obtain ⟨p, e, s, m, args, below, meth, c, hx, hb, hml, ho, hK, hr, hlk, rfl⟩ := hJ
  intro H locs ls hP hD hS hl
  exact W.iret hx hb hr (fun t ht hW => ⟨rfl, by rw [ht]; exact hP, by rw [ht]; exact hS.1, fun q h1 h2 => by rw [ht]; exact hS.2.1 q h1 h2⟩) hS.2.2 hd
theorem jj_zret {v9 : Int32} (hJ : jJ l cc nL D tys own R (some .boolean) A (some v9) wf J) (hn : v9 = 0 ∨ v9 = 1) (hd : decode cc pc = .ok (.ireturn, 1)) : J wf pc lv [.int v9] := by
  obtain ⟨p, e, s, m, args, below, meth, c, hx, hb, hml, ho, hK, hr, hlk, rfl⟩ := hJ
  intro H locs ls hP hD hS hl
  exact W.zret hx hb hr (by rcases hn with rfl | rfl <;> rfl) (fun t ht hW => ⟨rfl, by rw [ht]; exact hP, by rw [ht]; exact hS.1, fun q h1 h2 => by rw [ht]; exact hS.2.1 q h1 h2⟩) hS.2.2 hd
theorem jj_vret (hJ : jJ l cc nL D tys own R none A none wf J) (hd : decode cc pc = .ok (.return_, 1)) : J wf pc lv [] := by
  obtain ⟨p, e, s, m, args, below, meth, c, hx, hb, hml, ho, hK, hr, hlk, rfl⟩ := hJ
  intro H locs ls hP hD hS hl
  exact W.vret hx hb hr (fun t ht hW => ⟨rfl, by rw [ht]; exact hP, by rw [ht]; exact hS.1, fun q h1 h2 => by rw [ht]; exact hS.2.1 q h1 h2⟩) hS.2.2 hd
theorem jj_max (hJ : jJ l cc nL D tys own R rt A ro wf J) {index : Nat} {x y : Int32} (hd : decode cc pc = .ok (.invokestatic index, 3)) (hw : Cond.methodLink own index Lib.Math.max.name ∈ lw_tbl) (h2 : Cond.static Lib.Math.max.name ∈ lw_tbl) (h3 : Cond.initialized "java/lang/Math" ∈ lw_tbl) (h4 : Cond.code Lib.Math.max.name Lib.Math.max.code 2 (some .int) ∈ lw_tbl) (hf : 1 ≤ R.frames) (hlo : (st.map fun v => v.category).sum + 13 ≤ R.locals) (kk : J ws (pc + 3) lv (.int (if x < y then y else x) :: st)) : J ws pc lv (.int y :: .int x :: st) := by
  obtain ⟨p, e, s, m, args, below, meth, c, hx, hb, hml, ho, hK, hr, hlk, rfl⟩ := hJ
  intro H locs ls hP hD hS hl
  exact va_mmax hx hb (hml.trans hl.1.symm) ho (hK.2.1 _ hw rfl args) (hK.2.1 _ h2 rfl args) (hK.2.1 _ h3 rfl args) (hK.2.1 _ h4 rfl args) hf hlo (Nat.zero_le _) (Nat.zero_le _) hd (kk H locs ls hP hD hS hl)
theorem jj_min (hJ : jJ l cc nL D tys own R rt A ro wf J) {index : Nat} {x y : Int32} (hd : decode cc pc = .ok (.invokestatic index, 3)) (hw : Cond.methodLink own index Lib.Math.min.name ∈ lw_tbl) (h2 : Cond.static Lib.Math.min.name ∈ lw_tbl) (h3 : Cond.initialized "java/lang/Math" ∈ lw_tbl) (h4 : Cond.code Lib.Math.min.name Lib.Math.min.code 2 (some .int) ∈ lw_tbl) (hf : 1 ≤ R.frames) (hlo : (st.map fun v => v.category).sum + 13 ≤ R.locals) (kk : J ws (pc + 3) lv (.int (if y < x then y else x) :: st)) : J ws pc lv (.int y :: .int x :: st) := by
  obtain ⟨p, e, s, m, args, below, meth, c, hx, hb, hml, ho, hK, hr, hlk, rfl⟩ := hJ
  intro H locs ls hP hD hS hl
  exact va_mmin hx hb (hml.trans hl.1.symm) ho (hK.2.1 _ hw rfl args) (hK.2.1 _ h2 rfl args) (hK.2.1 _ h3 rfl args) (hK.2.1 _ h4 rfl args) hf hlo (Nat.zero_le _) (Nat.zero_le _) hd (kk H locs ls hP hD hS hl)
theorem jj_copy (hJ : jJ l cc nL D tys own R rt A ro wf J) {index a a0 n0 n1 : Nat} {c0 c1 : ClassId} {f g h : Nat → Int32} {sp dp n : Int32} {wn : va_W} (hd : decode cc pc = .ok (.invokestatic index, 3)) (hw : Cond.methodLink own index arraycopyName ∈ lw_tbl) (h2 : Cond.native arraycopyName ∈ lw_tbl) (h3 : Cond.static arraycopyName ∈ lw_tbl) (h4 : Cond.initialized "java/lang/System" ∈ lw_tbl) (q0 q1 t0 t1 : Nat) (ha0 : ws[q0]? = some (a0, .inl (c0, n0, .inl f))) (ha1 : ws[q1]? = some (a, .inl (c1, n1, .inl g))) (ht0 : tys[t0]? = some (c0, .int)) (ht1 : tys[t1]? = some (c1, .int)) (g1 : ¬ sp < 0) (g2 : ¬ dp < 0) (g3 : ¬ n < 0) (g4 : sp.toNatClampNeg + n.toNatClampNeg ≤ n0) (g5 : dp.toNatClampNeg + n.toNatClampNeg ≤ n1) (hf : 1 ≤ R.frames) (hlo : (st.map fun v => v.category).sum + (nativeFrameWords "java/lang/System" "arraycopy" 5 + 11) ≤ R.locals) (hh : va_cpy f g sp.toNatClampNeg dp.toNatClampNeg n.toNatClampNeg = h) (hwn : ws.set q1 (a, .inl (c1, n1, .inl h)) = wn) (kk : J wn (pc + 3) lv st) : J ws pc lv (.int n :: .int dp :: .ref a :: .int sp :: .ref a0 :: st) := by
  obtain ⟨p, e, s, m, args, below, meth, c, hx, hb, hml, ho, hK, hr, hlk, rfl⟩ := hJ
  intro H locs ls hP hD hS hl
  subst hh
  subst hwn
  exact va_copyi (ty := .int) hx hb (hml.trans hl.1.symm) ho (hK.2.1 _ hw rfl args) (hK.2.1 _ h2 rfl args) (hK.2.1 _ h3 rfl args) (hK.2.1 _ h4 rfl args) hK.1 hP hD hS q0 q1 t0 t1 ha0 ha1 ht0 ht1 rfl g1 g2 g3 g4 g5 (fun _ _ => rfl) hf hlo hd (fun H locs hP hD hS => kk H locs ls hP hD hS hl)
end JR
end
section
/-! Calls: the callee's cells are put back at their places. -/
def selW (ws wc' : va_W) : List (Option Nat) → Nat → List (Option (Nat × va_E))
  | [], _ => []
  | none :: r, k => ws[k]? :: selW ws wc' r (k + 1)
  | some j :: r, k => wc'[j]? :: selW ws wc' r (k + 1)
def selOk (isC : List Nat) : List (Option Nat) → Nat → Bool
  | [], _ => true
  | none :: r, k => decide (k ∉ isC) && selOk isC r (k + 1)
  | some j :: r, k => decide (isC[j]? = some k) && selOk isC r (k + 1)
theorem selW_get (ws wc' : va_W) : ∀ (sel : List (Option Nat)) (s0 k : Nat) (q : Nat × va_E), (selW ws wc' sel s0)[k]? = some (some q) → (∃ j : Nat, sel[k]? = some (some j) ∧ wc'[j]? = some q) ∨ (sel[k]? = some none ∧ ws[s0 + k]? = some q)
  | [], s0, k, q, h => by simp [selW] at h
  | none :: r, s0, 0, q, h => by
    have h : ws[s0]? = some q := by simpa [selW] using h
    exact Or.inr ⟨rfl, h⟩
  | some j :: r, s0, 0, q, h => by
    have h : wc'[j]? = some q := by simpa [selW] using h
    exact Or.inl ⟨j, rfl, h⟩
  | none :: r, s0, k + 1, q, h => by
    have h : (selW ws wc' r (s0 + 1))[k]? = some (some q) := by simpa [selW] using h
    rcases selW_get ws wc' r (s0 + 1) k q h with ⟨j, h1, h2⟩ | ⟨h1, h2⟩
    · exact Or.inl ⟨j, by simpa using h1, h2⟩
    · exact Or.inr ⟨by simpa using h1, by rw [show s0 + (k + 1) = s0 + 1 + k by omega]; exact h2⟩
  | some j0 :: r, s0, k + 1, q, h => by
    have h : (selW ws wc' r (s0 + 1))[k]? = some (some q) := by simpa [selW] using h
    rcases selW_get ws wc' r (s0 + 1) k q h with ⟨j, h1, h2⟩ | ⟨h1, h2⟩
    · exact Or.inl ⟨j, by simpa using h1, h2⟩
    · exact Or.inr ⟨by simpa using h1, by rw [show s0 + (k + 1) = s0 + 1 + k by omega]; exact h2⟩
theorem selOk_some (isC : List Nat) : ∀ (sel : List (Option Nat)) (s0 k j : Nat), selOk isC sel s0 = true → sel[k]? = some (some j) → isC[j]? = some (s0 + k)
  | [], s0, k, j, _, h => by simp at h
  | none :: r, s0, 0, j, _, h => by simp at h
  | some j0 :: r, s0, 0, j, ho, h => by
    have e : j0 = j := by simpa using h
    subst e
    have h1 : isC[j0]? = some s0 ∧ selOk isC r (s0 + 1) = true := by simpa [selOk] using ho
    exact h1.1
  | none :: r, s0, k + 1, j, ho, h => by
    have h1 : s0 ∉ isC ∧ selOk isC r (s0 + 1) = true := by simpa [selOk] using ho
    rw [show s0 + (k + 1) = s0 + 1 + k by omega]
    exact selOk_some isC r (s0 + 1) k j h1.2 (by simpa using h)
  | some j0 :: r, s0, k + 1, j, ho, h => by
    have h1 : isC[j0]? = some s0 ∧ selOk isC r (s0 + 1) = true := by simpa [selOk] using ho
    rw [show s0 + (k + 1) = s0 + 1 + k by omega]
    exact selOk_some isC r (s0 + 1) k j h1.2 (by simpa using h)
theorem selOk_none (isC : List Nat) : ∀ (sel : List (Option Nat)) (s0 k : Nat), selOk isC sel s0 = true → sel[k]? = some none → s0 + k ∉ isC
  | [], s0, k, _, h => by simp at h
  | some j0 :: r, s0, 0, _, h => by simp at h
  | none :: r, s0, 0, ho, h => by
    have h1 : s0 ∉ isC ∧ selOk isC r (s0 + 1) = true := by simpa [selOk] using ho
    exact h1.1
  | none :: r, s0, k + 1, ho, h => by
    have h1 : s0 ∉ isC ∧ selOk isC r (s0 + 1) = true := by simpa [selOk] using ho
    rw [show s0 + (k + 1) = s0 + 1 + k by omega]
    exact selOk_none isC r (s0 + 1) k h1.2 (by simpa using h)
  | some j0 :: r, s0, k + 1, ho, h => by
    have h1 : isC[j0]? = some s0 ∧ selOk isC r (s0 + 1) = true := by simpa [selOk] using ho
    rw [show s0 + (k + 1) = s0 + 1 + k by omega]
    exact selOk_none isC r (s0 + 1) k h1.2 (by simpa using h)
theorem atC_of {ws wc : va_W} {isC : List Nat} (hC : isC.map (fun i => ws[i]?) = wc.map some) (j : Nat) (q : Nat × va_E) (hq : wc[j]? = some q) : ∃ i, isC[j]? = some i ∧ ws[i]? = some q := by
  have h1 : (isC.map (fun i => ws[i]?))[j]? = some (some q) := by rw [hC, List.getElem?_map, hq]; rfl
  rw [List.getElem?_map] at h1
  cases hi : isC[j]? with
  | none => rw [hi] at h1; cases h1
  | some i => rw [hi] at h1; exact ⟨i, rfl, Option.some.inj h1⟩
/-- the new world wn: at each place what stood there, or the callee's cell of that number -/
def jNew (ws wc wc' wn : va_W) (isC : List Nat) : Prop := ∀ (k : Nat) (q : Nat × va_E), wn[k]? = some q → (∃ j : Nat, isC[j]? = some k ∧ wc'[j]? = some q ∧ ∃ q0, wc[j]? = some q0 ∧ q0.1 = q.1) ∨ (ws[k]? = some q ∧ k ∉ isC)
theorem jNew_sel {ws wc wc' wn : va_W} {isC : List Nat} (ha : wc'.map Prod.fst = wc.map Prod.fst) (sel : List (Option Nat)) (hok : selOk isC sel 0 = true) (hs : selW ws wc' sel 0 = wn.map some) : jNew ws wc wc' wn isC := by
  intro k q hk
  have h1 : (selW ws wc' sel 0)[k]? = some (some q) := by rw [hs, List.getElem?_map, hk]; rfl
  rcases selW_get ws wc' sel 0 k q h1 with ⟨j, h2, h3⟩ | ⟨h2, h3⟩
  · have h4 := selOk_some isC sel 0 k j hok h2
    rw [Nat.zero_add] at h4
    have hj : (wc.map Prod.fst)[j]? = some q.1 := by rw [← ha, List.getElem?_map, h3]; rfl
    rw [List.getElem?_map] at hj
    cases hw : wc[j]? with
    | none => rw [hw] at hj; cases hj
    | some q0 => rw [hw] at hj; exact Or.inl ⟨j, h4, h3, q0, hw, Option.some.inj hj⟩
  · have h4 := selOk_none isC sel 0 k hok h2
    rw [Nat.zero_add] at h3 h4
    exact Or.inr ⟨h3, h4⟩
theorem put_world {A : Nat → Prop} {D : va_G} {ws wc wc' wn : va_W} {isC : List Nat} {H H1 : Heap} (hP : va_P D vwCl ws H) (hD : va_D A ws) (hC : isC.map (fun i => ws[i]?) = wc.map some) (hN : jNew ws wc wc' wn isC)
    (hk : ∀ q : Nat, q < H.size → ¬ aS wc q → H1[q]? = H[q]?) (hP1 : va_P D vwCl wc' H1) : va_P D vwCl wn H1 ∧ va_D A wn := by
  have old : ∀ (k : Nat) (q : Nat × va_E), wn[k]? = some q → ∃ q0, ws[k]? = some q0 ∧ q0.1 = q.1 := by
    intro k q h
    rcases hN k q h with ⟨j, h1, h2, q0, h3, h4⟩ | ⟨h1, -⟩
    · obtain ⟨i, h5, h6⟩ := atC_of hC j q0 h3
      have : i = k := Option.some.inj (h5.symm.trans h1)
      subst this
      exact ⟨q0, h6, h4⟩
    · exact ⟨q, h1, rfl⟩
  refine ⟨fun k q h => ?_, fun i j x y hi hj hxy => ?_, fun k q h => ?_⟩
  · rcases hN k q h with ⟨j, h1, h2, -⟩ | ⟨h1, h2⟩
    · exact hP1 j q h2
    · refine (hP k q h1).kept (hk q.1 ((hP k q h1).lt) ?_)
      rintro ⟨j, e, hj⟩
      obtain ⟨i, h3, h4⟩ := atC_of hC j _ hj
      have := hD.1 k i q (q.1, e) h1 h4 rfl
      subst this
      exact h2 (List.mem_of_getElem? h3)
  · obtain ⟨x0, h1, h2⟩ := old i x hi
    obtain ⟨y0, h3, h4⟩ := old j y hj
    exact hD.1 i j x0 y0 h1 h3 (h2.trans (hxy.trans h4.symm))
  · obtain ⟨q0, h1, h2⟩ := old k q h
    rw [← h2]
    exact hD.2 k q0 h1
theorem keep_world {A : Nat → Prop} {D : va_G} {ws wc : va_W} {isC : List Nat} {H H1 : Heap} (hP : va_P D vwCl ws H) (hD : va_D A ws) (hC : isC.map (fun i => ws[i]?) = wc.map some)
    (hk : ∀ q : Nat, q < H.size → ¬ aS wc q → H1[q]? = H[q]?) (hP1 : va_P D vwCl wc H1) : va_P D vwCl ws H1 := by
  intro k q h
  by_cases hq : aS wc q.1
  · obtain ⟨j, e, hj⟩ := hq
    obtain ⟨i, h3, h4⟩ := atC_of hC j _ hj
    have := hD.1 k i q (q.1, e) h h4 rfl
    subst this
    have e9 : q = (q.1, e) := Option.some.inj (h.symm.trans h4)
    rw [e9]
    exact hP1 j _ hj
  · exact (hP k q h).kept (hk q.1 ((hP k q h).lt) hq)
theorem cPre_blind {D : va_G} {tys : List (ClassId × FieldType)} {av : List Value} {ws : va_W} : FrameBlind (cPre D tys av ws) := fun _ U g mk h => ⟨h.1, h.2.1, jK.warm (U := U.calling g mk _) (State.WarmedH.refl U) h.2.2.1, h.2.2.2⟩
theorem sub_D {A : Nat → Prop} {ws wc : va_W} {isC : List Nat} (hD : va_D A ws) (hnd : va_nd isC = true) (hC : isC.map (fun i => ws[i]?) = wc.map some) : va_D (fun _ => True) wc := (hD.sub isC hnd hC).weaken (fun _ _ _ _ => trivial)
theorem sub_P {D : va_G} {ws wc : va_W} {isC : List Nat} {H : Heap} (hP : va_P D vwCl ws H) (hC : isC.map (fun i => ws[i]?) = wc.map some) : va_P D vwCl wc H := by
  intro k q hk
  have h1 : (isC.map (fun i => ws[i]?))[k]? = some (some q) := by rw [hC, List.getElem?_map, hk]; rfl
  rw [List.getElem?_map] at h1
  cases hi : isC[k]? with
  | none => rw [hi] at h1; cases h1
  | some i => rw [hi] at h1; exact hP i q (Option.some.inj h1)
theorem sub_A {A : Nat → Prop} {ws wc : va_W} {isC : List Nat} (hD : va_D A ws) (hC : isC.map (fun i => ws[i]?) = wc.map some) : ∀ q, aS wc q → A q := by
  rintro q ⟨k, e, hk⟩
  have h1 : (isC.map (fun i => ws[i]?))[k]? = some (some (q, e)) := by rw [hC, List.getElem?_map, hk]; rfl
  rw [List.getElem?_map] at h1
  cases hi : isC[k]? with
  | none => rw [hi] at h1; cases h1
  | some i => rw [hi] at h1; exact hD.2 i _ (Option.some.inj h1)
/-- what a method's call wants of the tables -/
def cwOk (y : MethodName) (bytes : ByteArray) (maxL : Nat) (rty : Option FieldType) (n : Nat) : Prop := Cond.code y bytes maxL rty ∈ lw_tbl ∧ Cond.initialized y.cls ∈ lw_tbl ∧ y.cls ≠ "java/lang/invoke/MethodHandle" ∧ y.cls ≠ "java/lang/invoke/VarHandle" ∧ (parseMethodDescriptor y.desc).map (fun d => d.parameters.length) = some n
def cwRm (R Rc : Room) (maxL : Nat) : Prop := Rc.frames + 1 ≤ R.frames ∧ 8 + (maxL + 11) + Rc.locals ≤ R.locals ∧ Rc.cells = 0 ∧ Rc.slots = 0
section JC
variable {l : Launch} {cc : ByteArray} {nL : Nat} {D : va_G} {tys : List (ClassId × FieldType)} {own : String} {R : Room} {rt : Option FieldType} {A : Nat → Prop} {ro : Option Int32} {wf : va_W} {J : jT} {ws : va_W} {pc : Nat} {lv : List (Nat × Value)} {st : List Value}
theorem jcB {s : State} {args : Array Value} {y : MethodName} {bytes : ByteArray} {maxL n index : Nat} {rty : Option FieldType} {Rc : Room} (hK : jK D tys s) (ho : cwOk y bytes maxL rty n) (hR : cwRm R Rc maxL) (h1 : Cond.methodLink own index y ∈ lw_tbl) : CallB R s args own index y bytes maxL rty [Cond.code y bytes maxL rty] Rc 0 0 n := by
  refine ⟨hR.2.2.1, hR.2.2.2, hR.1, hR.2.1, fun w hw a' U hW => ?_, List.mem_cons_self, hK.2.1 _ ho.1 rfl args, hK.2.1 _ ho.2.1 rfl args, ⟨ho.2.2.1, ho.2.2.2.1⟩, fun sig h => ?_, hK.2.1 _ h1 rfl args⟩
  · cases List.mem_singleton.mp hw
    exact (hK.2.1.warm hW) _ ho.1 rfl a'
  · have h2 := ho.2.2.2.2
    rw [h] at h2
    exact (Option.some.inj h2).symm
theorem jcN {s : State} {args : Array Value} {y : MethodName} {bytes : ByteArray} {maxL n index : Nat} {host : String} {rty : Option FieldType} {Rc : Room} (hK : jK D tys s) (ho : cwOk y bytes maxL rty n) (hR : cwRm R Rc maxL) (h1 : (own, index, y, host) ∈ nestM) : va_CN R s args own index y host bytes maxL rty [Cond.code y bytes maxL rty] Rc 0 0 n := by
  refine ⟨⟨hR.2.2.1, hR.2.2.2, hR.1, hR.2.1, fun w hw a' U hW => ?_, List.mem_cons_self⟩, hK.2.1 _ ho.1 rfl args, hK.2.1 _ ho.2.1 rfl args, ⟨ho.2.2.1, ho.2.2.2.1⟩, fun sig h => ?_, va_Nw.use rfl (hK.2.2.2 _ h1)⟩
  · cases List.mem_singleton.mp hw
    exact (hK.2.1.warm hW) _ ho.1 rfl a'
  · have h2 := ho.2.2.2.2
    rw [h] at h2
    exact (Option.some.inj h2).symm
theorem jRun {p : Program} {e : Env} {s : State} {m : MethodId} {args : Array Value} {below : List Frame} {meth : Method} {c : Code} {H : Heap} {locs : List Loc} {ls : Array Slot} {Q : State → Prop} {st0 rest : List Value} {wc wc' wn : va_W} {r : Option Int32} {isC : List Nat} {a : Array Value}
    (hr : va_Run p l e R s m args below meth c H locs 0 0 0 0 (F0 m pc ls st0) rest (cPost D (aS wc) r wc' a) (aS wc)) (hP : va_P D vwCl ws H) (hD : va_D A ws) (hS : va_S A s.heap H locs) (hC : isC.map (fun i => ws[i]?) = wc.map some) (hN : jNew ws wc wc' wn isC)
    (kk : ∀ (H1 : Heap) (locs1 : List Loc), va_P D vwCl wn H1 → va_D A wn → va_S A s.heap H1 locs1 → W p l e R s m args below meth c H1 locs1 0 0 Q (F0 m (pc + 3) ls ((r.map Value.int).toList ++ rest))) : W p l e R s m args below meth c H locs 0 0 Q (F0 m pc ls st0) := by
  intro T hT X
  obtain ⟨v, st₀, t, T', L, h0, X', hL, e1, e2, ⟨hv, hP1, hz, hk⟩, stp⟩ := hr T hT X
  have hv' : v = r.map Value.int := by cases hv; rfl
  subst hv'
  rw [h0] at hz hk
  rw [← e1] at hP1 hz hk
  obtain ⟨hP2, hD2⟩ := put_world (isC := isC) hP hD hC hN hk hP1
  have hS2 : va_S A s.heap T'.heap (locs ++ L) := ⟨Nat.le_trans hS.1 hz, fun q h1 h2 => by rw [hk q (Nat.lt_of_lt_of_le h1 hS.1) (fun z => h2 (sub_A hD hC q z))]; exact hS.2.1 q h1 h2, fun q hq => (List.mem_append.mp hq).elim (hS.2.2 q) (fun h => sub_A hD hC _ (hL q h))⟩
  obtain ⟨t2, a1, b1⟩ := kk T'.heap (locs ++ L) hP2 hD2 hS2 T' rfl X'
  exact ⟨t2, stp t2 a1, b1⟩
theorem jRun0 {p : Program} {e : Env} {s : State} {m : MethodId} {args : Array Value} {below : List Frame} {meth : Method} {c : Code} {H : Heap} {locs : List Loc} {ls : Array Slot} {Q : State → Prop} {st0 rest : List Value} {wc : va_W} {r : Option Int32} {isC : List Nat} {a : Array Value}
    (hr : va_Run p l e R s m args below meth c H locs 0 0 0 0 (F0 m pc ls st0) rest (cPost D (aS wc) r wc a) (aS wc)) (hP : va_P D vwCl ws H) (hD : va_D A ws) (hS : va_S A s.heap H locs) (hC : isC.map (fun i => ws[i]?) = wc.map some)
    (kk : ∀ (H1 : Heap) (locs1 : List Loc), va_P D vwCl ws H1 → va_S A s.heap H1 locs1 → W p l e R s m args below meth c H1 locs1 0 0 Q (F0 m (pc + 3) ls ((r.map Value.int).toList ++ rest))) : W p l e R s m args below meth c H locs 0 0 Q (F0 m pc ls st0) := by
  intro T hT X
  obtain ⟨v, st₀, t, T', L, h0, X', hL, e1, e2, ⟨hv, hP1, hz, hk⟩, stp⟩ := hr T hT X
  have hv' : v = r.map Value.int := by cases hv; rfl
  subst hv'
  rw [h0] at hz hk
  rw [← e1] at hP1 hz hk
  have hP2 := keep_world (isC := isC) hP hD hC hk hP1
  have hS2 : va_S A s.heap T'.heap (locs ++ L) := ⟨Nat.le_trans hS.1 hz, fun q h1 h2 => by rw [hk q (Nat.lt_of_lt_of_le h1 hS.1) (fun z => h2 (sub_A hD hC q z))]; exact hS.2.1 q h1 h2, fun q hq => (List.mem_append.mp hq).elim (hS.2.2 q) (fun h => sub_A hD hC _ (hL q h))⟩
  obtain ⟨t2, a1, b1⟩ := kk T'.heap (locs ++ L) hP2 hS2 T' rfl X'
  exact ⟨t2, stp t2 a1, b1⟩
theorem jj_callV (hJ : jJ l cc nL D tys own R rt A ro wf J) {y : MethodName} {bytes : ByteArray} {maxL n index b ci N : Nat} {rty : Option FieldType} {Rc : Room} {As rest : List Value} {wc wc' wn : va_W} {r : Option Int32} {C : String} {T : u_T} {fs : List Value}
    (hM : MJ l y bytes maxL rty Rc D tys (.ref b :: As) wc r wc') (hd : decode cc pc = .ok (.invokevirtual index, 3)) (hk : cwOk y bytes maxL rty n) (hR : cwRm R Rc maxL) (h1 : Cond.methodLink own index y ∈ lw_tbl) (h2 : Cond.instanceMethod y ∈ lw_tbl) (h3 : Cond.selects C y y ∈ lw_tbl)
    (q0 : Nat) (he : ws[q0]? = some (b, .inr (ci, fs))) (hc : vwCl[ci]? = some (C, T, N)) (hn : As.length = n) (hst : As.reverse ++ .ref b :: rest = st) (hroom : (rest.map fun v => v.category).sum ≤ 8) (isC : List Nat) (hC : isC.map (fun i => ws[i]?) = wc.map some) (hnd : va_nd isC = true) (hN : jNew ws wc wc' wn isC)
    (kk : J wn (pc + 3) lv ((r.map Value.int).toList ++ rest)) : J ws pc lv st := by
  subst hst
  obtain ⟨p, e, s, m, args, below, meth, c, hx, hb, hml, ho, hK, hr, hlk, rfl⟩ := hJ
  intro H locs ls hP hD hS hl
  exact jRun (va_runV (Ts := []) (As := As) (rest := rest) ⟨hx, hb, hml, ho, fun _ h => absurd h List.not_mem_nil⟩ hM ⟨jcB hK hk hR h1, hK.2.1 _ h2 rfl args, hK.2.1 _ h3 rfl args⟩ ⟨cPre_blind, va_recv hK.1 hP hc he, fun U hU hW => ⟨rfl, by rw [hU]; exact sub_P hP hC, hK.warm hW, sub_D hD hnd hC⟩⟩ rfl hn hl.1 rfl (lv_room hroom) hd ⟨Nat.zero_le _, Nat.zero_le _⟩) hP hD hS hC hN (fun H locs hP hD hS => kk H locs ls hP hD hS hl)
theorem jj_callN (hJ : jJ l cc nL D tys own R rt A ro wf J) {y : MethodName} {bytes : ByteArray} {maxL n index b ci N : Nat} {rty : Option FieldType} {Rc : Room} {As rest : List Value} {wc wc' wn : va_W} {r : Option Int32} {C host : String} {T : u_T} {fs : List Value}
    (hM : MJ l y bytes maxL rty Rc D tys (.ref b :: As) wc r wc') (hd : decode cc pc = .ok (.invokevirtual index, 3)) (hk : cwOk y bytes maxL rty n) (hR : cwRm R Rc maxL) (h1 : (own, index, y, host) ∈ nestM) (h2 : Cond.instanceMethod y ∈ lw_tbl) (h3 : Cond.selects C y y ∈ lw_tbl)
    (q0 : Nat) (he : ws[q0]? = some (b, .inr (ci, fs))) (hc : vwCl[ci]? = some (C, T, N)) (hn : As.length = n) (hst : As.reverse ++ .ref b :: rest = st) (hroom : (rest.map fun v => v.category).sum ≤ 8) (isC : List Nat) (hC : isC.map (fun i => ws[i]?) = wc.map some) (hnd : va_nd isC = true) (hN : jNew ws wc wc' wn isC)
    (kk : J wn (pc + 3) lv ((r.map Value.int).toList ++ rest)) : J ws pc lv st := by
  subst hst
  obtain ⟨p, e, s, m, args, below, meth, c, hx, hb, hml, ho, hK, hr, hlk, rfl⟩ := hJ
  intro H locs ls hP hD hS hl
  exact jRun (va_runVN (Ts := []) (C := C) (As := As) (rest := rest) ⟨hx, hb, hml, ho, fun _ h => absurd h List.not_mem_nil⟩ hM ⟨jcN hK hk hR h1, hK.2.1 _ h2 rfl args, hK.2.1 _ h3 rfl args⟩ ⟨cPre_blind, va_recv hK.1 hP hc he, fun U hU hW => ⟨rfl, by rw [hU]; exact sub_P hP hC, hK.warm hW, sub_D hD hnd hC⟩⟩ rfl hn hl.1 rfl (lv_room hroom) hd ⟨Nat.zero_le _, Nat.zero_le _⟩) hP hD hS hC hN (fun H locs hP hD hS => kk H locs ls hP hD hS hl)
theorem jj_callS (hJ : jJ l cc nL D tys own R rt A ro wf J) {y : MethodName} {bytes : ByteArray} {maxL n index : Nat} {rty : Option FieldType} {Rc : Room} {As rest : List Value} {wc wc' wn : va_W} {r : Option Int32}
    (hM : MJ l y bytes maxL rty Rc D tys As wc r wc') (hd : decode cc pc = .ok (.invokestatic index, 3)) (hk : cwOk y bytes maxL rty n) (hR : cwRm R Rc maxL) (h1 : Cond.methodLink own index y ∈ lw_tbl) (h2 : Cond.static y ∈ lw_tbl)
    (hn : As.length = n) (hst : As.reverse ++ rest = st) (hroom : (rest.map fun v => v.category).sum ≤ 8) (isC : List Nat) (hC : isC.map (fun i => ws[i]?) = wc.map some) (hnd : va_nd isC = true) (hN : jNew ws wc wc' wn isC)
    (kk : J wn (pc + 3) lv ((r.map Value.int).toList ++ rest)) : J ws pc lv st := by
  subst hst
  obtain ⟨p, e, s, m, args, below, meth, c, hx, hb, hml, ho, hK, hr, hlk, rfl⟩ := hJ
  intro H locs ls hP hD hS hl
  exact jRun (va_runS (Ts := []) (As := As) (rest := rest) ⟨hx, hb, hml, ho, fun _ h => absurd h List.not_mem_nil⟩ hM ⟨jcB hK hk hR h1, hK.2.1 _ h2 rfl args⟩ ⟨cPre_blind, fun U hU hW => ⟨rfl, by rw [hU]; exact sub_P hP hC, hK.warm hW, sub_D hD hnd hC⟩⟩ rfl hn hl.1 rfl (lv_room hroom) hd ⟨Nat.zero_le _, Nat.zero_le _⟩) hP hD hS hC hN (fun H locs hP hD hS => kk H locs ls hP hD hS hl)
theorem jj_callV0 (hJ : jJ l cc nL D tys own R rt A ro wf J) {y : MethodName} {bytes : ByteArray} {maxL n index b ci N : Nat} {rty : Option FieldType} {Rc : Room} {As rest : List Value} {wc : va_W} {r : Option Int32} {C : String} {T : u_T} {fs : List Value}
    (hM : MJ l y bytes maxL rty Rc D tys (.ref b :: As) wc r wc) (hd : decode cc pc = .ok (.invokevirtual index, 3)) (hk : cwOk y bytes maxL rty n) (hR : cwRm R Rc maxL) (h1 : Cond.methodLink own index y ∈ lw_tbl) (h2 : Cond.instanceMethod y ∈ lw_tbl) (h3 : Cond.selects C y y ∈ lw_tbl)
    (q0 : Nat) (he : ws[q0]? = some (b, .inr (ci, fs))) (hc : vwCl[ci]? = some (C, T, N)) (hn : As.length = n) (hst : As.reverse ++ .ref b :: rest = st) (hroom : (rest.map fun v => v.category).sum ≤ 8) (isC : List Nat) (hC : isC.map (fun i => ws[i]?) = wc.map some) (hnd : va_nd isC = true)
    (kk : J ws (pc + 3) lv ((r.map Value.int).toList ++ rest)) : J ws pc lv st := by
  subst hst
  obtain ⟨p, e, s, m, args, below, meth, c, hx, hb, hml, ho, hK, hr, hlk, rfl⟩ := hJ
  intro H locs ls hP hD hS hl
  exact jRun0 (va_runV (Ts := []) (As := As) (rest := rest) ⟨hx, hb, hml, ho, fun _ h => absurd h List.not_mem_nil⟩ hM ⟨jcB hK hk hR h1, hK.2.1 _ h2 rfl args, hK.2.1 _ h3 rfl args⟩ ⟨cPre_blind, va_recv hK.1 hP hc he, fun U hU hW => ⟨rfl, by rw [hU]; exact sub_P hP hC, hK.warm hW, sub_D hD hnd hC⟩⟩ rfl hn hl.1 rfl (lv_room hroom) hd ⟨Nat.zero_le _, Nat.zero_le _⟩) hP hD hS hC (fun H locs hP hS => kk H locs ls hP hD hS hl)
theorem jj_callN0 (hJ : jJ l cc nL D tys own R rt A ro wf J) {y : MethodName} {bytes : ByteArray} {maxL n index b ci N : Nat} {rty : Option FieldType} {Rc : Room} {As rest : List Value} {wc : va_W} {r : Option Int32} {C host : String} {T : u_T} {fs : List Value}
    (hM : MJ l y bytes maxL rty Rc D tys (.ref b :: As) wc r wc) (hd : decode cc pc = .ok (.invokevirtual index, 3)) (hk : cwOk y bytes maxL rty n) (hR : cwRm R Rc maxL) (h1 : (own, index, y, host) ∈ nestM) (h2 : Cond.instanceMethod y ∈ lw_tbl) (h3 : Cond.selects C y y ∈ lw_tbl)
    (q0 : Nat) (he : ws[q0]? = some (b, .inr (ci, fs))) (hc : vwCl[ci]? = some (C, T, N)) (hn : As.length = n) (hst : As.reverse ++ .ref b :: rest = st) (hroom : (rest.map fun v => v.category).sum ≤ 8) (isC : List Nat) (hC : isC.map (fun i => ws[i]?) = wc.map some) (hnd : va_nd isC = true)
    (kk : J ws (pc + 3) lv ((r.map Value.int).toList ++ rest)) : J ws pc lv st := by
  subst hst
  obtain ⟨p, e, s, m, args, below, meth, c, hx, hb, hml, ho, hK, hr, hlk, rfl⟩ := hJ
  intro H locs ls hP hD hS hl
  exact jRun0 (va_runVN (Ts := []) (C := C) (As := As) (rest := rest) ⟨hx, hb, hml, ho, fun _ h => absurd h List.not_mem_nil⟩ hM ⟨jcN hK hk hR h1, hK.2.1 _ h2 rfl args, hK.2.1 _ h3 rfl args⟩ ⟨cPre_blind, va_recv hK.1 hP hc he, fun U hU hW => ⟨rfl, by rw [hU]; exact sub_P hP hC, hK.warm hW, sub_D hD hnd hC⟩⟩ rfl hn hl.1 rfl (lv_room hroom) hd ⟨Nat.zero_le _, Nat.zero_le _⟩) hP hD hS hC (fun H locs hP hS => kk H locs ls hP hD hS hl)
theorem jj_callS0 (hJ : jJ l cc nL D tys own R rt A ro wf J) {y : MethodName} {bytes : ByteArray} {maxL n index : Nat} {rty : Option FieldType} {Rc : Room} {As rest : List Value} {wc : va_W} {r : Option Int32}
    (hM : MJ l y bytes maxL rty Rc D tys As wc r wc) (hd : decode cc pc = .ok (.invokestatic index, 3)) (hk : cwOk y bytes maxL rty n) (hR : cwRm R Rc maxL) (h1 : Cond.methodLink own index y ∈ lw_tbl) (h2 : Cond.static y ∈ lw_tbl)
    (hn : As.length = n) (hst : As.reverse ++ rest = st) (hroom : (rest.map fun v => v.category).sum ≤ 8) (isC : List Nat) (hC : isC.map (fun i => ws[i]?) = wc.map some) (hnd : va_nd isC = true)
    (kk : J ws (pc + 3) lv ((r.map Value.int).toList ++ rest)) : J ws pc lv st := by
  subst hst
  obtain ⟨p, e, s, m, args, below, meth, c, hx, hb, hml, ho, hK, hr, hlk, rfl⟩ := hJ
  intro H locs ls hP hD hS hl
  exact jRun0 (va_runS (Ts := []) (As := As) (rest := rest) ⟨hx, hb, hml, ho, fun _ h => absurd h List.not_mem_nil⟩ hM ⟨jcB hK hk hR h1, hK.2.1 _ h2 rfl args⟩ ⟨cPre_blind, fun U hU hW => ⟨rfl, by rw [hU]; exact sub_P hP hC, hK.warm hW, sub_D hD hnd hC⟩⟩ rfl hn hl.1 rfl (lv_room hroom) hd ⟨Nat.zero_le _, Nat.zero_le _⟩) hP hD hS hC (fun H locs hP hS => kk H locs ls hP hD hS hl)
end JC
end
section
theorem no_some {α : Type} {x : α} {P : Prop} (h : (none : Option α) = some x) : P := by cases h
theorem tb1 {w : Cond} {i : Nat} (h : tables_1_1[i]? = some w) : w ∈ lw_tbl := List.mem_append_right _ (List.mem_append_left _ (List.mem_of_getElem? h))
theorem tb2 {w : Cond} {i : Nat} (h : tables_1_2[i]? = some w) : w ∈ lw_tbl := List.mem_append_right _ (List.mem_append_right _ (List.mem_append_left _ (List.mem_of_getElem? h)))
theorem tb3 {w : Cond} {i : Nat} (h : tables_1_3[i]? = some w) : w ∈ lw_tbl := List.mem_append_right _ (List.mem_append_right _ (List.mem_append_right _ (List.mem_append_left _ (List.mem_of_getElem? h))))
theorem tb4 {w : Cond} {i : Nat} (h : tables_1_4[i]? = some w) : w ∈ lw_tbl := List.mem_append_right _ (List.mem_append_right _ (List.mem_append_right _ (List.mem_append_right _ (List.mem_of_getElem? h))))
theorem tsel {q : MethodName × Nat} {i : Nat} (h : lw_privs[i]? = some q) : Cond.selects q.1.cls q.1 q.1 ∈ lw_tbl := List.mem_append_left _ (List.mem_map.mpr ⟨q, List.mem_of_getElem? h, rfl⟩)
def FU : Nat := 70000
def bz (x : Int32) : Option Int32 := if x = 0 ∨ x = 1 then some x else none
theorem bz_some {x y : Int32} (h : bz x = some y) : x = 0 ∨ x = 1 := by
  unfold bz at h
  by_cases hc : x = 0 ∨ x = 1
  · exact hc
  · rw [if_neg hc] at h; cases h
def ck (n k : Nat) : Option Nat := if k < n then some k else none
theorem ck_lt {n k j : Nat} (h : ck n k = some j) : k < n := by
  unfold ck at h
  by_cases hc : k < n
  · exact hc
  · rw [if_neg hc] at h; cases h
abbrev tysU (cI cS cII : ClassId) : List (ClassId × FieldType) := [(cI, .int), (cS, .object "UniverseLevels$State"), (cII, .array .int)]
def rw10 (cI : ClassId) (ga : Nat → Nat) (G : Nat → Nat → Int32) : va_W := [(ga 0, .inl (cI, 10, .inl (G 0))), (ga 1, .inl (cI, 10, .inl (G 1))), (ga 2, .inl (cI, 10, .inl (G 2))), (ga 3, .inl (cI, 10, .inl (G 3))), (ga 4, .inl (cI, 10, .inl (G 4))), (ga 5, .inl (cI, 10, .inl (G 5))), (ga 6, .inl (cI, 10, .inl (G 6))), (ga 7, .inl (cI, 10, .inl (G 7))), (ga 8, .inl (cI, 10, .inl (G 8))), (ga 9, .inl (cI, 10, .inl (G 9)))]
theorem lt10 {j : Nat} (h : j < 10) : j = 0 ∨ j = 1 ∨ j = 2 ∨ j = 3 ∨ j = 4 ∨ j = 5 ∨ j = 6 ∨ j = 7 ∨ j = 8 ∨ j = 9 := by omega
theorem rw10_get {cI : ClassId} {ga : Nat → Nat} {G : Nat → Nat → Int32} (X : va_W) {j : Nat} (h : j < 10) : (X ++ rw10 cI ga G)[X.length + j]? = some (ga j, .inl (cI, 10, .inl (G j))) := by
  rw [List.getElem?_append_right (Nat.le_add_right _ _), Nat.add_sub_cancel_left]
  rcases lt10 h with rfl | rfl | rfl | rfl | rfl | rfl | rfl | rfl | rfl | rfl <;> rfl
theorem jj_alen {l : Launch} {cc : ByteArray} {nL : Nat} {D : va_G} {tys : List (ClassId × FieldType)} {own : String} {R : Room} {rt : Option FieldType} {A : Nat → Prop} {ro : Option Int32} {wf : va_W} {J : jT} {ws : va_W} {pc : Nat} {lv : List (Nat × Value)} {st : List Value} (hJ : jJ l cc nL D tys own R rt A ro wf J) {cA : ClassId} {x : vp_A} {a : Nat} {ty : FieldType} {v : Int32} (hd : decode cc pc = .ok (.arraylength, 1)) (q0 t0 : Nat) (ha : ws[q0]? = some (a, .inl (cA, x))) (ht : tys[t0]? = some (cA, ty)) (hv : Int32.ofNat x.1 = v) (kk : J ws (pc + 1) lv (.int v :: st)) : J ws pc lv (.ref a :: st) := by
  obtain ⟨p, e, s, m, args, below, meth, c, hx, hb, hml, ho, hK, hr, hlk, rfl⟩ := hJ
  intro H locs ls hP hD hS hl
  exact va_alen hx hb hK.1 hP q0 t0 ha ht hv hd (kk H locs ls hP hD hS hl)
theorem lay_X0 : ∀ w ∈ u_ws RX0 TX0 4, w ∈ lw_tbl ∧ goodWord w = true := by
  intro w hw
  obtain ⟨k, hk, rfl⟩ := List.mem_map.mp hw
  match k, List.mem_range.mp hk with
  | 0, _ => exact ⟨tb1 (i := 113) rfl, rfl⟩
  | 1, _ => exact ⟨tb1 (i := 115) rfl, rfl⟩
  | 2, _ => exact ⟨tb1 (i := 117) rfl, rfl⟩
  | 3, _ => exact ⟨tb1 (i := 119) rfl, rfl⟩
  | k + 4, h => exact absurd h (by omega)
theorem lay_X1 : ∀ w ∈ u_ws RX1 TX1 2, w ∈ lw_tbl ∧ goodWord w = true := by
  intro w hw
  obtain ⟨k, hk, rfl⟩ := List.mem_map.mp hw
  match k, List.mem_range.mp hk with
  | 0, _ => exact ⟨tb1 (i := 98) rfl, rfl⟩
  | 1, _ => exact ⟨tb1 (i := 100) rfl, rfl⟩
  | k + 2, h => exact absurd h (by omega)
theorem lay_X2 : ∀ w ∈ u_ws RX2 TX2 4, w ∈ lw_tbl ∧ goodWord w = true := by
  intro w hw
  obtain ⟨k, hk, rfl⟩ := List.mem_map.mp hw
  match k, List.mem_range.mp hk with
  | 0, _ => exact ⟨tb1 (i := 153) rfl, rfl⟩
  | 1, _ => exact ⟨tb1 (i := 155) rfl, rfl⟩
  | 2, _ => exact ⟨tb1 (i := 157) rfl, rfl⟩
  | 3, _ => exact ⟨tb1 (i := 159) rfl, rfl⟩
  | k + 4, h => exact absurd h (by omega)
theorem lay_X3 : ∀ w ∈ u_ws RX3 TX3 3, w ∈ lw_tbl ∧ goodWord w = true := by
  intro w hw
  obtain ⟨k, hk, rfl⟩ := List.mem_map.mp hw
  match k, List.mem_range.mp hk with
  | 0, _ => exact ⟨tb1 (i := 134) rfl, rfl⟩
  | 1, _ => exact ⟨tb1 (i := 136) rfl, rfl⟩
  | 2, _ => exact ⟨tb1 (i := 138) rfl, rfl⟩
  | k + 3, h => exact absurd h (by omega)
theorem lay_X4 : ∀ w ∈ u_ws RX4 TX4 6, w ∈ lw_tbl ∧ goodWord w = true := by
  intro w hw
  obtain ⟨k, hk, rfl⟩ := List.mem_map.mp hw
  match k, List.mem_range.mp hk with
  | 0, _ => exact ⟨tb1 (i := 71) rfl, rfl⟩
  | 1, _ => exact ⟨tb1 (i := 73) rfl, rfl⟩
  | 2, _ => exact ⟨tb1 (i := 75) rfl, rfl⟩
  | 3, _ => exact ⟨tb1 (i := 77) rfl, rfl⟩
  | 4, _ => exact ⟨tb1 (i := 79) rfl, rfl⟩
  | 5, _ => exact ⟨tb1 (i := 81) rfl, rfl⟩
  | k + 6, h => exact absurd h (by omega)
theorem lay_X5 : ∀ w ∈ u_ws RX5 TX5 3, w ∈ lw_tbl ∧ goodWord w = true := by
  intro w hw
  obtain ⟨k, hk, rfl⟩ := List.mem_map.mp hw
  match k, List.mem_range.mp hk with
  | 0, _ => exact ⟨tb1 (i := 35) rfl, rfl⟩
  | 1, _ => exact ⟨tb1 (i := 37) rfl, rfl⟩
  | 2, _ => exact ⟨tb1 (i := 39) rfl, rfl⟩
  | k + 3, h => exact absurd h (by omega)
theorem lay_X6 : ∀ w ∈ u_ws RX6 TX6 13, w ∈ lw_tbl ∧ goodWord w = true := by
  intro w hw
  obtain ⟨k, hk, rfl⟩ := List.mem_map.mp hw
  match k, List.mem_range.mp hk with
  | 0, _ => exact ⟨tb2 (i := 87) rfl, rfl⟩
  | 1, _ => exact ⟨tb2 (i := 89) rfl, rfl⟩
  | 2, _ => exact ⟨tb2 (i := 91) rfl, rfl⟩
  | 3, _ => exact ⟨tb2 (i := 93) rfl, rfl⟩
  | 4, _ => exact ⟨tb2 (i := 95) rfl, rfl⟩
  | 5, _ => exact ⟨tb2 (i := 97) rfl, rfl⟩
  | 6, _ => exact ⟨tb2 (i := 99) rfl, rfl⟩
  | 7, _ => exact ⟨tb2 (i := 101) rfl, rfl⟩
  | 8, _ => exact ⟨tb2 (i := 103) rfl, rfl⟩
  | 9, _ => exact ⟨tb2 (i := 105) rfl, rfl⟩
  | 10, _ => exact ⟨tb2 (i := 107) rfl, rfl⟩
  | 11, _ => exact ⟨tb2 (i := 109) rfl, rfl⟩
  | 12, _ => exact ⟨tb2 (i := 111) rfl, rfl⟩
  | k + 13, h => exact absurd h (by omega)
theorem lay_X7 : ∀ w ∈ u_ws RX7 TX7 24, w ∈ lw_tbl ∧ goodWord w = true := by
  intro w hw
  obtain ⟨k, hk, rfl⟩ := List.mem_map.mp hw
  match k, List.mem_range.mp hk with
  | 0, _ => exact ⟨tb3 (i := 198) rfl, rfl⟩
  | 1, _ => exact ⟨tb3 (i := 200) rfl, rfl⟩
  | 2, _ => exact ⟨tb3 (i := 202) rfl, rfl⟩
  | 3, _ => exact ⟨tb3 (i := 204) rfl, rfl⟩
  | 4, _ => exact ⟨tb3 (i := 206) rfl, rfl⟩
  | 5, _ => exact ⟨tb3 (i := 208) rfl, rfl⟩
  | 6, _ => exact ⟨tb3 (i := 210) rfl, rfl⟩
  | 7, _ => exact ⟨tb3 (i := 212) rfl, rfl⟩
  | 8, _ => exact ⟨tb3 (i := 214) rfl, rfl⟩
  | 9, _ => exact ⟨tb3 (i := 216) rfl, rfl⟩
  | 10, _ => exact ⟨tb3 (i := 218) rfl, rfl⟩
  | 11, _ => exact ⟨tb3 (i := 220) rfl, rfl⟩
  | 12, _ => exact ⟨tb3 (i := 222) rfl, rfl⟩
  | 13, _ => exact ⟨tb3 (i := 224) rfl, rfl⟩
  | 14, _ => exact ⟨tb3 (i := 226) rfl, rfl⟩
  | 15, _ => exact ⟨tb3 (i := 228) rfl, rfl⟩
  | 16, _ => exact ⟨tb3 (i := 230) rfl, rfl⟩
  | 17, _ => exact ⟨tb3 (i := 232) rfl, rfl⟩
  | 18, _ => exact ⟨tb3 (i := 234) rfl, rfl⟩
  | 19, _ => exact ⟨tb3 (i := 236) rfl, rfl⟩
  | 20, _ => exact ⟨tb3 (i := 238) rfl, rfl⟩
  | 21, _ => exact ⟨tb4 (i := 0) rfl, rfl⟩
  | 22, _ => exact ⟨tb4 (i := 2) rfl, rfl⟩
  | 23, _ => exact ⟨tb4 (i := 4) rfl, rfl⟩
  | k + 24, h => exact absurd h (by omega)
end
section
theorem ic_0 : Int32.ofInt (0) = (0 : Int32) := by decide
theorem ic_1 : Int32.ofInt (1) = (1 : Int32) := by decide
theorem kw_0 : Cond.fieldLink RX4 30 (TX4 4).1 (TX4 4).2.1 (TX4 4).2.2.1 ∈ lw_tbl := tb1 (i := 64) rfl
theorem bp_10 : (Int8.ofInt (10)).toInt32 = (10 : Int32) := by decide
theorem kw_1 : Cond.fieldLink RX4 9 (TX4 0).1 (TX4 0).2.1 (TX4 0).2.2.1 ∈ lw_tbl := tb1 (i := 49) rfl
theorem ic_3 : Int32.ofInt (3) = (3 : Int32) := by decide
theorem kw_2 : Cond.fieldLink RX4 34 (TX4 5).1 (TX4 5).2.1 (TX4 5).2.2.1 ∈ lw_tbl := tb1 (i := 67) rfl
theorem bp_16 : (Int8.ofInt (16)).toInt32 = (16 : Int32) := by decide
theorem kw_3 : Cond.fieldLink RX4 15 (TX4 1).1 (TX4 1).2.1 (TX4 1).2.2.1 ∈ lw_tbl := tb1 (i := 51) rfl
theorem kw_4 : Cond.fieldLink RX4 18 (TX4 2).1 (TX4 2).2.1 (TX4 2).2.2.1 ∈ lw_tbl := tb1 (i := 55) rfl
theorem kw_5 : Cond.fieldLink RX4 21 (TX4 3).1 (TX4 3).2.1 (TX4 3).2.2.1 ∈ lw_tbl := tb1 (i := 59) rfl
theorem kw_6 : Cond.constant RX4 37 (-1000000) ∈ lw_tbl := tb2 (i := 18) rfl
theorem kw_7 : cwOk yJ7_fill_53178 cJ7_fill_53178 4 none 2 := ⟨tb2 (i := 21) rfl, tb1 (i := 12) rfl, by decide, by decide, by decide +kernel⟩
theorem kw_8 : Cond.methodLink RX4 38 yJ7_fill_53178 ∈ lw_tbl := tb2 (i := 19) rfl
theorem kw_9 : Cond.static yJ7_fill_53178 ∈ lw_tbl := tb2 (i := 20) rfl
theorem kw_10 : Cond.methodLink RX4 44 yX4_lengthen ∈ lw_tbl := tb2 (i := 22) rfl
theorem kw_11 : cwOk yX4_lengthen cX4_lengthen 4 (some .boolean) 2 := ⟨tb2 (i := 25) rfl, tb1 (i := 3) rfl, by decide, by decide, by decide +kernel⟩
theorem kw_12 : Cond.instanceMethod yX4_lengthen ∈ lw_tbl := tb2 (i := 24) rfl
theorem kw_13 : Cond.selects RX4 yX4_lengthen yX4_lengthen ∈ lw_tbl := tsel (i := 10) (q := (⟨"UniverseLevels$State", "lengthen", "(I[I)Z"⟩, 6)) rfl
theorem kw_14 : Cond.methodLink RX4 24 arraycopyName ∈ lw_tbl := tb2 (i := 67) rfl
theorem kw_15 : Cond.native arraycopyName ∈ lw_tbl := tb2 (i := 69) rfl
theorem kw_16 : Cond.static arraycopyName ∈ lw_tbl := tb2 (i := 68) rfl
theorem kw_17 : Cond.initialized "java/lang/System" ∈ lw_tbl := tb1 (i := 14) rfl
section
def W_J7_fill_53178 (cI cS cII : ClassId) (YA : Nat) (Y_x : Nat → Int32) : va_W := [(YA, .inl (cI, 10, .inl Y_x))]
abbrev Rm_J7_fill_53178 : Room := { frames := 0, cells := 0, slots := 0, locals := 0 }
variable {l : Launch} {D : va_G} {cI cS cII : ClassId} {YA : Nat} {A : Nat → Prop} {J : jT}
variable {z_Y_x : Nat → Int32}
def q_J7_fill_53178_5 (a1 : Int32)  : Nat → Int32 → Int32 → (Nat → Int32) → Option (Nat → Int32)
  | 0, _, _, _ => none
  | n + 1, v3, v2, Y_x => if v3 ≤ v2 then (some Y_x) else ((wr Y_x 10 v2 a1).bind fun g2 => q_J7_fill_53178_5 a1 n v3 (v2 + 1) g2)
theorem w_J7_fill_53178_5  {a1 : Int32}  (hJ : jJ l cJ7_fill_53178 4 D (tysU cI cS cII) RJ7 Rm_J7_fill_53178 none A none (W_J7_fill_53178 cI cS cII YA z_Y_x) J)  : ∀ (n : Nat) (v3 : Int32) (v2 : Int32) (Y_x : Nat → Int32), q_J7_fill_53178_5 a1 n v3 v2 Y_x = some z_Y_x → J (W_J7_fill_53178 cI cS cII YA Y_x) 5 [(3, .int v3), (2, .int v2), (0, .ref YA), (1, .int a1)] [] := by
  intro n
  induction n with
  | zero =>
    intro v3 v2 Y_x hF
    exact no_some (show (none : Option (Nat → Int32)) = some z_Y_x from hF)
  | succ n ih =>
    intro v3 v2 Y_x hF
    rw [q_J7_fill_53178_5.eq_2] at hF
    refine jj_iload_n hJ dJ7_fill_53178_5 1 rfl rfl ?_
    refine jj_iload_n hJ dJ7_fill_53178_6 0 rfl rfl ?_
    refine jj_icmp_ge hJ 20 dJ7_fill_53178_7 rfl (fun c1 => ?_) (fun c1 => ?_)
    · replace hF := ip c1 hF
      cases Option.some.inj hF
      exact jj_vret hJ dJ7_fill_53178_20
    · replace hF := iq c1 hF
      refine jj_aload_n hJ dJ7_fill_53178_10 2 rfl rfl ?_
      refine jj_iload_n hJ dJ7_fill_53178_11 1 rfl rfl ?_
      refine jj_iload_n hJ dJ7_fill_53178_12 3 rfl rfl ?_
      obtain ⟨g2, h3, hF⟩ := ob hF
      refine jj_iast hJ dJ7_fill_53178_13 0 0 rfl rfl h3 (wn := (W_J7_fill_53178 cI cS cII YA g2)) rfl ?_
      refine jj_iinc hJ dJ7_fill_53178_14 1 rfl (v := v2 + 1) (by rw [ic_1]) (Nat.le_of_ble_eq_true rfl) (lv' := [(2, .int (v2 + 1)), (3, .int v3), (0, .ref YA), (1, .int a1)]) rfl ?_
      refine jj_goto hJ 5 dJ7_fill_53178_17 rfl ?_
      refine jj_lv hJ [1, 0, 2, 3] (lv' := [(3, .int v3), (2, .int (v2 + 1)), (0, .ref YA), (1, .int a1)]) rfl ?_
      exact ih v3 (v2 + 1) g2 hF
def p_J7_fill_53178 (Y_x : Nat → Int32) (a1 : Int32) : Option (Nat → Int32) := q_J7_fill_53178_5 a1 FU 10 0 Y_x
end
theorem c_J7_fill_53178 (l : Launch) (D : va_G) (cI cS cII : ClassId) (YA : Nat) (Y_x : Nat → Int32) (a1 : Int32) {z_Y_x : Nat → Int32} (hF : p_J7_fill_53178 Y_x a1 = some z_Y_x) : MJ l yJ7_fill_53178 cJ7_fill_53178 4 none Rm_J7_fill_53178 D (tysU cI cS cII) [.ref YA, .int a1] (W_J7_fill_53178 cI cS cII YA Y_x) none (W_J7_fill_53178 cI cS cII YA z_Y_x) := by
  refine mj_of (own := RJ7) (by decide) rfl (Nat.le_of_ble_eq_true rfl) (fun J hJ => ?_)
  show J (W_J7_fill_53178 cI cS cII YA Y_x) 0 [(0, .ref YA), (1, .int a1)] []
  unfold p_J7_fill_53178 at hF
  refine jj_iconst hJ dJ7_fill_53178_0 ic_0 ?_
  refine jj_istore_n hJ dJ7_fill_53178_1 rfl (Nat.le_of_ble_eq_true rfl) (lv' := [(2, .int 0), (0, .ref YA), (1, .int a1)]) rfl ?_
  refine jj_aload_n hJ dJ7_fill_53178_2 1 rfl rfl ?_
  refine jj_alen hJ dJ7_fill_53178_3 0 0 rfl rfl (v := 10) rfl ?_
  refine jj_istore_n hJ dJ7_fill_53178_4 rfl (Nat.le_of_ble_eq_true rfl) (lv' := [(3, .int 10), (2, .int 0), (0, .ref YA), (1, .int a1)]) rfl ?_
  exact w_J7_fill_53178_5 hJ  FU 10 0 Y_x hF
section
def W_X4_addLevel (cI cS cII : ClassId) (SA : Nat → Nat) (S_k : Nat → Int32) (S_f : Nat → Int32) (S_t : Nat → Int32) (S_w : Nat → Int32) (S_l : Int32) (S_b : Int32) : va_W := [((SA 0), .inr (4, [.ref (SA 1), .ref (SA 2), .ref (SA 3), .ref (SA 4), .int S_l, .int S_b])), ((SA 1), .inl (cI, 10, .inl S_k)), ((SA 2), .inl (cI, 16, .inl S_f)), ((SA 3), .inl (cI, 16, .inl S_t)), ((SA 4), .inl (cI, 16, .inl S_w))]
abbrev Rm_X4_addLevel : Room := { frames := 0, cells := 0, slots := 0, locals := 0 }
variable {l : Launch} {D : va_G} {cI cS cII : ClassId} {SA : Nat → Nat} {A : Nat → Prop} {J : jT}
variable {z_S_k : Nat → Int32} {z_S_l : Int32}
def p_X4_addLevel (S_k : Nat → Int32) (S_l : Int32) (a1 : Int32) : Option ((Nat → Int32) × Int32) := if 10 ≤ S_l then (some (S_k, S_l)) else ((wr S_k 10 S_l a1).bind fun g2 => some (g2, S_l + 1))
end
theorem c_X4_addLevel (l : Launch) (D : va_G) (cI cS cII : ClassId) (SA : Nat → Nat) (S_k : Nat → Int32) (S_f : Nat → Int32) (S_t : Nat → Int32) (S_w : Nat → Int32) (S_l : Int32) (S_b : Int32) (a1 : Int32) {z_S_k : Nat → Int32} {z_S_l : Int32} (hF : p_X4_addLevel S_k S_l a1 = some (z_S_k, z_S_l)) : MJ l yX4_addLevel cX4_addLevel 2 none Rm_X4_addLevel D (tysU cI cS cII) [.ref (SA 0), .int a1] (W_X4_addLevel cI cS cII SA S_k S_f S_t S_w S_l S_b) none (W_X4_addLevel cI cS cII SA z_S_k S_f S_t S_w z_S_l S_b) := by
  refine mj_of (own := RX4) (by decide) rfl (Nat.le_of_ble_eq_true rfl) (fun J hJ => ?_)
  show J (W_X4_addLevel cI cS cII SA S_k S_f S_t S_w S_l S_b) 0 [(0, .ref (SA 0)), (1, .int a1)] []
  unfold p_X4_addLevel at hF
  refine jj_aload_n hJ dX4_addLevel_0 0 rfl rfl ?_
  refine jj_get hJ lay_X4 dX4_addLevel_1 0 4 rfl rfl (Nat.le_of_ble_eq_true rfl) kw_0 rfl ?_
  refine jj_bipush hJ dX4_addLevel_4 bp_10 ?_
  refine jj_icmp_ge hJ 29 dX4_addLevel_6 rfl (fun c1 => ?_) (fun c1 => ?_)
  · replace hF := ip c1 hF
    cases Option.some.inj hF
    exact jj_vret hJ dX4_addLevel_29
  · replace hF := iq c1 hF
    refine jj_aload_n hJ dX4_addLevel_9 0 rfl rfl ?_
    refine jj_get hJ lay_X4 dX4_addLevel_10 0 0 rfl rfl (Nat.le_of_ble_eq_true rfl) kw_1 rfl ?_
    refine jj_aload_n hJ dX4_addLevel_13 0 rfl rfl ?_
    refine jj_get hJ lay_X4 dX4_addLevel_14 0 4 rfl rfl (Nat.le_of_ble_eq_true rfl) kw_0 rfl ?_
    refine jj_iload_n hJ dX4_addLevel_17 1 rfl rfl ?_
    obtain ⟨g2, h3, hF⟩ := ob hF
    refine jj_iast hJ dX4_addLevel_18 1 0 rfl rfl h3 (wn := (W_X4_addLevel cI cS cII SA g2 S_f S_t S_w S_l S_b)) rfl ?_
    refine jj_aload_n hJ dX4_addLevel_19 0 rfl rfl ?_
    refine jj_dup hJ dX4_addLevel_20 rfl ?_
    refine jj_get hJ lay_X4 dX4_addLevel_21 0 4 rfl rfl (Nat.le_of_ble_eq_true rfl) kw_0 rfl ?_
    refine jj_iconst hJ dX4_addLevel_24 ic_1 ?_
    refine jj_iadd hJ dX4_addLevel_25 ?_
    refine jj_puti hJ lay_X4 tyX4 tyX4_ok nmX4 dX4_addLevel_26 0 4 rfl rfl (Nat.le_of_ble_eq_true rfl) kw_0 rfl rfl (Nat.le_of_ble_eq_true rfl) (wn := (W_X4_addLevel cI cS cII SA g2 S_f S_t S_w (S_l + 1) S_b)) rfl ?_
    cases Option.some.inj hF
    exact jj_vret hJ dX4_addLevel_29
section
def W_X4_isFloating (cI cS cII : ClassId) (SA : Nat → Nat) (S_k : Nat → Int32) (S_f : Nat → Int32) (S_t : Nat → Int32) (S_w : Nat → Int32) (S_l : Int32) (S_b : Int32) : va_W := [((SA 0), .inr (4, [.ref (SA 1), .ref (SA 2), .ref (SA 3), .ref (SA 4), .int S_l, .int S_b])), ((SA 1), .inl (cI, 10, .inl S_k)), ((SA 2), .inl (cI, 16, .inl S_f)), ((SA 3), .inl (cI, 16, .inl S_t)), ((SA 4), .inl (cI, 16, .inl S_w))]
abbrev Rm_X4_isFloating : Room := { frames := 0, cells := 0, slots := 0, locals := 0 }
variable {l : Launch} {D : va_G} {cI cS cII : ClassId} {SA : Nat → Nat} {A : Nat → Prop} {J : jT}
variable {z_r : Int32}
def p_X4_isFloating (S_k : Nat → Int32) (a1 : Int32) : Option (Int32) := (rd S_k 10 a1).bind fun x1 => if x1 = 1 then (some 1) else ((rd S_k 10 a1).bind fun x4 => if x4 = 3 then (some 1) else (some 0))
end
theorem c_X4_isFloating (l : Launch) (D : va_G) (cI cS cII : ClassId) (SA : Nat → Nat) (S_k : Nat → Int32) (S_f : Nat → Int32) (S_t : Nat → Int32) (S_w : Nat → Int32) (S_l : Int32) (S_b : Int32) (a1 : Int32) {z_r : Int32} (hF : p_X4_isFloating S_k a1 = some z_r) : MJ l yX4_isFloating cX4_isFloating 2 (some .boolean) Rm_X4_isFloating D (tysU cI cS cII) [.ref (SA 0), .int a1] (W_X4_isFloating cI cS cII SA S_k S_f S_t S_w S_l S_b) (some z_r) (W_X4_isFloating cI cS cII SA S_k S_f S_t S_w S_l S_b) := by
  refine mj_of (own := RX4) (by decide) rfl (Nat.le_of_ble_eq_true rfl) (fun J hJ => ?_)
  show J (W_X4_isFloating cI cS cII SA S_k S_f S_t S_w S_l S_b) 0 [(0, .ref (SA 0)), (1, .int a1)] []
  unfold p_X4_isFloating at hF
  refine jj_aload_n hJ dX4_isFloating_0 0 rfl rfl ?_
  refine jj_get hJ lay_X4 dX4_isFloating_1 0 0 rfl rfl (Nat.le_of_ble_eq_true rfl) kw_1 rfl ?_
  refine jj_iload_n hJ dX4_isFloating_4 1 rfl rfl ?_
  obtain ⟨x1, h2, hF⟩ := ob hF
  refine jj_iald hJ dX4_isFloating_5 1 0 rfl rfl h2 ?_
  refine jj_iconst hJ dX4_isFloating_6 ic_1 ?_
  refine jj_icmp_eq hJ 20 dX4_isFloating_7 rfl (fun c3 => ?_) (fun c3 => ?_)
  · replace hF := ip c3 hF
    refine jj_iconst hJ dX4_isFloating_20 ic_1 ?_
    refine jj_goto hJ 25 dX4_isFloating_21 rfl ?_
    cases Option.some.inj hF
    exact jj_zret hJ (Or.inr rfl) dX4_isFloating_25
  · replace hF := iq c3 hF
    refine jj_aload_n hJ dX4_isFloating_10 0 rfl rfl ?_
    refine jj_get hJ lay_X4 dX4_isFloating_11 0 0 rfl rfl (Nat.le_of_ble_eq_true rfl) kw_1 rfl ?_
    refine jj_iload_n hJ dX4_isFloating_14 1 rfl rfl ?_
    obtain ⟨x4, h5, hF⟩ := ob hF
    refine jj_iald hJ dX4_isFloating_15 1 0 rfl rfl h5 ?_
    refine jj_iconst hJ dX4_isFloating_16 ic_3 ?_
    refine jj_icmp_ne hJ 24 dX4_isFloating_17 rfl (fun c6 => ?_) (fun c6 => ?_)
    · replace hF := iq c6 hF
      refine jj_iconst hJ dX4_isFloating_24 ic_0 ?_
      cases Option.some.inj hF
      exact jj_zret hJ (Or.inl rfl) dX4_isFloating_25
    · replace hF := ip c6 hF
      refine jj_iconst hJ dX4_isFloating_20 ic_1 ?_
      refine jj_goto hJ 25 dX4_isFloating_21 rfl ?_
      cases Option.some.inj hF
      exact jj_zret hJ (Or.inr rfl) dX4_isFloating_25
section
def W_X4_weightTowards (cI cS cII : ClassId) (SA : Nat → Nat) (S_k : Nat → Int32) (S_f : Nat → Int32) (S_t : Nat → Int32) (S_w : Nat → Int32) (S_l : Int32) (S_b : Int32) : va_W := [((SA 0), .inr (4, [.ref (SA 1), .ref (SA 2), .ref (SA 3), .ref (SA 4), .int S_l, .int S_b])), ((SA 1), .inl (cI, 10, .inl S_k)), ((SA 2), .inl (cI, 16, .inl S_f)), ((SA 3), .inl (cI, 16, .inl S_t)), ((SA 4), .inl (cI, 16, .inl S_w))]
abbrev Rm_X4_weightTowards : Room := { frames := 0, cells := 0, slots := 0, locals := 0 }
variable {l : Launch} {D : va_G} {cI cS cII : ClassId} {SA : Nat → Nat} {A : Nat → Prop} {J : jT}
variable {z_r : Int32}
def p_X4_weightTowards (S_k : Nat → Int32) (a1 : Int32) (a2 : Int32) : Option (Int32) := (rd S_k 10 a1).bind fun x1 => if x1 = 2 then (some (a2 + 1)) else if x1 = 3 then (some (a2 - 1)) else (some a2)
end
theorem c_X4_weightTowards (l : Launch) (D : va_G) (cI cS cII : ClassId) (SA : Nat → Nat) (S_k : Nat → Int32) (S_f : Nat → Int32) (S_t : Nat → Int32) (S_w : Nat → Int32) (S_l : Int32) (S_b : Int32) (a1 : Int32) (a2 : Int32) {z_r : Int32} (hF : p_X4_weightTowards S_k a1 a2 = some z_r) : MJ l yX4_weightTowards cX4_weightTowards 3 (some .int) Rm_X4_weightTowards D (tysU cI cS cII) [.ref (SA 0), .int a1, .int a2] (W_X4_weightTowards cI cS cII SA S_k S_f S_t S_w S_l S_b) (some z_r) (W_X4_weightTowards cI cS cII SA S_k S_f S_t S_w S_l S_b) := by
  refine mj_of (own := RX4) (by decide) rfl (Nat.le_of_ble_eq_true rfl) (fun J hJ => ?_)
  show J (W_X4_weightTowards cI cS cII SA S_k S_f S_t S_w S_l S_b) 0 [(0, .ref (SA 0)), (1, .int a1), (2, .int a2)] []
  unfold p_X4_weightTowards at hF
  refine jj_aload_n hJ dX4_weightTowards_0 0 rfl rfl ?_
  refine jj_get hJ lay_X4 dX4_weightTowards_1 0 0 rfl rfl (Nat.le_of_ble_eq_true rfl) kw_1 rfl ?_
  refine jj_iload_n hJ dX4_weightTowards_4 1 rfl rfl ?_
  obtain ⟨x1, h2, hF⟩ := ob hF
  refine jj_iald hJ dX4_weightTowards_5 1 0 rfl rfl h2 ?_
  by_cases c3 : x1 = 2
  · replace hF := ip c3 hF
    refine jj_lsw hJ 32 dX4_weightTowards_6 (by decide) (by rw [c3] <;> rfl) rfl ?_
    refine jj_iload_n hJ dX4_weightTowards_32 2 rfl rfl ?_
    refine jj_iconst hJ dX4_weightTowards_33 ic_1 ?_
    refine jj_iadd hJ dX4_weightTowards_34 ?_
    cases Option.some.inj hF
    exact jj_iret hJ dX4_weightTowards_35
  replace hF := iq c3 hF
  by_cases c4 : x1 = 3
  · replace hF := ip c4 hF
    refine jj_lsw hJ 36 dX4_weightTowards_6 (by decide) (by rw [c4] <;> rfl) rfl ?_
    refine jj_iload_n hJ dX4_weightTowards_36 2 rfl rfl ?_
    refine jj_iconst hJ dX4_weightTowards_37 ic_1 ?_
    refine jj_isub hJ dX4_weightTowards_38 ?_
    cases Option.some.inj hF
    exact jj_iret hJ dX4_weightTowards_39
  replace hF := iq c4 hF
  refine jj_lsw hJ 40 dX4_weightTowards_6 (by decide) (off := 34) (by show Op.lookupswitch.offset [(2, 26), (3, 30)] _ _ = _; rw [lv_osw c3 (show (2 : Int32).toInt = 2 from rfl), lv_osw c4 (show (3 : Int32).toInt = 3 from rfl)]; rfl) rfl ?_
  refine jj_iload_n hJ dX4_weightTowards_40 2 rfl rfl ?_
  cases Option.some.inj hF
  exact jj_iret hJ dX4_weightTowards_41
section
def W_X4_take (cI cS cII : ClassId) (SA : Nat → Nat) (S_k : Nat → Int32) (S_f : Nat → Int32) (S_t : Nat → Int32) (S_w : Nat → Int32) (S_l : Int32) (S_b : Int32) : va_W := [((SA 0), .inr (4, [.ref (SA 1), .ref (SA 2), .ref (SA 3), .ref (SA 4), .int S_l, .int S_b])), ((SA 1), .inl (cI, 10, .inl S_k)), ((SA 2), .inl (cI, 16, .inl S_f)), ((SA 3), .inl (cI, 16, .inl S_t)), ((SA 4), .inl (cI, 16, .inl S_w))]
abbrev Rm_X4_take : Room := { frames := 0, cells := 0, slots := 0, locals := 0 }
variable {l : Launch} {D : va_G} {cI cS cII : ClassId} {SA : Nat → Nat} {A : Nat → Prop} {J : jT}
variable {z_S_f : Nat → Int32} {z_S_t : Nat → Int32} {z_S_w : Nat → Int32} {z_S_b : Int32}
def p_X4_take (S_f : Nat → Int32) (S_t : Nat → Int32) (S_w : Nat → Int32) (S_b : Int32) (a1 : Int32) (a2 : Int32) (a3 : Int32) : Option ((Nat → Int32) × (Nat → Int32) × (Nat → Int32) × Int32) := if 16 ≤ S_b then (some (S_f, S_t, S_w, S_b)) else ((wr S_f 16 S_b a1).bind fun g2 => (wr S_t 16 S_b a3).bind fun g4 => (wr S_w 16 S_b a2).bind fun g6 => some (g2, g4, g6, S_b + 1))
end
theorem c_X4_take (l : Launch) (D : va_G) (cI cS cII : ClassId) (SA : Nat → Nat) (S_k : Nat → Int32) (S_f : Nat → Int32) (S_t : Nat → Int32) (S_w : Nat → Int32) (S_l : Int32) (S_b : Int32) (a1 : Int32) (a2 : Int32) (a3 : Int32) {z_S_f : Nat → Int32} {z_S_t : Nat → Int32} {z_S_w : Nat → Int32} {z_S_b : Int32} (hF : p_X4_take S_f S_t S_w S_b a1 a2 a3 = some (z_S_f, z_S_t, z_S_w, z_S_b)) : MJ l yX4_take cX4_take 4 none Rm_X4_take D (tysU cI cS cII) [.ref (SA 0), .int a1, .int a2, .int a3] (W_X4_take cI cS cII SA S_k S_f S_t S_w S_l S_b) none (W_X4_take cI cS cII SA S_k z_S_f z_S_t z_S_w S_l z_S_b) := by
  refine mj_of (own := RX4) (by decide) rfl (Nat.le_of_ble_eq_true rfl) (fun J hJ => ?_)
  show J (W_X4_take cI cS cII SA S_k S_f S_t S_w S_l S_b) 0 [(0, .ref (SA 0)), (1, .int a1), (2, .int a2), (3, .int a3)] []
  unfold p_X4_take at hF
  refine jj_aload_n hJ dX4_take_0 0 rfl rfl ?_
  refine jj_get hJ lay_X4 dX4_take_1 0 5 rfl rfl (Nat.le_of_ble_eq_true rfl) kw_2 rfl ?_
  refine jj_bipush hJ dX4_take_4 bp_16 ?_
  refine jj_icmp_ge hJ 49 dX4_take_6 rfl (fun c1 => ?_) (fun c1 => ?_)
  · replace hF := ip c1 hF
    cases Option.some.inj hF
    exact jj_vret hJ dX4_take_49
  · replace hF := iq c1 hF
    refine jj_aload_n hJ dX4_take_9 0 rfl rfl ?_
    refine jj_get hJ lay_X4 dX4_take_10 0 1 rfl rfl (Nat.le_of_ble_eq_true rfl) kw_3 rfl ?_
    refine jj_aload_n hJ dX4_take_13 0 rfl rfl ?_
    refine jj_get hJ lay_X4 dX4_take_14 0 5 rfl rfl (Nat.le_of_ble_eq_true rfl) kw_2 rfl ?_
    refine jj_iload_n hJ dX4_take_17 1 rfl rfl ?_
    obtain ⟨g2, h3, hF⟩ := ob hF
    refine jj_iast hJ dX4_take_18 2 0 rfl rfl h3 (wn := (W_X4_take cI cS cII SA S_k g2 S_t S_w S_l S_b)) rfl ?_
    refine jj_aload_n hJ dX4_take_19 0 rfl rfl ?_
    refine jj_get hJ lay_X4 dX4_take_20 0 2 rfl rfl (Nat.le_of_ble_eq_true rfl) kw_4 rfl ?_
    refine jj_aload_n hJ dX4_take_23 0 rfl rfl ?_
    refine jj_get hJ lay_X4 dX4_take_24 0 5 rfl rfl (Nat.le_of_ble_eq_true rfl) kw_2 rfl ?_
    refine jj_iload_n hJ dX4_take_27 3 rfl rfl ?_
    obtain ⟨g4, h5, hF⟩ := ob hF
    refine jj_iast hJ dX4_take_28 3 0 rfl rfl h5 (wn := (W_X4_take cI cS cII SA S_k g2 g4 S_w S_l S_b)) rfl ?_
    refine jj_aload_n hJ dX4_take_29 0 rfl rfl ?_
    refine jj_get hJ lay_X4 dX4_take_30 0 3 rfl rfl (Nat.le_of_ble_eq_true rfl) kw_5 rfl ?_
    refine jj_aload_n hJ dX4_take_33 0 rfl rfl ?_
    refine jj_get hJ lay_X4 dX4_take_34 0 5 rfl rfl (Nat.le_of_ble_eq_true rfl) kw_2 rfl ?_
    refine jj_iload_n hJ dX4_take_37 2 rfl rfl ?_
    obtain ⟨g6, h7, hF⟩ := ob hF
    refine jj_iast hJ dX4_take_38 4 0 rfl rfl h7 (wn := (W_X4_take cI cS cII SA S_k g2 g4 g6 S_l S_b)) rfl ?_
    refine jj_aload_n hJ dX4_take_39 0 rfl rfl ?_
    refine jj_dup hJ dX4_take_40 rfl ?_
    refine jj_get hJ lay_X4 dX4_take_41 0 5 rfl rfl (Nat.le_of_ble_eq_true rfl) kw_2 rfl ?_
    refine jj_iconst hJ dX4_take_44 ic_1 ?_
    refine jj_iadd hJ dX4_take_45 ?_
    refine jj_puti hJ lay_X4 tyX4 tyX4_ok nmX4 dX4_take_46 0 5 rfl rfl (Nat.le_of_ble_eq_true rfl) kw_2 rfl rfl (Nat.le_of_ble_eq_true rfl) (wn := (W_X4_take cI cS cII SA S_k g2 g4 g6 S_l (S_b + 1))) rfl ?_
    cases Option.some.inj hF
    exact jj_vret hJ dX4_take_49
section
def W_X4_takeBack (cI cS cII : ClassId) (SA : Nat → Nat) (S_k : Nat → Int32) (S_f : Nat → Int32) (S_t : Nat → Int32) (S_w : Nat → Int32) (S_l : Int32) (S_b : Int32) : va_W := [((SA 0), .inr (4, [.ref (SA 1), .ref (SA 2), .ref (SA 3), .ref (SA 4), .int S_l, .int S_b])), ((SA 1), .inl (cI, 10, .inl S_k)), ((SA 2), .inl (cI, 16, .inl S_f)), ((SA 3), .inl (cI, 16, .inl S_t)), ((SA 4), .inl (cI, 16, .inl S_w))]
abbrev Rm_X4_takeBack : Room := { frames := 0, cells := 0, slots := 0, locals := 0 }
variable {l : Launch} {D : va_G} {cI cS cII : ClassId} {SA : Nat → Nat} {A : Nat → Prop} {J : jT}
variable {z_S_f : Nat → Int32} {z_S_t : Nat → Int32} {z_S_w : Nat → Int32} {z_S_b : Int32}
def q_X4_takeBack_60 (a1 : Int32)  (S_f : Nat → Int32) (S_t : Nat → Int32) (S_w : Nat → Int32) (S_b : Int32) : Option ((Nat → Int32) × (Nat → Int32) × (Nat → Int32) × Int32) := some (S_f, S_t, S_w, S_b - 1)
theorem w_X4_takeBack_60 {S_k : Nat → Int32} {S_l : Int32} {a1 : Int32}  (hJ : jJ l cX4_takeBack 3 D (tysU cI cS cII) RX4 Rm_X4_takeBack none A none (W_X4_takeBack cI cS cII SA S_k z_S_f z_S_t z_S_w S_l z_S_b) J)  : ∀ (S_f : Nat → Int32) (S_t : Nat → Int32) (S_w : Nat → Int32) (S_b : Int32), q_X4_takeBack_60 a1 S_f S_t S_w S_b = some (z_S_f, z_S_t, z_S_w, z_S_b) → J (W_X4_takeBack cI cS cII SA S_k S_f S_t S_w S_l S_b) 60 [(0, .ref (SA 0))] [] := by
  intro S_f S_t S_w S_b hF
  unfold q_X4_takeBack_60 at hF
  refine jj_aload_n hJ dX4_takeBack_60 0 rfl rfl ?_
  refine jj_dup hJ dX4_takeBack_61 rfl ?_
  refine jj_get hJ lay_X4 dX4_takeBack_62 0 5 rfl rfl (Nat.le_of_ble_eq_true rfl) kw_2 rfl ?_
  refine jj_iconst hJ dX4_takeBack_65 ic_1 ?_
  refine jj_isub hJ dX4_takeBack_66 ?_
  refine jj_puti hJ lay_X4 tyX4 tyX4_ok nmX4 dX4_takeBack_67 0 5 rfl rfl (Nat.le_of_ble_eq_true rfl) kw_2 rfl rfl (Nat.le_of_ble_eq_true rfl) (wn := (W_X4_takeBack cI cS cII SA S_k S_f S_t S_w S_l (S_b - 1))) rfl ?_
  cases Option.some.inj hF
  exact jj_vret hJ dX4_takeBack_70
def q_X4_takeBack_4 (a1 : Int32)  : Nat → Int32 → (Nat → Int32) → (Nat → Int32) → (Nat → Int32) → Int32 → Option ((Nat → Int32) × (Nat → Int32) × (Nat → Int32) × Int32)
  | 0, _, _, _, _, _ => none
  | n + 1, v2, S_f, S_t, S_w, S_b => if S_b ≤ v2 then (q_X4_takeBack_60 a1 S_f S_t S_w S_b) else ((rd S_f 16 v2).bind fun x2 => (wr S_f 16 (v2 - 1) x2).bind fun g4 => (rd S_t 16 v2).bind fun x6 => (wr S_t 16 (v2 - 1) x6).bind fun g8 => (rd S_w 16 v2).bind fun x10 => (wr S_w 16 (v2 - 1) x10).bind fun g12 => q_X4_takeBack_4 a1 n (v2 + 1) g4 g8 g12 S_b)
theorem w_X4_takeBack_4 {S_k : Nat → Int32} {S_l : Int32} {a1 : Int32}  (hJ : jJ l cX4_takeBack 3 D (tysU cI cS cII) RX4 Rm_X4_takeBack none A none (W_X4_takeBack cI cS cII SA S_k z_S_f z_S_t z_S_w S_l z_S_b) J)  : ∀ (n : Nat) (v2 : Int32) (S_f : Nat → Int32) (S_t : Nat → Int32) (S_w : Nat → Int32) (S_b : Int32), q_X4_takeBack_4 a1 n v2 S_f S_t S_w S_b = some (z_S_f, z_S_t, z_S_w, z_S_b) → J (W_X4_takeBack cI cS cII SA S_k S_f S_t S_w S_l S_b) 4 [(2, .int v2), (0, .ref (SA 0))] [] := by
  intro n
  induction n with
  | zero =>
    intro v2 S_f S_t S_w S_b hF
    exact no_some (show (none : Option ((Nat → Int32) × (Nat → Int32) × (Nat → Int32) × Int32)) = some (z_S_f, z_S_t, z_S_w, z_S_b) from hF)
  | succ n ih =>
    intro v2 S_f S_t S_w S_b hF
    rw [q_X4_takeBack_4.eq_2] at hF
    refine jj_iload_n hJ dX4_takeBack_4 0 rfl rfl ?_
    refine jj_aload_n hJ dX4_takeBack_5 1 rfl rfl ?_
    refine jj_get hJ lay_X4 dX4_takeBack_6 0 5 rfl rfl (Nat.le_of_ble_eq_true rfl) kw_2 rfl ?_
    refine jj_icmp_ge hJ 60 dX4_takeBack_9 rfl (fun c1 => ?_) (fun c1 => ?_)
    · replace hF := ip c1 hF
      refine jj_lv hJ [1] (lv' := [(0, .ref (SA 0))]) rfl ?_
      exact w_X4_takeBack_60 hJ  S_f S_t S_w S_b hF
    · replace hF := iq c1 hF
      refine jj_aload_n hJ dX4_takeBack_12 1 rfl rfl ?_
      refine jj_get hJ lay_X4 dX4_takeBack_13 0 1 rfl rfl (Nat.le_of_ble_eq_true rfl) kw_3 rfl ?_
      refine jj_iload_n hJ dX4_takeBack_16 0 rfl rfl ?_
      refine jj_iconst hJ dX4_takeBack_17 ic_1 ?_
      refine jj_isub hJ dX4_takeBack_18 ?_
      refine jj_aload_n hJ dX4_takeBack_19 1 rfl rfl ?_
      refine jj_get hJ lay_X4 dX4_takeBack_20 0 1 rfl rfl (Nat.le_of_ble_eq_true rfl) kw_3 rfl ?_
      refine jj_iload_n hJ dX4_takeBack_23 0 rfl rfl ?_
      obtain ⟨x2, h3, hF⟩ := ob hF
      refine jj_iald hJ dX4_takeBack_24 2 0 rfl rfl h3 ?_
      obtain ⟨g4, h5, hF⟩ := ob hF
      refine jj_iast hJ dX4_takeBack_25 2 0 rfl rfl h5 (wn := (W_X4_takeBack cI cS cII SA S_k g4 S_t S_w S_l S_b)) rfl ?_
      refine jj_aload_n hJ dX4_takeBack_26 1 rfl rfl ?_
      refine jj_get hJ lay_X4 dX4_takeBack_27 0 2 rfl rfl (Nat.le_of_ble_eq_true rfl) kw_4 rfl ?_
      refine jj_iload_n hJ dX4_takeBack_30 0 rfl rfl ?_
      refine jj_iconst hJ dX4_takeBack_31 ic_1 ?_
      refine jj_isub hJ dX4_takeBack_32 ?_
      refine jj_aload_n hJ dX4_takeBack_33 1 rfl rfl ?_
      refine jj_get hJ lay_X4 dX4_takeBack_34 0 2 rfl rfl (Nat.le_of_ble_eq_true rfl) kw_4 rfl ?_
      refine jj_iload_n hJ dX4_takeBack_37 0 rfl rfl ?_
      obtain ⟨x6, h7, hF⟩ := ob hF
      refine jj_iald hJ dX4_takeBack_38 3 0 rfl rfl h7 ?_
      obtain ⟨g8, h9, hF⟩ := ob hF
      refine jj_iast hJ dX4_takeBack_39 3 0 rfl rfl h9 (wn := (W_X4_takeBack cI cS cII SA S_k g4 g8 S_w S_l S_b)) rfl ?_
      refine jj_aload_n hJ dX4_takeBack_40 1 rfl rfl ?_
      refine jj_get hJ lay_X4 dX4_takeBack_41 0 3 rfl rfl (Nat.le_of_ble_eq_true rfl) kw_5 rfl ?_
      refine jj_iload_n hJ dX4_takeBack_44 0 rfl rfl ?_
      refine jj_iconst hJ dX4_takeBack_45 ic_1 ?_
      refine jj_isub hJ dX4_takeBack_46 ?_
      refine jj_aload_n hJ dX4_takeBack_47 1 rfl rfl ?_
      refine jj_get hJ lay_X4 dX4_takeBack_48 0 3 rfl rfl (Nat.le_of_ble_eq_true rfl) kw_5 rfl ?_
      refine jj_iload_n hJ dX4_takeBack_51 0 rfl rfl ?_
      obtain ⟨x10, h11, hF⟩ := ob hF
      refine jj_iald hJ dX4_takeBack_52 4 0 rfl rfl h11 ?_
      obtain ⟨g12, h13, hF⟩ := ob hF
      refine jj_iast hJ dX4_takeBack_53 4 0 rfl rfl h13 (wn := (W_X4_takeBack cI cS cII SA S_k g4 g8 g12 S_l S_b)) rfl ?_
      refine jj_iinc hJ dX4_takeBack_54 0 rfl (v := v2 + 1) (by rw [ic_1]) (Nat.le_of_ble_eq_true rfl) (lv' := [(2, .int (v2 + 1)), (0, .ref (SA 0))]) rfl ?_
      refine jj_goto hJ 4 dX4_takeBack_57 rfl ?_
      exact ih (v2 + 1) g4 g8 g12 S_b hF
def p_X4_takeBack (S_f : Nat → Int32) (S_t : Nat → Int32) (S_w : Nat → Int32) (S_b : Int32) (a1 : Int32) : Option ((Nat → Int32) × (Nat → Int32) × (Nat → Int32) × Int32) := q_X4_takeBack_4 a1 FU (a1 + 1) S_f S_t S_w S_b
end
theorem c_X4_takeBack (l : Launch) (D : va_G) (cI cS cII : ClassId) (SA : Nat → Nat) (S_k : Nat → Int32) (S_f : Nat → Int32) (S_t : Nat → Int32) (S_w : Nat → Int32) (S_l : Int32) (S_b : Int32) (a1 : Int32) {z_S_f : Nat → Int32} {z_S_t : Nat → Int32} {z_S_w : Nat → Int32} {z_S_b : Int32} (hF : p_X4_takeBack S_f S_t S_w S_b a1 = some (z_S_f, z_S_t, z_S_w, z_S_b)) : MJ l yX4_takeBack cX4_takeBack 3 none Rm_X4_takeBack D (tysU cI cS cII) [.ref (SA 0), .int a1] (W_X4_takeBack cI cS cII SA S_k S_f S_t S_w S_l S_b) none (W_X4_takeBack cI cS cII SA S_k z_S_f z_S_t z_S_w S_l z_S_b) := by
  refine mj_of (own := RX4) (by decide) rfl (Nat.le_of_ble_eq_true rfl) (fun J hJ => ?_)
  show J (W_X4_takeBack cI cS cII SA S_k S_f S_t S_w S_l S_b) 0 [(0, .ref (SA 0)), (1, .int a1)] []
  unfold p_X4_takeBack at hF
  refine jj_iload_n hJ dX4_takeBack_0 1 rfl rfl ?_
  refine jj_iconst hJ dX4_takeBack_1 ic_1 ?_
  refine jj_iadd hJ dX4_takeBack_2 ?_
  refine jj_istore_n hJ dX4_takeBack_3 rfl (Nat.le_of_ble_eq_true rfl) (lv' := [(2, .int (a1 + 1)), (0, .ref (SA 0)), (1, .int a1)]) rfl ?_
  refine jj_lv hJ [0, 1] (lv' := [(2, .int (a1 + 1)), (0, .ref (SA 0))]) rfl ?_
  exact w_X4_takeBack_4 hJ  FU (a1 + 1) S_f S_t S_w S_b hF
section
def W_X4_lengthen (cI cS cII : ClassId) (SA : Nat → Nat) (YA : Nat) (S_k : Nat → Int32) (S_f : Nat → Int32) (S_t : Nat → Int32) (S_w : Nat → Int32) (S_l : Int32) (S_b : Int32) (Y_x : Nat → Int32) : va_W := [((SA 0), .inr (4, [.ref (SA 1), .ref (SA 2), .ref (SA 3), .ref (SA 4), .int S_l, .int S_b])), ((SA 1), .inl (cI, 10, .inl S_k)), ((SA 2), .inl (cI, 16, .inl S_f)), ((SA 3), .inl (cI, 16, .inl S_t)), ((SA 4), .inl (cI, 16, .inl S_w)), (YA, .inl (cI, 10, .inl Y_x))]
abbrev Rm_X4_lengthen : Room := { frames := 0, cells := 0, slots := 0, locals := 0 }
variable {l : Launch} {D : va_G} {cI cS cII : ClassId} {SA : Nat → Nat} {YA : Nat} {A : Nat → Prop} {J : jT}
variable {z_r : Int32} {z_Y_x : Nat → Int32}
def p_X4_lengthen (S_f : Nat → Int32) (S_t : Nat → Int32) (S_w : Nat → Int32) (Y_x : Nat → Int32) (a1 : Int32) : Option (Int32 × (Nat → Int32)) := (rd S_f 16 a1).bind fun x1 => (rd Y_x 10 x1).bind fun x3 => if x3 = ((-1000000)) then (some (0, Y_x)) else ((rd S_w 16 a1).bind fun x6 => (rd S_t 16 a1).bind fun x8 => (rd Y_x 10 x8).bind fun x10 => if x10 < (x3 + x6) then ((rd S_t 16 a1).bind fun x13 => (rd S_w 16 a1).bind fun x15 => (wr Y_x 10 x13 (x3 + x15)).bind fun g17 => some (1, g17)) else (some (0, Y_x)))
end
theorem c_X4_lengthen (l : Launch) (D : va_G) (cI cS cII : ClassId) (SA : Nat → Nat) (YA : Nat) (S_k : Nat → Int32) (S_f : Nat → Int32) (S_t : Nat → Int32) (S_w : Nat → Int32) (S_l : Int32) (S_b : Int32) (Y_x : Nat → Int32) (a1 : Int32) {z_r : Int32} {z_Y_x : Nat → Int32} (hF : p_X4_lengthen S_f S_t S_w Y_x a1 = some (z_r, z_Y_x)) : MJ l yX4_lengthen cX4_lengthen 4 (some .boolean) Rm_X4_lengthen D (tysU cI cS cII) [.ref (SA 0), .int a1, .ref YA] (W_X4_lengthen cI cS cII SA YA S_k S_f S_t S_w S_l S_b Y_x) (some z_r) (W_X4_lengthen cI cS cII SA YA S_k S_f S_t S_w S_l S_b z_Y_x) := by
  refine mj_of (own := RX4) (by decide) rfl (Nat.le_of_ble_eq_true rfl) (fun J hJ => ?_)
  show J (W_X4_lengthen cI cS cII SA YA S_k S_f S_t S_w S_l S_b Y_x) 0 [(0, .ref (SA 0)), (1, .int a1), (2, .ref YA)] []
  unfold p_X4_lengthen at hF
  refine jj_aload_n hJ dX4_lengthen_0 2 rfl rfl ?_
  refine jj_aload_n hJ dX4_lengthen_1 0 rfl rfl ?_
  refine jj_get hJ lay_X4 dX4_lengthen_2 0 1 rfl rfl (Nat.le_of_ble_eq_true rfl) kw_3 rfl ?_
  refine jj_iload_n hJ dX4_lengthen_5 1 rfl rfl ?_
  obtain ⟨x1, h2, hF⟩ := ob hF
  refine jj_iald hJ dX4_lengthen_6 2 0 rfl rfl h2 ?_
  obtain ⟨x3, h4, hF⟩ := ob hF
  refine jj_iald hJ dX4_lengthen_7 5 0 rfl rfl h4 ?_
  refine jj_istore_n hJ dX4_lengthen_8 rfl (Nat.le_of_ble_eq_true rfl) (lv' := [(3, .int x3), (0, .ref (SA 0)), (1, .int a1), (2, .ref YA)]) rfl ?_
  refine jj_iload_n hJ dX4_lengthen_9 0 rfl rfl ?_
  refine jj_ldc hJ dX4_lengthen_10 kw_6 ?_
  refine jj_icmp_eq hJ 34 dX4_lengthen_12 rfl (fun c5 => ?_) (fun c5 => ?_)
  · replace hF := ip c5 hF
    refine jj_iconst hJ dX4_lengthen_34 ic_0 ?_
    cases Option.some.inj hF
    exact jj_zret hJ (Or.inl rfl) dX4_lengthen_35
  · replace hF := iq c5 hF
    refine jj_iload_n hJ dX4_lengthen_15 0 rfl rfl ?_
    refine jj_aload_n hJ dX4_lengthen_16 1 rfl rfl ?_
    refine jj_get hJ lay_X4 dX4_lengthen_17 0 3 rfl rfl (Nat.le_of_ble_eq_true rfl) kw_5 rfl ?_
    refine jj_iload_n hJ dX4_lengthen_20 2 rfl rfl ?_
    obtain ⟨x6, h7, hF⟩ := ob hF
    refine jj_iald hJ dX4_lengthen_21 4 0 rfl rfl h7 ?_
    refine jj_iadd hJ dX4_lengthen_22 ?_
    refine jj_aload_n hJ dX4_lengthen_23 3 rfl rfl ?_
    refine jj_aload_n hJ dX4_lengthen_24 1 rfl rfl ?_
    refine jj_get hJ lay_X4 dX4_lengthen_25 0 2 rfl rfl (Nat.le_of_ble_eq_true rfl) kw_4 rfl ?_
    refine jj_iload_n hJ dX4_lengthen_28 2 rfl rfl ?_
    obtain ⟨x8, h9, hF⟩ := ob hF
    refine jj_iald hJ dX4_lengthen_29 3 0 rfl rfl h9 ?_
    obtain ⟨x10, h11, hF⟩ := ob hF
    refine jj_iald hJ dX4_lengthen_30 5 0 rfl rfl h11 ?_
    refine jj_icmp_gt hJ 36 dX4_lengthen_31 rfl (fun c12 => ?_) (fun c12 => ?_)
    · replace hF := ip c12 hF
      refine jj_aload_n hJ dX4_lengthen_36 3 rfl rfl ?_
      refine jj_aload_n hJ dX4_lengthen_37 1 rfl rfl ?_
      refine jj_get hJ lay_X4 dX4_lengthen_38 0 2 rfl rfl (Nat.le_of_ble_eq_true rfl) kw_4 rfl ?_
      refine jj_iload_n hJ dX4_lengthen_41 2 rfl rfl ?_
      obtain ⟨x13, h14, hF⟩ := ob hF
      refine jj_iald hJ dX4_lengthen_42 3 0 rfl rfl h14 ?_
      refine jj_iload_n hJ dX4_lengthen_43 0 rfl rfl ?_
      refine jj_aload_n hJ dX4_lengthen_44 1 rfl rfl ?_
      refine jj_get hJ lay_X4 dX4_lengthen_45 0 3 rfl rfl (Nat.le_of_ble_eq_true rfl) kw_5 rfl ?_
      refine jj_iload_n hJ dX4_lengthen_48 2 rfl rfl ?_
      obtain ⟨x15, h16, hF⟩ := ob hF
      refine jj_iald hJ dX4_lengthen_49 4 0 rfl rfl h16 ?_
      refine jj_iadd hJ dX4_lengthen_50 ?_
      obtain ⟨g17, h18, hF⟩ := ob hF
      refine jj_iast hJ dX4_lengthen_51 5 0 rfl rfl h18 (wn := (W_X4_lengthen cI cS cII SA YA S_k S_f S_t S_w S_l S_b g17)) rfl ?_
      refine jj_iconst hJ dX4_lengthen_52 ic_1 ?_
      cases Option.some.inj hF
      exact jj_zret hJ (Or.inr rfl) dX4_lengthen_53
    · replace hF := iq c12 hF
      refine jj_iconst hJ dX4_lengthen_34 ic_0 ?_
      cases Option.some.inj hF
      exact jj_zret hJ (Or.inl rfl) dX4_lengthen_35
section
def W_X4_lengthsFrom (cI cS cII : ClassId) (SA : Nat → Nat) (YA : Nat) (S_k : Nat → Int32) (S_f : Nat → Int32) (S_t : Nat → Int32) (S_w : Nat → Int32) (S_l : Int32) (S_b : Int32) (Y_x : Nat → Int32) : va_W := [((SA 0), .inr (4, [.ref (SA 1), .ref (SA 2), .ref (SA 3), .ref (SA 4), .int S_l, .int S_b])), ((SA 1), .inl (cI, 10, .inl S_k)), ((SA 2), .inl (cI, 16, .inl S_f)), ((SA 3), .inl (cI, 16, .inl S_t)), ((SA 4), .inl (cI, 16, .inl S_w)), (YA, .inl (cI, 10, .inl Y_x))]
abbrev Rm_X4_lengthsFrom : Room := { frames := 1, cells := 0, slots := 0, locals := 23 }
variable {l : Launch} {D : va_G} {cI cS cII : ClassId} {SA : Nat → Nat} {YA : Nat} {A : Nat → Prop} {J : jT}
variable {z_Y_x : Nat → Int32}
def q_X4_lengthsFrom_73 (S_f : Nat → Int32) (S_t : Nat → Int32) (S_w : Nat → Int32) (S_l : Int32) (S_b : Int32) (a1 : Int32) (a2 : Int32) (k16 : Int32 → Int32 → (Nat → Int32) → Option (Nat → Int32)) (v4 : Int32) (v5 : Int32) (Y_x : Nat → Int32) : Option (Nat → Int32) := k16 (v5 + 1) v4 Y_x
theorem w_X4_lengthsFrom_73 {S_k : Nat → Int32} {S_f : Nat → Int32} {S_t : Nat → Int32} {S_w : Nat → Int32} {S_l : Int32} {S_b : Int32} {a1 : Int32} {a2 : Int32} {k16 : Int32 → Int32 → (Nat → Int32) → Option (Nat → Int32)} (hJ : jJ l cX4_lengthsFrom 7 D (tysU cI cS cII) RX4 Rm_X4_lengthsFrom none A none (W_X4_lengthsFrom cI cS cII SA YA S_k S_f S_t S_w S_l S_b z_Y_x) J) (hk16 : ∀ (v5 : Int32) (v4 : Int32) (Y_x : Nat → Int32), k16 v5 v4 Y_x = some z_Y_x → J (W_X4_lengthsFrom cI cS cII SA YA S_k S_f S_t S_w S_l S_b Y_x) 16 [(5, .int v5), (4, .int v4), (0, .ref (SA 0)), (2, .int a2), (3, .ref YA)] []) : ∀ (v4 : Int32) (v5 : Int32) (Y_x : Nat → Int32), q_X4_lengthsFrom_73 S_f S_t S_w S_l S_b a1 a2 k16 v4 v5 Y_x = some z_Y_x → J (W_X4_lengthsFrom cI cS cII SA YA S_k S_f S_t S_w S_l S_b Y_x) 73 [(4, .int v4), (5, .int v5), (0, .ref (SA 0)), (2, .int a2), (3, .ref YA)] [] := by
  intro v4 v5 Y_x hF
  unfold q_X4_lengthsFrom_73 at hF
  refine jj_iinc hJ dX4_lengthsFrom_73 1 rfl (v := v5 + 1) (by rw [ic_1]) (Nat.le_of_ble_eq_true rfl) (lv' := [(5, .int (v5 + 1)), (4, .int v4), (0, .ref (SA 0)), (2, .int a2), (3, .ref YA)]) rfl ?_
  refine jj_goto hJ 16 dX4_lengthsFrom_76 rfl ?_
  exact hk16 (v5 + 1) v4 Y_x hF
def q_X4_lengthsFrom_36 (S_f : Nat → Int32) (S_t : Nat → Int32) (S_w : Nat → Int32) (S_l : Int32) (S_b : Int32) (a1 : Int32) (a2 : Int32) (k16 : Int32 → Int32 → (Nat → Int32) → Option (Nat → Int32)) : Nat → Int32 → Int32 → Int32 → (Nat → Int32) → Option (Nat → Int32)
  | 0, _, _, _, _ => none
  | n + 1, v6, v4, v5, Y_x => if S_b ≤ v6 then (q_X4_lengthsFrom_73 S_f S_t S_w S_l S_b a1 a2 k16 v4 v5 Y_x) else (if ((a2 >>> (v6 &&& 31)) &&& 1) = 0 then ((p_X4_lengthen S_f S_t S_w Y_x v6).bind fun (r4, g5) => if r4 = 0 then (q_X4_lengthsFrom_36 S_f S_t S_w S_l S_b a1 a2 k16 n (v6 + 1) v4 v5 g5) else (q_X4_lengthsFrom_36 S_f S_t S_w S_l S_b a1 a2 k16 n (v6 + 1) 1 v5 g5)) else (q_X4_lengthsFrom_36 S_f S_t S_w S_l S_b a1 a2 k16 n (v6 + 1) v4 v5 Y_x))
theorem w_X4_lengthsFrom_36 {S_k : Nat → Int32} {S_f : Nat → Int32} {S_t : Nat → Int32} {S_w : Nat → Int32} {S_l : Int32} {S_b : Int32} {a1 : Int32} {a2 : Int32} {k16 : Int32 → Int32 → (Nat → Int32) → Option (Nat → Int32)} (hJ : jJ l cX4_lengthsFrom 7 D (tysU cI cS cII) RX4 Rm_X4_lengthsFrom none A none (W_X4_lengthsFrom cI cS cII SA YA S_k S_f S_t S_w S_l S_b z_Y_x) J) (hk16 : ∀ (v5 : Int32) (v4 : Int32) (Y_x : Nat → Int32), k16 v5 v4 Y_x = some z_Y_x → J (W_X4_lengthsFrom cI cS cII SA YA S_k S_f S_t S_w S_l S_b Y_x) 16 [(5, .int v5), (4, .int v4), (0, .ref (SA 0)), (2, .int a2), (3, .ref YA)] []) : ∀ (n : Nat) (v6 : Int32) (v4 : Int32) (v5 : Int32) (Y_x : Nat → Int32), q_X4_lengthsFrom_36 S_f S_t S_w S_l S_b a1 a2 k16 n v6 v4 v5 Y_x = some z_Y_x → J (W_X4_lengthsFrom cI cS cII SA YA S_k S_f S_t S_w S_l S_b Y_x) 36 [(6, .int v6), (4, .int v4), (5, .int v5), (0, .ref (SA 0)), (2, .int a2), (3, .ref YA)] [] := by
  intro n
  induction n with
  | zero =>
    intro v6 v4 v5 Y_x hF
    exact no_some (show (none : Option (Nat → Int32)) = some z_Y_x from hF)
  | succ n ih =>
    intro v6 v4 v5 Y_x hF
    rw [q_X4_lengthsFrom_36.eq_2] at hF
    refine jj_iload hJ dX4_lengthsFrom_36 0 rfl ?_
    refine jj_aload_n hJ dX4_lengthsFrom_38 3 rfl rfl ?_
    refine jj_get hJ lay_X4 dX4_lengthsFrom_39 0 5 rfl rfl (Nat.le_of_ble_eq_true rfl) kw_2 rfl ?_
    refine jj_icmp_ge hJ 73 dX4_lengthsFrom_42 rfl (fun c1 => ?_) (fun c1 => ?_)
    · replace hF := ip c1 hF
      refine jj_lv hJ [1, 2, 3, 4, 5] (lv' := [(4, .int v4), (5, .int v5), (0, .ref (SA 0)), (2, .int a2), (3, .ref YA)]) rfl ?_
      exact w_X4_lengthsFrom_73 hJ hk16 v4 v5 Y_x hF
    · replace hF := iq c1 hF
      refine jj_iload_n hJ dX4_lengthsFrom_45 4 rfl rfl ?_
      refine jj_iload hJ dX4_lengthsFrom_46 0 rfl ?_
      refine jj_ishr hJ dX4_lengthsFrom_48 ?_
      refine jj_iconst hJ dX4_lengthsFrom_49 ic_1 ?_
      refine jj_iand hJ dX4_lengthsFrom_50 ?_
      refine jj_if_ne hJ 67 dX4_lengthsFrom_51 rfl (fun c2 => ?_) (fun c2 => ?_)
      · replace hF := iq c2 hF
        refine jj_iinc hJ dX4_lengthsFrom_67 0 rfl (v := v6 + 1) (by rw [ic_1]) (Nat.le_of_ble_eq_true rfl) (lv' := [(6, .int (v6 + 1)), (4, .int v4), (5, .int v5), (0, .ref (SA 0)), (2, .int a2), (3, .ref YA)]) rfl ?_
        refine jj_goto hJ 36 dX4_lengthsFrom_70 rfl ?_
        exact ih (v6 + 1) v4 v5 Y_x hF
      · replace hF := ip c2 hF
        refine jj_aload_n hJ dX4_lengthsFrom_54 3 rfl rfl ?_
        refine jj_iload hJ dX4_lengthsFrom_55 0 rfl ?_
        refine jj_aload_n hJ dX4_lengthsFrom_57 5 rfl rfl ?_
        obtain ⟨⟨r4, g5⟩, h3, hF⟩ := ob hF
        refine jj_callV hJ (c_X4_lengthen l D cI cS cII SA YA S_k S_f S_t S_w S_l S_b Y_x v6 h3) dX4_lengthsFrom_58 kw_11 ⟨Nat.le_of_ble_eq_true rfl, Nat.le_of_ble_eq_true rfl, rfl, rfl⟩ kw_10 kw_12 kw_13 0 rfl rfl rfl rfl (Nat.le_of_ble_eq_true rfl) [0, 1, 2, 3, 4, 5] rfl rfl (wn := (W_X4_lengthsFrom cI cS cII SA YA S_k S_f S_t S_w S_l S_b g5)) (jNew_sel rfl [some 0, some 1, some 2, some 3, some 4, some 5] (by decide +kernel) rfl) ?_
        refine jj_if_eq hJ 67 dX4_lengthsFrom_61 rfl (fun c6 => ?_) (fun c6 => ?_)
        · replace hF := ip c6 hF
          refine jj_iinc hJ dX4_lengthsFrom_67 0 rfl (v := v6 + 1) (by rw [ic_1]) (Nat.le_of_ble_eq_true rfl) (lv' := [(6, .int (v6 + 1)), (4, .int v4), (5, .int v5), (0, .ref (SA 0)), (2, .int a2), (3, .ref YA)]) rfl ?_
          refine jj_goto hJ 36 dX4_lengthsFrom_70 rfl ?_
          exact ih (v6 + 1) v4 v5 g5 hF
        · replace hF := iq c6 hF
          refine jj_iconst hJ dX4_lengthsFrom_64 ic_1 ?_
          refine jj_istore hJ dX4_lengthsFrom_65 (Nat.le_of_ble_eq_true rfl) (lv' := [(4, .int 1), (6, .int v6), (5, .int v5), (0, .ref (SA 0)), (2, .int a2), (3, .ref YA)]) rfl ?_
          refine jj_iinc hJ dX4_lengthsFrom_67 1 rfl (v := v6 + 1) (by rw [ic_1]) (Nat.le_of_ble_eq_true rfl) (lv' := [(6, .int (v6 + 1)), (4, .int 1), (5, .int v5), (0, .ref (SA 0)), (2, .int a2), (3, .ref YA)]) rfl ?_
          refine jj_goto hJ 36 dX4_lengthsFrom_70 rfl ?_
          exact ih (v6 + 1) 1 v5 g5 hF
def q_X4_lengthsFrom_16 (S_f : Nat → Int32) (S_t : Nat → Int32) (S_w : Nat → Int32) (S_l : Int32) (S_b : Int32) (a1 : Int32) (a2 : Int32)  : Nat → Int32 → Int32 → (Nat → Int32) → Option (Nat → Int32)
  | 0, _, _, _ => none
  | n + 1, v5, v4, Y_x => if S_l ≤ v5 then (some Y_x) else (if v4 = 0 then (some Y_x) else (q_X4_lengthsFrom_36 S_f S_t S_w S_l S_b a1 a2 (q_X4_lengthsFrom_16 S_f S_t S_w S_l S_b a1 a2 n) FU 0 0 v5 Y_x))
theorem w_X4_lengthsFrom_16 {S_k : Nat → Int32} {S_f : Nat → Int32} {S_t : Nat → Int32} {S_w : Nat → Int32} {S_l : Int32} {S_b : Int32} {a1 : Int32} {a2 : Int32}  (hJ : jJ l cX4_lengthsFrom 7 D (tysU cI cS cII) RX4 Rm_X4_lengthsFrom none A none (W_X4_lengthsFrom cI cS cII SA YA S_k S_f S_t S_w S_l S_b z_Y_x) J)  : ∀ (n : Nat) (v5 : Int32) (v4 : Int32) (Y_x : Nat → Int32), q_X4_lengthsFrom_16 S_f S_t S_w S_l S_b a1 a2 n v5 v4 Y_x = some z_Y_x → J (W_X4_lengthsFrom cI cS cII SA YA S_k S_f S_t S_w S_l S_b Y_x) 16 [(5, .int v5), (4, .int v4), (0, .ref (SA 0)), (2, .int a2), (3, .ref YA)] [] := by
  intro n
  induction n with
  | zero =>
    intro v5 v4 Y_x hF
    exact no_some (show (none : Option (Nat → Int32)) = some z_Y_x from hF)
  | succ n ih =>
    intro v5 v4 Y_x hF
    rw [q_X4_lengthsFrom_16.eq_2] at hF
    refine jj_iload hJ dX4_lengthsFrom_16 0 rfl ?_
    refine jj_aload_n hJ dX4_lengthsFrom_18 2 rfl rfl ?_
    refine jj_get hJ lay_X4 dX4_lengthsFrom_19 0 4 rfl rfl (Nat.le_of_ble_eq_true rfl) kw_0 rfl ?_
    refine jj_icmp_ge hJ 79 dX4_lengthsFrom_22 rfl (fun c1 => ?_) (fun c1 => ?_)
    · replace hF := ip c1 hF
      cases Option.some.inj hF
      exact jj_vret hJ dX4_lengthsFrom_79
    · replace hF := iq c1 hF
      refine jj_iload hJ dX4_lengthsFrom_25 1 rfl ?_
      refine jj_if_eq hJ 79 dX4_lengthsFrom_27 rfl (fun c2 => ?_) (fun c2 => ?_)
      · replace hF := ip c2 hF
        cases Option.some.inj hF
        exact jj_vret hJ dX4_lengthsFrom_79
      · replace hF := iq c2 hF
        refine jj_iconst hJ dX4_lengthsFrom_30 ic_0 ?_
        refine jj_istore hJ dX4_lengthsFrom_31 (Nat.le_of_ble_eq_true rfl) (lv' := [(4, .int 0), (5, .int v5), (0, .ref (SA 0)), (2, .int a2), (3, .ref YA)]) rfl ?_
        refine jj_iconst hJ dX4_lengthsFrom_33 ic_0 ?_
        refine jj_istore hJ dX4_lengthsFrom_34 (Nat.le_of_ble_eq_true rfl) (lv' := [(6, .int 0), (4, .int 0), (5, .int v5), (0, .ref (SA 0)), (2, .int a2), (3, .ref YA)]) rfl ?_
        exact w_X4_lengthsFrom_36 hJ (fun v5 v4 Y_x => ih v5 v4 Y_x) FU 0 0 v5 Y_x hF
def p_X4_lengthsFrom (S_f : Nat → Int32) (S_t : Nat → Int32) (S_w : Nat → Int32) (S_l : Int32) (S_b : Int32) (Y_x : Nat → Int32) (a1 : Int32) (a2 : Int32) : Option (Nat → Int32) := (p_J7_fill_53178 Y_x ((-1000000))).bind fun g2 => (wr g2 10 a1 0).bind fun g3 => q_X4_lengthsFrom_16 S_f S_t S_w S_l S_b a1 a2 FU 0 1 g3
end
theorem c_X4_lengthsFrom (l : Launch) (D : va_G) (cI cS cII : ClassId) (SA : Nat → Nat) (YA : Nat) (S_k : Nat → Int32) (S_f : Nat → Int32) (S_t : Nat → Int32) (S_w : Nat → Int32) (S_l : Int32) (S_b : Int32) (Y_x : Nat → Int32) (a1 : Int32) (a2 : Int32) {z_Y_x : Nat → Int32} (hF : p_X4_lengthsFrom S_f S_t S_w S_l S_b Y_x a1 a2 = some z_Y_x) : MJ l yX4_lengthsFrom cX4_lengthsFrom 7 none Rm_X4_lengthsFrom D (tysU cI cS cII) [.ref (SA 0), .int a1, .int a2, .ref YA] (W_X4_lengthsFrom cI cS cII SA YA S_k S_f S_t S_w S_l S_b Y_x) none (W_X4_lengthsFrom cI cS cII SA YA S_k S_f S_t S_w S_l S_b z_Y_x) := by
  refine mj_of (own := RX4) (by decide) rfl (Nat.le_of_ble_eq_true rfl) (fun J hJ => ?_)
  show J (W_X4_lengthsFrom cI cS cII SA YA S_k S_f S_t S_w S_l S_b Y_x) 0 [(0, .ref (SA 0)), (1, .int a1), (2, .int a2), (3, .ref YA)] []
  unfold p_X4_lengthsFrom at hF
  refine jj_aload_n hJ dX4_lengthsFrom_0 3 rfl rfl ?_
  refine jj_ldc hJ dX4_lengthsFrom_1 kw_6 ?_
  obtain ⟨g2, h1, hF⟩ := ob hF
  refine jj_callS hJ (c_J7_fill_53178 l D cI cS cII YA Y_x ((-1000000)) h1) dX4_lengthsFrom_3 kw_7 ⟨Nat.le_of_ble_eq_true rfl, Nat.le_of_ble_eq_true rfl, rfl, rfl⟩ kw_8 kw_9 rfl rfl (Nat.le_of_ble_eq_true rfl) [5] rfl rfl (wn := (W_X4_lengthsFrom cI cS cII SA YA S_k S_f S_t S_w S_l S_b g2)) (jNew_sel rfl [none, none, none, none, none, some 0] (by decide +kernel) rfl) ?_
  refine jj_aload_n hJ dX4_lengthsFrom_6 3 rfl rfl ?_
  refine jj_iload_n hJ dX4_lengthsFrom_7 1 rfl rfl ?_
  refine jj_iconst hJ dX4_lengthsFrom_8 ic_0 ?_
  obtain ⟨g3, h4, hF⟩ := ob hF
  refine jj_iast hJ dX4_lengthsFrom_9 5 0 rfl rfl h4 (wn := (W_X4_lengthsFrom cI cS cII SA YA S_k S_f S_t S_w S_l S_b g3)) rfl ?_
  refine jj_iconst hJ dX4_lengthsFrom_10 ic_1 ?_
  refine jj_istore hJ dX4_lengthsFrom_11 (Nat.le_of_ble_eq_true rfl) (lv' := [(4, .int 1), (0, .ref (SA 0)), (1, .int a1), (2, .int a2), (3, .ref YA)]) rfl ?_
  refine jj_iconst hJ dX4_lengthsFrom_13 ic_0 ?_
  refine jj_istore hJ dX4_lengthsFrom_14 (Nat.le_of_ble_eq_true rfl) (lv' := [(5, .int 0), (4, .int 1), (0, .ref (SA 0)), (1, .int a1), (2, .int a2), (3, .ref YA)]) rfl ?_
  refine jj_lv hJ [0, 1, 2, 4, 5] (lv' := [(5, .int 0), (4, .int 1), (0, .ref (SA 0)), (2, .int a2), (3, .ref YA)]) rfl ?_
  exact w_X4_lengthsFrom_16 hJ  FU 0 1 g3 hF
section
def W_X4_copy (cI cS cII : ClassId) (SA : Nat → Nat) (PA : Nat → Nat) (S_k : Nat → Int32) (S_f : Nat → Int32) (S_t : Nat → Int32) (S_w : Nat → Int32) (S_l : Int32) (S_b : Int32) (P_k : Nat → Int32) (P_f : Nat → Int32) (P_t : Nat → Int32) (P_w : Nat → Int32) (P_l : Int32) (P_b : Int32) : va_W := [((SA 0), .inr (4, [.ref (SA 1), .ref (SA 2), .ref (SA 3), .ref (SA 4), .int S_l, .int S_b])), ((SA 1), .inl (cI, 10, .inl S_k)), ((SA 2), .inl (cI, 16, .inl S_f)), ((SA 3), .inl (cI, 16, .inl S_t)), ((SA 4), .inl (cI, 16, .inl S_w)), ((PA 0), .inr (4, [.ref (PA 1), .ref (PA 2), .ref (PA 3), .ref (PA 4), .int P_l, .int P_b])), ((PA 1), .inl (cI, 10, .inl P_k)), ((PA 2), .inl (cI, 16, .inl P_f)), ((PA 3), .inl (cI, 16, .inl P_t)), ((PA 4), .inl (cI, 16, .inl P_w))]
abbrev Rm_X4_copy : Room := { frames := 1, cells := 0, slots := 0, locals := 60 }
variable {l : Launch} {D : va_G} {cI cS cII : ClassId} {SA : Nat → Nat} {PA : Nat → Nat} {A : Nat → Prop} {J : jT}
variable {z_S_k : Nat → Int32} {z_S_f : Nat → Int32} {z_S_t : Nat → Int32} {z_S_w : Nat → Int32} {z_S_l : Int32} {z_S_b : Int32}
def p_X4_copy (S_k : Nat → Int32) (S_f : Nat → Int32) (S_t : Nat → Int32) (S_w : Nat → Int32) (S_l : Int32) (S_b : Int32) (P_k : Nat → Int32) (P_f : Nat → Int32) (P_t : Nat → Int32) (P_w : Nat → Int32) (P_l : Int32) (P_b : Int32) : Option ((Nat → Int32) × (Nat → Int32) × (Nat → Int32) × (Nat → Int32) × Int32 × Int32) := some (va_cpy P_k S_k 0 0 10, va_cpy P_f S_f 0 0 16, va_cpy P_t S_t 0 0 16, va_cpy P_w S_w 0 0 16, P_l, P_b)
end
theorem c_X4_copy (l : Launch) (D : va_G) (cI cS cII : ClassId) (SA : Nat → Nat) (PA : Nat → Nat) (S_k : Nat → Int32) (S_f : Nat → Int32) (S_t : Nat → Int32) (S_w : Nat → Int32) (S_l : Int32) (S_b : Int32) (P_k : Nat → Int32) (P_f : Nat → Int32) (P_t : Nat → Int32) (P_w : Nat → Int32) (P_l : Int32) (P_b : Int32)  {z_S_k : Nat → Int32} {z_S_f : Nat → Int32} {z_S_t : Nat → Int32} {z_S_w : Nat → Int32} {z_S_l : Int32} {z_S_b : Int32} (hF : p_X4_copy S_k S_f S_t S_w S_l S_b P_k P_f P_t P_w P_l P_b = some (z_S_k, z_S_f, z_S_t, z_S_w, z_S_l, z_S_b)) : MJ l yX4_copy cX4_copy 2 none Rm_X4_copy D (tysU cI cS cII) [.ref (SA 0), .ref (PA 0)] (W_X4_copy cI cS cII SA PA S_k S_f S_t S_w S_l S_b P_k P_f P_t P_w P_l P_b) none (W_X4_copy cI cS cII SA PA z_S_k z_S_f z_S_t z_S_w z_S_l z_S_b P_k P_f P_t P_w P_l P_b) := by
  refine mj_of (own := RX4) (by decide) rfl (Nat.le_of_ble_eq_true rfl) (fun J hJ => ?_)
  show J (W_X4_copy cI cS cII SA PA S_k S_f S_t S_w S_l S_b P_k P_f P_t P_w P_l P_b) 0 [(0, .ref (SA 0)), (1, .ref (PA 0))] []
  unfold p_X4_copy at hF
  refine jj_aload_n hJ dX4_copy_0 1 rfl rfl ?_
  refine jj_get hJ lay_X4 dX4_copy_1 5 0 rfl rfl (Nat.le_of_ble_eq_true rfl) kw_1 rfl ?_
  refine jj_iconst hJ dX4_copy_4 ic_0 ?_
  refine jj_aload_n hJ dX4_copy_5 0 rfl rfl ?_
  refine jj_get hJ lay_X4 dX4_copy_6 0 0 rfl rfl (Nat.le_of_ble_eq_true rfl) kw_1 rfl ?_
  refine jj_iconst hJ dX4_copy_9 ic_0 ?_
  refine jj_bipush hJ dX4_copy_10 bp_10 ?_
  refine jj_copy hJ dX4_copy_12 kw_14 kw_15 kw_16 kw_17 6 1 0 0 rfl rfl rfl rfl (by decide) (by decide) (by decide) (by decide) (by decide) (Nat.le_of_ble_eq_true rfl) (Nat.le_of_ble_eq_true rfl) (h := va_cpy P_k S_k 0 0 10) rfl (wn := (W_X4_copy cI cS cII SA PA (va_cpy P_k S_k 0 0 10) S_f S_t S_w S_l S_b P_k P_f P_t P_w P_l P_b)) rfl ?_
  refine jj_aload_n hJ dX4_copy_15 1 rfl rfl ?_
  refine jj_get hJ lay_X4 dX4_copy_16 5 1 rfl rfl (Nat.le_of_ble_eq_true rfl) kw_3 rfl ?_
  refine jj_iconst hJ dX4_copy_19 ic_0 ?_
  refine jj_aload_n hJ dX4_copy_20 0 rfl rfl ?_
  refine jj_get hJ lay_X4 dX4_copy_21 0 1 rfl rfl (Nat.le_of_ble_eq_true rfl) kw_3 rfl ?_
  refine jj_iconst hJ dX4_copy_24 ic_0 ?_
  refine jj_bipush hJ dX4_copy_25 bp_16 ?_
  refine jj_copy hJ dX4_copy_27 kw_14 kw_15 kw_16 kw_17 7 2 0 0 rfl rfl rfl rfl (by decide) (by decide) (by decide) (by decide) (by decide) (Nat.le_of_ble_eq_true rfl) (Nat.le_of_ble_eq_true rfl) (h := va_cpy P_f S_f 0 0 16) rfl (wn := (W_X4_copy cI cS cII SA PA (va_cpy P_k S_k 0 0 10) (va_cpy P_f S_f 0 0 16) S_t S_w S_l S_b P_k P_f P_t P_w P_l P_b)) rfl ?_
  refine jj_aload_n hJ dX4_copy_30 1 rfl rfl ?_
  refine jj_get hJ lay_X4 dX4_copy_31 5 2 rfl rfl (Nat.le_of_ble_eq_true rfl) kw_4 rfl ?_
  refine jj_iconst hJ dX4_copy_34 ic_0 ?_
  refine jj_aload_n hJ dX4_copy_35 0 rfl rfl ?_
  refine jj_get hJ lay_X4 dX4_copy_36 0 2 rfl rfl (Nat.le_of_ble_eq_true rfl) kw_4 rfl ?_
  refine jj_iconst hJ dX4_copy_39 ic_0 ?_
  refine jj_bipush hJ dX4_copy_40 bp_16 ?_
  refine jj_copy hJ dX4_copy_42 kw_14 kw_15 kw_16 kw_17 8 3 0 0 rfl rfl rfl rfl (by decide) (by decide) (by decide) (by decide) (by decide) (Nat.le_of_ble_eq_true rfl) (Nat.le_of_ble_eq_true rfl) (h := va_cpy P_t S_t 0 0 16) rfl (wn := (W_X4_copy cI cS cII SA PA (va_cpy P_k S_k 0 0 10) (va_cpy P_f S_f 0 0 16) (va_cpy P_t S_t 0 0 16) S_w S_l S_b P_k P_f P_t P_w P_l P_b)) rfl ?_
  refine jj_aload_n hJ dX4_copy_45 1 rfl rfl ?_
  refine jj_get hJ lay_X4 dX4_copy_46 5 3 rfl rfl (Nat.le_of_ble_eq_true rfl) kw_5 rfl ?_
  refine jj_iconst hJ dX4_copy_49 ic_0 ?_
  refine jj_aload_n hJ dX4_copy_50 0 rfl rfl ?_
  refine jj_get hJ lay_X4 dX4_copy_51 0 3 rfl rfl (Nat.le_of_ble_eq_true rfl) kw_5 rfl ?_
  refine jj_iconst hJ dX4_copy_54 ic_0 ?_
  refine jj_bipush hJ dX4_copy_55 bp_16 ?_
  refine jj_copy hJ dX4_copy_57 kw_14 kw_15 kw_16 kw_17 9 4 0 0 rfl rfl rfl rfl (by decide) (by decide) (by decide) (by decide) (by decide) (Nat.le_of_ble_eq_true rfl) (Nat.le_of_ble_eq_true rfl) (h := va_cpy P_w S_w 0 0 16) rfl (wn := (W_X4_copy cI cS cII SA PA (va_cpy P_k S_k 0 0 10) (va_cpy P_f S_f 0 0 16) (va_cpy P_t S_t 0 0 16) (va_cpy P_w S_w 0 0 16) S_l S_b P_k P_f P_t P_w P_l P_b)) rfl ?_
  refine jj_aload_n hJ dX4_copy_60 0 rfl rfl ?_
  refine jj_aload_n hJ dX4_copy_61 1 rfl rfl ?_
  refine jj_get hJ lay_X4 dX4_copy_62 5 4 rfl rfl (Nat.le_of_ble_eq_true rfl) kw_0 rfl ?_
  refine jj_puti hJ lay_X4 tyX4 tyX4_ok nmX4 dX4_copy_65 0 4 rfl rfl (Nat.le_of_ble_eq_true rfl) kw_0 rfl rfl (Nat.le_of_ble_eq_true rfl) (wn := (W_X4_copy cI cS cII SA PA (va_cpy P_k S_k 0 0 10) (va_cpy P_f S_f 0 0 16) (va_cpy P_t S_t 0 0 16) (va_cpy P_w S_w 0 0 16) P_l S_b P_k P_f P_t P_w P_l P_b)) rfl ?_
  refine jj_aload_n hJ dX4_copy_68 0 rfl rfl ?_
  refine jj_aload_n hJ dX4_copy_69 1 rfl rfl ?_
  refine jj_get hJ lay_X4 dX4_copy_70 5 5 rfl rfl (Nat.le_of_ble_eq_true rfl) kw_2 rfl ?_
  refine jj_puti hJ lay_X4 tyX4 tyX4_ok nmX4 dX4_copy_73 0 5 rfl rfl (Nat.le_of_ble_eq_true rfl) kw_2 rfl rfl (Nat.le_of_ble_eq_true rfl) (wn := (W_X4_copy cI cS cII SA PA (va_cpy P_k S_k 0 0 10) (va_cpy P_f S_f 0 0 16) (va_cpy P_t S_t 0 0 16) (va_cpy P_w S_w 0 0 16) P_l P_b P_k P_f P_t P_w P_l P_b)) rfl ?_
  cases Option.some.inj hF
  exact jj_vret hJ dX4_copy_76
end
section
theorem kw_18 : ((RX1, 16, (TX4 4).1, (TX4 4).2.1, (TX4 4).2.2.1, "UniverseLevels") : String × Nat × String × String × String × String) ∈ nestF := List.mem_of_getElem? (i := 12) rfl
theorem kw_19 : Cond.fieldLink RX1 22 (TX1 1).1 (TX1 1).2.1 (TX1 1).2.2.1 ∈ lw_tbl := tb1 (i := 97) rfl
theorem kw_20 : Cond.fieldLink RX1 11 (TX1 0).1 (TX1 0).2.1 (TX1 0).2.2.1 ∈ lw_tbl := tb1 (i := 93) rfl
theorem kw_21 : ((RX1, 23, yX4_lengthsFrom, "UniverseLevels") : String × Nat × MethodName × String) ∈ nestM := List.mem_of_getElem? (i := 11) rfl
theorem kw_22 : cwOk yX4_lengthsFrom cX4_lengthsFrom 7 none 3 := ⟨tb2 (i := 17) rfl, tb1 (i := 3) rfl, by decide, by decide, by decide +kernel⟩
theorem kw_23 : Cond.instanceMethod yX4_lengthsFrom ∈ lw_tbl := tb2 (i := 16) rfl
theorem kw_24 : Cond.selects RX4 yX4_lengthsFrom yX4_lengthsFrom ∈ lw_tbl := tsel (i := 9) (q := (⟨"UniverseLevels$State", "lengthsFrom", "(II[I)V"⟩, 6)) rfl
theorem kw_25 : Cond.constant RX1 27 (-1000000) ∈ lw_tbl := tb2 (i := 38) rfl
theorem kw_26 : Cond.methodLink RX1 28 yX1_leads ∈ lw_tbl := tb2 (i := 231) rfl
theorem kw_27 : cwOk yX1_leads cX1_leads 3 (some .boolean) 2 := ⟨tb2 (i := 37) rfl, tb1 (i := 4) rfl, by decide, by decide, by decide +kernel⟩
theorem kw_28 : Cond.instanceMethod yX1_leads ∈ lw_tbl := tb2 (i := 36) rfl
theorem kw_29 : Cond.selects RX1 yX1_leads yX1_leads ∈ lw_tbl := tsel (i := 13) (q := (⟨"UniverseLevels$Lengths", "leads", "(II)Z"⟩, 2)) rfl
theorem kw_30 : Cond.methodLink RX1 32 Lib.Math.max.name ∈ lw_tbl := tb2 (i := 152) rfl
theorem kw_31 : Cond.static Lib.Math.max.name ∈ lw_tbl := tb2 (i := 153) rfl
theorem kw_32 : Cond.initialized "java/lang/Math" ∈ lw_tbl := tb1 (i := 13) rfl
theorem kw_33 : Cond.code Lib.Math.max.name Lib.Math.max.code 2 (some .int) ∈ lw_tbl := tb2 (i := 154) rfl
theorem kw_34 : Cond.methodLink RX1 38 yX1_valueOf ∈ lw_tbl := tb3 (i := 108) rfl
theorem kw_35 : cwOk yX1_valueOf cX1_valueOf 4 (some .int) 1 := ⟨tb2 (i := 151) rfl, tb1 (i := 4) rfl, by decide, by decide, by decide +kernel⟩
theorem kw_36 : Cond.instanceMethod yX1_valueOf ∈ lw_tbl := tb2 (i := 150) rfl
theorem kw_37 : Cond.selects RX1 yX1_valueOf yX1_valueOf ∈ lw_tbl := tsel (i := 23) (q := (⟨"UniverseLevels$Lengths", "valueOf", "(I)I"⟩, 2)) rfl
section
def W_X1_measure (cI cS cII : ClassId) (SA : Nat → Nat) (LA : Nat → Nat) (S_k : Nat → Int32) (S_f : Nat → Int32) (S_t : Nat → Int32) (S_w : Nat → Int32) (S_l : Int32) (S_b : Int32) (L_G : Nat → Nat → Int32) (L_l : Int32) : va_W := ([((SA 0), .inr (4, [.ref (SA 1), .ref (SA 2), .ref (SA 3), .ref (SA 4), .int S_l, .int S_b])), ((SA 1), .inl (cI, 10, .inl S_k)), ((SA 2), .inl (cI, 16, .inl S_f)), ((SA 3), .inl (cI, 16, .inl S_t)), ((SA 4), .inl (cI, 16, .inl S_w)), ((LA 0), .inr (1, [.ref (LA 1), .int L_l])), ((LA 1), .inl (cII, 10, .inr (.inr (.inr (.inr (fun i => some (LA (i + 2))))))))] ++ rw10 cI (fun i => LA (i + 2)) L_G)
abbrev Rm_X1_measure : Room := { frames := 2, cells := 0, slots := 0, locals := 49 }
variable {l : Launch} {D : va_G} {cI cS cII : ClassId} {SA : Nat → Nat} {LA : Nat → Nat} {A : Nat → Prop} {J : jT}
variable {z_L_G : Nat → Nat → Int32} {z_L_l : Int32}
def q_X1_measure_10 (S_f : Nat → Int32) (S_t : Nat → Int32) (S_w : Nat → Int32) (S_l : Int32) (S_b : Int32)  : Nat → Int32 → (Nat → Nat → Int32) → Int32 → Option ((Nat → Nat → Int32) × Int32)
  | 0, _, _, _ => none
  | n + 1, v2, L_G, L_l => if L_l ≤ v2 then (some (L_G, L_l)) else ((ix 10 v2).bind fun j2 => (p_X4_lengthsFrom S_f S_t S_w S_l S_b (L_G j2) v2 0).bind fun g5 => q_X1_measure_10 S_f S_t S_w S_l S_b n (v2 + 1) (va_up L_G j2 g5) L_l)
theorem w_X1_measure_10 {S_k : Nat → Int32} {S_f : Nat → Int32} {S_t : Nat → Int32} {S_w : Nat → Int32} {S_l : Int32} {S_b : Int32}   (hJ : jJ l cX1_measure 3 D (tysU cI cS cII) RX1 Rm_X1_measure none A none (W_X1_measure cI cS cII SA LA S_k S_f S_t S_w S_l S_b z_L_G z_L_l) J)  : ∀ (n : Nat) (v2 : Int32) (L_G : Nat → Nat → Int32) (L_l : Int32), q_X1_measure_10 S_f S_t S_w S_l S_b n v2 L_G L_l = some (z_L_G, z_L_l) → J (W_X1_measure cI cS cII SA LA S_k S_f S_t S_w S_l S_b L_G L_l) 10 [(2, .int v2), (0, .ref (LA 0)), (1, .ref (SA 0))] [] := by
  intro n
  induction n with
  | zero =>
    intro v2 L_G L_l hF
    exact no_some (show (none : Option ((Nat → Nat → Int32) × Int32)) = some (z_L_G, z_L_l) from hF)
  | succ n ih =>
    intro v2 L_G L_l hF
    rw [q_X1_measure_10.eq_2] at hF
    refine jj_iload_n hJ dX1_measure_10 0 rfl rfl ?_
    refine jj_aload_n hJ dX1_measure_11 1 rfl rfl ?_
    refine jj_get hJ lay_X1 dX1_measure_12 5 1 rfl rfl (Nat.le_of_ble_eq_true rfl) kw_19 rfl ?_
    refine jj_icmp_ge hJ 36 dX1_measure_15 rfl (fun c1 => ?_) (fun c1 => ?_)
    · replace hF := ip c1 hF
      cases Option.some.inj hF
      exact jj_vret hJ dX1_measure_36
    · replace hF := iq c1 hF
      refine jj_aload_n hJ dX1_measure_18 2 rfl rfl ?_
      refine jj_iload_n hJ dX1_measure_19 0 rfl rfl ?_
      refine jj_iconst hJ dX1_measure_20 ic_0 ?_
      refine jj_aload_n hJ dX1_measure_21 1 rfl rfl ?_
      refine jj_get hJ lay_X1 dX1_measure_22 5 0 rfl rfl (Nat.le_of_ble_eq_true rfl) kw_20 rfl ?_
      refine jj_iload_n hJ dX1_measure_25 0 rfl rfl ?_
      obtain ⟨j2, h3, hF⟩ := ob hF
      refine jj_aald hJ dX1_measure_26 6 2 rfl rfl rfl (ix_some h3).1 (congrArg (fun i => some (LA (i + 2))) (ix_some h3).2.1) ?_
      obtain ⟨g5, h4, hF⟩ := ob hF
      refine jj_callN hJ (c_X4_lengthsFrom l D cI cS cII SA (LA (j2 + 2)) S_k S_f S_t S_w S_l S_b (L_G j2) v2 0 h4) dX1_measure_27 kw_22 ⟨Nat.le_of_ble_eq_true rfl, Nat.le_of_ble_eq_true rfl, rfl, rfl⟩ kw_21 kw_23 kw_24 0 rfl rfl rfl rfl (Nat.le_of_ble_eq_true rfl) [0, 1, 2, 3, 4, (7 + j2)] (by rcases lt10 (ix_some h3).2.2 with rfl | rfl | rfl | rfl | rfl | rfl | rfl | rfl | rfl | rfl <;> rfl) (by rcases lt10 (ix_some h3).2.2 with rfl | rfl | rfl | rfl | rfl | rfl | rfl | rfl | rfl | rfl <;> rfl) (wn := (W_X1_measure cI cS cII SA LA S_k S_f S_t S_w S_l S_b (va_up L_G j2 g5) L_l)) (by
      rcases lt10 (ix_some h3).2.2 with rfl | rfl | rfl | rfl | rfl | rfl | rfl | rfl | rfl | rfl
      · exact jNew_sel rfl [some 0, some 1, some 2, some 3, some 4, none, none, some 5, none, none, none, none, none, none, none, none, none] (by decide +kernel) rfl
      · exact jNew_sel rfl [some 0, some 1, some 2, some 3, some 4, none, none, none, some 5, none, none, none, none, none, none, none, none] (by decide +kernel) rfl
      · exact jNew_sel rfl [some 0, some 1, some 2, some 3, some 4, none, none, none, none, some 5, none, none, none, none, none, none, none] (by decide +kernel) rfl
      · exact jNew_sel rfl [some 0, some 1, some 2, some 3, some 4, none, none, none, none, none, some 5, none, none, none, none, none, none] (by decide +kernel) rfl
      · exact jNew_sel rfl [some 0, some 1, some 2, some 3, some 4, none, none, none, none, none, none, some 5, none, none, none, none, none] (by decide +kernel) rfl
      · exact jNew_sel rfl [some 0, some 1, some 2, some 3, some 4, none, none, none, none, none, none, none, some 5, none, none, none, none] (by decide +kernel) rfl
      · exact jNew_sel rfl [some 0, some 1, some 2, some 3, some 4, none, none, none, none, none, none, none, none, some 5, none, none, none] (by decide +kernel) rfl
      · exact jNew_sel rfl [some 0, some 1, some 2, some 3, some 4, none, none, none, none, none, none, none, none, none, some 5, none, none] (by decide +kernel) rfl
      · exact jNew_sel rfl [some 0, some 1, some 2, some 3, some 4, none, none, none, none, none, none, none, none, none, none, some 5, none] (by decide +kernel) rfl
      · exact jNew_sel rfl [some 0, some 1, some 2, some 3, some 4, none, none, none, none, none, none, none, none, none, none, none, some 5] (by decide +kernel) rfl) ?_
      refine jj_iinc hJ dX1_measure_30 0 rfl (v := v2 + 1) (by rw [ic_1]) (Nat.le_of_ble_eq_true rfl) (lv' := [(2, .int (v2 + 1)), (0, .ref (LA 0)), (1, .ref (SA 0))]) rfl ?_
      refine jj_goto hJ 10 dX1_measure_33 rfl ?_
      exact ih (v2 + 1) (va_up L_G j2 g5) L_l hF
def p_X1_measure (S_f : Nat → Int32) (S_t : Nat → Int32) (S_w : Nat → Int32) (S_l : Int32) (S_b : Int32) (L_G : Nat → Nat → Int32) (L_l : Int32) : Option ((Nat → Nat → Int32) × Int32) := q_X1_measure_10 S_f S_t S_w S_l S_b FU 0 L_G S_l
end
theorem c_X1_measure (l : Launch) (D : va_G) (cI cS cII : ClassId) (SA : Nat → Nat) (LA : Nat → Nat) (S_k : Nat → Int32) (S_f : Nat → Int32) (S_t : Nat → Int32) (S_w : Nat → Int32) (S_l : Int32) (S_b : Int32) (L_G : Nat → Nat → Int32) (L_l : Int32)  {z_L_G : Nat → Nat → Int32} {z_L_l : Int32} (hF : p_X1_measure S_f S_t S_w S_l S_b L_G L_l = some (z_L_G, z_L_l)) : MJ l yX1_measure cX1_measure 3 none Rm_X1_measure D (tysU cI cS cII) [.ref (LA 0), .ref (SA 0)] (W_X1_measure cI cS cII SA LA S_k S_f S_t S_w S_l S_b L_G L_l) none (W_X1_measure cI cS cII SA LA S_k S_f S_t S_w S_l S_b z_L_G z_L_l) := by
  refine mj_of (own := RX1) (by decide) rfl (Nat.le_of_ble_eq_true rfl) (fun J hJ => ?_)
  show J (W_X1_measure cI cS cII SA LA S_k S_f S_t S_w S_l S_b L_G L_l) 0 [(0, .ref (LA 0)), (1, .ref (SA 0))] []
  unfold p_X1_measure at hF
  refine jj_aload_n hJ dX1_measure_0 0 rfl rfl ?_
  refine jj_aload_n hJ dX1_measure_1 1 rfl rfl ?_
  refine jj_getN hJ lay_X4 dX1_measure_2 0 4 rfl rfl (Nat.le_of_ble_eq_true rfl) kw_18 rfl ?_
  refine jj_puti hJ lay_X1 tyX1 tyX1_ok nmX1 dX1_measure_5 5 1 rfl rfl (Nat.le_of_ble_eq_true rfl) kw_19 rfl rfl (Nat.le_of_ble_eq_true rfl) (wn := (W_X1_measure cI cS cII SA LA S_k S_f S_t S_w S_l S_b L_G S_l)) rfl ?_
  refine jj_iconst hJ dX1_measure_8 ic_0 ?_
  refine jj_istore_n hJ dX1_measure_9 rfl (Nat.le_of_ble_eq_true rfl) (lv' := [(2, .int 0), (0, .ref (LA 0)), (1, .ref (SA 0))]) rfl ?_
  exact w_X1_measure_10 hJ  FU 0 L_G S_l hF
section
def W_X1_leads (cI cS cII : ClassId) (LA : Nat → Nat) (L_G : Nat → Nat → Int32) (L_l : Int32) : va_W := ([((LA 0), .inr (1, [.ref (LA 1), .int L_l])), ((LA 1), .inl (cII, 10, .inr (.inr (.inr (.inr (fun i => some (LA (i + 2))))))))] ++ rw10 cI (fun i => LA (i + 2)) L_G)
abbrev Rm_X1_leads : Room := { frames := 0, cells := 0, slots := 0, locals := 0 }
variable {l : Launch} {D : va_G} {cI cS cII : ClassId} {LA : Nat → Nat} {A : Nat → Prop} {J : jT}
variable {z_r : Int32}
def p_X1_leads (L_G : Nat → Nat → Int32) (a1 : Int32) (a2 : Int32) : Option (Int32) := (ix 10 a1).bind fun j1 => (rd (L_G j1) 10 a2).bind fun x3 => if x3 = ((-1000000)) then (some 0) else (some 1)
end
theorem c_X1_leads (l : Launch) (D : va_G) (cI cS cII : ClassId) (LA : Nat → Nat) (L_G : Nat → Nat → Int32) (L_l : Int32) (a1 : Int32) (a2 : Int32) {z_r : Int32} (hF : p_X1_leads L_G a1 a2 = some z_r) : MJ l yX1_leads cX1_leads 3 (some .boolean) Rm_X1_leads D (tysU cI cS cII) [.ref (LA 0), .int a1, .int a2] (W_X1_leads cI cS cII LA L_G L_l) (some z_r) (W_X1_leads cI cS cII LA L_G L_l) := by
  refine mj_of (own := RX1) (by decide) rfl (Nat.le_of_ble_eq_true rfl) (fun J hJ => ?_)
  show J (W_X1_leads cI cS cII LA L_G L_l) 0 [(0, .ref (LA 0)), (1, .int a1), (2, .int a2)] []
  unfold p_X1_leads at hF
  refine jj_aload_n hJ dX1_leads_0 0 rfl rfl ?_
  refine jj_get hJ lay_X1 dX1_leads_1 0 0 rfl rfl (Nat.le_of_ble_eq_true rfl) kw_20 rfl ?_
  refine jj_iload_n hJ dX1_leads_4 1 rfl rfl ?_
  obtain ⟨j1, h2, hF⟩ := ob hF
  refine jj_aald hJ dX1_leads_5 1 2 rfl rfl rfl (ix_some h2).1 (congrArg (fun i => some (LA (i + 2))) (ix_some h2).2.1) ?_
  refine jj_iload_n hJ dX1_leads_6 2 rfl rfl ?_
  obtain ⟨x3, h4, hF⟩ := ob hF
  refine jj_iald hJ dX1_leads_7 (2 + j1) 0 (rw10_get _ (ix_some h2).2.2) rfl h4 ?_
  refine jj_ldc hJ dX1_leads_8 kw_25 ?_
  refine jj_icmp_eq hJ 17 dX1_leads_10 rfl (fun c5 => ?_) (fun c5 => ?_)
  · replace hF := ip c5 hF
    refine jj_iconst hJ dX1_leads_17 ic_0 ?_
    cases Option.some.inj hF
    exact jj_zret hJ (Or.inl rfl) dX1_leads_18
  · replace hF := iq c5 hF
    refine jj_iconst hJ dX1_leads_13 ic_1 ?_
    refine jj_goto hJ 18 dX1_leads_14 rfl ?_
    cases Option.some.inj hF
    exact jj_zret hJ (Or.inr rfl) dX1_leads_18
section
def W_X1_implies (cI cS cII : ClassId) (LA : Nat → Nat) (L_G : Nat → Nat → Int32) (L_l : Int32) : va_W := ([((LA 0), .inr (1, [.ref (LA 1), .int L_l])), ((LA 1), .inl (cII, 10, .inr (.inr (.inr (.inr (fun i => some (LA (i + 2))))))))] ++ rw10 cI (fun i => LA (i + 2)) L_G)
abbrev Rm_X1_implies : Room := { frames := 1, cells := 0, slots := 0, locals := 22 }
variable {l : Launch} {D : va_G} {cI cS cII : ClassId} {LA : Nat → Nat} {A : Nat → Prop} {J : jT}
variable {z_r : Int32}
def p_X1_implies (L_G : Nat → Nat → Int32) (a1 : Int32) (a2 : Int32) (a3 : Int32) : Option (Int32) := (p_X1_leads L_G a1 a3).bind fun r2 => if r2 = 0 then (some 0) else ((ix 10 a1).bind fun j4 => (rd (L_G j4) 10 a3).bind fun x6 => if x6 < a2 then (some 0) else (some 1))
end
theorem c_X1_implies (l : Launch) (D : va_G) (cI cS cII : ClassId) (LA : Nat → Nat) (L_G : Nat → Nat → Int32) (L_l : Int32) (a1 : Int32) (a2 : Int32) (a3 : Int32) {z_r : Int32} (hF : p_X1_implies L_G a1 a2 a3 = some z_r) : MJ l yX1_implies cX1_implies 4 (some .boolean) Rm_X1_implies D (tysU cI cS cII) [.ref (LA 0), .int a1, .int a2, .int a3] (W_X1_implies cI cS cII LA L_G L_l) (some z_r) (W_X1_implies cI cS cII LA L_G L_l) := by
  refine mj_of (own := RX1) (by decide) rfl (Nat.le_of_ble_eq_true rfl) (fun J hJ => ?_)
  show J (W_X1_implies cI cS cII LA L_G L_l) 0 [(0, .ref (LA 0)), (1, .int a1), (2, .int a2), (3, .int a3)] []
  unfold p_X1_implies at hF
  refine jj_aload_n hJ dX1_implies_0 0 rfl rfl ?_
  refine jj_iload_n hJ dX1_implies_1 1 rfl rfl ?_
  refine jj_iload_n hJ dX1_implies_2 3 rfl rfl ?_
  obtain ⟨r2, h1, hF⟩ := ob hF
  refine jj_callV0 hJ (c_X1_leads l D cI cS cII LA L_G L_l a1 a3 h1) dX1_implies_3 kw_27 ⟨Nat.le_of_ble_eq_true rfl, Nat.le_of_ble_eq_true rfl, rfl, rfl⟩ kw_26 kw_28 kw_29 0 rfl rfl rfl rfl (Nat.le_of_ble_eq_true rfl) [0, 1, 2, 3, 4, 5, 6, 7, 8, 9, 10, 11] rfl rfl ?_
  refine jj_if_eq hJ 25 dX1_implies_6 rfl (fun c3 => ?_) (fun c3 => ?_)
  · replace hF := ip c3 hF
    refine jj_iconst hJ dX1_implies_25 ic_0 ?_
    cases Option.some.inj hF
    exact jj_zret hJ (Or.inl rfl) dX1_implies_26
  · replace hF := iq c3 hF
    refine jj_aload_n hJ dX1_implies_9 0 rfl rfl ?_
    refine jj_get hJ lay_X1 dX1_implies_10 0 0 rfl rfl (Nat.le_of_ble_eq_true rfl) kw_20 rfl ?_
    refine jj_iload_n hJ dX1_implies_13 1 rfl rfl ?_
    obtain ⟨j4, h5, hF⟩ := ob hF
    refine jj_aald hJ dX1_implies_14 1 2 rfl rfl rfl (ix_some h5).1 (congrArg (fun i => some (LA (i + 2))) (ix_some h5).2.1) ?_
    refine jj_iload_n hJ dX1_implies_15 3 rfl rfl ?_
    obtain ⟨x6, h7, hF⟩ := ob hF
    refine jj_iald hJ dX1_implies_16 (2 + j4) 0 (rw10_get _ (ix_some h5).2.2) rfl h7 ?_
    refine jj_iload_n hJ dX1_implies_17 2 rfl rfl ?_
    refine jj_icmp_lt hJ 25 dX1_implies_18 rfl (fun c8 => ?_) (fun c8 => ?_)
    · replace hF := ip c8 hF
      refine jj_iconst hJ dX1_implies_25 ic_0 ?_
      cases Option.some.inj hF
      exact jj_zret hJ (Or.inl rfl) dX1_implies_26
    · replace hF := iq c8 hF
      refine jj_iconst hJ dX1_implies_21 ic_1 ?_
      refine jj_goto hJ 26 dX1_implies_22 rfl ?_
      cases Option.some.inj hF
      exact jj_zret hJ (Or.inr rfl) dX1_implies_26
section
def W_X1_valueOf (cI cS cII : ClassId) (LA : Nat → Nat) (L_G : Nat → Nat → Int32) (L_l : Int32) : va_W := ([((LA 0), .inr (1, [.ref (LA 1), .int L_l])), ((LA 1), .inl (cII, 10, .inr (.inr (.inr (.inr (fun i => some (LA (i + 2))))))))] ++ rw10 cI (fun i => LA (i + 2)) L_G)
abbrev Rm_X1_valueOf : Room := { frames := 1, cells := 0, slots := 0, locals := 21 }
variable {l : Launch} {D : va_G} {cI cS cII : ClassId} {LA : Nat → Nat} {A : Nat → Prop} {J : jT}
variable {z_r : Int32}
def q_X1_valueOf_4 (L_G : Nat → Nat → Int32) (L_l : Int32) (a1 : Int32)  : Nat → Int32 → Int32 → Option (Int32)
  | 0, _, _ => none
  | n + 1, v3, v2 => if L_l ≤ v3 then (some v2) else ((ix 10 v3).bind fun j2 => (rd (L_G j2) 10 a1).bind fun x4 => q_X1_valueOf_4 L_G L_l a1 n (v3 + 1) (if v2 < x4 then x4 else v2))
theorem w_X1_valueOf_4 {L_G : Nat → Nat → Int32} {L_l : Int32} {a1 : Int32}  (hJ : jJ l cX1_valueOf 4 D (tysU cI cS cII) RX1 Rm_X1_valueOf (some .int) A (some z_r) (W_X1_valueOf cI cS cII LA L_G L_l) J)  : ∀ (n : Nat) (v3 : Int32) (v2 : Int32), q_X1_valueOf_4 L_G L_l a1 n v3 v2 = some z_r → J (W_X1_valueOf cI cS cII LA L_G L_l) 4 [(3, .int v3), (2, .int v2), (0, .ref (LA 0)), (1, .int a1)] [] := by
  intro n
  induction n with
  | zero =>
    intro v3 v2 hF
    exact no_some (show (none : Option (Int32)) = some z_r from hF)
  | succ n ih =>
    intro v3 v2 hF
    rw [q_X1_valueOf_4.eq_2] at hF
    refine jj_iload_n hJ dX1_valueOf_4 0 rfl rfl ?_
    refine jj_aload_n hJ dX1_valueOf_5 2 rfl rfl ?_
    refine jj_get hJ lay_X1 dX1_valueOf_6 0 1 rfl rfl (Nat.le_of_ble_eq_true rfl) kw_19 rfl ?_
    refine jj_icmp_ge hJ 31 dX1_valueOf_9 rfl (fun c1 => ?_) (fun c1 => ?_)
    · replace hF := ip c1 hF
      refine jj_iload_n hJ dX1_valueOf_31 1 rfl rfl ?_
      cases Option.some.inj hF
      exact jj_iret hJ dX1_valueOf_32
    · replace hF := iq c1 hF
      refine jj_iload_n hJ dX1_valueOf_12 1 rfl rfl ?_
      refine jj_aload_n hJ dX1_valueOf_13 2 rfl rfl ?_
      refine jj_get hJ lay_X1 dX1_valueOf_14 0 0 rfl rfl (Nat.le_of_ble_eq_true rfl) kw_20 rfl ?_
      refine jj_iload_n hJ dX1_valueOf_17 0 rfl rfl ?_
      obtain ⟨j2, h3, hF⟩ := ob hF
      refine jj_aald hJ dX1_valueOf_18 1 2 rfl rfl rfl (ix_some h3).1 (congrArg (fun i => some (LA (i + 2))) (ix_some h3).2.1) ?_
      refine jj_iload_n hJ dX1_valueOf_19 3 rfl rfl ?_
      obtain ⟨x4, h5, hF⟩ := ob hF
      refine jj_iald hJ dX1_valueOf_20 (2 + j2) 0 (rw10_get _ (ix_some h3).2.2) rfl h5 ?_
      refine jj_max hJ dX1_valueOf_21 kw_30 kw_31 kw_32 kw_33 (Nat.le_of_ble_eq_true rfl) (Nat.le_of_ble_eq_true rfl) ?_
      refine jj_istore_n hJ dX1_valueOf_24 rfl (Nat.le_of_ble_eq_true rfl) (lv' := [(2, .int (if v2 < x4 then x4 else v2)), (3, .int v3), (0, .ref (LA 0)), (1, .int a1)]) rfl ?_
      refine jj_iinc hJ dX1_valueOf_25 1 rfl (v := v3 + 1) (by rw [ic_1]) (Nat.le_of_ble_eq_true rfl) (lv' := [(3, .int (v3 + 1)), (2, .int (if v2 < x4 then x4 else v2)), (0, .ref (LA 0)), (1, .int a1)]) rfl ?_
      refine jj_goto hJ 4 dX1_valueOf_28 rfl ?_
      exact ih (v3 + 1) (if v2 < x4 then x4 else v2) hF
def p_X1_valueOf (L_G : Nat → Nat → Int32) (L_l : Int32) (a1 : Int32) : Option (Int32) := q_X1_valueOf_4 L_G L_l a1 FU 0 0
end
theorem c_X1_valueOf (l : Launch) (D : va_G) (cI cS cII : ClassId) (LA : Nat → Nat) (L_G : Nat → Nat → Int32) (L_l : Int32) (a1 : Int32) {z_r : Int32} (hF : p_X1_valueOf L_G L_l a1 = some z_r) : MJ l yX1_valueOf cX1_valueOf 4 (some .int) Rm_X1_valueOf D (tysU cI cS cII) [.ref (LA 0), .int a1] (W_X1_valueOf cI cS cII LA L_G L_l) (some z_r) (W_X1_valueOf cI cS cII LA L_G L_l) := by
  refine mj_of (own := RX1) (by decide) rfl (Nat.le_of_ble_eq_true rfl) (fun J hJ => ?_)
  show J (W_X1_valueOf cI cS cII LA L_G L_l) 0 [(0, .ref (LA 0)), (1, .int a1)] []
  unfold p_X1_valueOf at hF
  refine jj_iconst hJ dX1_valueOf_0 ic_0 ?_
  refine jj_istore_n hJ dX1_valueOf_1 rfl (Nat.le_of_ble_eq_true rfl) (lv' := [(2, .int 0), (0, .ref (LA 0)), (1, .int a1)]) rfl ?_
  refine jj_iconst hJ dX1_valueOf_2 ic_0 ?_
  refine jj_istore_n hJ dX1_valueOf_3 rfl (Nat.le_of_ble_eq_true rfl) (lv' := [(3, .int 0), (2, .int 0), (0, .ref (LA 0)), (1, .int a1)]) rfl ?_
  exact w_X1_valueOf_4 hJ  FU 0 0 hF
section
def W_X1_greatestValue (cI cS cII : ClassId) (LA : Nat → Nat) (L_G : Nat → Nat → Int32) (L_l : Int32) : va_W := ([((LA 0), .inr (1, [.ref (LA 1), .int L_l])), ((LA 1), .inl (cII, 10, .inr (.inr (.inr (.inr (fun i => some (LA (i + 2))))))))] ++ rw10 cI (fun i => LA (i + 2)) L_G)
abbrev Rm_X1_greatestValue : Room := { frames := 2, cells := 0, slots := 0, locals := 44 }
variable {l : Launch} {D : va_G} {cI cS cII : ClassId} {LA : Nat → Nat} {A : Nat → Prop} {J : jT}
variable {z_r : Int32}
def q_X1_greatestValue_4 (L_G : Nat → Nat → Int32) (L_l : Int32)  : Nat → Int32 → Int32 → Option (Int32)
  | 0, _, _ => none
  | n + 1, v2, v1 => if L_l ≤ v2 then (some v1) else ((p_X1_valueOf L_G L_l v2).bind fun r3 => q_X1_greatestValue_4 L_G L_l n (v2 + 1) (if v1 < r3 then r3 else v1))
theorem w_X1_greatestValue_4 {L_G : Nat → Nat → Int32} {L_l : Int32}   (hJ : jJ l cX1_greatestValue 3 D (tysU cI cS cII) RX1 Rm_X1_greatestValue (some .int) A (some z_r) (W_X1_greatestValue cI cS cII LA L_G L_l) J)  : ∀ (n : Nat) (v2 : Int32) (v1 : Int32), q_X1_greatestValue_4 L_G L_l n v2 v1 = some z_r → J (W_X1_greatestValue cI cS cII LA L_G L_l) 4 [(2, .int v2), (1, .int v1), (0, .ref (LA 0))] [] := by
  intro n
  induction n with
  | zero =>
    intro v2 v1 hF
    exact no_some (show (none : Option (Int32)) = some z_r from hF)
  | succ n ih =>
    intro v2 v1 hF
    rw [q_X1_greatestValue_4.eq_2] at hF
    refine jj_iload_n hJ dX1_greatestValue_4 0 rfl rfl ?_
    refine jj_aload_n hJ dX1_greatestValue_5 2 rfl rfl ?_
    refine jj_get hJ lay_X1 dX1_greatestValue_6 0 1 rfl rfl (Nat.le_of_ble_eq_true rfl) kw_19 rfl ?_
    refine jj_icmp_ge hJ 28 dX1_greatestValue_9 rfl (fun c1 => ?_) (fun c1 => ?_)
    · replace hF := ip c1 hF
      refine jj_iload_n hJ dX1_greatestValue_28 1 rfl rfl ?_
      cases Option.some.inj hF
      exact jj_iret hJ dX1_greatestValue_29
    · replace hF := iq c1 hF
      refine jj_iload_n hJ dX1_greatestValue_12 1 rfl rfl ?_
      refine jj_aload_n hJ dX1_greatestValue_13 2 rfl rfl ?_
      refine jj_iload_n hJ dX1_greatestValue_14 0 rfl rfl ?_
      obtain ⟨r3, h2, hF⟩ := ob hF
      refine jj_callV0 hJ (c_X1_valueOf l D cI cS cII LA L_G L_l v2 h2) dX1_greatestValue_15 kw_35 ⟨Nat.le_of_ble_eq_true rfl, Nat.le_of_ble_eq_true rfl, rfl, rfl⟩ kw_34 kw_36 kw_37 0 rfl rfl rfl rfl (Nat.le_of_ble_eq_true rfl) [0, 1, 2, 3, 4, 5, 6, 7, 8, 9, 10, 11] rfl rfl ?_
      refine jj_max hJ dX1_greatestValue_18 kw_30 kw_31 kw_32 kw_33 (Nat.le_of_ble_eq_true rfl) (Nat.le_of_ble_eq_true rfl) ?_
      refine jj_istore_n hJ dX1_greatestValue_21 rfl (Nat.le_of_ble_eq_true rfl) (lv' := [(1, .int (if v1 < r3 then r3 else v1)), (2, .int v2), (0, .ref (LA 0))]) rfl ?_
      refine jj_iinc hJ dX1_greatestValue_22 1 rfl (v := v2 + 1) (by rw [ic_1]) (Nat.le_of_ble_eq_true rfl) (lv' := [(2, .int (v2 + 1)), (1, .int (if v1 < r3 then r3 else v1)), (0, .ref (LA 0))]) rfl ?_
      refine jj_goto hJ 4 dX1_greatestValue_25 rfl ?_
      exact ih (v2 + 1) (if v1 < r3 then r3 else v1) hF
def p_X1_greatestValue (L_G : Nat → Nat → Int32) (L_l : Int32) : Option (Int32) := q_X1_greatestValue_4 L_G L_l FU 0 0
end
theorem c_X1_greatestValue (l : Launch) (D : va_G) (cI cS cII : ClassId) (LA : Nat → Nat) (L_G : Nat → Nat → Int32) (L_l : Int32)  {z_r : Int32} (hF : p_X1_greatestValue L_G L_l = some z_r) : MJ l yX1_greatestValue cX1_greatestValue 3 (some .int) Rm_X1_greatestValue D (tysU cI cS cII) [.ref (LA 0)] (W_X1_greatestValue cI cS cII LA L_G L_l) (some z_r) (W_X1_greatestValue cI cS cII LA L_G L_l) := by
  refine mj_of (own := RX1) (by decide) rfl (Nat.le_of_ble_eq_true rfl) (fun J hJ => ?_)
  show J (W_X1_greatestValue cI cS cII LA L_G L_l) 0 [(0, .ref (LA 0))] []
  unfold p_X1_greatestValue at hF
  refine jj_iconst hJ dX1_greatestValue_0 ic_0 ?_
  refine jj_istore_n hJ dX1_greatestValue_1 rfl (Nat.le_of_ble_eq_true rfl) (lv' := [(1, .int 0), (0, .ref (LA 0))]) rfl ?_
  refine jj_iconst hJ dX1_greatestValue_2 ic_0 ?_
  refine jj_istore_n hJ dX1_greatestValue_3 rfl (Nat.le_of_ble_eq_true rfl) (lv' := [(2, .int 0), (1, .int 0), (0, .ref (LA 0))]) rfl ?_
  exact w_X1_greatestValue_4 hJ  FU 0 0 hF
section
def W_X1_pairs (cI cS cII : ClassId) (LA : Nat → Nat) (L_G : Nat → Nat → Int32) (L_l : Int32) : va_W := ([((LA 0), .inr (1, [.ref (LA 1), .int L_l])), ((LA 1), .inl (cII, 10, .inr (.inr (.inr (.inr (fun i => some (LA (i + 2))))))))] ++ rw10 cI (fun i => LA (i + 2)) L_G)
abbrev Rm_X1_pairs : Room := { frames := 1, cells := 0, slots := 0, locals := 22 }
variable {l : Launch} {D : va_G} {cI cS cII : ClassId} {LA : Nat → Nat} {A : Nat → Prop} {J : jT}
variable {z_r : Int32}
def q_X1_pairs_45 (L_G : Nat → Nat → Int32) (L_l : Int32) (k4 : Int32 → Int32 → Option (Int32)) (v2 : Int32) (v1 : Int32) : Option (Int32) := k4 (v2 + 1) v1
theorem w_X1_pairs_45 {L_G : Nat → Nat → Int32} {L_l : Int32}  {k4 : Int32 → Int32 → Option (Int32)} (hJ : jJ l cX1_pairs 4 D (tysU cI cS cII) RX1 Rm_X1_pairs (some .int) A (some z_r) (W_X1_pairs cI cS cII LA L_G L_l) J) (hk4 : ∀ (v2 : Int32) (v1 : Int32), k4 v2 v1 = some z_r → J (W_X1_pairs cI cS cII LA L_G L_l) 4 [(2, .int v2), (1, .int v1), (0, .ref (LA 0))] []) : ∀ (v2 : Int32) (v1 : Int32), q_X1_pairs_45 L_G L_l k4 v2 v1 = some z_r → J (W_X1_pairs cI cS cII LA L_G L_l) 45 [(2, .int v2), (1, .int v1), (0, .ref (LA 0))] [] := by
  intro v2 v1 hF
  unfold q_X1_pairs_45 at hF
  refine jj_iinc hJ dX1_pairs_45 0 rfl (v := v2 + 1) (by rw [ic_1]) (Nat.le_of_ble_eq_true rfl) (lv' := [(2, .int (v2 + 1)), (1, .int v1), (0, .ref (LA 0))]) rfl ?_
  refine jj_goto hJ 4 dX1_pairs_48 rfl ?_
  exact hk4 (v2 + 1) v1 hF
def q_X1_pairs_14 (L_G : Nat → Nat → Int32) (L_l : Int32) (k4 : Int32 → Int32 → Option (Int32)) : Nat → Int32 → Int32 → Int32 → Option (Int32)
  | 0, _, _, _ => none
  | n + 1, v3, v2, v1 => if L_l ≤ v3 then (q_X1_pairs_45 L_G L_l k4 v2 v1) else (if v2 = v3 then (q_X1_pairs_14 L_G L_l k4 n (v3 + 1) v2 v1) else ((p_X1_leads L_G v2 v3).bind fun r4 => if r4 = 0 then (q_X1_pairs_14 L_G L_l k4 n (v3 + 1) v2 v1) else (q_X1_pairs_14 L_G L_l k4 n (v3 + 1) v2 (v1 + 1))))
theorem w_X1_pairs_14 {L_G : Nat → Nat → Int32} {L_l : Int32}  {k4 : Int32 → Int32 → Option (Int32)} (hJ : jJ l cX1_pairs 4 D (tysU cI cS cII) RX1 Rm_X1_pairs (some .int) A (some z_r) (W_X1_pairs cI cS cII LA L_G L_l) J) (hk4 : ∀ (v2 : Int32) (v1 : Int32), k4 v2 v1 = some z_r → J (W_X1_pairs cI cS cII LA L_G L_l) 4 [(2, .int v2), (1, .int v1), (0, .ref (LA 0))] []) : ∀ (n : Nat) (v3 : Int32) (v2 : Int32) (v1 : Int32), q_X1_pairs_14 L_G L_l k4 n v3 v2 v1 = some z_r → J (W_X1_pairs cI cS cII LA L_G L_l) 14 [(3, .int v3), (2, .int v2), (1, .int v1), (0, .ref (LA 0))] [] := by
  intro n
  induction n with
  | zero =>
    intro v3 v2 v1 hF
    exact no_some (show (none : Option (Int32)) = some z_r from hF)
  | succ n ih =>
    intro v3 v2 v1 hF
    rw [q_X1_pairs_14.eq_2] at hF
    refine jj_iload_n hJ dX1_pairs_14 0 rfl rfl ?_
    refine jj_aload_n hJ dX1_pairs_15 3 rfl rfl ?_
    refine jj_get hJ lay_X1 dX1_pairs_16 0 1 rfl rfl (Nat.le_of_ble_eq_true rfl) kw_19 rfl ?_
    refine jj_icmp_ge hJ 45 dX1_pairs_19 rfl (fun c1 => ?_) (fun c1 => ?_)
    · replace hF := ip c1 hF
      refine jj_lv hJ [1, 2, 3] (lv' := [(2, .int v2), (1, .int v1), (0, .ref (LA 0))]) rfl ?_
      exact w_X1_pairs_45 hJ hk4 v2 v1 hF
    · replace hF := iq c1 hF
      refine jj_iload_n hJ dX1_pairs_22 1 rfl rfl ?_
      refine jj_iload_n hJ dX1_pairs_23 0 rfl rfl ?_
      refine jj_icmp_eq hJ 39 dX1_pairs_24 rfl (fun c2 => ?_) (fun c2 => ?_)
      · replace hF := ip c2 hF
        refine jj_iinc hJ dX1_pairs_39 0 rfl (v := v3 + 1) (by rw [ic_1]) (Nat.le_of_ble_eq_true rfl) (lv' := [(3, .int (v3 + 1)), (2, .int v2), (1, .int v1), (0, .ref (LA 0))]) rfl ?_
        refine jj_goto hJ 14 dX1_pairs_42 rfl ?_
        exact ih (v3 + 1) v2 v1 hF
      · replace hF := iq c2 hF
        refine jj_aload_n hJ dX1_pairs_27 3 rfl rfl ?_
        refine jj_iload_n hJ dX1_pairs_28 1 rfl rfl ?_
        refine jj_iload_n hJ dX1_pairs_29 0 rfl rfl ?_
        obtain ⟨r4, h3, hF⟩ := ob hF
        refine jj_callV0 hJ (c_X1_leads l D cI cS cII LA L_G L_l v2 v3 h3) dX1_pairs_30 kw_27 ⟨Nat.le_of_ble_eq_true rfl, Nat.le_of_ble_eq_true rfl, rfl, rfl⟩ kw_26 kw_28 kw_29 0 rfl rfl rfl rfl (Nat.le_of_ble_eq_true rfl) [0, 1, 2, 3, 4, 5, 6, 7, 8, 9, 10, 11] rfl rfl ?_
        refine jj_if_eq hJ 39 dX1_pairs_33 rfl (fun c5 => ?_) (fun c5 => ?_)
        · replace hF := ip c5 hF
          refine jj_iinc hJ dX1_pairs_39 0 rfl (v := v3 + 1) (by rw [ic_1]) (Nat.le_of_ble_eq_true rfl) (lv' := [(3, .int (v3 + 1)), (2, .int v2), (1, .int v1), (0, .ref (LA 0))]) rfl ?_
          refine jj_goto hJ 14 dX1_pairs_42 rfl ?_
          exact ih (v3 + 1) v2 v1 hF
        · replace hF := iq c5 hF
          refine jj_iinc hJ dX1_pairs_36 2 rfl (v := v1 + 1) (by rw [ic_1]) (Nat.le_of_ble_eq_true rfl) (lv' := [(1, .int (v1 + 1)), (3, .int v3), (2, .int v2), (0, .ref (LA 0))]) rfl ?_
          refine jj_iinc hJ dX1_pairs_39 1 rfl (v := v3 + 1) (by rw [ic_1]) (Nat.le_of_ble_eq_true rfl) (lv' := [(3, .int (v3 + 1)), (1, .int (v1 + 1)), (2, .int v2), (0, .ref (LA 0))]) rfl ?_
          refine jj_goto hJ 14 dX1_pairs_42 rfl ?_
          refine jj_lv hJ [0, 2, 1, 3] (lv' := [(3, .int (v3 + 1)), (2, .int v2), (1, .int (v1 + 1)), (0, .ref (LA 0))]) rfl ?_
          exact ih (v3 + 1) v2 (v1 + 1) hF
def q_X1_pairs_4 (L_G : Nat → Nat → Int32) (L_l : Int32)  : Nat → Int32 → Int32 → Option (Int32)
  | 0, _, _ => none
  | n + 1, v2, v1 => if L_l ≤ v2 then (some v1) else (q_X1_pairs_14 L_G L_l (q_X1_pairs_4 L_G L_l n) FU 0 v2 v1)
theorem w_X1_pairs_4 {L_G : Nat → Nat → Int32} {L_l : Int32}   (hJ : jJ l cX1_pairs 4 D (tysU cI cS cII) RX1 Rm_X1_pairs (some .int) A (some z_r) (W_X1_pairs cI cS cII LA L_G L_l) J)  : ∀ (n : Nat) (v2 : Int32) (v1 : Int32), q_X1_pairs_4 L_G L_l n v2 v1 = some z_r → J (W_X1_pairs cI cS cII LA L_G L_l) 4 [(2, .int v2), (1, .int v1), (0, .ref (LA 0))] [] := by
  intro n
  induction n with
  | zero =>
    intro v2 v1 hF
    exact no_some (show (none : Option (Int32)) = some z_r from hF)
  | succ n ih =>
    intro v2 v1 hF
    rw [q_X1_pairs_4.eq_2] at hF
    refine jj_iload_n hJ dX1_pairs_4 0 rfl rfl ?_
    refine jj_aload_n hJ dX1_pairs_5 2 rfl rfl ?_
    refine jj_get hJ lay_X1 dX1_pairs_6 0 1 rfl rfl (Nat.le_of_ble_eq_true rfl) kw_19 rfl ?_
    refine jj_icmp_ge hJ 51 dX1_pairs_9 rfl (fun c1 => ?_) (fun c1 => ?_)
    · replace hF := ip c1 hF
      refine jj_iload_n hJ dX1_pairs_51 1 rfl rfl ?_
      cases Option.some.inj hF
      exact jj_iret hJ dX1_pairs_52
    · replace hF := iq c1 hF
      refine jj_iconst hJ dX1_pairs_12 ic_0 ?_
      refine jj_istore_n hJ dX1_pairs_13 rfl (Nat.le_of_ble_eq_true rfl) (lv' := [(3, .int 0), (2, .int v2), (1, .int v1), (0, .ref (LA 0))]) rfl ?_
      exact w_X1_pairs_14 hJ (fun v2 v1 => ih v2 v1) FU 0 v2 v1 hF
def p_X1_pairs (L_G : Nat → Nat → Int32) (L_l : Int32) : Option (Int32) := q_X1_pairs_4 L_G L_l FU 0 0
end
theorem c_X1_pairs (l : Launch) (D : va_G) (cI cS cII : ClassId) (LA : Nat → Nat) (L_G : Nat → Nat → Int32) (L_l : Int32)  {z_r : Int32} (hF : p_X1_pairs L_G L_l = some z_r) : MJ l yX1_pairs cX1_pairs 4 (some .int) Rm_X1_pairs D (tysU cI cS cII) [.ref (LA 0)] (W_X1_pairs cI cS cII LA L_G L_l) (some z_r) (W_X1_pairs cI cS cII LA L_G L_l) := by
  refine mj_of (own := RX1) (by decide) rfl (Nat.le_of_ble_eq_true rfl) (fun J hJ => ?_)
  show J (W_X1_pairs cI cS cII LA L_G L_l) 0 [(0, .ref (LA 0))] []
  unfold p_X1_pairs at hF
  refine jj_iconst hJ dX1_pairs_0 ic_0 ?_
  refine jj_istore_n hJ dX1_pairs_1 rfl (Nat.le_of_ble_eq_true rfl) (lv' := [(1, .int 0), (0, .ref (LA 0))]) rfl ?_
  refine jj_iconst hJ dX1_pairs_2 ic_0 ?_
  refine jj_istore_n hJ dX1_pairs_3 rfl (Nat.le_of_ble_eq_true rfl) (lv' := [(2, .int 0), (1, .int 0), (0, .ref (LA 0))]) rfl ?_
  exact w_X1_pairs_4 hJ  FU 0 0 hF
end
section
theorem kw_38 : Cond.fieldLink RX3 18 (TX3 2).1 (TX3 2).2.1 (TX3 2).2.2.1 ∈ lw_tbl := tb1 (i := 132) rfl
theorem kw_39 : Cond.fieldLink RX3 9 (TX3 0).1 (TX3 0).2.1 (TX3 0).2.2.1 ∈ lw_tbl := tb1 (i := 128) rfl
theorem kw_40 : Cond.fieldLink RX3 15 (TX3 1).1 (TX3 1).2.1 (TX3 1).2.2.1 ∈ lw_tbl := tb1 (i := 130) rfl
theorem kw_41 : ((RX3, 29, yX1_implies, "UniverseLevels") : String × Nat × MethodName × String) ∈ nestM := List.mem_of_getElem? (i := 28) rfl
theorem kw_42 : cwOk yX1_implies cX1_implies 4 (some .boolean) 3 := ⟨tb2 (i := 230) rfl, tb1 (i := 4) rfl, by decide, by decide, by decide +kernel⟩
theorem kw_43 : Cond.instanceMethod yX1_implies ∈ lw_tbl := tb2 (i := 229) rfl
theorem kw_44 : Cond.selects RX1 yX1_implies yX1_implies ∈ lw_tbl := tsel (i := 33) (q := (⟨"UniverseLevels$Lengths", "implies", "(III)Z"⟩, 2)) rfl
theorem kw_45 : Cond.methodLink RX3 26 yX3_isNoMore ∈ lw_tbl := tb3 (i := 55) rfl
theorem kw_46 : cwOk yX3_isNoMore cX3_isNoMore 4 (some .boolean) 3 := ⟨tb3 (i := 58) rfl, tb1 (i := 6) rfl, by decide, by decide, by decide +kernel⟩
theorem kw_47 : Cond.instanceMethod yX3_isNoMore ∈ lw_tbl := tb3 (i := 57) rfl
theorem kw_48 : Cond.selects RX3 yX3_isNoMore yX3_isNoMore ∈ lw_tbl := tsel (i := 42) (q := (⟨"UniverseLevels$Rows", "isNoMore", "(IILUniverseLevels$Lengths;)Z"⟩, 3)) rfl
theorem kw_49 : Cond.methodLink RX3 22 yX3_isCovered ∈ lw_tbl := tb3 (i := 51) rfl
theorem kw_50 : cwOk yX3_isCovered cX3_isCovered 4 (some .boolean) 3 := ⟨tb3 (i := 54) rfl, tb1 (i := 6) rfl, by decide, by decide, by decide +kernel⟩
theorem kw_51 : Cond.instanceMethod yX3_isCovered ∈ lw_tbl := tb3 (i := 53) rfl
theorem kw_52 : Cond.selects RX3 yX3_isCovered yX3_isCovered ∈ lw_tbl := tsel (i := 41) (q := (⟨"UniverseLevels$Rows", "isCovered", "(IILUniverseLevels$Lengths;)Z"⟩, 3)) rfl
section
def W_X3_add (cI cS cII : ClassId) (MA : Nat → Nat) (M_v : Nat → Int32) (M_m : Nat → Int32) (M_s : Int32) : va_W := [((MA 0), .inr (3, [.ref (MA 1), .ref (MA 2), .int M_s])), ((MA 1), .inl (cI, 10, .inl M_v)), ((MA 2), .inl (cI, 10, .inl M_m))]
abbrev Rm_X3_add : Room := { frames := 0, cells := 0, slots := 0, locals := 0 }
variable {l : Launch} {D : va_G} {cI cS cII : ClassId} {MA : Nat → Nat} {A : Nat → Prop} {J : jT}
variable {z_M_v : Nat → Int32} {z_M_m : Nat → Int32} {z_M_s : Int32}
def p_X3_add (M_v : Nat → Int32) (M_m : Nat → Int32) (M_s : Int32) (a1 : Int32) (a2 : Int32) : Option ((Nat → Int32) × (Nat → Int32) × Int32) := if 10 ≤ M_s then (some (M_v, M_m, M_s)) else ((wr M_v 10 M_s a1).bind fun g2 => (wr M_m 10 M_s a2).bind fun g4 => some (g2, g4, M_s + 1))
end
theorem c_X3_add (l : Launch) (D : va_G) (cI cS cII : ClassId) (MA : Nat → Nat) (M_v : Nat → Int32) (M_m : Nat → Int32) (M_s : Int32) (a1 : Int32) (a2 : Int32) {z_M_v : Nat → Int32} {z_M_m : Nat → Int32} {z_M_s : Int32} (hF : p_X3_add M_v M_m M_s a1 a2 = some (z_M_v, z_M_m, z_M_s)) : MJ l yX3_add cX3_add 3 none Rm_X3_add D (tysU cI cS cII) [.ref (MA 0), .int a1, .int a2] (W_X3_add cI cS cII MA M_v M_m M_s) none (W_X3_add cI cS cII MA z_M_v z_M_m z_M_s) := by
  refine mj_of (own := RX3) (by decide) rfl (Nat.le_of_ble_eq_true rfl) (fun J hJ => ?_)
  show J (W_X3_add cI cS cII MA M_v M_m M_s) 0 [(0, .ref (MA 0)), (1, .int a1), (2, .int a2)] []
  unfold p_X3_add at hF
  refine jj_aload_n hJ dX3_add_0 0 rfl rfl ?_
  refine jj_get hJ lay_X3 dX3_add_1 0 2 rfl rfl (Nat.le_of_ble_eq_true rfl) kw_38 rfl ?_
  refine jj_bipush hJ dX3_add_4 bp_10 ?_
  refine jj_icmp_ge hJ 39 dX3_add_6 rfl (fun c1 => ?_) (fun c1 => ?_)
  · replace hF := ip c1 hF
    cases Option.some.inj hF
    exact jj_vret hJ dX3_add_39
  · replace hF := iq c1 hF
    refine jj_aload_n hJ dX3_add_9 0 rfl rfl ?_
    refine jj_get hJ lay_X3 dX3_add_10 0 0 rfl rfl (Nat.le_of_ble_eq_true rfl) kw_39 rfl ?_
    refine jj_aload_n hJ dX3_add_13 0 rfl rfl ?_
    refine jj_get hJ lay_X3 dX3_add_14 0 2 rfl rfl (Nat.le_of_ble_eq_true rfl) kw_38 rfl ?_
    refine jj_iload_n hJ dX3_add_17 1 rfl rfl ?_
    obtain ⟨g2, h3, hF⟩ := ob hF
    refine jj_iast hJ dX3_add_18 1 0 rfl rfl h3 (wn := (W_X3_add cI cS cII MA g2 M_m M_s)) rfl ?_
    refine jj_aload_n hJ dX3_add_19 0 rfl rfl ?_
    refine jj_get hJ lay_X3 dX3_add_20 0 1 rfl rfl (Nat.le_of_ble_eq_true rfl) kw_40 rfl ?_
    refine jj_aload_n hJ dX3_add_23 0 rfl rfl ?_
    refine jj_get hJ lay_X3 dX3_add_24 0 2 rfl rfl (Nat.le_of_ble_eq_true rfl) kw_38 rfl ?_
    refine jj_iload_n hJ dX3_add_27 2 rfl rfl ?_
    obtain ⟨g4, h5, hF⟩ := ob hF
    refine jj_iast hJ dX3_add_28 2 0 rfl rfl h5 (wn := (W_X3_add cI cS cII MA g2 g4 M_s)) rfl ?_
    refine jj_aload_n hJ dX3_add_29 0 rfl rfl ?_
    refine jj_dup hJ dX3_add_30 rfl ?_
    refine jj_get hJ lay_X3 dX3_add_31 0 2 rfl rfl (Nat.le_of_ble_eq_true rfl) kw_38 rfl ?_
    refine jj_iconst hJ dX3_add_34 ic_1 ?_
    refine jj_iadd hJ dX3_add_35 ?_
    refine jj_puti hJ lay_X3 tyX3 tyX3_ok nmX3 dX3_add_36 0 2 rfl rfl (Nat.le_of_ble_eq_true rfl) kw_38 rfl rfl (Nat.le_of_ble_eq_true rfl) (wn := (W_X3_add cI cS cII MA g2 g4 (M_s + 1))) rfl ?_
    cases Option.some.inj hF
    exact jj_vret hJ dX3_add_39
section
def W_X3_isNoMore (cI cS cII : ClassId) (MA : Nat → Nat) (LA : Nat → Nat) (M_v : Nat → Int32) (M_m : Nat → Int32) (M_s : Int32) (L_G : Nat → Nat → Int32) (L_l : Int32) : va_W := ([((MA 0), .inr (3, [.ref (MA 1), .ref (MA 2), .int M_s])), ((MA 1), .inl (cI, 10, .inl M_v)), ((MA 2), .inl (cI, 10, .inl M_m)), ((LA 0), .inr (1, [.ref (LA 1), .int L_l])), ((LA 1), .inl (cII, 10, .inr (.inr (.inr (.inr (fun i => some (LA (i + 2))))))))] ++ rw10 cI (fun i => LA (i + 2)) L_G)
abbrev Rm_X3_isNoMore : Room := { frames := 2, cells := 0, slots := 0, locals := 45 }
variable {l : Launch} {D : va_G} {cI cS cII : ClassId} {MA : Nat → Nat} {LA : Nat → Nat} {A : Nat → Prop} {J : jT}
variable {z_r : Int32}
def p_X3_isNoMore (M_v : Nat → Int32) (M_m : Nat → Int32) (L_G : Nat → Nat → Int32) (a1 : Int32) (a2 : Int32) : Option (Int32) := (rd M_v 10 a1).bind fun x1 => (rd M_m 10 a1).bind fun x3 => (rd M_m 10 a2).bind fun x5 => (rd M_v 10 a2).bind fun x7 => (p_X1_implies L_G x1 (x3 - x5) x7).bind fun r10 => (bz r10).bind fun _ => some r10
end
theorem c_X3_isNoMore (l : Launch) (D : va_G) (cI cS cII : ClassId) (MA : Nat → Nat) (LA : Nat → Nat) (M_v : Nat → Int32) (M_m : Nat → Int32) (M_s : Int32) (L_G : Nat → Nat → Int32) (L_l : Int32) (a1 : Int32) (a2 : Int32) {z_r : Int32} (hF : p_X3_isNoMore M_v M_m L_G a1 a2 = some z_r) : MJ l yX3_isNoMore cX3_isNoMore 4 (some .boolean) Rm_X3_isNoMore D (tysU cI cS cII) [.ref (MA 0), .int a1, .int a2, .ref (LA 0)] (W_X3_isNoMore cI cS cII MA LA M_v M_m M_s L_G L_l) (some z_r) (W_X3_isNoMore cI cS cII MA LA M_v M_m M_s L_G L_l) := by
  refine mj_of (own := RX3) (by decide) rfl (Nat.le_of_ble_eq_true rfl) (fun J hJ => ?_)
  show J (W_X3_isNoMore cI cS cII MA LA M_v M_m M_s L_G L_l) 0 [(0, .ref (MA 0)), (1, .int a1), (2, .int a2), (3, .ref (LA 0))] []
  unfold p_X3_isNoMore at hF
  refine jj_aload_n hJ dX3_isNoMore_0 3 rfl rfl ?_
  refine jj_aload_n hJ dX3_isNoMore_1 0 rfl rfl ?_
  refine jj_get hJ lay_X3 dX3_isNoMore_2 0 0 rfl rfl (Nat.le_of_ble_eq_true rfl) kw_39 rfl ?_
  refine jj_iload_n hJ dX3_isNoMore_5 1 rfl rfl ?_
  obtain ⟨x1, h2, hF⟩ := ob hF
  refine jj_iald hJ dX3_isNoMore_6 1 0 rfl rfl h2 ?_
  refine jj_aload_n hJ dX3_isNoMore_7 0 rfl rfl ?_
  refine jj_get hJ lay_X3 dX3_isNoMore_8 0 1 rfl rfl (Nat.le_of_ble_eq_true rfl) kw_40 rfl ?_
  refine jj_iload_n hJ dX3_isNoMore_11 1 rfl rfl ?_
  obtain ⟨x3, h4, hF⟩ := ob hF
  refine jj_iald hJ dX3_isNoMore_12 2 0 rfl rfl h4 ?_
  refine jj_aload_n hJ dX3_isNoMore_13 0 rfl rfl ?_
  refine jj_get hJ lay_X3 dX3_isNoMore_14 0 1 rfl rfl (Nat.le_of_ble_eq_true rfl) kw_40 rfl ?_
  refine jj_iload_n hJ dX3_isNoMore_17 2 rfl rfl ?_
  obtain ⟨x5, h6, hF⟩ := ob hF
  refine jj_iald hJ dX3_isNoMore_18 2 0 rfl rfl h6 ?_
  refine jj_isub hJ dX3_isNoMore_19 ?_
  refine jj_aload_n hJ dX3_isNoMore_20 0 rfl rfl ?_
  refine jj_get hJ lay_X3 dX3_isNoMore_21 0 0 rfl rfl (Nat.le_of_ble_eq_true rfl) kw_39 rfl ?_
  refine jj_iload_n hJ dX3_isNoMore_24 2 rfl rfl ?_
  obtain ⟨x7, h8, hF⟩ := ob hF
  refine jj_iald hJ dX3_isNoMore_25 1 0 rfl rfl h8 ?_
  obtain ⟨r10, h9, hF⟩ := ob hF
  refine jj_callN0 hJ (c_X1_implies l D cI cS cII LA L_G L_l x1 (x3 - x5) x7 h9) dX3_isNoMore_26 kw_42 ⟨Nat.le_of_ble_eq_true rfl, Nat.le_of_ble_eq_true rfl, rfl, rfl⟩ kw_41 kw_43 kw_44 3 rfl rfl rfl rfl (Nat.le_of_ble_eq_true rfl) [3, 4, 5, 6, 7, 8, 9, 10, 11, 12, 13, 14] rfl rfl ?_
  obtain ⟨_, b11, hF⟩ := ob hF
  cases Option.some.inj hF
  exact jj_zret hJ (bz_some b11) dX3_isNoMore_29
section
def W_X3_isCovered (cI cS cII : ClassId) (MA : Nat → Nat) (LA : Nat → Nat) (M_v : Nat → Int32) (M_m : Nat → Int32) (M_s : Int32) (L_G : Nat → Nat → Int32) (L_l : Int32) : va_W := ([((MA 0), .inr (3, [.ref (MA 1), .ref (MA 2), .int M_s])), ((MA 1), .inl (cI, 10, .inl M_v)), ((MA 2), .inl (cI, 10, .inl M_m)), ((LA 0), .inr (1, [.ref (LA 1), .int L_l])), ((LA 1), .inl (cII, 10, .inr (.inr (.inr (.inr (fun i => some (LA (i + 2))))))))] ++ rw10 cI (fun i => LA (i + 2)) L_G)
abbrev Rm_X3_isCovered : Room := { frames := 3, cells := 0, slots := 0, locals := 68 }
variable {l : Launch} {D : va_G} {cI cS cII : ClassId} {MA : Nat → Nat} {LA : Nat → Nat} {A : Nat → Prop} {J : jT}
variable {z_r : Int32}
def p_X3_isCovered (M_v : Nat → Int32) (M_m : Nat → Int32) (L_G : Nat → Nat → Int32) (a1 : Int32) (a2 : Int32) : Option (Int32) := (p_X3_isNoMore M_v M_m L_G a1 a2).bind fun r2 => if r2 = 0 then (some 0) else (if a2 < a1 then (some 1) else ((p_X3_isNoMore M_v M_m L_G a2 a1).bind fun r6 => if r6 = 0 then (some 1) else (some 0)))
end
theorem c_X3_isCovered (l : Launch) (D : va_G) (cI cS cII : ClassId) (MA : Nat → Nat) (LA : Nat → Nat) (M_v : Nat → Int32) (M_m : Nat → Int32) (M_s : Int32) (L_G : Nat → Nat → Int32) (L_l : Int32) (a1 : Int32) (a2 : Int32) {z_r : Int32} (hF : p_X3_isCovered M_v M_m L_G a1 a2 = some z_r) : MJ l yX3_isCovered cX3_isCovered 4 (some .boolean) Rm_X3_isCovered D (tysU cI cS cII) [.ref (MA 0), .int a1, .int a2, .ref (LA 0)] (W_X3_isCovered cI cS cII MA LA M_v M_m M_s L_G L_l) (some z_r) (W_X3_isCovered cI cS cII MA LA M_v M_m M_s L_G L_l) := by
  refine mj_of (own := RX3) (by decide) rfl (Nat.le_of_ble_eq_true rfl) (fun J hJ => ?_)
  show J (W_X3_isCovered cI cS cII MA LA M_v M_m M_s L_G L_l) 0 [(0, .ref (MA 0)), (1, .int a1), (2, .int a2), (3, .ref (LA 0))] []
  unfold p_X3_isCovered at hF
  refine jj_aload_n hJ dX3_isCovered_0 0 rfl rfl ?_
  refine jj_iload_n hJ dX3_isCovered_1 1 rfl rfl ?_
  refine jj_iload_n hJ dX3_isCovered_2 2 rfl rfl ?_
  refine jj_aload_n hJ dX3_isCovered_3 3 rfl rfl ?_
  obtain ⟨r2, h1, hF⟩ := ob hF
  refine jj_callV0 hJ (c_X3_isNoMore l D cI cS cII MA LA M_v M_m M_s L_G L_l a1 a2 h1) dX3_isCovered_4 kw_46 ⟨Nat.le_of_ble_eq_true rfl, Nat.le_of_ble_eq_true rfl, rfl, rfl⟩ kw_45 kw_47 kw_48 0 rfl rfl rfl rfl (Nat.le_of_ble_eq_true rfl) [0, 1, 2, 3, 4, 5, 6, 7, 8, 9, 10, 11, 12, 13, 14] rfl rfl ?_
  refine jj_if_eq hJ 29 dX3_isCovered_7 rfl (fun c3 => ?_) (fun c3 => ?_)
  · replace hF := ip c3 hF
    refine jj_iconst hJ dX3_isCovered_29 ic_0 ?_
    cases Option.some.inj hF
    exact jj_zret hJ (Or.inl rfl) dX3_isCovered_30
  · replace hF := iq c3 hF
    refine jj_iload_n hJ dX3_isCovered_10 2 rfl rfl ?_
    refine jj_iload_n hJ dX3_isCovered_11 1 rfl rfl ?_
    refine jj_icmp_lt hJ 25 dX3_isCovered_12 rfl (fun c4 => ?_) (fun c4 => ?_)
    · replace hF := ip c4 hF
      refine jj_iconst hJ dX3_isCovered_25 ic_1 ?_
      refine jj_goto hJ 30 dX3_isCovered_26 rfl ?_
      cases Option.some.inj hF
      exact jj_zret hJ (Or.inr rfl) dX3_isCovered_30
    · replace hF := iq c4 hF
      refine jj_aload_n hJ dX3_isCovered_15 0 rfl rfl ?_
      refine jj_iload_n hJ dX3_isCovered_16 2 rfl rfl ?_
      refine jj_iload_n hJ dX3_isCovered_17 1 rfl rfl ?_
      refine jj_aload_n hJ dX3_isCovered_18 3 rfl rfl ?_
      obtain ⟨r6, h5, hF⟩ := ob hF
      refine jj_callV0 hJ (c_X3_isNoMore l D cI cS cII MA LA M_v M_m M_s L_G L_l a2 a1 h5) dX3_isCovered_19 kw_46 ⟨Nat.le_of_ble_eq_true rfl, Nat.le_of_ble_eq_true rfl, rfl, rfl⟩ kw_45 kw_47 kw_48 0 rfl rfl rfl rfl (Nat.le_of_ble_eq_true rfl) [0, 1, 2, 3, 4, 5, 6, 7, 8, 9, 10, 11, 12, 13, 14] rfl rfl ?_
      refine jj_if_ne hJ 29 dX3_isCovered_22 rfl (fun c7 => ?_) (fun c7 => ?_)
      · replace hF := iq c7 hF
        refine jj_iconst hJ dX3_isCovered_29 ic_0 ?_
        cases Option.some.inj hF
        exact jj_zret hJ (Or.inl rfl) dX3_isCovered_30
      · replace hF := ip c7 hF
        refine jj_iconst hJ dX3_isCovered_25 ic_1 ?_
        refine jj_goto hJ 30 dX3_isCovered_26 rfl ?_
        cases Option.some.inj hF
        exact jj_zret hJ (Or.inr rfl) dX3_isCovered_30
section
def W_X3_isShort (cI cS cII : ClassId) (MA : Nat → Nat) (LA : Nat → Nat) (M_v : Nat → Int32) (M_m : Nat → Int32) (M_s : Int32) (L_G : Nat → Nat → Int32) (L_l : Int32) : va_W := ([((MA 0), .inr (3, [.ref (MA 1), .ref (MA 2), .int M_s])), ((MA 1), .inl (cI, 10, .inl M_v)), ((MA 2), .inl (cI, 10, .inl M_m)), ((LA 0), .inr (1, [.ref (LA 1), .int L_l])), ((LA 1), .inl (cII, 10, .inr (.inr (.inr (.inr (fun i => some (LA (i + 2))))))))] ++ rw10 cI (fun i => LA (i + 2)) L_G)
abbrev Rm_X3_isShort : Room := { frames := 4, cells := 0, slots := 0, locals := 91 }
variable {l : Launch} {D : va_G} {cI cS cII : ClassId} {MA : Nat → Nat} {LA : Nat → Nat} {A : Nat → Prop} {J : jT}
variable {z_r : Int32}
def q_X3_isShort_2 (M_v : Nat → Int32) (M_m : Nat → Int32) (M_s : Int32) (L_G : Nat → Nat → Int32) (a1 : Int32)  : Nat → Int32 → Option (Int32)
  | 0, _ => none
  | n + 1, v3 => if M_s ≤ v3 then (some 1) else (if v3 = a1 then (q_X3_isShort_2 M_v M_m M_s L_G a1 n (v3 + 1)) else ((p_X3_isCovered M_v M_m L_G a1 v3).bind fun r4 => if r4 = 0 then (q_X3_isShort_2 M_v M_m M_s L_G a1 n (v3 + 1)) else (some 0)))
theorem w_X3_isShort_2 {M_v : Nat → Int32} {M_m : Nat → Int32} {M_s : Int32} {L_G : Nat → Nat → Int32} {L_l : Int32} {a1 : Int32}  (hJ : jJ l cX3_isShort 4 D (tysU cI cS cII) RX3 Rm_X3_isShort (some .boolean) A (some z_r) (W_X3_isShort cI cS cII MA LA M_v M_m M_s L_G L_l) J)  : ∀ (n : Nat) (v3 : Int32), q_X3_isShort_2 M_v M_m M_s L_G a1 n v3 = some z_r → J (W_X3_isShort cI cS cII MA LA M_v M_m M_s L_G L_l) 2 [(3, .int v3), (0, .ref (MA 0)), (1, .int a1), (2, .ref (LA 0))] [] := by
  intro n
  induction n with
  | zero =>
    intro v3 hF
    exact no_some (show (none : Option (Int32)) = some z_r from hF)
  | succ n ih =>
    intro v3 hF
    rw [q_X3_isShort_2.eq_2] at hF
    refine jj_iload_n hJ dX3_isShort_2 0 rfl rfl ?_
    refine jj_aload_n hJ dX3_isShort_3 1 rfl rfl ?_
    refine jj_get hJ lay_X3 dX3_isShort_4 0 2 rfl rfl (Nat.le_of_ble_eq_true rfl) kw_38 rfl ?_
    refine jj_icmp_ge hJ 33 dX3_isShort_7 rfl (fun c1 => ?_) (fun c1 => ?_)
    · replace hF := ip c1 hF
      refine jj_iconst hJ dX3_isShort_33 ic_1 ?_
      cases Option.some.inj hF
      exact jj_zret hJ (Or.inr rfl) dX3_isShort_34
    · replace hF := iq c1 hF
      refine jj_iload_n hJ dX3_isShort_10 0 rfl rfl ?_
      refine jj_iload_n hJ dX3_isShort_11 2 rfl rfl ?_
      refine jj_icmp_eq hJ 27 dX3_isShort_12 rfl (fun c2 => ?_) (fun c2 => ?_)
      · replace hF := ip c2 hF
        refine jj_iinc hJ dX3_isShort_27 0 rfl (v := v3 + 1) (by rw [ic_1]) (Nat.le_of_ble_eq_true rfl) (lv' := [(3, .int (v3 + 1)), (0, .ref (MA 0)), (1, .int a1), (2, .ref (LA 0))]) rfl ?_
        refine jj_goto hJ 2 dX3_isShort_30 rfl ?_
        exact ih (v3 + 1) hF
      · replace hF := iq c2 hF
        refine jj_aload_n hJ dX3_isShort_15 1 rfl rfl ?_
        refine jj_iload_n hJ dX3_isShort_16 2 rfl rfl ?_
        refine jj_iload_n hJ dX3_isShort_17 0 rfl rfl ?_
        refine jj_aload_n hJ dX3_isShort_18 3 rfl rfl ?_
        obtain ⟨r4, h3, hF⟩ := ob hF
        refine jj_callV0 hJ (c_X3_isCovered l D cI cS cII MA LA M_v M_m M_s L_G L_l a1 v3 h3) dX3_isShort_19 kw_50 ⟨Nat.le_of_ble_eq_true rfl, Nat.le_of_ble_eq_true rfl, rfl, rfl⟩ kw_49 kw_51 kw_52 0 rfl rfl rfl rfl (Nat.le_of_ble_eq_true rfl) [0, 1, 2, 3, 4, 5, 6, 7, 8, 9, 10, 11, 12, 13, 14] rfl rfl ?_
        refine jj_if_eq hJ 27 dX3_isShort_22 rfl (fun c5 => ?_) (fun c5 => ?_)
        · replace hF := ip c5 hF
          refine jj_iinc hJ dX3_isShort_27 0 rfl (v := v3 + 1) (by rw [ic_1]) (Nat.le_of_ble_eq_true rfl) (lv' := [(3, .int (v3 + 1)), (0, .ref (MA 0)), (1, .int a1), (2, .ref (LA 0))]) rfl ?_
          refine jj_goto hJ 2 dX3_isShort_30 rfl ?_
          exact ih (v3 + 1) hF
        · replace hF := iq c5 hF
          refine jj_iconst hJ dX3_isShort_25 ic_0 ?_
          cases Option.some.inj hF
          exact jj_zret hJ (Or.inl rfl) dX3_isShort_26
def p_X3_isShort (M_v : Nat → Int32) (M_m : Nat → Int32) (M_s : Int32) (L_G : Nat → Nat → Int32) (a1 : Int32) : Option (Int32) := q_X3_isShort_2 M_v M_m M_s L_G a1 FU 0
end
theorem c_X3_isShort (l : Launch) (D : va_G) (cI cS cII : ClassId) (MA : Nat → Nat) (LA : Nat → Nat) (M_v : Nat → Int32) (M_m : Nat → Int32) (M_s : Int32) (L_G : Nat → Nat → Int32) (L_l : Int32) (a1 : Int32) {z_r : Int32} (hF : p_X3_isShort M_v M_m M_s L_G a1 = some z_r) : MJ l yX3_isShort cX3_isShort 4 (some .boolean) Rm_X3_isShort D (tysU cI cS cII) [.ref (MA 0), .int a1, .ref (LA 0)] (W_X3_isShort cI cS cII MA LA M_v M_m M_s L_G L_l) (some z_r) (W_X3_isShort cI cS cII MA LA M_v M_m M_s L_G L_l) := by
  refine mj_of (own := RX3) (by decide) rfl (Nat.le_of_ble_eq_true rfl) (fun J hJ => ?_)
  show J (W_X3_isShort cI cS cII MA LA M_v M_m M_s L_G L_l) 0 [(0, .ref (MA 0)), (1, .int a1), (2, .ref (LA 0))] []
  unfold p_X3_isShort at hF
  refine jj_iconst hJ dX3_isShort_0 ic_0 ?_
  refine jj_istore_n hJ dX3_isShort_1 rfl (Nat.le_of_ble_eq_true rfl) (lv' := [(3, .int 0), (0, .ref (MA 0)), (1, .int a1), (2, .ref (LA 0))]) rfl ?_
  exact w_X3_isShort_2 hJ  FU 0 hF
end
section
theorem kw_53 : ((RX2, 47, (TX4 1).1, (TX4 1).2.1, (TX4 1).2.2.1, "UniverseLevels") : String × Nat × String × String × String × String) ∈ nestF := List.mem_of_getElem? (i := 3) rfl
theorem kw_54 : ((RX2, 50, (TX4 2).1, (TX4 2).2.1, (TX4 2).2.2.1, "UniverseLevels") : String × Nat × String × String × String × String) ∈ nestF := List.mem_of_getElem? (i := 6) rfl
theorem kw_55 : ((RX2, 59, (TX1 0).1, (TX1 0).2.1, (TX1 0).2.2.1, "UniverseLevels") : String × Nat × String × String × String × String) ∈ nestF := List.mem_of_getElem? (i := 19) rfl
theorem kw_56 : Cond.constant RX2 65 (-1000000) ∈ lw_tbl := tb2 (i := 51) rfl
theorem kw_57 : ((RX2, 66, (TX4 3).1, (TX4 3).2.1, (TX4 3).2.2.1, "UniverseLevels") : String × Nat × String × String × String × String) ∈ nestF := List.mem_of_getElem? (i := 10) rfl
theorem kw_58 : Cond.fieldLink RX2 15 (TX2 1).1 (TX2 1).2.1 (TX2 1).2.2.1 ∈ lw_tbl := tb1 (i := 149) rfl
theorem kw_59 : Cond.methodLink RX2 30 yJ7_fill_53178 ∈ lw_tbl := tb2 (i := 47) rfl
theorem kw_60 : ((RX2, 36, (TX4 4).1, (TX4 4).2.1, (TX4 4).2.2.1, "UniverseLevels") : String × Nat × String × String × String × String) ∈ nestF := List.mem_of_getElem? (i := 13) rfl
theorem kw_61 : ((RX2, 40, (TX4 5).1, (TX4 5).2.1, (TX4 5).2.2.1, "UniverseLevels") : String × Nat × String × String × String × String) ∈ nestF := List.mem_of_getElem? (i := 15) rfl
theorem kw_62 : cwOk yX2_isOnLongest cX2_isOnLongest 7 (some .boolean) 4 := ⟨tb2 (i := 50) rfl, tb1 (i := 7) rfl, by decide, by decide, by decide +kernel⟩
theorem kw_63 : Cond.methodLink RX2 43 yX2_isOnLongest ∈ lw_tbl := tb2 (i := 48) rfl
theorem kw_64 : Cond.static yX2_isOnLongest ∈ lw_tbl := tb2 (i := 49) rfl
theorem kw_65 : Cond.methodLink RX2 53 Lib.Math.min.name ∈ lw_tbl := tb2 (i := 52) rfl
theorem kw_66 : Cond.static Lib.Math.min.name ∈ lw_tbl := tb2 (i := 53) rfl
theorem kw_67 : Cond.code Lib.Math.min.name Lib.Math.min.code 2 (some .int) ∈ lw_tbl := tb2 (i := 54) rfl
theorem bp_m4 : (Int8.ofInt (-4)).toInt32 = (-4 : Int32) := by decide
theorem kw_68 : Cond.methodLink RX2 18 yX2_countFewest ∈ lw_tbl := tb2 (i := 43) rfl
theorem kw_69 : cwOk yX2_countFewest cX2_countFewest 7 none 3 := ⟨tb2 (i := 46) rfl, tb1 (i := 7) rfl, by decide, by decide, by decide +kernel⟩
theorem kw_70 : Cond.instanceMethod yX2_countFewest ∈ lw_tbl := tb2 (i := 45) rfl
theorem kw_71 : Cond.selects RX2 yX2_countFewest yX2_countFewest ∈ lw_tbl := tsel (i := 15) (q := (⟨"UniverseLevels$Round", "countFewest", "(LUniverseLevels$State;LUniverseLevels$Lengths;I)V"⟩, 4)) rfl
theorem kw_72 : Cond.fieldLink RX2 22 (TX2 2).1 (TX2 2).2.1 (TX2 2).2.2.1 ∈ lw_tbl := tb1 (i := 150) rfl
theorem kw_73 : Cond.fieldLink RX2 9 (TX2 0).1 (TX2 0).2.1 (TX2 0).2.2.1 ∈ lw_tbl := tb1 (i := 147) rfl
theorem kw_74 : Cond.methodLink RX2 26 yX2_nextLevel ∈ lw_tbl := tb2 (i := 55) rfl
theorem kw_75 : cwOk yX2_nextLevel cX2_nextLevel 8 (some .int) 4 := ⟨tb2 (i := 58) rfl, tb1 (i := 7) rfl, by decide, by decide, by decide +kernel⟩
theorem kw_76 : Cond.instanceMethod yX2_nextLevel ∈ lw_tbl := tb2 (i := 57) rfl
theorem kw_77 : Cond.selects RX2 yX2_nextLevel yX2_nextLevel ∈ lw_tbl := tsel (i := 16) (q := (⟨"UniverseLevels$Round", "nextLevel", "(LUniverseLevels$State;LUniverseLevels$Lengths;II)I"⟩, 4)) rfl
section
def W_X2_isOnLongest (cI cS cII : ClassId) (SA : Nat → Nat) (LA : Nat → Nat) (S_k : Nat → Int32) (S_f : Nat → Int32) (S_t : Nat → Int32) (S_w : Nat → Int32) (S_l : Int32) (S_b : Int32) (L_G : Nat → Nat → Int32) (L_l : Int32) : va_W := ([((SA 0), .inr (4, [.ref (SA 1), .ref (SA 2), .ref (SA 3), .ref (SA 4), .int S_l, .int S_b])), ((SA 1), .inl (cI, 10, .inl S_k)), ((SA 2), .inl (cI, 16, .inl S_f)), ((SA 3), .inl (cI, 16, .inl S_t)), ((SA 4), .inl (cI, 16, .inl S_w)), ((LA 0), .inr (1, [.ref (LA 1), .int L_l])), ((LA 1), .inl (cII, 10, .inr (.inr (.inr (.inr (fun i => some (LA (i + 2))))))))] ++ rw10 cI (fun i => LA (i + 2)) L_G)
abbrev Rm_X2_isOnLongest : Room := { frames := 0, cells := 0, slots := 0, locals := 0 }
variable {l : Launch} {D : va_G} {cI cS cII : ClassId} {SA : Nat → Nat} {LA : Nat → Nat} {A : Nat → Prop} {J : jT}
variable {z_r : Int32}
def p_X2_isOnLongest (S_f : Nat → Int32) (S_t : Nat → Int32) (S_w : Nat → Int32) (L_G : Nat → Nat → Int32) (a2 : Int32) (a3 : Int32) : Option (Int32) := (rd S_f 16 a2).bind fun x1 => (rd S_t 16 a2).bind fun x3 => (ix 10 x3).bind fun j5 => (rd (L_G j5) 10 a3).bind fun x7 => if x7 = ((-1000000)) then (some 0) else ((ix 10 x1).bind fun j10 => (rd (L_G j10) 10 a3).bind fun x12 => (rd S_w 16 a2).bind fun x14 => if x12 = (x14 + x7) then (some 1) else (some 0))
end
theorem c_X2_isOnLongest (l : Launch) (D : va_G) (cI cS cII : ClassId) (SA : Nat → Nat) (LA : Nat → Nat) (S_k : Nat → Int32) (S_f : Nat → Int32) (S_t : Nat → Int32) (S_w : Nat → Int32) (S_l : Int32) (S_b : Int32) (L_G : Nat → Nat → Int32) (L_l : Int32) (a2 : Int32) (a3 : Int32) {z_r : Int32} (hF : p_X2_isOnLongest S_f S_t S_w L_G a2 a3 = some z_r) : MJ l yX2_isOnLongest cX2_isOnLongest 7 (some .boolean) Rm_X2_isOnLongest D (tysU cI cS cII) [.ref (SA 0), .ref (LA 0), .int a2, .int a3] (W_X2_isOnLongest cI cS cII SA LA S_k S_f S_t S_w S_l S_b L_G L_l) (some z_r) (W_X2_isOnLongest cI cS cII SA LA S_k S_f S_t S_w S_l S_b L_G L_l) := by
  refine mj_of (own := RX2) (by decide) rfl (Nat.le_of_ble_eq_true rfl) (fun J hJ => ?_)
  show J (W_X2_isOnLongest cI cS cII SA LA S_k S_f S_t S_w S_l S_b L_G L_l) 0 [(0, .ref (SA 0)), (1, .ref (LA 0)), (2, .int a2), (3, .int a3)] []
  unfold p_X2_isOnLongest at hF
  refine jj_aload_n hJ dX2_isOnLongest_0 0 rfl rfl ?_
  refine jj_getN hJ lay_X4 dX2_isOnLongest_1 0 1 rfl rfl (Nat.le_of_ble_eq_true rfl) kw_53 rfl ?_
  refine jj_iload_n hJ dX2_isOnLongest_4 2 rfl rfl ?_
  obtain ⟨x1, h2, hF⟩ := ob hF
  refine jj_iald hJ dX2_isOnLongest_5 2 0 rfl rfl h2 ?_
  refine jj_istore hJ dX2_isOnLongest_6 (Nat.le_of_ble_eq_true rfl) (lv' := [(4, .int x1), (0, .ref (SA 0)), (1, .ref (LA 0)), (2, .int a2), (3, .int a3)]) rfl ?_
  refine jj_aload_n hJ dX2_isOnLongest_8 1 rfl rfl ?_
  refine jj_getN hJ lay_X4 dX2_isOnLongest_9 0 2 rfl rfl (Nat.le_of_ble_eq_true rfl) kw_54 rfl ?_
  refine jj_iload_n hJ dX2_isOnLongest_12 3 rfl rfl ?_
  obtain ⟨x3, h4, hF⟩ := ob hF
  refine jj_iald hJ dX2_isOnLongest_13 3 0 rfl rfl h4 ?_
  refine jj_istore hJ dX2_isOnLongest_14 (Nat.le_of_ble_eq_true rfl) (lv' := [(5, .int x3), (4, .int x1), (0, .ref (SA 0)), (1, .ref (LA 0)), (2, .int a2), (3, .int a3)]) rfl ?_
  refine jj_aload_n hJ dX2_isOnLongest_16 3 rfl rfl ?_
  refine jj_getN hJ lay_X1 dX2_isOnLongest_17 5 0 rfl rfl (Nat.le_of_ble_eq_true rfl) kw_55 rfl ?_
  refine jj_iload hJ dX2_isOnLongest_20 0 rfl ?_
  obtain ⟨j5, h6, hF⟩ := ob hF
  refine jj_aald hJ dX2_isOnLongest_22 6 2 rfl rfl rfl (ix_some h6).1 (congrArg (fun i => some (LA (i + 2))) (ix_some h6).2.1) ?_
  refine jj_iload_n hJ dX2_isOnLongest_23 5 rfl rfl ?_
  obtain ⟨x7, h8, hF⟩ := ob hF
  refine jj_iald hJ dX2_isOnLongest_24 (7 + j5) 0 (rw10_get _ (ix_some h6).2.2) rfl h8 ?_
  refine jj_istore hJ dX2_isOnLongest_25 (Nat.le_of_ble_eq_true rfl) (lv' := [(6, .int x7), (5, .int x3), (4, .int x1), (0, .ref (SA 0)), (1, .ref (LA 0)), (2, .int a2), (3, .int a3)]) rfl ?_
  refine jj_iload hJ dX2_isOnLongest_27 0 rfl ?_
  refine jj_ldc hJ dX2_isOnLongest_29 kw_56 ?_
  refine jj_icmp_eq hJ 59 dX2_isOnLongest_31 rfl (fun c9 => ?_) (fun c9 => ?_)
  · replace hF := ip c9 hF
    refine jj_iconst hJ dX2_isOnLongest_59 ic_0 ?_
    cases Option.some.inj hF
    exact jj_zret hJ (Or.inl rfl) dX2_isOnLongest_60
  · replace hF := iq c9 hF
    refine jj_aload_n hJ dX2_isOnLongest_34 4 rfl rfl ?_
    refine jj_getN hJ lay_X1 dX2_isOnLongest_35 5 0 rfl rfl (Nat.le_of_ble_eq_true rfl) kw_55 rfl ?_
    refine jj_iload hJ dX2_isOnLongest_38 2 rfl ?_
    obtain ⟨j10, h11, hF⟩ := ob hF
    refine jj_aald hJ dX2_isOnLongest_40 6 2 rfl rfl rfl (ix_some h11).1 (congrArg (fun i => some (LA (i + 2))) (ix_some h11).2.1) ?_
    refine jj_iload_n hJ dX2_isOnLongest_41 6 rfl rfl ?_
    obtain ⟨x12, h13, hF⟩ := ob hF
    refine jj_iald hJ dX2_isOnLongest_42 (7 + j10) 0 (rw10_get _ (ix_some h11).2.2) rfl h13 ?_
    refine jj_aload_n hJ dX2_isOnLongest_43 3 rfl rfl ?_
    refine jj_getN hJ lay_X4 dX2_isOnLongest_44 0 3 rfl rfl (Nat.le_of_ble_eq_true rfl) kw_57 rfl ?_
    refine jj_iload_n hJ dX2_isOnLongest_47 5 rfl rfl ?_
    obtain ⟨x14, h15, hF⟩ := ob hF
    refine jj_iald hJ dX2_isOnLongest_48 4 0 rfl rfl h15 ?_
    refine jj_iload hJ dX2_isOnLongest_49 0 rfl ?_
    refine jj_iadd hJ dX2_isOnLongest_51 ?_
    refine jj_icmp_ne hJ 59 dX2_isOnLongest_52 rfl (fun c16 => ?_) (fun c16 => ?_)
    · replace hF := iq c16 hF
      refine jj_iconst hJ dX2_isOnLongest_59 ic_0 ?_
      cases Option.some.inj hF
      exact jj_zret hJ (Or.inl rfl) dX2_isOnLongest_60
    · replace hF := ip c16 hF
      refine jj_iconst hJ dX2_isOnLongest_55 ic_1 ?_
      refine jj_goto hJ 60 dX2_isOnLongest_56 rfl ?_
      cases Option.some.inj hF
      exact jj_zret hJ (Or.inr rfl) dX2_isOnLongest_60
section
def W_X2_countFewest (cI cS cII : ClassId) (OA : Nat → Nat) (SA : Nat → Nat) (LA : Nat → Nat) (O_v : Nat → Int32) (O_n : Nat → Int32) (O_s : Int32) (O_a : Int32) (S_k : Nat → Int32) (S_f : Nat → Int32) (S_t : Nat → Int32) (S_w : Nat → Int32) (S_l : Int32) (S_b : Int32) (L_G : Nat → Nat → Int32) (L_l : Int32) : va_W := ([((OA 0), .inr (2, [.ref (OA 1), .ref (OA 2), .int O_s, .int O_a])), ((OA 1), .inl (cI, 10, .inl O_v)), ((OA 2), .inl (cI, 10, .inl O_n)), ((SA 0), .inr (4, [.ref (SA 1), .ref (SA 2), .ref (SA 3), .ref (SA 4), .int S_l, .int S_b])), ((SA 1), .inl (cI, 10, .inl S_k)), ((SA 2), .inl (cI, 16, .inl S_f)), ((SA 3), .inl (cI, 16, .inl S_t)), ((SA 4), .inl (cI, 16, .inl S_w)), ((LA 0), .inr (1, [.ref (LA 1), .int L_l])), ((LA 1), .inl (cII, 10, .inr (.inr (.inr (.inr (fun i => some (LA (i + 2))))))))] ++ rw10 cI (fun i => LA (i + 2)) L_G)
abbrev Rm_X2_countFewest : Room := { frames := 1, cells := 0, slots := 0, locals := 26 }
variable {l : Launch} {D : va_G} {cI cS cII : ClassId} {OA : Nat → Nat} {SA : Nat → Nat} {LA : Nat → Nat} {A : Nat → Prop} {J : jT}
variable {z_O_n : Nat → Int32}
def q_X2_countFewest_97 (S_f : Nat → Int32) (S_t : Nat → Int32) (S_w : Nat → Int32) (S_l : Int32) (S_b : Int32) (L_G : Nat → Nat → Int32) (a3 : Int32) (k19 : Int32 → (Nat → Int32) → Option (Nat → Int32)) (v4 : Int32) (O_n : Nat → Int32) : Option (Nat → Int32) := k19 (v4 + 1) O_n
theorem w_X2_countFewest_97 {O_v : Nat → Int32} {O_s : Int32} {O_a : Int32} {S_k : Nat → Int32} {S_f : Nat → Int32} {S_t : Nat → Int32} {S_w : Nat → Int32} {S_l : Int32} {S_b : Int32} {L_G : Nat → Nat → Int32} {L_l : Int32} {a3 : Int32} {k19 : Int32 → (Nat → Int32) → Option (Nat → Int32)} (hJ : jJ l cX2_countFewest 7 D (tysU cI cS cII) RX2 Rm_X2_countFewest none A none (W_X2_countFewest cI cS cII OA SA LA O_v z_O_n O_s O_a S_k S_f S_t S_w S_l S_b L_G L_l) J) (hk19 : ∀ (v4 : Int32) (O_n : Nat → Int32), k19 v4 O_n = some z_O_n → J (W_X2_countFewest cI cS cII OA SA LA O_v O_n O_s O_a S_k S_f S_t S_w S_l S_b L_G L_l) 19 [(4, .int v4), (0, .ref (OA 0)), (1, .ref (SA 0)), (2, .ref (LA 0)), (3, .int a3)] []) : ∀ (v4 : Int32) (O_n : Nat → Int32), q_X2_countFewest_97 S_f S_t S_w S_l S_b L_G a3 k19 v4 O_n = some z_O_n → J (W_X2_countFewest cI cS cII OA SA LA O_v O_n O_s O_a S_k S_f S_t S_w S_l S_b L_G L_l) 97 [(4, .int v4), (0, .ref (OA 0)), (1, .ref (SA 0)), (2, .ref (LA 0)), (3, .int a3)] [] := by
  intro v4 O_n hF
  unfold q_X2_countFewest_97 at hF
  refine jj_iinc hJ dX2_countFewest_97 0 rfl (v := v4 + 1) (by rw [ic_1]) (Nat.le_of_ble_eq_true rfl) (lv' := [(4, .int (v4 + 1)), (0, .ref (OA 0)), (1, .ref (SA 0)), (2, .ref (LA 0)), (3, .int a3)]) rfl ?_
  refine jj_goto hJ 19 dX2_countFewest_100 rfl ?_
  exact hk19 (v4 + 1) O_n hF
def q_X2_countFewest_31 (S_f : Nat → Int32) (S_t : Nat → Int32) (S_w : Nat → Int32) (S_l : Int32) (S_b : Int32) (L_G : Nat → Nat → Int32) (a3 : Int32) (k19 : Int32 → (Nat → Int32) → Option (Nat → Int32)) : Nat → Int32 → Int32 → (Nat → Int32) → Option (Nat → Int32)
  | 0, _, _, _ => none
  | n + 1, v5, v4, O_n => if S_b ≤ v5 then (q_X2_countFewest_97 S_f S_t S_w S_l S_b L_G a3 k19 v4 O_n) else ((p_X2_isOnLongest S_f S_t S_w L_G v5 a3).bind fun r3 => if r3 = 0 then (q_X2_countFewest_31 S_f S_t S_w S_l S_b L_G a3 k19 n (v5 + 1) v4 O_n) else ((rd S_f 16 v5).bind fun x5 => (rd O_n 10 x5).bind fun x7 => (rd S_t 16 v5).bind fun x9 => (rd O_n 10 x9).bind fun x11 => (wr O_n 10 x5 (if (x11 + 1) < x7 then (x11 + 1) else x7)).bind fun g13 => q_X2_countFewest_31 S_f S_t S_w S_l S_b L_G a3 k19 n (v5 + 1) v4 g13))
theorem w_X2_countFewest_31 {O_v : Nat → Int32} {O_s : Int32} {O_a : Int32} {S_k : Nat → Int32} {S_f : Nat → Int32} {S_t : Nat → Int32} {S_w : Nat → Int32} {S_l : Int32} {S_b : Int32} {L_G : Nat → Nat → Int32} {L_l : Int32} {a3 : Int32} {k19 : Int32 → (Nat → Int32) → Option (Nat → Int32)} (hJ : jJ l cX2_countFewest 7 D (tysU cI cS cII) RX2 Rm_X2_countFewest none A none (W_X2_countFewest cI cS cII OA SA LA O_v z_O_n O_s O_a S_k S_f S_t S_w S_l S_b L_G L_l) J) (hk19 : ∀ (v4 : Int32) (O_n : Nat → Int32), k19 v4 O_n = some z_O_n → J (W_X2_countFewest cI cS cII OA SA LA O_v O_n O_s O_a S_k S_f S_t S_w S_l S_b L_G L_l) 19 [(4, .int v4), (0, .ref (OA 0)), (1, .ref (SA 0)), (2, .ref (LA 0)), (3, .int a3)] []) : ∀ (n : Nat) (v5 : Int32) (v4 : Int32) (O_n : Nat → Int32), q_X2_countFewest_31 S_f S_t S_w S_l S_b L_G a3 k19 n v5 v4 O_n = some z_O_n → J (W_X2_countFewest cI cS cII OA SA LA O_v O_n O_s O_a S_k S_f S_t S_w S_l S_b L_G L_l) 31 [(5, .int v5), (4, .int v4), (0, .ref (OA 0)), (1, .ref (SA 0)), (2, .ref (LA 0)), (3, .int a3)] [] := by
  intro n
  induction n with
  | zero =>
    intro v5 v4 O_n hF
    exact no_some (show (none : Option (Nat → Int32)) = some z_O_n from hF)
  | succ n ih =>
    intro v5 v4 O_n hF
    rw [q_X2_countFewest_31.eq_2] at hF
    refine jj_iload hJ dX2_countFewest_31 0 rfl ?_
    refine jj_aload_n hJ dX2_countFewest_33 3 rfl rfl ?_
    refine jj_getN hJ lay_X4 dX2_countFewest_34 3 5 rfl rfl (Nat.le_of_ble_eq_true rfl) kw_61 rfl ?_
    refine jj_icmp_ge hJ 97 dX2_countFewest_37 rfl (fun c1 => ?_) (fun c1 => ?_)
    · replace hF := ip c1 hF
      refine jj_lv hJ [1, 2, 3, 4, 5] (lv' := [(4, .int v4), (0, .ref (OA 0)), (1, .ref (SA 0)), (2, .ref (LA 0)), (3, .int a3)]) rfl ?_
      exact w_X2_countFewest_97 hJ hk19 v4 O_n hF
    · replace hF := iq c1 hF
      refine jj_aload_n hJ dX2_countFewest_40 3 rfl rfl ?_
      refine jj_aload_n hJ dX2_countFewest_41 4 rfl rfl ?_
      refine jj_iload hJ dX2_countFewest_42 0 rfl ?_
      refine jj_iload_n hJ dX2_countFewest_44 5 rfl rfl ?_
      obtain ⟨r3, h2, hF⟩ := ob hF
      refine jj_callS0 hJ (c_X2_isOnLongest l D cI cS cII SA LA S_k S_f S_t S_w S_l S_b L_G L_l v5 a3 h2) dX2_countFewest_45 kw_62 ⟨Nat.le_of_ble_eq_true rfl, Nat.le_of_ble_eq_true rfl, rfl, rfl⟩ kw_63 kw_64 rfl rfl (Nat.le_of_ble_eq_true rfl) [3, 4, 5, 6, 7, 8, 9, 10, 11, 12, 13, 14, 15, 16, 17, 18, 19] rfl rfl ?_
      refine jj_if_eq hJ 91 dX2_countFewest_48 rfl (fun c4 => ?_) (fun c4 => ?_)
      · replace hF := ip c4 hF
        refine jj_iinc hJ dX2_countFewest_91 0 rfl (v := v5 + 1) (by rw [ic_1]) (Nat.le_of_ble_eq_true rfl) (lv' := [(5, .int (v5 + 1)), (4, .int v4), (0, .ref (OA 0)), (1, .ref (SA 0)), (2, .ref (LA 0)), (3, .int a3)]) rfl ?_
        refine jj_goto hJ 31 dX2_countFewest_94 rfl ?_
        exact ih (v5 + 1) v4 O_n hF
      · replace hF := iq c4 hF
        refine jj_aload_n hJ dX2_countFewest_51 3 rfl rfl ?_
        refine jj_getN hJ lay_X4 dX2_countFewest_52 3 1 rfl rfl (Nat.le_of_ble_eq_true rfl) kw_53 rfl ?_
        refine jj_iload hJ dX2_countFewest_55 0 rfl ?_
        obtain ⟨x5, h6, hF⟩ := ob hF
        refine jj_iald hJ dX2_countFewest_57 5 0 rfl rfl h6 ?_
        refine jj_istore hJ dX2_countFewest_58 (Nat.le_of_ble_eq_true rfl) (lv' := [(6, .int x5), (5, .int v5), (4, .int v4), (0, .ref (OA 0)), (1, .ref (SA 0)), (2, .ref (LA 0)), (3, .int a3)]) rfl ?_
        refine jj_aload_n hJ dX2_countFewest_60 3 rfl rfl ?_
        refine jj_get hJ lay_X2 dX2_countFewest_61 0 1 rfl rfl (Nat.le_of_ble_eq_true rfl) kw_58 rfl ?_
        refine jj_iload hJ dX2_countFewest_64 0 rfl ?_
        refine jj_aload_n hJ dX2_countFewest_66 3 rfl rfl ?_
        refine jj_get hJ lay_X2 dX2_countFewest_67 0 1 rfl rfl (Nat.le_of_ble_eq_true rfl) kw_58 rfl ?_
        refine jj_iload hJ dX2_countFewest_70 0 rfl ?_
        obtain ⟨x7, h8, hF⟩ := ob hF
        refine jj_iald hJ dX2_countFewest_72 2 0 rfl rfl h8 ?_
        refine jj_aload_n hJ dX2_countFewest_73 3 rfl rfl ?_
        refine jj_get hJ lay_X2 dX2_countFewest_74 0 1 rfl rfl (Nat.le_of_ble_eq_true rfl) kw_58 rfl ?_
        refine jj_aload_n hJ dX2_countFewest_77 4 rfl rfl ?_
        refine jj_getN hJ lay_X4 dX2_countFewest_78 3 2 rfl rfl (Nat.le_of_ble_eq_true rfl) kw_54 rfl ?_
        refine jj_iload hJ dX2_countFewest_81 1 rfl ?_
        obtain ⟨x9, h10, hF⟩ := ob hF
        refine jj_iald hJ dX2_countFewest_83 6 0 rfl rfl h10 ?_
        obtain ⟨x11, h12, hF⟩ := ob hF
        refine jj_iald hJ dX2_countFewest_84 2 0 rfl rfl h12 ?_
        refine jj_iconst hJ dX2_countFewest_85 ic_1 ?_
        refine jj_iadd hJ dX2_countFewest_86 ?_
        refine jj_min hJ dX2_countFewest_87 kw_65 kw_66 kw_32 kw_67 (Nat.le_of_ble_eq_true rfl) (Nat.le_of_ble_eq_true rfl) ?_
        obtain ⟨g13, h14, hF⟩ := ob hF
        refine jj_iast hJ dX2_countFewest_90 2 0 rfl rfl h14 (wn := (W_X2_countFewest cI cS cII OA SA LA O_v g13 O_s O_a S_k S_f S_t S_w S_l S_b L_G L_l)) rfl ?_
        refine jj_iinc hJ dX2_countFewest_91 1 rfl (v := v5 + 1) (by rw [ic_1]) (Nat.le_of_ble_eq_true rfl) (lv' := [(5, .int (v5 + 1)), (6, .int x5), (4, .int v4), (0, .ref (OA 0)), (1, .ref (SA 0)), (2, .ref (LA 0)), (3, .int a3)]) rfl ?_
        refine jj_goto hJ 31 dX2_countFewest_94 rfl ?_
        refine jj_lv hJ [0, 2, 3, 4, 5, 6] (lv' := [(5, .int (v5 + 1)), (4, .int v4), (0, .ref (OA 0)), (1, .ref (SA 0)), (2, .ref (LA 0)), (3, .int a3)]) rfl ?_
        exact ih (v5 + 1) v4 g13 hF
def q_X2_countFewest_19 (S_f : Nat → Int32) (S_t : Nat → Int32) (S_w : Nat → Int32) (S_l : Int32) (S_b : Int32) (L_G : Nat → Nat → Int32) (a3 : Int32)  : Nat → Int32 → (Nat → Int32) → Option (Nat → Int32)
  | 0, _, _ => none
  | n + 1, v4, O_n => if S_l ≤ v4 then (some O_n) else (q_X2_countFewest_31 S_f S_t S_w S_l S_b L_G a3 (q_X2_countFewest_19 S_f S_t S_w S_l S_b L_G a3 n) FU 0 v4 O_n)
theorem w_X2_countFewest_19 {O_v : Nat → Int32} {O_s : Int32} {O_a : Int32} {S_k : Nat → Int32} {S_f : Nat → Int32} {S_t : Nat → Int32} {S_w : Nat → Int32} {S_l : Int32} {S_b : Int32} {L_G : Nat → Nat → Int32} {L_l : Int32} {a3 : Int32}  (hJ : jJ l cX2_countFewest 7 D (tysU cI cS cII) RX2 Rm_X2_countFewest none A none (W_X2_countFewest cI cS cII OA SA LA O_v z_O_n O_s O_a S_k S_f S_t S_w S_l S_b L_G L_l) J)  : ∀ (n : Nat) (v4 : Int32) (O_n : Nat → Int32), q_X2_countFewest_19 S_f S_t S_w S_l S_b L_G a3 n v4 O_n = some z_O_n → J (W_X2_countFewest cI cS cII OA SA LA O_v O_n O_s O_a S_k S_f S_t S_w S_l S_b L_G L_l) 19 [(4, .int v4), (0, .ref (OA 0)), (1, .ref (SA 0)), (2, .ref (LA 0)), (3, .int a3)] [] := by
  intro n
  induction n with
  | zero =>
    intro v4 O_n hF
    exact no_some (show (none : Option (Nat → Int32)) = some z_O_n from hF)
  | succ n ih =>
    intro v4 O_n hF
    rw [q_X2_countFewest_19.eq_2] at hF
    refine jj_iload hJ dX2_countFewest_19 0 rfl ?_
    refine jj_aload_n hJ dX2_countFewest_21 2 rfl rfl ?_
    refine jj_getN hJ lay_X4 dX2_countFewest_22 3 4 rfl rfl (Nat.le_of_ble_eq_true rfl) kw_60 rfl ?_
    refine jj_icmp_ge hJ 103 dX2_countFewest_25 rfl (fun c1 => ?_) (fun c1 => ?_)
    · replace hF := ip c1 hF
      cases Option.some.inj hF
      exact jj_vret hJ dX2_countFewest_103
    · replace hF := iq c1 hF
      refine jj_iconst hJ dX2_countFewest_28 ic_0 ?_
      refine jj_istore hJ dX2_countFewest_29 (Nat.le_of_ble_eq_true rfl) (lv' := [(5, .int 0), (4, .int v4), (0, .ref (OA 0)), (1, .ref (SA 0)), (2, .ref (LA 0)), (3, .int a3)]) rfl ?_
      exact w_X2_countFewest_31 hJ (fun v4 O_n => ih v4 O_n) FU 0 v4 O_n hF
def p_X2_countFewest (O_n : Nat → Int32) (S_f : Nat → Int32) (S_t : Nat → Int32) (S_w : Nat → Int32) (S_l : Int32) (S_b : Int32) (L_G : Nat → Nat → Int32) (a3 : Int32) : Option (Nat → Int32) := (p_J7_fill_53178 O_n 10).bind fun g2 => (wr g2 10 a3 0).bind fun g3 => q_X2_countFewest_19 S_f S_t S_w S_l S_b L_G a3 FU 0 g3
end
theorem c_X2_countFewest (l : Launch) (D : va_G) (cI cS cII : ClassId) (OA : Nat → Nat) (SA : Nat → Nat) (LA : Nat → Nat) (O_v : Nat → Int32) (O_n : Nat → Int32) (O_s : Int32) (O_a : Int32) (S_k : Nat → Int32) (S_f : Nat → Int32) (S_t : Nat → Int32) (S_w : Nat → Int32) (S_l : Int32) (S_b : Int32) (L_G : Nat → Nat → Int32) (L_l : Int32) (a3 : Int32) {z_O_n : Nat → Int32} (hF : p_X2_countFewest O_n S_f S_t S_w S_l S_b L_G a3 = some z_O_n) : MJ l yX2_countFewest cX2_countFewest 7 none Rm_X2_countFewest D (tysU cI cS cII) [.ref (OA 0), .ref (SA 0), .ref (LA 0), .int a3] (W_X2_countFewest cI cS cII OA SA LA O_v O_n O_s O_a S_k S_f S_t S_w S_l S_b L_G L_l) none (W_X2_countFewest cI cS cII OA SA LA O_v z_O_n O_s O_a S_k S_f S_t S_w S_l S_b L_G L_l) := by
  refine mj_of (own := RX2) (by decide) rfl (Nat.le_of_ble_eq_true rfl) (fun J hJ => ?_)
  show J (W_X2_countFewest cI cS cII OA SA LA O_v O_n O_s O_a S_k S_f S_t S_w S_l S_b L_G L_l) 0 [(0, .ref (OA 0)), (1, .ref (SA 0)), (2, .ref (LA 0)), (3, .int a3)] []
  unfold p_X2_countFewest at hF
  refine jj_aload_n hJ dX2_countFewest_0 0 rfl rfl ?_
  refine jj_get hJ lay_X2 dX2_countFewest_1 0 1 rfl rfl (Nat.le_of_ble_eq_true rfl) kw_58 rfl ?_
  refine jj_bipush hJ dX2_countFewest_4 bp_10 ?_
  obtain ⟨g2, h1, hF⟩ := ob hF
  refine jj_callS hJ (c_J7_fill_53178 l D cI cS cII (OA 2) O_n 10 h1) dX2_countFewest_6 kw_7 ⟨Nat.le_of_ble_eq_true rfl, Nat.le_of_ble_eq_true rfl, rfl, rfl⟩ kw_59 kw_9 rfl rfl (Nat.le_of_ble_eq_true rfl) [2] rfl rfl (wn := (W_X2_countFewest cI cS cII OA SA LA O_v g2 O_s O_a S_k S_f S_t S_w S_l S_b L_G L_l)) (jNew_sel rfl [none, none, some 0, none, none, none, none, none, none, none, none, none, none, none, none, none, none, none, none, none] (by decide +kernel) rfl) ?_
  refine jj_aload_n hJ dX2_countFewest_9 0 rfl rfl ?_
  refine jj_get hJ lay_X2 dX2_countFewest_10 0 1 rfl rfl (Nat.le_of_ble_eq_true rfl) kw_58 rfl ?_
  refine jj_iload_n hJ dX2_countFewest_13 3 rfl rfl ?_
  refine jj_iconst hJ dX2_countFewest_14 ic_0 ?_
  obtain ⟨g3, h4, hF⟩ := ob hF
  refine jj_iast hJ dX2_countFewest_15 2 0 rfl rfl h4 (wn := (W_X2_countFewest cI cS cII OA SA LA O_v g3 O_s O_a S_k S_f S_t S_w S_l S_b L_G L_l)) rfl ?_
  refine jj_iconst hJ dX2_countFewest_16 ic_0 ?_
  refine jj_istore hJ dX2_countFewest_17 (Nat.le_of_ble_eq_true rfl) (lv' := [(4, .int 0), (0, .ref (OA 0)), (1, .ref (SA 0)), (2, .ref (LA 0)), (3, .int a3)]) rfl ?_
  exact w_X2_countFewest_19 hJ  FU 0 g3 hF
section
def W_X2_nextLevel (cI cS cII : ClassId) (OA : Nat → Nat) (SA : Nat → Nat) (LA : Nat → Nat) (O_v : Nat → Int32) (O_n : Nat → Int32) (O_s : Int32) (O_a : Int32) (S_k : Nat → Int32) (S_f : Nat → Int32) (S_t : Nat → Int32) (S_w : Nat → Int32) (S_l : Int32) (S_b : Int32) (L_G : Nat → Nat → Int32) (L_l : Int32) : va_W := ([((OA 0), .inr (2, [.ref (OA 1), .ref (OA 2), .int O_s, .int O_a])), ((OA 1), .inl (cI, 10, .inl O_v)), ((OA 2), .inl (cI, 10, .inl O_n)), ((SA 0), .inr (4, [.ref (SA 1), .ref (SA 2), .ref (SA 3), .ref (SA 4), .int S_l, .int S_b])), ((SA 1), .inl (cI, 10, .inl S_k)), ((SA 2), .inl (cI, 16, .inl S_f)), ((SA 3), .inl (cI, 16, .inl S_t)), ((SA 4), .inl (cI, 16, .inl S_w)), ((LA 0), .inr (1, [.ref (LA 1), .int L_l])), ((LA 1), .inl (cII, 10, .inr (.inr (.inr (.inr (fun i => some (LA (i + 2))))))))] ++ rw10 cI (fun i => LA (i + 2)) L_G)
abbrev Rm_X2_nextLevel : Room := { frames := 1, cells := 0, slots := 0, locals := 26 }
variable {l : Launch} {D : va_G} {cI cS cII : ClassId} {OA : Nat → Nat} {SA : Nat → Nat} {LA : Nat → Nat} {A : Nat → Prop} {J : jT}
variable {z_r : Int32}
def q_X2_nextLevel_7 (O_n : Nat → Int32) (S_f : Nat → Int32) (S_t : Nat → Int32) (S_w : Nat → Int32) (S_b : Int32) (L_G : Nat → Nat → Int32) (a3 : Int32) (a4 : Int32)  : Nat → Int32 → Int32 → Option (Int32)
  | 0, _, _ => none
  | n + 1, v6, v5 => if S_b ≤ v6 then (some v5) else ((rd S_t 16 v6).bind fun x2 => (rd S_f 16 v6).bind fun x4 => if x4 = a3 then ((rd O_n 10 x2).bind fun x7 => (rd O_n 10 a3).bind fun x9 => if x7 = (x9 - 1) then ((p_X2_isOnLongest S_f S_t S_w L_G v6 a4).bind fun r13 => if r13 = 0 then (q_X2_nextLevel_7 O_n S_f S_t S_w S_b L_G a3 a4 n (v6 + 1) v5) else (if v5 = ((-4)) then (q_X2_nextLevel_7 O_n S_f S_t S_w S_b L_G a3 a4 n (v6 + 1) x2) else (if v5 ≤ x2 then (q_X2_nextLevel_7 O_n S_f S_t S_w S_b L_G a3 a4 n (v6 + 1) v5) else (q_X2_nextLevel_7 O_n S_f S_t S_w S_b L_G a3 a4 n (v6 + 1) x2)))) else (q_X2_nextLevel_7 O_n S_f S_t S_w S_b L_G a3 a4 n (v6 + 1) v5)) else (q_X2_nextLevel_7 O_n S_f S_t S_w S_b L_G a3 a4 n (v6 + 1) v5))
theorem w_X2_nextLevel_7 {O_v : Nat → Int32} {O_n : Nat → Int32} {O_s : Int32} {O_a : Int32} {S_k : Nat → Int32} {S_f : Nat → Int32} {S_t : Nat → Int32} {S_w : Nat → Int32} {S_l : Int32} {S_b : Int32} {L_G : Nat → Nat → Int32} {L_l : Int32} {a3 : Int32} {a4 : Int32}  (hJ : jJ l cX2_nextLevel 8 D (tysU cI cS cII) RX2 Rm_X2_nextLevel (some .int) A (some z_r) (W_X2_nextLevel cI cS cII OA SA LA O_v O_n O_s O_a S_k S_f S_t S_w S_l S_b L_G L_l) J)  : ∀ (n : Nat) (v6 : Int32) (v5 : Int32), q_X2_nextLevel_7 O_n S_f S_t S_w S_b L_G a3 a4 n v6 v5 = some z_r → J (W_X2_nextLevel cI cS cII OA SA LA O_v O_n O_s O_a S_k S_f S_t S_w S_l S_b L_G L_l) 7 [(6, .int v6), (5, .int v5), (0, .ref (OA 0)), (1, .ref (SA 0)), (2, .ref (LA 0)), (3, .int a3), (4, .int a4)] [] := by
  intro n
  induction n with
  | zero =>
    intro v6 v5 hF
    exact no_some (show (none : Option (Int32)) = some z_r from hF)
  | succ n ih =>
    intro v6 v5 hF
    rw [q_X2_nextLevel_7.eq_2] at hF
    refine jj_iload hJ dX2_nextLevel_7 0 rfl ?_
    refine jj_aload_n hJ dX2_nextLevel_9 3 rfl rfl ?_
    refine jj_getN hJ lay_X4 dX2_nextLevel_10 3 5 rfl rfl (Nat.le_of_ble_eq_true rfl) kw_61 rfl ?_
    refine jj_icmp_ge hJ 90 dX2_nextLevel_13 rfl (fun c1 => ?_) (fun c1 => ?_)
    · replace hF := ip c1 hF
      refine jj_iload hJ dX2_nextLevel_90 1 rfl ?_
      cases Option.some.inj hF
      exact jj_iret hJ dX2_nextLevel_92
    · replace hF := iq c1 hF
      refine jj_aload_n hJ dX2_nextLevel_16 3 rfl rfl ?_
      refine jj_getN hJ lay_X4 dX2_nextLevel_17 3 2 rfl rfl (Nat.le_of_ble_eq_true rfl) kw_54 rfl ?_
      refine jj_iload hJ dX2_nextLevel_20 0 rfl ?_
      obtain ⟨x2, h3, hF⟩ := ob hF
      refine jj_iald hJ dX2_nextLevel_22 6 0 rfl rfl h3 ?_
      refine jj_istore hJ dX2_nextLevel_23 (Nat.le_of_ble_eq_true rfl) (lv' := [(7, .int x2), (6, .int v6), (5, .int v5), (0, .ref (OA 0)), (1, .ref (SA 0)), (2, .ref (LA 0)), (3, .int a3), (4, .int a4)]) rfl ?_
      refine jj_aload_n hJ dX2_nextLevel_25 4 rfl rfl ?_
      refine jj_getN hJ lay_X4 dX2_nextLevel_26 3 1 rfl rfl (Nat.le_of_ble_eq_true rfl) kw_53 rfl ?_
      refine jj_iload hJ dX2_nextLevel_29 1 rfl ?_
      obtain ⟨x4, h5, hF⟩ := ob hF
      refine jj_iald hJ dX2_nextLevel_31 5 0 rfl rfl h5 ?_
      refine jj_iload_n hJ dX2_nextLevel_32 6 rfl rfl ?_
      refine jj_icmp_ne hJ 84 dX2_nextLevel_33 rfl (fun c6 => ?_) (fun c6 => ?_)
      · replace hF := iq c6 hF
        refine jj_iinc hJ dX2_nextLevel_84 1 rfl (v := v6 + 1) (by rw [ic_1]) (Nat.le_of_ble_eq_true rfl) (lv' := [(6, .int (v6 + 1)), (7, .int x2), (5, .int v5), (0, .ref (OA 0)), (1, .ref (SA 0)), (2, .ref (LA 0)), (3, .int a3), (4, .int a4)]) rfl ?_
        refine jj_goto hJ 7 dX2_nextLevel_87 rfl ?_
        refine jj_lv hJ [0, 2, 3, 4, 5, 6, 7] (lv' := [(6, .int (v6 + 1)), (5, .int v5), (0, .ref (OA 0)), (1, .ref (SA 0)), (2, .ref (LA 0)), (3, .int a3), (4, .int a4)]) rfl ?_
        exact ih (v6 + 1) v5 hF
      · replace hF := ip c6 hF
        refine jj_aload_n hJ dX2_nextLevel_36 3 rfl rfl ?_
        refine jj_get hJ lay_X2 dX2_nextLevel_37 0 1 rfl rfl (Nat.le_of_ble_eq_true rfl) kw_58 rfl ?_
        refine jj_iload hJ dX2_nextLevel_40 0 rfl ?_
        obtain ⟨x7, h8, hF⟩ := ob hF
        refine jj_iald hJ dX2_nextLevel_42 2 0 rfl rfl h8 ?_
        refine jj_aload_n hJ dX2_nextLevel_43 3 rfl rfl ?_
        refine jj_get hJ lay_X2 dX2_nextLevel_44 0 1 rfl rfl (Nat.le_of_ble_eq_true rfl) kw_58 rfl ?_
        refine jj_iload_n hJ dX2_nextLevel_47 6 rfl rfl ?_
        obtain ⟨x9, h10, hF⟩ := ob hF
        refine jj_iald hJ dX2_nextLevel_48 2 0 rfl rfl h10 ?_
        refine jj_iconst hJ dX2_nextLevel_49 ic_1 ?_
        refine jj_isub hJ dX2_nextLevel_50 ?_
        refine jj_icmp_ne hJ 84 dX2_nextLevel_51 rfl (fun c11 => ?_) (fun c11 => ?_)
        · replace hF := iq c11 hF
          refine jj_iinc hJ dX2_nextLevel_84 1 rfl (v := v6 + 1) (by rw [ic_1]) (Nat.le_of_ble_eq_true rfl) (lv' := [(6, .int (v6 + 1)), (7, .int x2), (5, .int v5), (0, .ref (OA 0)), (1, .ref (SA 0)), (2, .ref (LA 0)), (3, .int a3), (4, .int a4)]) rfl ?_
          refine jj_goto hJ 7 dX2_nextLevel_87 rfl ?_
          refine jj_lv hJ [0, 2, 3, 4, 5, 6, 7] (lv' := [(6, .int (v6 + 1)), (5, .int v5), (0, .ref (OA 0)), (1, .ref (SA 0)), (2, .ref (LA 0)), (3, .int a3), (4, .int a4)]) rfl ?_
          exact ih (v6 + 1) v5 hF
        · replace hF := ip c11 hF
          refine jj_aload_n hJ dX2_nextLevel_54 4 rfl rfl ?_
          refine jj_aload_n hJ dX2_nextLevel_55 5 rfl rfl ?_
          refine jj_iload hJ dX2_nextLevel_56 1 rfl ?_
          refine jj_iload hJ dX2_nextLevel_58 7 rfl ?_
          obtain ⟨r13, h12, hF⟩ := ob hF
          refine jj_callS0 hJ (c_X2_isOnLongest l D cI cS cII SA LA S_k S_f S_t S_w S_l S_b L_G L_l v6 a4 h12) dX2_nextLevel_60 kw_62 ⟨Nat.le_of_ble_eq_true rfl, Nat.le_of_ble_eq_true rfl, rfl, rfl⟩ kw_63 kw_64 rfl rfl (Nat.le_of_ble_eq_true rfl) [3, 4, 5, 6, 7, 8, 9, 10, 11, 12, 13, 14, 15, 16, 17, 18, 19] rfl rfl ?_
          refine jj_if_eq hJ 84 dX2_nextLevel_63 rfl (fun c14 => ?_) (fun c14 => ?_)
          · replace hF := ip c14 hF
            refine jj_iinc hJ dX2_nextLevel_84 1 rfl (v := v6 + 1) (by rw [ic_1]) (Nat.le_of_ble_eq_true rfl) (lv' := [(6, .int (v6 + 1)), (7, .int x2), (5, .int v5), (0, .ref (OA 0)), (1, .ref (SA 0)), (2, .ref (LA 0)), (3, .int a3), (4, .int a4)]) rfl ?_
            refine jj_goto hJ 7 dX2_nextLevel_87 rfl ?_
            refine jj_lv hJ [0, 2, 3, 4, 5, 6, 7] (lv' := [(6, .int (v6 + 1)), (5, .int v5), (0, .ref (OA 0)), (1, .ref (SA 0)), (2, .ref (LA 0)), (3, .int a3), (4, .int a4)]) rfl ?_
            exact ih (v6 + 1) v5 hF
          · replace hF := iq c14 hF
            refine jj_iload hJ dX2_nextLevel_66 2 rfl ?_
            refine jj_bipush hJ dX2_nextLevel_68 bp_m4 ?_
            refine jj_icmp_eq hJ 80 dX2_nextLevel_70 rfl (fun c15 => ?_) (fun c15 => ?_)
            · replace hF := ip c15 hF
              refine jj_iload hJ dX2_nextLevel_80 0 rfl ?_
              refine jj_istore hJ dX2_nextLevel_82 (Nat.le_of_ble_eq_true rfl) (lv' := [(5, .int x2), (7, .int x2), (6, .int v6), (0, .ref (OA 0)), (1, .ref (SA 0)), (2, .ref (LA 0)), (3, .int a3), (4, .int a4)]) rfl ?_
              refine jj_iinc hJ dX2_nextLevel_84 2 rfl (v := v6 + 1) (by rw [ic_1]) (Nat.le_of_ble_eq_true rfl) (lv' := [(6, .int (v6 + 1)), (5, .int x2), (7, .int x2), (0, .ref (OA 0)), (1, .ref (SA 0)), (2, .ref (LA 0)), (3, .int a3), (4, .int a4)]) rfl ?_
              refine jj_goto hJ 7 dX2_nextLevel_87 rfl ?_
              refine jj_lv hJ [0, 1, 3, 4, 5, 6, 7] (lv' := [(6, .int (v6 + 1)), (5, .int x2), (0, .ref (OA 0)), (1, .ref (SA 0)), (2, .ref (LA 0)), (3, .int a3), (4, .int a4)]) rfl ?_
              exact ih (v6 + 1) x2 hF
            · replace hF := iq c15 hF
              refine jj_iload hJ dX2_nextLevel_73 0 rfl ?_
              refine jj_iload hJ dX2_nextLevel_75 2 rfl ?_
              refine jj_icmp_ge hJ 84 dX2_nextLevel_77 rfl (fun c16 => ?_) (fun c16 => ?_)
              · replace hF := ip c16 hF
                refine jj_iinc hJ dX2_nextLevel_84 1 rfl (v := v6 + 1) (by rw [ic_1]) (Nat.le_of_ble_eq_true rfl) (lv' := [(6, .int (v6 + 1)), (7, .int x2), (5, .int v5), (0, .ref (OA 0)), (1, .ref (SA 0)), (2, .ref (LA 0)), (3, .int a3), (4, .int a4)]) rfl ?_
                refine jj_goto hJ 7 dX2_nextLevel_87 rfl ?_
                refine jj_lv hJ [0, 2, 3, 4, 5, 6, 7] (lv' := [(6, .int (v6 + 1)), (5, .int v5), (0, .ref (OA 0)), (1, .ref (SA 0)), (2, .ref (LA 0)), (3, .int a3), (4, .int a4)]) rfl ?_
                exact ih (v6 + 1) v5 hF
              · replace hF := iq c16 hF
                refine jj_iload hJ dX2_nextLevel_80 0 rfl ?_
                refine jj_istore hJ dX2_nextLevel_82 (Nat.le_of_ble_eq_true rfl) (lv' := [(5, .int x2), (7, .int x2), (6, .int v6), (0, .ref (OA 0)), (1, .ref (SA 0)), (2, .ref (LA 0)), (3, .int a3), (4, .int a4)]) rfl ?_
                refine jj_iinc hJ dX2_nextLevel_84 2 rfl (v := v6 + 1) (by rw [ic_1]) (Nat.le_of_ble_eq_true rfl) (lv' := [(6, .int (v6 + 1)), (5, .int x2), (7, .int x2), (0, .ref (OA 0)), (1, .ref (SA 0)), (2, .ref (LA 0)), (3, .int a3), (4, .int a4)]) rfl ?_
                refine jj_goto hJ 7 dX2_nextLevel_87 rfl ?_
                refine jj_lv hJ [0, 1, 3, 4, 5, 6, 7] (lv' := [(6, .int (v6 + 1)), (5, .int x2), (0, .ref (OA 0)), (1, .ref (SA 0)), (2, .ref (LA 0)), (3, .int a3), (4, .int a4)]) rfl ?_
                exact ih (v6 + 1) x2 hF
def p_X2_nextLevel (O_n : Nat → Int32) (S_f : Nat → Int32) (S_t : Nat → Int32) (S_w : Nat → Int32) (S_b : Int32) (L_G : Nat → Nat → Int32) (a3 : Int32) (a4 : Int32) : Option (Int32) := q_X2_nextLevel_7 O_n S_f S_t S_w S_b L_G a3 a4 FU 0 ((-4))
end
theorem c_X2_nextLevel (l : Launch) (D : va_G) (cI cS cII : ClassId) (OA : Nat → Nat) (SA : Nat → Nat) (LA : Nat → Nat) (O_v : Nat → Int32) (O_n : Nat → Int32) (O_s : Int32) (O_a : Int32) (S_k : Nat → Int32) (S_f : Nat → Int32) (S_t : Nat → Int32) (S_w : Nat → Int32) (S_l : Int32) (S_b : Int32) (L_G : Nat → Nat → Int32) (L_l : Int32) (a3 : Int32) (a4 : Int32) {z_r : Int32} (hF : p_X2_nextLevel O_n S_f S_t S_w S_b L_G a3 a4 = some z_r) : MJ l yX2_nextLevel cX2_nextLevel 8 (some .int) Rm_X2_nextLevel D (tysU cI cS cII) [.ref (OA 0), .ref (SA 0), .ref (LA 0), .int a3, .int a4] (W_X2_nextLevel cI cS cII OA SA LA O_v O_n O_s O_a S_k S_f S_t S_w S_l S_b L_G L_l) (some z_r) (W_X2_nextLevel cI cS cII OA SA LA O_v O_n O_s O_a S_k S_f S_t S_w S_l S_b L_G L_l) := by
  refine mj_of (own := RX2) (by decide) rfl (Nat.le_of_ble_eq_true rfl) (fun J hJ => ?_)
  show J (W_X2_nextLevel cI cS cII OA SA LA O_v O_n O_s O_a S_k S_f S_t S_w S_l S_b L_G L_l) 0 [(0, .ref (OA 0)), (1, .ref (SA 0)), (2, .ref (LA 0)), (3, .int a3), (4, .int a4)] []
  unfold p_X2_nextLevel at hF
  refine jj_bipush hJ dX2_nextLevel_0 bp_m4 ?_
  refine jj_istore hJ dX2_nextLevel_2 (Nat.le_of_ble_eq_true rfl) (lv' := [(5, .int ((-4))), (0, .ref (OA 0)), (1, .ref (SA 0)), (2, .ref (LA 0)), (3, .int a3), (4, .int a4)]) rfl ?_
  refine jj_iconst hJ dX2_nextLevel_4 ic_0 ?_
  refine jj_istore hJ dX2_nextLevel_5 (Nat.le_of_ble_eq_true rfl) (lv' := [(6, .int 0), (5, .int ((-4))), (0, .ref (OA 0)), (1, .ref (SA 0)), (2, .ref (LA 0)), (3, .int a3), (4, .int a4)]) rfl ?_
  exact w_X2_nextLevel_7 hJ  FU 0 ((-4)) hF
section
def W_X2_trace (cI cS cII : ClassId) (OA : Nat → Nat) (SA : Nat → Nat) (LA : Nat → Nat) (O_v : Nat → Int32) (O_n : Nat → Int32) (O_s : Int32) (O_a : Int32) (S_k : Nat → Int32) (S_f : Nat → Int32) (S_t : Nat → Int32) (S_w : Nat → Int32) (S_l : Int32) (S_b : Int32) (L_G : Nat → Nat → Int32) (L_l : Int32) : va_W := ([((OA 0), .inr (2, [.ref (OA 1), .ref (OA 2), .int O_s, .int O_a])), ((OA 1), .inl (cI, 10, .inl O_v)), ((OA 2), .inl (cI, 10, .inl O_n)), ((SA 0), .inr (4, [.ref (SA 1), .ref (SA 2), .ref (SA 3), .ref (SA 4), .int S_l, .int S_b])), ((SA 1), .inl (cI, 10, .inl S_k)), ((SA 2), .inl (cI, 16, .inl S_f)), ((SA 3), .inl (cI, 16, .inl S_t)), ((SA 4), .inl (cI, 16, .inl S_w)), ((LA 0), .inr (1, [.ref (LA 1), .int L_l])), ((LA 1), .inl (cII, 10, .inr (.inr (.inr (.inr (fun i => some (LA (i + 2))))))))] ++ rw10 cI (fun i => LA (i + 2)) L_G)
abbrev Rm_X2_trace : Room := { frames := 2, cells := 0, slots := 0, locals := 53 }
variable {l : Launch} {D : va_G} {cI cS cII : ClassId} {OA : Nat → Nat} {SA : Nat → Nat} {LA : Nat → Nat} {A : Nat → Prop} {J : jT}
variable {z_O_v : Nat → Int32} {z_O_n : Nat → Int32} {z_O_s : Int32}
def q_X2_trace_19 (S_f : Nat → Int32) (S_t : Nat → Int32) (S_w : Nat → Int32) (S_l : Int32) (S_b : Int32) (L_G : Nat → Nat → Int32) (a3 : Int32) (a4 : Int32)  : Nat → Int32 → Int32 → (Nat → Int32) → (Nat → Int32) → Int32 → Option ((Nat → Int32) × (Nat → Int32) × Int32)
  | 0, _, _, _, _, _ => none
  | n + 1, v6, v5, O_v, O_n, O_s => if 10 ≤ v6 then (some (O_v, O_n, O_s)) else (if v5 < 0 then (some (O_v, O_n, O_s)) else ((wr O_v 10 O_s v5).bind fun g3 => if v5 = a4 then (q_X2_trace_19 S_f S_t S_w S_l S_b L_G a3 a4 n (v6 + 1) ((-4)) g3 O_n (O_s + 1)) else ((p_X2_nextLevel O_n S_f S_t S_w S_b L_G v5 a4).bind fun r7 => q_X2_trace_19 S_f S_t S_w S_l S_b L_G a3 a4 n (v6 + 1) r7 g3 O_n (O_s + 1))))
theorem w_X2_trace_19 {O_a : Int32} {S_k : Nat → Int32} {S_f : Nat → Int32} {S_t : Nat → Int32} {S_w : Nat → Int32} {S_l : Int32} {S_b : Int32} {L_G : Nat → Nat → Int32} {L_l : Int32} {a3 : Int32} {a4 : Int32}  (hJ : jJ l cX2_trace 7 D (tysU cI cS cII) RX2 Rm_X2_trace none A none (W_X2_trace cI cS cII OA SA LA z_O_v z_O_n z_O_s O_a S_k S_f S_t S_w S_l S_b L_G L_l) J)  : ∀ (n : Nat) (v6 : Int32) (v5 : Int32) (O_v : Nat → Int32) (O_n : Nat → Int32) (O_s : Int32), q_X2_trace_19 S_f S_t S_w S_l S_b L_G a3 a4 n v6 v5 O_v O_n O_s = some (z_O_v, z_O_n, z_O_s) → J (W_X2_trace cI cS cII OA SA LA O_v O_n O_s O_a S_k S_f S_t S_w S_l S_b L_G L_l) 19 [(6, .int v6), (5, .int v5), (0, .ref (OA 0)), (1, .ref (SA 0)), (2, .ref (LA 0)), (4, .int a4)] [] := by
  intro n
  induction n with
  | zero =>
    intro v6 v5 O_v O_n O_s hF
    exact no_some (show (none : Option ((Nat → Int32) × (Nat → Int32) × Int32)) = some (z_O_v, z_O_n, z_O_s) from hF)
  | succ n ih =>
    intro v6 v5 O_v O_n O_s hF
    rw [q_X2_trace_19.eq_2] at hF
    refine jj_iload hJ dX2_trace_19 0 rfl ?_
    refine jj_bipush hJ dX2_trace_21 bp_10 ?_
    refine jj_icmp_ge hJ 82 dX2_trace_23 rfl (fun c1 => ?_) (fun c1 => ?_)
    · replace hF := ip c1 hF
      cases Option.some.inj hF
      exact jj_vret hJ dX2_trace_82
    · replace hF := iq c1 hF
      refine jj_iload hJ dX2_trace_26 1 rfl ?_
      refine jj_if_lt hJ 82 dX2_trace_28 rfl (fun c2 => ?_) (fun c2 => ?_)
      · replace hF := ip c2 hF
        cases Option.some.inj hF
        exact jj_vret hJ dX2_trace_82
      · replace hF := iq c2 hF
        refine jj_aload_n hJ dX2_trace_31 2 rfl rfl ?_
        refine jj_get hJ lay_X2 dX2_trace_32 0 0 rfl rfl (Nat.le_of_ble_eq_true rfl) kw_73 rfl ?_
        refine jj_aload_n hJ dX2_trace_35 2 rfl rfl ?_
        refine jj_get hJ lay_X2 dX2_trace_36 0 2 rfl rfl (Nat.le_of_ble_eq_true rfl) kw_72 rfl ?_
        refine jj_iload hJ dX2_trace_39 1 rfl ?_
        obtain ⟨g3, h4, hF⟩ := ob hF
        refine jj_iast hJ dX2_trace_41 1 0 rfl rfl h4 (wn := (W_X2_trace cI cS cII OA SA LA g3 O_n O_s O_a S_k S_f S_t S_w S_l S_b L_G L_l)) rfl ?_
        refine jj_aload_n hJ dX2_trace_42 2 rfl rfl ?_
        refine jj_dup hJ dX2_trace_43 rfl ?_
        refine jj_get hJ lay_X2 dX2_trace_44 0 2 rfl rfl (Nat.le_of_ble_eq_true rfl) kw_72 rfl ?_
        refine jj_iconst hJ dX2_trace_47 ic_1 ?_
        refine jj_iadd hJ dX2_trace_48 ?_
        refine jj_puti hJ lay_X2 tyX2 tyX2_ok nmX2 dX2_trace_49 0 2 rfl rfl (Nat.le_of_ble_eq_true rfl) kw_72 rfl rfl (Nat.le_of_ble_eq_true rfl) (wn := (W_X2_trace cI cS cII OA SA LA g3 O_n (O_s + 1) O_a S_k S_f S_t S_w S_l S_b L_G L_l)) rfl ?_
        refine jj_iload hJ dX2_trace_52 1 rfl ?_
        refine jj_iload hJ dX2_trace_54 5 rfl ?_
        refine jj_icmp_ne hJ 64 dX2_trace_56 rfl (fun c5 => ?_) (fun c5 => ?_)
        · replace hF := iq c5 hF
          refine jj_aload_n hJ dX2_trace_64 2 rfl rfl ?_
          refine jj_aload_n hJ dX2_trace_65 3 rfl rfl ?_
          refine jj_aload_n hJ dX2_trace_66 4 rfl rfl ?_
          refine jj_iload hJ dX2_trace_67 1 rfl ?_
          refine jj_iload hJ dX2_trace_69 5 rfl ?_
          obtain ⟨r7, h6, hF⟩ := ob hF
          refine jj_callV0 hJ (c_X2_nextLevel l D cI cS cII OA SA LA g3 O_n (O_s + 1) O_a S_k S_f S_t S_w S_l S_b L_G L_l v5 a4 h6) dX2_trace_71 kw_75 ⟨Nat.le_of_ble_eq_true rfl, Nat.le_of_ble_eq_true rfl, rfl, rfl⟩ kw_74 kw_76 kw_77 0 rfl rfl rfl rfl (Nat.le_of_ble_eq_true rfl) [0, 1, 2, 3, 4, 5, 6, 7, 8, 9, 10, 11, 12, 13, 14, 15, 16, 17, 18, 19] rfl rfl ?_
          refine jj_istore hJ dX2_trace_74 (Nat.le_of_ble_eq_true rfl) (lv' := [(5, .int r7), (6, .int v6), (0, .ref (OA 0)), (1, .ref (SA 0)), (2, .ref (LA 0)), (4, .int a4)]) rfl ?_
          refine jj_iinc hJ dX2_trace_76 1 rfl (v := v6 + 1) (by rw [ic_1]) (Nat.le_of_ble_eq_true rfl) (lv' := [(6, .int (v6 + 1)), (5, .int r7), (0, .ref (OA 0)), (1, .ref (SA 0)), (2, .ref (LA 0)), (4, .int a4)]) rfl ?_
          refine jj_goto hJ 19 dX2_trace_79 rfl ?_
          exact ih (v6 + 1) r7 g3 O_n (O_s + 1) hF
        · replace hF := ip c5 hF
          refine jj_bipush hJ dX2_trace_59 bp_m4 ?_
          refine jj_goto hJ 74 dX2_trace_61 rfl ?_
          refine jj_istore hJ dX2_trace_74 (Nat.le_of_ble_eq_true rfl) (lv' := [(5, .int ((-4))), (6, .int v6), (0, .ref (OA 0)), (1, .ref (SA 0)), (2, .ref (LA 0)), (4, .int a4)]) rfl ?_
          refine jj_iinc hJ dX2_trace_76 1 rfl (v := v6 + 1) (by rw [ic_1]) (Nat.le_of_ble_eq_true rfl) (lv' := [(6, .int (v6 + 1)), (5, .int ((-4))), (0, .ref (OA 0)), (1, .ref (SA 0)), (2, .ref (LA 0)), (4, .int a4)]) rfl ?_
          refine jj_goto hJ 19 dX2_trace_79 rfl ?_
          exact ih (v6 + 1) ((-4)) g3 O_n (O_s + 1) hF
def p_X2_trace (O_v : Nat → Int32) (O_n : Nat → Int32) (O_s : Int32) (S_f : Nat → Int32) (S_t : Nat → Int32) (S_w : Nat → Int32) (S_l : Int32) (S_b : Int32) (L_G : Nat → Nat → Int32) (a3 : Int32) (a4 : Int32) : Option ((Nat → Int32) × (Nat → Int32) × Int32) := (p_X2_countFewest O_n S_f S_t S_w S_l S_b L_G a4).bind fun g2 => q_X2_trace_19 S_f S_t S_w S_l S_b L_G a3 a4 FU 0 a3 O_v g2 0
end
theorem c_X2_trace (l : Launch) (D : va_G) (cI cS cII : ClassId) (OA : Nat → Nat) (SA : Nat → Nat) (LA : Nat → Nat) (O_v : Nat → Int32) (O_n : Nat → Int32) (O_s : Int32) (O_a : Int32) (S_k : Nat → Int32) (S_f : Nat → Int32) (S_t : Nat → Int32) (S_w : Nat → Int32) (S_l : Int32) (S_b : Int32) (L_G : Nat → Nat → Int32) (L_l : Int32) (a3 : Int32) (a4 : Int32) {z_O_v : Nat → Int32} {z_O_n : Nat → Int32} {z_O_s : Int32} (hF : p_X2_trace O_v O_n O_s S_f S_t S_w S_l S_b L_G a3 a4 = some (z_O_v, z_O_n, z_O_s)) : MJ l yX2_trace cX2_trace 7 none Rm_X2_trace D (tysU cI cS cII) [.ref (OA 0), .ref (SA 0), .ref (LA 0), .int a3, .int a4] (W_X2_trace cI cS cII OA SA LA O_v O_n O_s O_a S_k S_f S_t S_w S_l S_b L_G L_l) none (W_X2_trace cI cS cII OA SA LA z_O_v z_O_n z_O_s O_a S_k S_f S_t S_w S_l S_b L_G L_l) := by
  refine mj_of (own := RX2) (by decide) rfl (Nat.le_of_ble_eq_true rfl) (fun J hJ => ?_)
  show J (W_X2_trace cI cS cII OA SA LA O_v O_n O_s O_a S_k S_f S_t S_w S_l S_b L_G L_l) 0 [(0, .ref (OA 0)), (1, .ref (SA 0)), (2, .ref (LA 0)), (3, .int a3), (4, .int a4)] []
  unfold p_X2_trace at hF
  refine jj_aload_n hJ dX2_trace_0 0 rfl rfl ?_
  refine jj_aload_n hJ dX2_trace_1 1 rfl rfl ?_
  refine jj_aload_n hJ dX2_trace_2 2 rfl rfl ?_
  refine jj_iload hJ dX2_trace_3 4 rfl ?_
  obtain ⟨g2, h1, hF⟩ := ob hF
  refine jj_callV hJ (c_X2_countFewest l D cI cS cII OA SA LA O_v O_n O_s O_a S_k S_f S_t S_w S_l S_b L_G L_l a4 h1) dX2_trace_5 kw_69 ⟨Nat.le_of_ble_eq_true rfl, Nat.le_of_ble_eq_true rfl, rfl, rfl⟩ kw_68 kw_70 kw_71 0 rfl rfl rfl rfl (Nat.le_of_ble_eq_true rfl) [0, 1, 2, 3, 4, 5, 6, 7, 8, 9, 10, 11, 12, 13, 14, 15, 16, 17, 18, 19] rfl rfl (wn := (W_X2_trace cI cS cII OA SA LA O_v g2 O_s O_a S_k S_f S_t S_w S_l S_b L_G L_l)) (jNew_sel rfl [some 0, some 1, some 2, some 3, some 4, some 5, some 6, some 7, some 8, some 9, some 10, some 11, some 12, some 13, some 14, some 15, some 16, some 17, some 18, some 19] (by decide +kernel) rfl) ?_
  refine jj_aload_n hJ dX2_trace_8 0 rfl rfl ?_
  refine jj_iconst hJ dX2_trace_9 ic_0 ?_
  refine jj_puti hJ lay_X2 tyX2 tyX2_ok nmX2 dX2_trace_10 0 2 rfl rfl (Nat.le_of_ble_eq_true rfl) kw_72 rfl rfl (Nat.le_of_ble_eq_true rfl) (wn := (W_X2_trace cI cS cII OA SA LA O_v g2 0 O_a S_k S_f S_t S_w S_l S_b L_G L_l)) rfl ?_
  refine jj_iload_n hJ dX2_trace_13 3 rfl rfl ?_
  refine jj_istore hJ dX2_trace_14 (Nat.le_of_ble_eq_true rfl) (lv' := [(5, .int a3), (0, .ref (OA 0)), (1, .ref (SA 0)), (2, .ref (LA 0)), (3, .int a3), (4, .int a4)]) rfl ?_
  refine jj_iconst hJ dX2_trace_16 ic_0 ?_
  refine jj_istore hJ dX2_trace_17 (Nat.le_of_ble_eq_true rfl) (lv' := [(6, .int 0), (5, .int a3), (0, .ref (OA 0)), (1, .ref (SA 0)), (2, .ref (LA 0)), (3, .int a3), (4, .int a4)]) rfl ?_
  refine jj_lv hJ [0, 1, 2, 3, 4, 6] (lv' := [(6, .int 0), (5, .int a3), (0, .ref (OA 0)), (1, .ref (SA 0)), (2, .ref (LA 0)), (4, .int a4)]) rfl ?_
  exact w_X2_trace_19 hJ  FU 0 a3 O_v g2 0 hF
end
section
theorem kw_78 : Cond.fieldLink RX5 18 (TX5 2).1 (TX5 2).2.1 (TX5 2).2.2.1 ∈ lw_tbl := tb1 (i := 34) rfl
theorem sp_200 : (Int16.ofInt (200)).toInt32 = (200 : Int32) := by decide
theorem kw_79 : Cond.fieldLink RX5 9 (TX5 0).1 (TX5 0).2.1 (TX5 0).2.2.1 ∈ lw_tbl := tb1 (i := 30) rfl
theorem bp_48 : (Int8.ofInt (48)).toInt32 = (48 : Int32) := by decide
theorem bp_57 : (Int8.ofInt (57)).toInt32 = (57 : Int32) := by decide
theorem kw_80 : Cond.methodLink RX5 26 yX5_letterAt ∈ lw_tbl := tb1 (i := 227) rfl
theorem kw_81 : cwOk yX5_letterAt cX5_letterAt 2 (some .int) 1 := ⟨tb1 (i := 222) rfl, tb1 (i := 2) rfl, by decide, by decide, by decide +kernel⟩
theorem kw_82 : Cond.instanceMethod yX5_letterAt ∈ lw_tbl := tb1 (i := 221) rfl
theorem kw_83 : Cond.selects RX5 yX5_letterAt yX5_letterAt ∈ lw_tbl := tsel (i := 2) (q := (⟨"UniverseLevels$Text", "letterAt", "(I)I"⟩, 3)) rfl
theorem kw_84 : cwOk yX5_isFigure cX5_isFigure 1 (some .boolean) 1 := ⟨tb1 (i := 237) rfl, tb1 (i := 2) rfl, by decide, by decide, by decide +kernel⟩
theorem kw_85 : Cond.methodLink RX5 43 yX5_isFigure ∈ lw_tbl := tb1 (i := 235) rfl
theorem kw_86 : Cond.static yX5_isFigure ∈ lw_tbl := tb1 (i := 236) rfl
theorem ic_2 : Int32.ofInt (2) = (2 : Int32) := by decide
theorem kw_87 : cwOk yX5_numbersBehind cX5_numbersBehind 1 (some .int) 1 := ⟨tb1 (i := 230) rfl, tb1 (i := 2) rfl, by decide, by decide, by decide +kernel⟩
theorem kw_88 : Cond.methodLink RX5 33 yX5_numbersBehind ∈ lw_tbl := tb1 (i := 228) rfl
theorem kw_89 : Cond.static yX5_numbersBehind ∈ lw_tbl := tb1 (i := 229) rfl
theorem kw_90 : Cond.methodLink RX5 36 yX5_figuresAt ∈ lw_tbl := tb1 (i := 231) rfl
theorem kw_91 : cwOk yX5_figuresAt cX5_figuresAt 2 (some .int) 1 := ⟨tb1 (i := 234) rfl, tb1 (i := 2) rfl, by decide, by decide, by decide +kernel⟩
theorem kw_92 : Cond.instanceMethod yX5_figuresAt ∈ lw_tbl := tb1 (i := 233) rfl
theorem kw_93 : Cond.selects RX5 yX5_figuresAt yX5_figuresAt ∈ lw_tbl := tsel (i := 4) (q := (⟨"UniverseLevels$Text", "figuresAt", "(I)I"⟩, 3)) rfl
theorem bp_44 : (Int8.ofInt (44)).toInt32 = (44 : Int32) := by decide
theorem bp_59 : (Int8.ofInt (59)).toInt32 = (59 : Int32) := by decide
theorem kw_94 : Cond.fieldLink RX5 15 (TX5 1).1 (TX5 1).2.1 (TX5 1).2.2.1 ∈ lw_tbl := tb1 (i := 31) rfl
theorem kw_95 : Cond.methodLink RX5 39 yX5_numberAt ∈ lw_tbl := tb1 (i := 238) rfl
theorem kw_96 : cwOk yX5_numberAt cX5_numberAt 4 (some .int) 2 := ⟨tb2 (i := 1) rfl, tb1 (i := 2) rfl, by decide, by decide, by decide +kernel⟩
theorem kw_97 : Cond.instanceMethod yX5_numberAt ∈ lw_tbl := tb2 (i := 0) rfl
theorem kw_98 : Cond.selects RX5 yX5_numberAt yX5_numberAt ∈ lw_tbl := tsel (i := 5) (q := (⟨"UniverseLevels$Text", "numberAt", "(II)I"⟩, 3)) rfl
theorem bp_118 : (Int8.ofInt (118)).toInt32 = (118 : Int32) := by decide
theorem bp_99 : (Int8.ofInt (99)).toInt32 = (99 : Int32) := by decide
theorem bp_9 : (Int8.ofInt (9)).toInt32 = (9 : Int32) := by decide
theorem kw_99 : Cond.methodLink RX5 22 yX5_readItem ∈ lw_tbl := tb2 (i := 131) rfl
theorem kw_100 : cwOk yX5_readItem cX5_readItem 7 (some .int) 1 := ⟨tb1 (i := 226) rfl, tb1 (i := 2) rfl, by decide, by decide, by decide +kernel⟩
theorem kw_101 : Cond.instanceMethod yX5_readItem ∈ lw_tbl := tb1 (i := 225) rfl
theorem kw_102 : Cond.selects RX5 yX5_readItem yX5_readItem ∈ lw_tbl := tsel (i := 3) (q := (⟨"UniverseLevels$Text", "readItem", "(I)I"⟩, 3)) rfl
theorem kw_103 : Cond.methodLink RX5 29 yX5_isAllowed ∈ lw_tbl := tb2 (i := 132) rfl
theorem kw_104 : cwOk yX5_isAllowed cX5_isAllowed 5 (some .boolean) 2 := ⟨tb2 (i := 135) rfl, tb1 (i := 2) rfl, by decide, by decide, by decide +kernel⟩
theorem kw_105 : Cond.instanceMethod yX5_isAllowed ∈ lw_tbl := tb2 (i := 134) rfl
theorem kw_106 : Cond.selects RX5 yX5_isAllowed yX5_isAllowed ∈ lw_tbl := tsel (i := 21) (q := (⟨"UniverseLevels$Text", "isAllowed", "(II)Z"⟩, 3)) rfl
section
def W_X5_append (cI cS cII : ClassId) (XA : Nat → Nat) (X_c : Nat → Int32) (X_d : Nat → Int32) (X_n : Int32) : va_W := [((XA 0), .inr (5, [.ref (XA 1), .ref (XA 2), .int X_n])), ((XA 1), .inl (cI, 200, .inl X_c)), ((XA 2), .inl (cI, 3, .inl X_d))]
abbrev Rm_X5_append : Room := { frames := 0, cells := 0, slots := 0, locals := 0 }
variable {l : Launch} {D : va_G} {cI cS cII : ClassId} {XA : Nat → Nat} {A : Nat → Prop} {J : jT}
variable {z_r : Int32} {z_X_c : Nat → Int32} {z_X_n : Int32}
def p_X5_append (X_c : Nat → Int32) (X_n : Int32) (a1 : Int32) : Option (Int32 × (Nat → Int32) × Int32) := if X_n < 200 then ((wr X_c 200 X_n a1).bind fun g2 => some (1, g2, X_n + 1)) else (some (0, X_c, X_n))
end
theorem c_X5_append (l : Launch) (D : va_G) (cI cS cII : ClassId) (XA : Nat → Nat) (X_c : Nat → Int32) (X_d : Nat → Int32) (X_n : Int32) (a1 : Int32) {z_r : Int32} {z_X_c : Nat → Int32} {z_X_n : Int32} (hF : p_X5_append X_c X_n a1 = some (z_r, z_X_c, z_X_n)) : MJ l yX5_append cX5_append 2 (some .boolean) Rm_X5_append D (tysU cI cS cII) [.ref (XA 0), .int a1] (W_X5_append cI cS cII XA X_c X_d X_n) (some z_r) (W_X5_append cI cS cII XA z_X_c X_d z_X_n) := by
  refine mj_of (own := RX5) (by decide) rfl (Nat.le_of_ble_eq_true rfl) (fun J hJ => ?_)
  show J (W_X5_append cI cS cII XA X_c X_d X_n) 0 [(0, .ref (XA 0)), (1, .int a1)] []
  unfold p_X5_append at hF
  refine jj_aload_n hJ dX5_append_0 0 rfl rfl ?_
  refine jj_get hJ lay_X5 dX5_append_1 0 2 rfl rfl (Nat.le_of_ble_eq_true rfl) kw_78 rfl ?_
  refine jj_sipush hJ dX5_append_4 sp_200 ?_
  refine jj_icmp_lt hJ 12 dX5_append_7 rfl (fun c1 => ?_) (fun c1 => ?_)
  · replace hF := ip c1 hF
    refine jj_aload_n hJ dX5_append_12 0 rfl rfl ?_
    refine jj_get hJ lay_X5 dX5_append_13 0 0 rfl rfl (Nat.le_of_ble_eq_true rfl) kw_79 rfl ?_
    refine jj_aload_n hJ dX5_append_16 0 rfl rfl ?_
    refine jj_get hJ lay_X5 dX5_append_17 0 2 rfl rfl (Nat.le_of_ble_eq_true rfl) kw_78 rfl ?_
    refine jj_iload_n hJ dX5_append_20 1 rfl rfl ?_
    obtain ⟨g2, h3, hF⟩ := ob hF
    refine jj_iast hJ dX5_append_21 1 0 rfl rfl h3 (wn := (W_X5_append cI cS cII XA g2 X_d X_n)) rfl ?_
    refine jj_aload_n hJ dX5_append_22 0 rfl rfl ?_
    refine jj_dup hJ dX5_append_23 rfl ?_
    refine jj_get hJ lay_X5 dX5_append_24 0 2 rfl rfl (Nat.le_of_ble_eq_true rfl) kw_78 rfl ?_
    refine jj_iconst hJ dX5_append_27 ic_1 ?_
    refine jj_iadd hJ dX5_append_28 ?_
    refine jj_puti hJ lay_X5 tyX5 tyX5_ok nmX5 dX5_append_29 0 2 rfl rfl (Nat.le_of_ble_eq_true rfl) kw_78 rfl rfl (Nat.le_of_ble_eq_true rfl) (wn := (W_X5_append cI cS cII XA g2 X_d (X_n + 1))) rfl ?_
    refine jj_iconst hJ dX5_append_32 ic_1 ?_
    cases Option.some.inj hF
    exact jj_zret hJ (Or.inr rfl) dX5_append_33
  · replace hF := iq c1 hF
    refine jj_iconst hJ dX5_append_10 ic_0 ?_
    cases Option.some.inj hF
    exact jj_zret hJ (Or.inl rfl) dX5_append_11
section
def W_X5_letterAt (cI cS cII : ClassId) (XA : Nat → Nat) (X_c : Nat → Int32) (X_d : Nat → Int32) (X_n : Int32) : va_W := [((XA 0), .inr (5, [.ref (XA 1), .ref (XA 2), .int X_n])), ((XA 1), .inl (cI, 200, .inl X_c)), ((XA 2), .inl (cI, 3, .inl X_d))]
abbrev Rm_X5_letterAt : Room := { frames := 0, cells := 0, slots := 0, locals := 0 }
variable {l : Launch} {D : va_G} {cI cS cII : ClassId} {XA : Nat → Nat} {A : Nat → Prop} {J : jT}
variable {z_r : Int32}
def p_X5_letterAt (X_c : Nat → Int32) (X_n : Int32) (a1 : Int32) : Option (Int32) := if a1 < 0 then (some 0) else (if X_n ≤ a1 then (some 0) else ((rd X_c 200 a1).bind fun x3 => some x3))
end
theorem c_X5_letterAt (l : Launch) (D : va_G) (cI cS cII : ClassId) (XA : Nat → Nat) (X_c : Nat → Int32) (X_d : Nat → Int32) (X_n : Int32) (a1 : Int32) {z_r : Int32} (hF : p_X5_letterAt X_c X_n a1 = some z_r) : MJ l yX5_letterAt cX5_letterAt 2 (some .int) Rm_X5_letterAt D (tysU cI cS cII) [.ref (XA 0), .int a1] (W_X5_letterAt cI cS cII XA X_c X_d X_n) (some z_r) (W_X5_letterAt cI cS cII XA X_c X_d X_n) := by
  refine mj_of (own := RX5) (by decide) rfl (Nat.le_of_ble_eq_true rfl) (fun J hJ => ?_)
  show J (W_X5_letterAt cI cS cII XA X_c X_d X_n) 0 [(0, .ref (XA 0)), (1, .int a1)] []
  unfold p_X5_letterAt at hF
  refine jj_iload_n hJ dX5_letterAt_0 1 rfl rfl ?_
  refine jj_if_lt hJ 21 dX5_letterAt_1 rfl (fun c1 => ?_) (fun c1 => ?_)
  · replace hF := ip c1 hF
    refine jj_iconst hJ dX5_letterAt_21 ic_0 ?_
    cases Option.some.inj hF
    exact jj_iret hJ dX5_letterAt_22
  · replace hF := iq c1 hF
    refine jj_iload_n hJ dX5_letterAt_4 1 rfl rfl ?_
    refine jj_aload_n hJ dX5_letterAt_5 0 rfl rfl ?_
    refine jj_get hJ lay_X5 dX5_letterAt_6 0 2 rfl rfl (Nat.le_of_ble_eq_true rfl) kw_78 rfl ?_
    refine jj_icmp_ge hJ 21 dX5_letterAt_9 rfl (fun c2 => ?_) (fun c2 => ?_)
    · replace hF := ip c2 hF
      refine jj_iconst hJ dX5_letterAt_21 ic_0 ?_
      cases Option.some.inj hF
      exact jj_iret hJ dX5_letterAt_22
    · replace hF := iq c2 hF
      refine jj_aload_n hJ dX5_letterAt_12 0 rfl rfl ?_
      refine jj_get hJ lay_X5 dX5_letterAt_13 0 0 rfl rfl (Nat.le_of_ble_eq_true rfl) kw_79 rfl ?_
      refine jj_iload_n hJ dX5_letterAt_16 1 rfl rfl ?_
      obtain ⟨x3, h4, hF⟩ := ob hF
      refine jj_iald hJ dX5_letterAt_17 1 0 rfl rfl h4 ?_
      refine jj_goto hJ 22 dX5_letterAt_18 rfl ?_
      cases Option.some.inj hF
      exact jj_iret hJ dX5_letterAt_22
section
abbrev Rm_X5_numbersBehind : Room := { frames := 0, cells := 0, slots := 0, locals := 0 }
variable {l : Launch} {D : va_G} {cI cS cII : ClassId}  {A : Nat → Prop} {J : jT}
variable {z_r : Int32}
def p_X5_numbersBehind (a0 : Int32) : Option (Int32) := if a0 = 99 then (some 3) else if a0 = 100 then (some 3) else if a0 = 118 then (some 1) else (some 0)
end
theorem c_X5_numbersBehind (l : Launch) (D : va_G) (cI cS cII : ClassId)   (a0 : Int32) {z_r : Int32} (hF : p_X5_numbersBehind a0 = some z_r) : MJ l yX5_numbersBehind cX5_numbersBehind 1 (some .int) Rm_X5_numbersBehind D (tysU cI cS cII) [.int a0] ([] : va_W) (some z_r) ([] : va_W) := by
  refine mj_of (own := RX5) (by decide) rfl (Nat.le_of_ble_eq_true rfl) (fun J hJ => ?_)
  show J ([] : va_W) 0 [(0, .int a0)] []
  unfold p_X5_numbersBehind at hF
  refine jj_iload_n hJ dX5_numbersBehind_0 0 rfl rfl ?_
  by_cases c1 : a0 = 99
  · replace hF := ip c1 hF
    refine jj_lsw hJ 38 dX5_numbersBehind_1 (by decide) (by rw [c1] <;> rfl) rfl ?_
    refine jj_iconst hJ dX5_numbersBehind_38 ic_3 ?_
    cases Option.some.inj hF
    exact jj_iret hJ dX5_numbersBehind_39
  replace hF := iq c1 hF
  by_cases c2 : a0 = 100
  · replace hF := ip c2 hF
    refine jj_lsw hJ 38 dX5_numbersBehind_1 (by decide) (by rw [c2] <;> rfl) rfl ?_
    refine jj_iconst hJ dX5_numbersBehind_38 ic_3 ?_
    cases Option.some.inj hF
    exact jj_iret hJ dX5_numbersBehind_39
  replace hF := iq c2 hF
  by_cases c3 : a0 = 118
  · replace hF := ip c3 hF
    refine jj_lsw hJ 36 dX5_numbersBehind_1 (by decide) (by rw [c3] <;> rfl) rfl ?_
    refine jj_iconst hJ dX5_numbersBehind_36 ic_1 ?_
    cases Option.some.inj hF
    exact jj_iret hJ dX5_numbersBehind_37
  replace hF := iq c3 hF
  refine jj_lsw hJ 40 dX5_numbersBehind_1 (by decide) (off := 39) (by show Op.lookupswitch.offset [(99, 37), (100, 37), (118, 35)] _ _ = _; rw [lv_osw c1 (show (99 : Int32).toInt = 99 from rfl), lv_osw c2 (show (100 : Int32).toInt = 100 from rfl), lv_osw c3 (show (118 : Int32).toInt = 118 from rfl)]; rfl) rfl ?_
  refine jj_iconst hJ dX5_numbersBehind_40 ic_0 ?_
  cases Option.some.inj hF
  exact jj_iret hJ dX5_numbersBehind_41
section
abbrev Rm_X5_isFigure : Room := { frames := 0, cells := 0, slots := 0, locals := 0 }
variable {l : Launch} {D : va_G} {cI cS cII : ClassId}  {A : Nat → Prop} {J : jT}
variable {z_r : Int32}
def p_X5_isFigure (a0 : Int32) : Option (Int32) := if a0 < 48 then (some 0) else (if 57 < a0 then (some 0) else (some 1))
end
theorem c_X5_isFigure (l : Launch) (D : va_G) (cI cS cII : ClassId)   (a0 : Int32) {z_r : Int32} (hF : p_X5_isFigure a0 = some z_r) : MJ l yX5_isFigure cX5_isFigure 1 (some .boolean) Rm_X5_isFigure D (tysU cI cS cII) [.int a0] ([] : va_W) (some z_r) ([] : va_W) := by
  refine mj_of (own := RX5) (by decide) rfl (Nat.le_of_ble_eq_true rfl) (fun J hJ => ?_)
  show J ([] : va_W) 0 [(0, .int a0)] []
  unfold p_X5_isFigure at hF
  refine jj_iload_n hJ dX5_isFigure_0 0 rfl rfl ?_
  refine jj_bipush hJ dX5_isFigure_1 bp_48 ?_
  refine jj_icmp_lt hJ 16 dX5_isFigure_3 rfl (fun c1 => ?_) (fun c1 => ?_)
  · replace hF := ip c1 hF
    refine jj_iconst hJ dX5_isFigure_16 ic_0 ?_
    cases Option.some.inj hF
    exact jj_zret hJ (Or.inl rfl) dX5_isFigure_17
  · replace hF := iq c1 hF
    refine jj_iload_n hJ dX5_isFigure_6 0 rfl rfl ?_
    refine jj_bipush hJ dX5_isFigure_7 bp_57 ?_
    refine jj_icmp_gt hJ 16 dX5_isFigure_9 rfl (fun c2 => ?_) (fun c2 => ?_)
    · replace hF := ip c2 hF
      refine jj_iconst hJ dX5_isFigure_16 ic_0 ?_
      cases Option.some.inj hF
      exact jj_zret hJ (Or.inl rfl) dX5_isFigure_17
    · replace hF := iq c2 hF
      refine jj_iconst hJ dX5_isFigure_12 ic_1 ?_
      refine jj_goto hJ 17 dX5_isFigure_13 rfl ?_
      cases Option.some.inj hF
      exact jj_zret hJ (Or.inr rfl) dX5_isFigure_17
section
def W_X5_figuresAt (cI cS cII : ClassId) (XA : Nat → Nat) (X_c : Nat → Int32) (X_d : Nat → Int32) (X_n : Int32) : va_W := [((XA 0), .inr (5, [.ref (XA 1), .ref (XA 2), .int X_n])), ((XA 1), .inl (cI, 200, .inl X_c)), ((XA 2), .inl (cI, 3, .inl X_d))]
abbrev Rm_X5_figuresAt : Room := { frames := 1, cells := 0, slots := 0, locals := 21 }
variable {l : Launch} {D : va_G} {cI cS cII : ClassId} {XA : Nat → Nat} {A : Nat → Prop} {J : jT}
variable {z_r : Int32}
def p_X5_figuresAt (X_c : Nat → Int32) (X_n : Int32) (a1 : Int32) : Option (Int32) := (p_X5_letterAt X_c X_n a1).bind fun r2 => (p_X5_isFigure r2).bind fun r4 => if r4 = 0 then (some 0) else ((p_X5_letterAt X_c X_n (a1 + 1)).bind fun r7 => (p_X5_isFigure r7).bind fun r9 => if r9 = 0 then (some 1) else (some 2))
end
theorem c_X5_figuresAt (l : Launch) (D : va_G) (cI cS cII : ClassId) (XA : Nat → Nat) (X_c : Nat → Int32) (X_d : Nat → Int32) (X_n : Int32) (a1 : Int32) {z_r : Int32} (hF : p_X5_figuresAt X_c X_n a1 = some z_r) : MJ l yX5_figuresAt cX5_figuresAt 2 (some .int) Rm_X5_figuresAt D (tysU cI cS cII) [.ref (XA 0), .int a1] (W_X5_figuresAt cI cS cII XA X_c X_d X_n) (some z_r) (W_X5_figuresAt cI cS cII XA X_c X_d X_n) := by
  refine mj_of (own := RX5) (by decide) rfl (Nat.le_of_ble_eq_true rfl) (fun J hJ => ?_)
  show J (W_X5_figuresAt cI cS cII XA X_c X_d X_n) 0 [(0, .ref (XA 0)), (1, .int a1)] []
  unfold p_X5_figuresAt at hF
  refine jj_aload_n hJ dX5_figuresAt_0 0 rfl rfl ?_
  refine jj_iload_n hJ dX5_figuresAt_1 1 rfl rfl ?_
  obtain ⟨r2, h1, hF⟩ := ob hF
  refine jj_callV0 hJ (c_X5_letterAt l D cI cS cII XA X_c X_d X_n a1 h1) dX5_figuresAt_2 kw_81 ⟨Nat.le_of_ble_eq_true rfl, Nat.le_of_ble_eq_true rfl, rfl, rfl⟩ kw_80 kw_82 kw_83 0 rfl rfl rfl rfl (Nat.le_of_ble_eq_true rfl) [0, 1, 2] rfl rfl ?_
  obtain ⟨r4, h3, hF⟩ := ob hF
  refine jj_callS0 hJ (c_X5_isFigure l D cI cS cII   r2 h3) dX5_figuresAt_5 kw_84 ⟨Nat.le_of_ble_eq_true rfl, Nat.le_of_ble_eq_true rfl, rfl, rfl⟩ kw_85 kw_86 rfl rfl (Nat.le_of_ble_eq_true rfl) [] rfl rfl ?_
  refine jj_if_ne hJ 13 dX5_figuresAt_8 rfl (fun c5 => ?_) (fun c5 => ?_)
  · replace hF := iq c5 hF
    refine jj_aload_n hJ dX5_figuresAt_13 0 rfl rfl ?_
    refine jj_iload_n hJ dX5_figuresAt_14 1 rfl rfl ?_
    refine jj_iconst hJ dX5_figuresAt_15 ic_1 ?_
    refine jj_iadd hJ dX5_figuresAt_16 ?_
    obtain ⟨r7, h6, hF⟩ := ob hF
    refine jj_callV0 hJ (c_X5_letterAt l D cI cS cII XA X_c X_d X_n (a1 + 1) h6) dX5_figuresAt_17 kw_81 ⟨Nat.le_of_ble_eq_true rfl, Nat.le_of_ble_eq_true rfl, rfl, rfl⟩ kw_80 kw_82 kw_83 0 rfl rfl rfl rfl (Nat.le_of_ble_eq_true rfl) [0, 1, 2] rfl rfl ?_
    obtain ⟨r9, h8, hF⟩ := ob hF
    refine jj_callS0 hJ (c_X5_isFigure l D cI cS cII   r7 h8) dX5_figuresAt_20 kw_84 ⟨Nat.le_of_ble_eq_true rfl, Nat.le_of_ble_eq_true rfl, rfl, rfl⟩ kw_85 kw_86 rfl rfl (Nat.le_of_ble_eq_true rfl) [] rfl rfl ?_
    refine jj_if_eq hJ 30 dX5_figuresAt_23 rfl (fun c10 => ?_) (fun c10 => ?_)
    · replace hF := ip c10 hF
      refine jj_iconst hJ dX5_figuresAt_30 ic_1 ?_
      cases Option.some.inj hF
      exact jj_iret hJ dX5_figuresAt_31
    · replace hF := iq c10 hF
      refine jj_iconst hJ dX5_figuresAt_26 ic_2 ?_
      refine jj_goto hJ 31 dX5_figuresAt_27 rfl ?_
      cases Option.some.inj hF
      exact jj_iret hJ dX5_figuresAt_31
  · replace hF := ip c5 hF
    refine jj_iconst hJ dX5_figuresAt_11 ic_0 ?_
    cases Option.some.inj hF
    exact jj_iret hJ dX5_figuresAt_12
section
def W_X5_numberAt (cI cS cII : ClassId) (XA : Nat → Nat) (X_c : Nat → Int32) (X_d : Nat → Int32) (X_n : Int32) : va_W := [((XA 0), .inr (5, [.ref (XA 1), .ref (XA 2), .int X_n])), ((XA 1), .inl (cI, 200, .inl X_c)), ((XA 2), .inl (cI, 3, .inl X_d))]
abbrev Rm_X5_numberAt : Room := { frames := 1, cells := 0, slots := 0, locals := 21 }
variable {l : Launch} {D : va_G} {cI cS cII : ClassId} {XA : Nat → Nat} {A : Nat → Prop} {J : jT}
variable {z_r : Int32}
def p_X5_numberAt (X_c : Nat → Int32) (X_n : Int32) (a1 : Int32) (a2 : Int32) : Option (Int32) := (p_X5_letterAt X_c X_n a1).bind fun r2 => if a2 = 1 then (some (r2 - 48)) else ((p_X5_letterAt X_c X_n (a1 + 1)).bind fun r5 => some ((((r2 - 48) * 10) + r5) - 48))
end
theorem c_X5_numberAt (l : Launch) (D : va_G) (cI cS cII : ClassId) (XA : Nat → Nat) (X_c : Nat → Int32) (X_d : Nat → Int32) (X_n : Int32) (a1 : Int32) (a2 : Int32) {z_r : Int32} (hF : p_X5_numberAt X_c X_n a1 a2 = some z_r) : MJ l yX5_numberAt cX5_numberAt 4 (some .int) Rm_X5_numberAt D (tysU cI cS cII) [.ref (XA 0), .int a1, .int a2] (W_X5_numberAt cI cS cII XA X_c X_d X_n) (some z_r) (W_X5_numberAt cI cS cII XA X_c X_d X_n) := by
  refine mj_of (own := RX5) (by decide) rfl (Nat.le_of_ble_eq_true rfl) (fun J hJ => ?_)
  show J (W_X5_numberAt cI cS cII XA X_c X_d X_n) 0 [(0, .ref (XA 0)), (1, .int a1), (2, .int a2)] []
  unfold p_X5_numberAt at hF
  refine jj_aload_n hJ dX5_numberAt_0 0 rfl rfl ?_
  refine jj_iload_n hJ dX5_numberAt_1 1 rfl rfl ?_
  obtain ⟨r2, h1, hF⟩ := ob hF
  refine jj_callV0 hJ (c_X5_letterAt l D cI cS cII XA X_c X_d X_n a1 h1) dX5_numberAt_2 kw_81 ⟨Nat.le_of_ble_eq_true rfl, Nat.le_of_ble_eq_true rfl, rfl, rfl⟩ kw_80 kw_82 kw_83 0 rfl rfl rfl rfl (Nat.le_of_ble_eq_true rfl) [0, 1, 2] rfl rfl ?_
  refine jj_bipush hJ dX5_numberAt_5 bp_48 ?_
  refine jj_isub hJ dX5_numberAt_7 ?_
  refine jj_istore_n hJ dX5_numberAt_8 rfl (Nat.le_of_ble_eq_true rfl) (lv' := [(3, .int (r2 - 48)), (0, .ref (XA 0)), (1, .int a1), (2, .int a2)]) rfl ?_
  refine jj_iload_n hJ dX5_numberAt_9 3 rfl rfl ?_
  refine jj_iconst hJ dX5_numberAt_10 ic_1 ?_
  refine jj_icmp_ne hJ 18 dX5_numberAt_11 rfl (fun c3 => ?_) (fun c3 => ?_)
  · replace hF := iq c3 hF
    refine jj_iload_n hJ dX5_numberAt_18 0 rfl rfl ?_
    refine jj_bipush hJ dX5_numberAt_19 bp_10 ?_
    refine jj_imul hJ dX5_numberAt_21 ?_
    refine jj_aload_n hJ dX5_numberAt_22 1 rfl rfl ?_
    refine jj_iload_n hJ dX5_numberAt_23 2 rfl rfl ?_
    refine jj_iconst hJ dX5_numberAt_24 ic_1 ?_
    refine jj_iadd hJ dX5_numberAt_25 ?_
    obtain ⟨r5, h4, hF⟩ := ob hF
    refine jj_callV0 hJ (c_X5_letterAt l D cI cS cII XA X_c X_d X_n (a1 + 1) h4) dX5_numberAt_26 kw_81 ⟨Nat.le_of_ble_eq_true rfl, Nat.le_of_ble_eq_true rfl, rfl, rfl⟩ kw_80 kw_82 kw_83 0 rfl rfl rfl rfl (Nat.le_of_ble_eq_true rfl) [0, 1, 2] rfl rfl ?_
    refine jj_iadd hJ dX5_numberAt_29 ?_
    refine jj_bipush hJ dX5_numberAt_30 bp_48 ?_
    refine jj_isub hJ dX5_numberAt_32 ?_
    cases Option.some.inj hF
    exact jj_iret hJ dX5_numberAt_33
  · replace hF := ip c3 hF
    refine jj_iload_n hJ dX5_numberAt_14 0 rfl rfl ?_
    refine jj_goto hJ 33 dX5_numberAt_15 rfl ?_
    cases Option.some.inj hF
    exact jj_iret hJ dX5_numberAt_33
section
def W_X5_readItem (cI cS cII : ClassId) (XA : Nat → Nat) (X_c : Nat → Int32) (X_d : Nat → Int32) (X_n : Int32) : va_W := [((XA 0), .inr (5, [.ref (XA 1), .ref (XA 2), .int X_n])), ((XA 1), .inl (cI, 200, .inl X_c)), ((XA 2), .inl (cI, 3, .inl X_d))]
abbrev Rm_X5_readItem : Room := { frames := 2, cells := 0, slots := 0, locals := 44 }
variable {l : Launch} {D : va_G} {cI cS cII : ClassId} {XA : Nat → Nat} {A : Nat → Prop} {J : jT}
variable {z_r : Int32} {z_X_d : Nat → Int32}
def q_X5_readItem_44 (X_c : Nat → Int32) (X_n : Int32) (a1 : Int32) (k16 : Int32 → Int32 → Int32 → (Nat → Int32) → Option (Int32 × (Nat → Int32))) (v5 : Int32) (v4 : Int32) (v3 : Int32) (v2 : Int32) (s0 : Int32) (X_d : Nat → Int32) : Option (Int32 × (Nat → Int32)) := if v5 = 0 then (some ((-4), X_d)) else ((p_X5_letterAt X_c X_n (v3 + v5)).bind fun r3 => if r3 = s0 then ((p_X5_numberAt X_c X_n v3 v5).bind fun r6 => (wr X_d 3 v4 r6).bind fun g7 => k16 (v4 + 1) (v3 + (v5 + 1)) v2 g7) else (some ((-4), X_d)))
theorem w_X5_readItem_44 {X_c : Nat → Int32} {X_n : Int32} {a1 : Int32} {k16 : Int32 → Int32 → Int32 → (Nat → Int32) → Option (Int32 × (Nat → Int32))} (hJ : jJ l cX5_readItem 7 D (tysU cI cS cII) RX5 Rm_X5_readItem (some .int) A (some z_r) (W_X5_readItem cI cS cII XA X_c z_X_d X_n) J) (hk16 : ∀ (v4 : Int32) (v3 : Int32) (v2 : Int32) (X_d : Nat → Int32), k16 v4 v3 v2 X_d = some (z_r, z_X_d) → J (W_X5_readItem cI cS cII XA X_c X_d X_n) 16 [(4, .int v4), (3, .int v3), (2, .int v2), (0, .ref (XA 0))] []) : ∀ (v5 : Int32) (v4 : Int32) (v3 : Int32) (v2 : Int32) (s0 : Int32) (X_d : Nat → Int32), q_X5_readItem_44 X_c X_n a1 k16 v5 v4 v3 v2 s0 X_d = some (z_r, z_X_d) → J (W_X5_readItem cI cS cII XA X_c X_d X_n) 44 [(5, .int v5), (4, .int v4), (3, .int v3), (2, .int v2), (0, .ref (XA 0))] [.int s0] := by
  intro v5 v4 v3 v2 s0 X_d hF
  unfold q_X5_readItem_44 at hF
  refine jj_istore hJ dX5_readItem_44 (Nat.le_of_ble_eq_true rfl) (lv' := [(6, .int s0), (5, .int v5), (4, .int v4), (3, .int v3), (2, .int v2), (0, .ref (XA 0))]) rfl ?_
  refine jj_iload hJ dX5_readItem_46 1 rfl ?_
  refine jj_if_eq hJ 64 dX5_readItem_48 rfl (fun c1 => ?_) (fun c1 => ?_)
  · replace hF := ip c1 hF
    refine jj_bipush hJ dX5_readItem_64 bp_m4 ?_
    cases Option.some.inj hF
    exact jj_iret hJ dX5_readItem_66
  · replace hF := iq c1 hF
    refine jj_aload_n hJ dX5_readItem_51 5 rfl rfl ?_
    refine jj_iload_n hJ dX5_readItem_52 3 rfl rfl ?_
    refine jj_iload hJ dX5_readItem_53 1 rfl ?_
    refine jj_iadd hJ dX5_readItem_55 ?_
    obtain ⟨r3, h2, hF⟩ := ob hF
    refine jj_callV0 hJ (c_X5_letterAt l D cI cS cII XA X_c X_d X_n (v3 + v5) h2) dX5_readItem_56 kw_81 ⟨Nat.le_of_ble_eq_true rfl, Nat.le_of_ble_eq_true rfl, rfl, rfl⟩ kw_80 kw_82 kw_83 0 rfl rfl rfl rfl (Nat.le_of_ble_eq_true rfl) [0, 1, 2] rfl rfl ?_
    refine jj_iload hJ dX5_readItem_59 0 rfl ?_
    refine jj_icmp_eq hJ 67 dX5_readItem_61 rfl (fun c4 => ?_) (fun c4 => ?_)
    · replace hF := ip c4 hF
      refine jj_aload_n hJ dX5_readItem_67 5 rfl rfl ?_
      refine jj_get hJ lay_X5 dX5_readItem_68 0 1 rfl rfl (Nat.le_of_ble_eq_true rfl) kw_94 rfl ?_
      refine jj_iload hJ dX5_readItem_71 2 rfl ?_
      refine jj_aload_n hJ dX5_readItem_73 5 rfl rfl ?_
      refine jj_iload_n hJ dX5_readItem_74 3 rfl rfl ?_
      refine jj_iload hJ dX5_readItem_75 1 rfl ?_
      obtain ⟨r6, h5, hF⟩ := ob hF
      refine jj_callV0 hJ (c_X5_numberAt l D cI cS cII XA X_c X_d X_n v3 v5 h5) dX5_readItem_77 kw_96 ⟨Nat.le_of_ble_eq_true rfl, Nat.le_of_ble_eq_true rfl, rfl, rfl⟩ kw_95 kw_97 kw_98 0 rfl rfl rfl rfl (Nat.le_of_ble_eq_true rfl) [0, 1, 2] rfl rfl ?_
      obtain ⟨g7, h8, hF⟩ := ob hF
      refine jj_iast hJ dX5_readItem_80 2 0 rfl rfl h8 (wn := (W_X5_readItem cI cS cII XA X_c g7 X_n)) rfl ?_
      refine jj_iload_n hJ dX5_readItem_81 3 rfl rfl ?_
      refine jj_iload hJ dX5_readItem_82 1 rfl ?_
      refine jj_iconst hJ dX5_readItem_84 ic_1 ?_
      refine jj_iadd hJ dX5_readItem_85 ?_
      refine jj_iadd hJ dX5_readItem_86 ?_
      refine jj_istore_n hJ dX5_readItem_87 rfl (Nat.le_of_ble_eq_true rfl) (lv' := [(3, .int (v3 + (v5 + 1))), (6, .int s0), (5, .int v5), (4, .int v4), (2, .int v2), (0, .ref (XA 0))]) rfl ?_
      refine jj_iinc hJ dX5_readItem_88 3 rfl (v := v4 + 1) (by rw [ic_1]) (Nat.le_of_ble_eq_true rfl) (lv' := [(4, .int (v4 + 1)), (3, .int (v3 + (v5 + 1))), (6, .int s0), (5, .int v5), (2, .int v2), (0, .ref (XA 0))]) rfl ?_
      refine jj_goto hJ 16 dX5_readItem_91 rfl ?_
      refine jj_lv hJ [0, 1, 4, 5] (lv' := [(4, .int (v4 + 1)), (3, .int (v3 + (v5 + 1))), (2, .int v2), (0, .ref (XA 0))]) rfl ?_
      exact hk16 (v4 + 1) (v3 + (v5 + 1)) v2 g7 hF
    · replace hF := iq c4 hF
      refine jj_bipush hJ dX5_readItem_64 bp_m4 ?_
      cases Option.some.inj hF
      exact jj_iret hJ dX5_readItem_66
def q_X5_readItem_16 (X_c : Nat → Int32) (X_n : Int32) (a1 : Int32)  : Nat → Int32 → Int32 → Int32 → (Nat → Int32) → Option (Int32 × (Nat → Int32))
  | 0, _, _, _, _ => none
  | n + 1, v4, v3, v2, X_d => if v2 ≤ v4 then (if v2 = 0 then (some ((-4), X_d)) else (some (v3, X_d))) else ((p_X5_figuresAt X_c X_n v3).bind fun r4 => if v4 = (v2 - 1) then (q_X5_readItem_44 X_c X_n a1 (q_X5_readItem_16 X_c X_n a1 n) r4 v4 v3 v2 59 X_d) else (q_X5_readItem_44 X_c X_n a1 (q_X5_readItem_16 X_c X_n a1 n) r4 v4 v3 v2 44 X_d))
theorem w_X5_readItem_16 {X_c : Nat → Int32} {X_n : Int32} {a1 : Int32}  (hJ : jJ l cX5_readItem 7 D (tysU cI cS cII) RX5 Rm_X5_readItem (some .int) A (some z_r) (W_X5_readItem cI cS cII XA X_c z_X_d X_n) J)  : ∀ (n : Nat) (v4 : Int32) (v3 : Int32) (v2 : Int32) (X_d : Nat → Int32), q_X5_readItem_16 X_c X_n a1 n v4 v3 v2 X_d = some (z_r, z_X_d) → J (W_X5_readItem cI cS cII XA X_c X_d X_n) 16 [(4, .int v4), (3, .int v3), (2, .int v2), (0, .ref (XA 0))] [] := by
  intro n
  induction n with
  | zero =>
    intro v4 v3 v2 X_d hF
    exact no_some (show (none : Option (Int32 × (Nat → Int32))) = some (z_r, z_X_d) from hF)
  | succ n ih =>
    intro v4 v3 v2 X_d hF
    rw [q_X5_readItem_16.eq_2] at hF
    refine jj_iload hJ dX5_readItem_16 0 rfl ?_
    refine jj_iload_n hJ dX5_readItem_18 2 rfl rfl ?_
    refine jj_icmp_ge hJ 94 dX5_readItem_19 rfl (fun c1 => ?_) (fun c1 => ?_)
    · replace hF := ip c1 hF
      refine jj_iload_n hJ dX5_readItem_94 2 rfl rfl ?_
      refine jj_if_ne hJ 103 dX5_readItem_95 rfl (fun c2 => ?_) (fun c2 => ?_)
      · replace hF := iq c2 hF
        refine jj_iload_n hJ dX5_readItem_103 1 rfl rfl ?_
        cases Option.some.inj hF
        exact jj_iret hJ dX5_readItem_104
      · replace hF := ip c2 hF
        refine jj_bipush hJ dX5_readItem_98 bp_m4 ?_
        refine jj_goto hJ 104 dX5_readItem_100 rfl ?_
        cases Option.some.inj hF
        exact jj_iret hJ dX5_readItem_104
    · replace hF := iq c1 hF
      refine jj_aload_n hJ dX5_readItem_22 3 rfl rfl ?_
      refine jj_iload_n hJ dX5_readItem_23 1 rfl rfl ?_
      obtain ⟨r4, h3, hF⟩ := ob hF
      refine jj_callV0 hJ (c_X5_figuresAt l D cI cS cII XA X_c X_d X_n v3 h3) dX5_readItem_24 kw_91 ⟨Nat.le_of_ble_eq_true rfl, Nat.le_of_ble_eq_true rfl, rfl, rfl⟩ kw_90 kw_92 kw_93 0 rfl rfl rfl rfl (Nat.le_of_ble_eq_true rfl) [0, 1, 2] rfl rfl ?_
      refine jj_istore hJ dX5_readItem_27 (Nat.le_of_ble_eq_true rfl) (lv' := [(5, .int r4), (4, .int v4), (3, .int v3), (2, .int v2), (0, .ref (XA 0))]) rfl ?_
      refine jj_iload hJ dX5_readItem_29 1 rfl ?_
      refine jj_iload_n hJ dX5_readItem_31 3 rfl rfl ?_
      refine jj_iconst hJ dX5_readItem_32 ic_1 ?_
      refine jj_isub hJ dX5_readItem_33 ?_
      refine jj_icmp_ne hJ 42 dX5_readItem_34 rfl (fun c5 => ?_) (fun c5 => ?_)
      · replace hF := iq c5 hF
        refine jj_bipush hJ dX5_readItem_42 bp_44 ?_
        exact w_X5_readItem_44 hJ (fun v4 v3 v2 X_d => ih v4 v3 v2 X_d) r4 v4 v3 v2 44 X_d hF
      · replace hF := ip c5 hF
        refine jj_bipush hJ dX5_readItem_37 bp_59 ?_
        refine jj_goto hJ 44 dX5_readItem_39 rfl ?_
        exact w_X5_readItem_44 hJ (fun v4 v3 v2 X_d => ih v4 v3 v2 X_d) r4 v4 v3 v2 59 X_d hF
def p_X5_readItem (X_c : Nat → Int32) (X_d : Nat → Int32) (X_n : Int32) (a1 : Int32) : Option (Int32 × (Nat → Int32)) := (p_X5_letterAt X_c X_n a1).bind fun r2 => (p_X5_numbersBehind r2).bind fun r4 => q_X5_readItem_16 X_c X_n a1 FU 0 (a1 + 1) r4 X_d
end
theorem c_X5_readItem (l : Launch) (D : va_G) (cI cS cII : ClassId) (XA : Nat → Nat) (X_c : Nat → Int32) (X_d : Nat → Int32) (X_n : Int32) (a1 : Int32) {z_r : Int32} {z_X_d : Nat → Int32} (hF : p_X5_readItem X_c X_d X_n a1 = some (z_r, z_X_d)) : MJ l yX5_readItem cX5_readItem 7 (some .int) Rm_X5_readItem D (tysU cI cS cII) [.ref (XA 0), .int a1] (W_X5_readItem cI cS cII XA X_c X_d X_n) (some z_r) (W_X5_readItem cI cS cII XA X_c z_X_d X_n) := by
  refine mj_of (own := RX5) (by decide) rfl (Nat.le_of_ble_eq_true rfl) (fun J hJ => ?_)
  show J (W_X5_readItem cI cS cII XA X_c X_d X_n) 0 [(0, .ref (XA 0)), (1, .int a1)] []
  unfold p_X5_readItem at hF
  refine jj_aload_n hJ dX5_readItem_0 0 rfl rfl ?_
  refine jj_iload_n hJ dX5_readItem_1 1 rfl rfl ?_
  obtain ⟨r2, h1, hF⟩ := ob hF
  refine jj_callV0 hJ (c_X5_letterAt l D cI cS cII XA X_c X_d X_n a1 h1) dX5_readItem_2 kw_81 ⟨Nat.le_of_ble_eq_true rfl, Nat.le_of_ble_eq_true rfl, rfl, rfl⟩ kw_80 kw_82 kw_83 0 rfl rfl rfl rfl (Nat.le_of_ble_eq_true rfl) [0, 1, 2] rfl rfl ?_
  obtain ⟨r4, h3, hF⟩ := ob hF
  refine jj_callS0 hJ (c_X5_numbersBehind l D cI cS cII   r2 h3) dX5_readItem_5 kw_87 ⟨Nat.le_of_ble_eq_true rfl, Nat.le_of_ble_eq_true rfl, rfl, rfl⟩ kw_88 kw_89 rfl rfl (Nat.le_of_ble_eq_true rfl) [] rfl rfl ?_
  refine jj_istore_n hJ dX5_readItem_8 rfl (Nat.le_of_ble_eq_true rfl) (lv' := [(2, .int r4), (0, .ref (XA 0)), (1, .int a1)]) rfl ?_
  refine jj_iload_n hJ dX5_readItem_9 2 rfl rfl ?_
  refine jj_iconst hJ dX5_readItem_10 ic_1 ?_
  refine jj_iadd hJ dX5_readItem_11 ?_
  refine jj_istore_n hJ dX5_readItem_12 rfl (Nat.le_of_ble_eq_true rfl) (lv' := [(3, .int (a1 + 1)), (2, .int r4), (0, .ref (XA 0)), (1, .int a1)]) rfl ?_
  refine jj_iconst hJ dX5_readItem_13 ic_0 ?_
  refine jj_istore hJ dX5_readItem_14 (Nat.le_of_ble_eq_true rfl) (lv' := [(4, .int 0), (3, .int (a1 + 1)), (2, .int r4), (0, .ref (XA 0)), (1, .int a1)]) rfl ?_
  refine jj_lv hJ [0, 1, 2, 3] (lv' := [(4, .int 0), (3, .int (a1 + 1)), (2, .int r4), (0, .ref (XA 0))]) rfl ?_
  exact w_X5_readItem_16 hJ  FU 0 (a1 + 1) r4 X_d hF
section
def W_X5_isAllowed (cI cS cII : ClassId) (XA : Nat → Nat) (X_c : Nat → Int32) (X_d : Nat → Int32) (X_n : Int32) : va_W := [((XA 0), .inr (5, [.ref (XA 1), .ref (XA 2), .int X_n])), ((XA 1), .inl (cI, 200, .inl X_c)), ((XA 2), .inl (cI, 3, .inl X_d))]
abbrev Rm_X5_isAllowed : Room := { frames := 0, cells := 0, slots := 0, locals := 0 }
variable {l : Launch} {D : va_G} {cI cS cII : ClassId} {XA : Nat → Nat} {A : Nat → Prop} {J : jT}
variable {z_r : Int32}
def q_X5_isAllowed_71 (X_d : Nat → Int32) (a1 : Int32) (a2 : Int32)  (v3 : Int32) (s0 : Int32) : Option (Int32) := (rd X_d 3 0).bind fun x1 => if a2 ≤ x1 then (some 0) else (if a2 ≤ v3 then (some 0) else ((rd X_d 3 0).bind fun x5 => if x5 = v3 then (some 0) else (if 9 < s0 then (some 0) else (some 1))))
theorem w_X5_isAllowed_71 {X_c : Nat → Int32} {X_d : Nat → Int32} {X_n : Int32} {a1 : Int32} {a2 : Int32}  (hJ : jJ l cX5_isAllowed 5 D (tysU cI cS cII) RX5 Rm_X5_isAllowed (some .boolean) A (some z_r) (W_X5_isAllowed cI cS cII XA X_c X_d X_n) J)  : ∀ (v3 : Int32) (s0 : Int32), q_X5_isAllowed_71 X_d a1 a2 v3 s0 = some z_r → J (W_X5_isAllowed cI cS cII XA X_c X_d X_n) 71 [(3, .int v3), (0, .ref (XA 0)), (2, .int a2)] [.int s0] := by
  intro v3 s0 hF
  unfold q_X5_isAllowed_71 at hF
  refine jj_istore hJ dX5_isAllowed_71 (Nat.le_of_ble_eq_true rfl) (lv' := [(4, .int s0), (3, .int v3), (0, .ref (XA 0)), (2, .int a2)]) rfl ?_
  refine jj_aload_n hJ dX5_isAllowed_73 2 rfl rfl ?_
  refine jj_get hJ lay_X5 dX5_isAllowed_74 0 1 rfl rfl (Nat.le_of_ble_eq_true rfl) kw_94 rfl ?_
  refine jj_iconst hJ dX5_isAllowed_77 ic_0 ?_
  obtain ⟨x1, h2, hF⟩ := ob hF
  refine jj_iald hJ dX5_isAllowed_78 2 0 rfl rfl h2 ?_
  refine jj_iload_n hJ dX5_isAllowed_79 3 rfl rfl ?_
  refine jj_icmp_ge hJ 109 dX5_isAllowed_80 rfl (fun c3 => ?_) (fun c3 => ?_)
  · replace hF := ip c3 hF
    refine jj_iconst hJ dX5_isAllowed_109 ic_0 ?_
    cases Option.some.inj hF
    exact jj_zret hJ (Or.inl rfl) dX5_isAllowed_110
  · replace hF := iq c3 hF
    refine jj_iload_n hJ dX5_isAllowed_83 1 rfl rfl ?_
    refine jj_iload_n hJ dX5_isAllowed_84 3 rfl rfl ?_
    refine jj_icmp_ge hJ 109 dX5_isAllowed_85 rfl (fun c4 => ?_) (fun c4 => ?_)
    · replace hF := ip c4 hF
      refine jj_iconst hJ dX5_isAllowed_109 ic_0 ?_
      cases Option.some.inj hF
      exact jj_zret hJ (Or.inl rfl) dX5_isAllowed_110
    · replace hF := iq c4 hF
      refine jj_aload_n hJ dX5_isAllowed_88 2 rfl rfl ?_
      refine jj_get hJ lay_X5 dX5_isAllowed_89 0 1 rfl rfl (Nat.le_of_ble_eq_true rfl) kw_94 rfl ?_
      refine jj_iconst hJ dX5_isAllowed_92 ic_0 ?_
      obtain ⟨x5, h6, hF⟩ := ob hF
      refine jj_iald hJ dX5_isAllowed_93 2 0 rfl rfl h6 ?_
      refine jj_iload_n hJ dX5_isAllowed_94 1 rfl rfl ?_
      refine jj_icmp_eq hJ 109 dX5_isAllowed_95 rfl (fun c7 => ?_) (fun c7 => ?_)
      · replace hF := ip c7 hF
        refine jj_iconst hJ dX5_isAllowed_109 ic_0 ?_
        cases Option.some.inj hF
        exact jj_zret hJ (Or.inl rfl) dX5_isAllowed_110
      · replace hF := iq c7 hF
        refine jj_iload hJ dX5_isAllowed_98 0 rfl ?_
        refine jj_bipush hJ dX5_isAllowed_100 bp_9 ?_
        refine jj_icmp_gt hJ 109 dX5_isAllowed_102 rfl (fun c8 => ?_) (fun c8 => ?_)
        · replace hF := ip c8 hF
          refine jj_iconst hJ dX5_isAllowed_109 ic_0 ?_
          cases Option.some.inj hF
          exact jj_zret hJ (Or.inl rfl) dX5_isAllowed_110
        · replace hF := iq c8 hF
          refine jj_iconst hJ dX5_isAllowed_105 ic_1 ?_
          refine jj_goto hJ 110 dX5_isAllowed_106 rfl ?_
          cases Option.some.inj hF
          exact jj_zret hJ (Or.inr rfl) dX5_isAllowed_110
def q_X5_isAllowed_49 (X_d : Nat → Int32) (a1 : Int32) (a2 : Int32)  (s0 : Int32) : Option (Int32) := if a1 = 99 then ((rd X_d 3 1).bind fun x4 => q_X5_isAllowed_71 X_d a1 a2 s0 x4) else ((rd X_d 3 2).bind fun x2 => q_X5_isAllowed_71 X_d a1 a2 s0 x2)
theorem w_X5_isAllowed_49 {X_c : Nat → Int32} {X_d : Nat → Int32} {X_n : Int32} {a1 : Int32} {a2 : Int32}  (hJ : jJ l cX5_isAllowed 5 D (tysU cI cS cII) RX5 Rm_X5_isAllowed (some .boolean) A (some z_r) (W_X5_isAllowed cI cS cII XA X_c X_d X_n) J)  : ∀ (s0 : Int32), q_X5_isAllowed_49 X_d a1 a2 s0 = some z_r → J (W_X5_isAllowed cI cS cII XA X_c X_d X_n) 49 [(0, .ref (XA 0)), (1, .int a1), (2, .int a2)] [.int s0] := by
  intro s0 hF
  unfold q_X5_isAllowed_49 at hF
  refine jj_istore_n hJ dX5_isAllowed_49 rfl (Nat.le_of_ble_eq_true rfl) (lv' := [(3, .int s0), (0, .ref (XA 0)), (1, .int a1), (2, .int a2)]) rfl ?_
  refine jj_iload_n hJ dX5_isAllowed_50 2 rfl rfl ?_
  refine jj_bipush hJ dX5_isAllowed_51 bp_99 ?_
  refine jj_icmp_ne hJ 65 dX5_isAllowed_53 rfl (fun c1 => ?_) (fun c1 => ?_)
  · replace hF := iq c1 hF
    refine jj_aload_n hJ dX5_isAllowed_65 1 rfl rfl ?_
    refine jj_get hJ lay_X5 dX5_isAllowed_66 0 1 rfl rfl (Nat.le_of_ble_eq_true rfl) kw_94 rfl ?_
    refine jj_iconst hJ dX5_isAllowed_69 ic_2 ?_
    obtain ⟨x2, h3, hF⟩ := ob hF
    refine jj_iald hJ dX5_isAllowed_70 2 0 rfl rfl h3 ?_
    refine jj_lv hJ [0, 1, 3] (lv' := [(3, .int s0), (0, .ref (XA 0)), (2, .int a2)]) rfl ?_
    exact w_X5_isAllowed_71 hJ  s0 x2 hF
  · replace hF := ip c1 hF
    refine jj_aload_n hJ dX5_isAllowed_56 1 rfl rfl ?_
    refine jj_get hJ lay_X5 dX5_isAllowed_57 0 1 rfl rfl (Nat.le_of_ble_eq_true rfl) kw_94 rfl ?_
    refine jj_iconst hJ dX5_isAllowed_60 ic_1 ?_
    obtain ⟨x4, h5, hF⟩ := ob hF
    refine jj_iald hJ dX5_isAllowed_61 2 0 rfl rfl h5 ?_
    refine jj_goto hJ 71 dX5_isAllowed_62 rfl ?_
    refine jj_lv hJ [0, 1, 3] (lv' := [(3, .int s0), (0, .ref (XA 0)), (2, .int a2)]) rfl ?_
    exact w_X5_isAllowed_71 hJ  s0 x4 hF
def p_X5_isAllowed (X_d : Nat → Int32) (a1 : Int32) (a2 : Int32) : Option (Int32) := if a1 = 118 then (if 10 ≤ a2 then (some 0) else ((rd X_d 3 0).bind fun x8 => if 3 < x8 then (some 0) else (some 1))) else (if a1 = 99 then ((rd X_d 3 2).bind fun x5 => q_X5_isAllowed_49 X_d a1 a2 x5) else ((rd X_d 3 1).bind fun x3 => q_X5_isAllowed_49 X_d a1 a2 x3))
end
theorem c_X5_isAllowed (l : Launch) (D : va_G) (cI cS cII : ClassId) (XA : Nat → Nat) (X_c : Nat → Int32) (X_d : Nat → Int32) (X_n : Int32) (a1 : Int32) (a2 : Int32) {z_r : Int32} (hF : p_X5_isAllowed X_d a1 a2 = some z_r) : MJ l yX5_isAllowed cX5_isAllowed 5 (some .boolean) Rm_X5_isAllowed D (tysU cI cS cII) [.ref (XA 0), .int a1, .int a2] (W_X5_isAllowed cI cS cII XA X_c X_d X_n) (some z_r) (W_X5_isAllowed cI cS cII XA X_c X_d X_n) := by
  refine mj_of (own := RX5) (by decide) rfl (Nat.le_of_ble_eq_true rfl) (fun J hJ => ?_)
  show J (W_X5_isAllowed cI cS cII XA X_c X_d X_n) 0 [(0, .ref (XA 0)), (1, .int a1), (2, .int a2)] []
  unfold p_X5_isAllowed at hF
  refine jj_iload_n hJ dX5_isAllowed_0 1 rfl rfl ?_
  refine jj_bipush hJ dX5_isAllowed_1 bp_118 ?_
  refine jj_icmp_ne hJ 28 dX5_isAllowed_3 rfl (fun c1 => ?_) (fun c1 => ?_)
  · replace hF := iq c1 hF
    refine jj_iload_n hJ dX5_isAllowed_28 1 rfl rfl ?_
    refine jj_bipush hJ dX5_isAllowed_29 bp_99 ?_
    refine jj_icmp_ne hJ 43 dX5_isAllowed_31 rfl (fun c2 => ?_) (fun c2 => ?_)
    · replace hF := iq c2 hF
      refine jj_aload_n hJ dX5_isAllowed_43 0 rfl rfl ?_
      refine jj_get hJ lay_X5 dX5_isAllowed_44 0 1 rfl rfl (Nat.le_of_ble_eq_true rfl) kw_94 rfl ?_
      refine jj_iconst hJ dX5_isAllowed_47 ic_1 ?_
      obtain ⟨x3, h4, hF⟩ := ob hF
      refine jj_iald hJ dX5_isAllowed_48 2 0 rfl rfl h4 ?_
      exact w_X5_isAllowed_49 hJ  x3 hF
    · replace hF := ip c2 hF
      refine jj_aload_n hJ dX5_isAllowed_34 0 rfl rfl ?_
      refine jj_get hJ lay_X5 dX5_isAllowed_35 0 1 rfl rfl (Nat.le_of_ble_eq_true rfl) kw_94 rfl ?_
      refine jj_iconst hJ dX5_isAllowed_38 ic_2 ?_
      obtain ⟨x5, h6, hF⟩ := ob hF
      refine jj_iald hJ dX5_isAllowed_39 2 0 rfl rfl h6 ?_
      refine jj_goto hJ 49 dX5_isAllowed_40 rfl ?_
      exact w_X5_isAllowed_49 hJ  x5 hF
  · replace hF := ip c1 hF
    refine jj_iload_n hJ dX5_isAllowed_6 2 rfl rfl ?_
    refine jj_bipush hJ dX5_isAllowed_7 bp_10 ?_
    refine jj_icmp_ge hJ 26 dX5_isAllowed_9 rfl (fun c7 => ?_) (fun c7 => ?_)
    · replace hF := ip c7 hF
      refine jj_iconst hJ dX5_isAllowed_26 ic_0 ?_
      cases Option.some.inj hF
      exact jj_zret hJ (Or.inl rfl) dX5_isAllowed_27
    · replace hF := iq c7 hF
      refine jj_aload_n hJ dX5_isAllowed_12 0 rfl rfl ?_
      refine jj_get hJ lay_X5 dX5_isAllowed_13 0 1 rfl rfl (Nat.le_of_ble_eq_true rfl) kw_94 rfl ?_
      refine jj_iconst hJ dX5_isAllowed_16 ic_0 ?_
      obtain ⟨x8, h9, hF⟩ := ob hF
      refine jj_iald hJ dX5_isAllowed_17 2 0 rfl rfl h9 ?_
      refine jj_iconst hJ dX5_isAllowed_18 ic_3 ?_
      refine jj_icmp_gt hJ 26 dX5_isAllowed_19 rfl (fun c10 => ?_) (fun c10 => ?_)
      · replace hF := ip c10 hF
        refine jj_iconst hJ dX5_isAllowed_26 ic_0 ?_
        cases Option.some.inj hF
        exact jj_zret hJ (Or.inl rfl) dX5_isAllowed_27
      · replace hF := iq c10 hF
        refine jj_iconst hJ dX5_isAllowed_22 ic_1 ?_
        refine jj_goto hJ 27 dX5_isAllowed_23 rfl ?_
        cases Option.some.inj hF
        exact jj_zret hJ (Or.inr rfl) dX5_isAllowed_27
section
def W_X5_firstFault (cI cS cII : ClassId) (XA : Nat → Nat) (X_c : Nat → Int32) (X_d : Nat → Int32) (X_n : Int32) : va_W := [((XA 0), .inr (5, [.ref (XA 1), .ref (XA 2), .int X_n])), ((XA 1), .inl (cI, 200, .inl X_c)), ((XA 2), .inl (cI, 3, .inl X_d))]
abbrev Rm_X5_firstFault : Room := { frames := 3, cells := 0, slots := 0, locals := 70 }
variable {l : Launch} {D : va_G} {cI cS cII : ClassId} {XA : Nat → Nat} {A : Nat → Prop} {J : jT}
variable {z_r : Int32} {z_X_d : Nat → Int32}
def q_X5_firstFault_6 (X_c : Nat → Int32) (X_n : Int32)  : Nat → Int32 → Int32 → Int32 → (Nat → Int32) → Option (Int32 × (Nat → Int32))
  | 0, _, _, _, _ => none
  | n + 1, v3, v2, v1, X_d => if 200 ≤ v3 then (some ((-4), X_d)) else (if X_n ≤ v2 then (some ((-4), X_d)) else ((p_X5_readItem X_c X_d X_n v2).bind fun (r4, g5) => if r4 < 0 then (some (v2, g5)) else ((p_X5_letterAt X_c X_n v2).bind fun r8 => (p_X5_isAllowed g5 r8 v1).bind fun r10 => if r10 = 0 then (some (v2, g5)) else ((p_X5_letterAt X_c X_n v2).bind fun r13 => if r13 = 118 then (q_X5_firstFault_6 X_c X_n n (v3 + 1) r4 (v1 + 1) g5) else (q_X5_firstFault_6 X_c X_n n (v3 + 1) r4 v1 g5)))))
theorem w_X5_firstFault_6 {X_c : Nat → Int32} {X_n : Int32}   (hJ : jJ l cX5_firstFault 5 D (tysU cI cS cII) RX5 Rm_X5_firstFault (some .int) A (some z_r) (W_X5_firstFault cI cS cII XA X_c z_X_d X_n) J)  : ∀ (n : Nat) (v3 : Int32) (v2 : Int32) (v1 : Int32) (X_d : Nat → Int32), q_X5_firstFault_6 X_c X_n n v3 v2 v1 X_d = some (z_r, z_X_d) → J (W_X5_firstFault cI cS cII XA X_c X_d X_n) 6 [(3, .int v3), (2, .int v2), (1, .int v1), (0, .ref (XA 0))] [] := by
  intro n
  induction n with
  | zero =>
    intro v3 v2 v1 X_d hF
    exact no_some (show (none : Option (Int32 × (Nat → Int32))) = some (z_r, z_X_d) from hF)
  | succ n ih =>
    intro v3 v2 v1 X_d hF
    rw [q_X5_firstFault_6.eq_2] at hF
    refine jj_iload_n hJ dX5_firstFault_6 0 rfl rfl ?_
    refine jj_sipush hJ dX5_firstFault_7 sp_200 ?_
    refine jj_icmp_ge hJ 70 dX5_firstFault_10 rfl (fun c1 => ?_) (fun c1 => ?_)
    · replace hF := ip c1 hF
      refine jj_bipush hJ dX5_firstFault_70 bp_m4 ?_
      cases Option.some.inj hF
      exact jj_iret hJ dX5_firstFault_72
    · replace hF := iq c1 hF
      refine jj_iload_n hJ dX5_firstFault_13 1 rfl rfl ?_
      refine jj_aload_n hJ dX5_firstFault_14 3 rfl rfl ?_
      refine jj_get hJ lay_X5 dX5_firstFault_15 0 2 rfl rfl (Nat.le_of_ble_eq_true rfl) kw_78 rfl ?_
      refine jj_icmp_ge hJ 70 dX5_firstFault_18 rfl (fun c2 => ?_) (fun c2 => ?_)
      · replace hF := ip c2 hF
        refine jj_bipush hJ dX5_firstFault_70 bp_m4 ?_
        cases Option.some.inj hF
        exact jj_iret hJ dX5_firstFault_72
      · replace hF := iq c2 hF
        refine jj_aload_n hJ dX5_firstFault_21 3 rfl rfl ?_
        refine jj_iload_n hJ dX5_firstFault_22 1 rfl rfl ?_
        obtain ⟨⟨r4, g5⟩, h3, hF⟩ := ob hF
        refine jj_callV hJ (c_X5_readItem l D cI cS cII XA X_c X_d X_n v2 h3) dX5_firstFault_23 kw_100 ⟨Nat.le_of_ble_eq_true rfl, Nat.le_of_ble_eq_true rfl, rfl, rfl⟩ kw_99 kw_101 kw_102 0 rfl rfl rfl rfl (Nat.le_of_ble_eq_true rfl) [0, 1, 2] rfl rfl (wn := (W_X5_firstFault cI cS cII XA X_c g5 X_n)) (jNew_sel rfl [some 0, some 1, some 2] (by decide +kernel) rfl) ?_
        refine jj_istore hJ dX5_firstFault_26 (Nat.le_of_ble_eq_true rfl) (lv' := [(4, .int r4), (3, .int v3), (2, .int v2), (1, .int v1), (0, .ref (XA 0))]) rfl ?_
        refine jj_iload hJ dX5_firstFault_28 0 rfl ?_
        refine jj_if_lt hJ 46 dX5_firstFault_30 rfl (fun c6 => ?_) (fun c6 => ?_)
        · replace hF := ip c6 hF
          refine jj_iload_n hJ dX5_firstFault_46 2 rfl rfl ?_
          cases Option.some.inj hF
          exact jj_iret hJ dX5_firstFault_47
        · replace hF := iq c6 hF
          refine jj_aload_n hJ dX5_firstFault_33 4 rfl rfl ?_
          refine jj_aload_n hJ dX5_firstFault_34 4 rfl rfl ?_
          refine jj_iload_n hJ dX5_firstFault_35 2 rfl rfl ?_
          obtain ⟨r8, h7, hF⟩ := ob hF
          refine jj_callV0 hJ (c_X5_letterAt l D cI cS cII XA X_c g5 X_n v2 h7) dX5_firstFault_36 kw_81 ⟨Nat.le_of_ble_eq_true rfl, Nat.le_of_ble_eq_true rfl, rfl, rfl⟩ kw_80 kw_82 kw_83 0 rfl rfl rfl rfl (Nat.le_of_ble_eq_true rfl) [0, 1, 2] rfl rfl ?_
          refine jj_iload_n hJ dX5_firstFault_39 3 rfl rfl ?_
          obtain ⟨r10, h9, hF⟩ := ob hF
          refine jj_callV0 hJ (c_X5_isAllowed l D cI cS cII XA X_c g5 X_n r8 v1 h9) dX5_firstFault_40 kw_104 ⟨Nat.le_of_ble_eq_true rfl, Nat.le_of_ble_eq_true rfl, rfl, rfl⟩ kw_103 kw_105 kw_106 0 rfl rfl rfl rfl (Nat.le_of_ble_eq_true rfl) [0, 1, 2] rfl rfl ?_
          refine jj_if_ne hJ 48 dX5_firstFault_43 rfl (fun c11 => ?_) (fun c11 => ?_)
          · replace hF := iq c11 hF
            refine jj_aload_n hJ dX5_firstFault_48 4 rfl rfl ?_
            refine jj_iload_n hJ dX5_firstFault_49 2 rfl rfl ?_
            obtain ⟨r13, h12, hF⟩ := ob hF
            refine jj_callV0 hJ (c_X5_letterAt l D cI cS cII XA X_c g5 X_n v2 h12) dX5_firstFault_50 kw_81 ⟨Nat.le_of_ble_eq_true rfl, Nat.le_of_ble_eq_true rfl, rfl, rfl⟩ kw_80 kw_82 kw_83 0 rfl rfl rfl rfl (Nat.le_of_ble_eq_true rfl) [0, 1, 2] rfl rfl ?_
            refine jj_bipush hJ dX5_firstFault_53 bp_118 ?_
            refine jj_icmp_ne hJ 61 dX5_firstFault_55 rfl (fun c14 => ?_) (fun c14 => ?_)
            · replace hF := iq c14 hF
              refine jj_iload hJ dX5_firstFault_61 0 rfl ?_
              refine jj_istore_n hJ dX5_firstFault_63 rfl (Nat.le_of_ble_eq_true rfl) (lv' := [(2, .int r4), (4, .int r4), (3, .int v3), (1, .int v1), (0, .ref (XA 0))]) rfl ?_
              refine jj_iinc hJ dX5_firstFault_64 2 rfl (v := v3 + 1) (by rw [ic_1]) (Nat.le_of_ble_eq_true rfl) (lv' := [(3, .int (v3 + 1)), (2, .int r4), (4, .int r4), (1, .int v1), (0, .ref (XA 0))]) rfl ?_
              refine jj_goto hJ 6 dX5_firstFault_67 rfl ?_
              refine jj_lv hJ [0, 1, 3, 4] (lv' := [(3, .int (v3 + 1)), (2, .int r4), (1, .int v1), (0, .ref (XA 0))]) rfl ?_
              exact ih (v3 + 1) r4 v1 g5 hF
            · replace hF := ip c14 hF
              refine jj_iinc hJ dX5_firstFault_58 3 rfl (v := v1 + 1) (by rw [ic_1]) (Nat.le_of_ble_eq_true rfl) (lv' := [(1, .int (v1 + 1)), (4, .int r4), (3, .int v3), (2, .int v2), (0, .ref (XA 0))]) rfl ?_
              refine jj_iload hJ dX5_firstFault_61 1 rfl ?_
              refine jj_istore_n hJ dX5_firstFault_63 rfl (Nat.le_of_ble_eq_true rfl) (lv' := [(2, .int r4), (1, .int (v1 + 1)), (4, .int r4), (3, .int v3), (0, .ref (XA 0))]) rfl ?_
              refine jj_iinc hJ dX5_firstFault_64 3 rfl (v := v3 + 1) (by rw [ic_1]) (Nat.le_of_ble_eq_true rfl) (lv' := [(3, .int (v3 + 1)), (2, .int r4), (1, .int (v1 + 1)), (4, .int r4), (0, .ref (XA 0))]) rfl ?_
              refine jj_goto hJ 6 dX5_firstFault_67 rfl ?_
              refine jj_lv hJ [0, 1, 2, 4] (lv' := [(3, .int (v3 + 1)), (2, .int r4), (1, .int (v1 + 1)), (0, .ref (XA 0))]) rfl ?_
              exact ih (v3 + 1) r4 (v1 + 1) g5 hF
          · replace hF := ip c11 hF
            refine jj_iload_n hJ dX5_firstFault_46 2 rfl rfl ?_
            cases Option.some.inj hF
            exact jj_iret hJ dX5_firstFault_47
def p_X5_firstFault (X_c : Nat → Int32) (X_d : Nat → Int32) (X_n : Int32) : Option (Int32 × (Nat → Int32)) := q_X5_firstFault_6 X_c X_n FU 0 0 0 X_d
end
theorem c_X5_firstFault (l : Launch) (D : va_G) (cI cS cII : ClassId) (XA : Nat → Nat) (X_c : Nat → Int32) (X_d : Nat → Int32) (X_n : Int32)  {z_r : Int32} {z_X_d : Nat → Int32} (hF : p_X5_firstFault X_c X_d X_n = some (z_r, z_X_d)) : MJ l yX5_firstFault cX5_firstFault 5 (some .int) Rm_X5_firstFault D (tysU cI cS cII) [.ref (XA 0)] (W_X5_firstFault cI cS cII XA X_c X_d X_n) (some z_r) (W_X5_firstFault cI cS cII XA X_c z_X_d X_n) := by
  refine mj_of (own := RX5) (by decide) rfl (Nat.le_of_ble_eq_true rfl) (fun J hJ => ?_)
  show J (W_X5_firstFault cI cS cII XA X_c X_d X_n) 0 [(0, .ref (XA 0))] []
  unfold p_X5_firstFault at hF
  refine jj_iconst hJ dX5_firstFault_0 ic_0 ?_
  refine jj_istore_n hJ dX5_firstFault_1 rfl (Nat.le_of_ble_eq_true rfl) (lv' := [(1, .int 0), (0, .ref (XA 0))]) rfl ?_
  refine jj_iconst hJ dX5_firstFault_2 ic_0 ?_
  refine jj_istore_n hJ dX5_firstFault_3 rfl (Nat.le_of_ble_eq_true rfl) (lv' := [(2, .int 0), (1, .int 0), (0, .ref (XA 0))]) rfl ?_
  refine jj_iconst hJ dX5_firstFault_4 ic_0 ?_
  refine jj_istore_n hJ dX5_firstFault_5 rfl (Nat.le_of_ble_eq_true rfl) (lv' := [(3, .int 0), (2, .int 0), (1, .int 0), (0, .ref (XA 0))]) rfl ?_
  exact w_X5_firstFault_6 hJ  FU 0 0 0 X_d hF
end
section
theorem kw_107 : Cond.fieldLink RX0 9 (TX0 0).1 (TX0 0).2.1 (TX0 0).2.2.1 ∈ lw_tbl := tb1 (i := 109) rfl
theorem kw_108 : Cond.fieldLink RX0 15 (TX0 1).1 (TX0 1).2.1 (TX0 1).2.2.1 ∈ lw_tbl := tb1 (i := 110) rfl
theorem kw_109 : Cond.fieldLink RX0 25 (TX0 3).1 (TX0 3).2.1 (TX0 3).2.2.1 ∈ lw_tbl := tb1 (i := 112) rfl
theorem kw_110 : ((RX0, 43, (TX4 5).1, (TX4 5).2.1, (TX4 5).2.2.1, "UniverseLevels") : String × Nat × String × String × String × String) ∈ nestF := List.mem_of_getElem? (i := 16) rfl
theorem kw_111 : ((RX0, 46, (TX1 0).1, (TX1 0).2.1, (TX1 0).2.2.1, "UniverseLevels") : String × Nat × String × String × String × String) ∈ nestF := List.mem_of_getElem? (i := 18) rfl
theorem kw_112 : ((RX0, 52, (TX4 1).1, (TX4 1).2.1, (TX4 1).2.2.1, "UniverseLevels") : String × Nat × String × String × String × String) ∈ nestF := List.mem_of_getElem? (i := 4) rfl
theorem kw_113 : ((RX0, 55, (TX4 2).1, (TX4 2).2.1, (TX4 2).2.2.1, "UniverseLevels") : String × Nat × String × String × String × String) ∈ nestF := List.mem_of_getElem? (i := 7) rfl
theorem kw_114 : Cond.constant RX0 58 (-1000000) ∈ lw_tbl := tb3 (i := 16) rfl
theorem kw_115 : ((RX0, 59, (TX4 3).1, (TX4 3).2.1, (TX4 3).2.2.1, "UniverseLevels") : String × Nat × String × String × String × String) ∈ nestF := List.mem_of_getElem? (i := 9) rfl
theorem kw_116 : Cond.methodLink RX0 62 yX0_numberOf ∈ lw_tbl := tb3 (i := 21) rfl
theorem kw_117 : cwOk yX0_numberOf cX0_numberOf 2 (some .int) 1 := ⟨tb3 (i := 24) rfl, tb1 (i := 5) rfl, by decide, by decide, by decide +kernel⟩
theorem kw_118 : Cond.instanceMethod yX0_numberOf ∈ lw_tbl := tb3 (i := 23) rfl
theorem kw_119 : Cond.selects RX0 yX0_numberOf yX0_numberOf ∈ lw_tbl := tsel (i := 37) (q := (⟨"UniverseLevels$Against", "numberOf", "(I)I"⟩, 4)) rfl
theorem ic_m1 : Int32.ofInt (-1) = (-1 : Int32) := by decide
theorem kw_120 : Cond.methodLink RX0 21 yX0_gather ∈ lw_tbl := tb3 (i := 12) rfl
theorem kw_121 : cwOk yX0_gather cX0_gather 9 none 5 := ⟨tb3 (i := 15) rfl, tb1 (i := 5) rfl, by decide, by decide, by decide +kernel⟩
theorem kw_122 : Cond.instanceMethod yX0_gather ∈ lw_tbl := tb3 (i := 14) rfl
theorem kw_123 : Cond.selects RX0 yX0_gather yX0_gather ∈ lw_tbl := tsel (i := 35) (q := (⟨"UniverseLevels$Against", "gather", "(LUniverseLevels$State;LUniverseLevels$Lengths;III)V"⟩, 4)) rfl
theorem sp_560 : (Int16.ofInt (560)).toInt32 = (560 : Int32) := by decide
theorem kw_124 : Cond.methodLink RX0 29 yX0_pickedBits ∈ lw_tbl := tb3 (i := 17) rfl
theorem kw_125 : cwOk yX0_pickedBits cX0_pickedBits 4 (some .int) 1 := ⟨tb3 (i := 20) rfl, tb1 (i := 5) rfl, by decide, by decide, by decide +kernel⟩
theorem kw_126 : Cond.instanceMethod yX0_pickedBits ∈ lw_tbl := tb3 (i := 19) rfl
theorem kw_127 : Cond.selects RX0 yX0_pickedBits yX0_pickedBits ∈ lw_tbl := tsel (i := 36) (q := (⟨"UniverseLevels$Against", "pickedBits", "(I)I"⟩, 4)) rfl
theorem kw_128 : Cond.fieldLink RX0 18 (TX0 2).1 (TX0 2).2.1 (TX0 2).2.2.1 ∈ lw_tbl := tb1 (i := 111) rfl
theorem kw_129 : ((RX0, 33, yX4_lengthsFrom, "UniverseLevels") : String × Nat × MethodName × String) ∈ nestM := List.mem_of_getElem? (i := 24) rfl
theorem kw_130 : Cond.methodLink RX0 39 yX0_nextChoice ∈ lw_tbl := tb3 (i := 26) rfl
theorem kw_131 : cwOk yX0_nextChoice cX0_nextChoice 4 (some .boolean) 1 := ⟨tb3 (i := 29) rfl, tb1 (i := 5) rfl, by decide, by decide, by decide +kernel⟩
theorem kw_132 : Cond.instanceMethod yX0_nextChoice ∈ lw_tbl := tb3 (i := 28) rfl
theorem kw_133 : Cond.selects RX0 yX0_nextChoice yX0_nextChoice ∈ lw_tbl := tsel (i := 38) (q := (⟨"UniverseLevels$Against", "nextChoice", "(I)Z"⟩, 4)) rfl
section
def W_X0_numberOf (cI cS cII : ClassId) (AA : Nat → Nat) (A_i : Nat → Int32) (A_p : Nat → Int32) (A_t : Nat → Int32) (A_m : Int32) : va_W := [((AA 0), .inr (0, [.ref (AA 1), .ref (AA 2), .ref (AA 3), .int A_m])), ((AA 1), .inl (cI, 16, .inl A_i)), ((AA 2), .inl (cI, 3, .inl A_p)), ((AA 3), .inl (cI, 10, .inl A_t))]
abbrev Rm_X0_numberOf : Room := { frames := 0, cells := 0, slots := 0, locals := 0 }
variable {l : Launch} {D : va_G} {cI cS cII : ClassId} {AA : Nat → Nat} {A : Nat → Prop} {J : jT}
variable {z_r : Int32}
def p_X0_numberOf (A_i : Nat → Int32) (A_p : Nat → Int32) (a1 : Int32) : Option (Int32) := (rd A_p 3 a1).bind fun x1 => (rd A_i 16 x1).bind fun x3 => some x3
end
theorem c_X0_numberOf (l : Launch) (D : va_G) (cI cS cII : ClassId) (AA : Nat → Nat) (A_i : Nat → Int32) (A_p : Nat → Int32) (A_t : Nat → Int32) (A_m : Int32) (a1 : Int32) {z_r : Int32} (hF : p_X0_numberOf A_i A_p a1 = some z_r) : MJ l yX0_numberOf cX0_numberOf 2 (some .int) Rm_X0_numberOf D (tysU cI cS cII) [.ref (AA 0), .int a1] (W_X0_numberOf cI cS cII AA A_i A_p A_t A_m) (some z_r) (W_X0_numberOf cI cS cII AA A_i A_p A_t A_m) := by
  refine mj_of (own := RX0) (by decide) rfl (Nat.le_of_ble_eq_true rfl) (fun J hJ => ?_)
  show J (W_X0_numberOf cI cS cII AA A_i A_p A_t A_m) 0 [(0, .ref (AA 0)), (1, .int a1)] []
  unfold p_X0_numberOf at hF
  refine jj_aload_n hJ dX0_numberOf_0 0 rfl rfl ?_
  refine jj_get hJ lay_X0 dX0_numberOf_1 0 0 rfl rfl (Nat.le_of_ble_eq_true rfl) kw_107 rfl ?_
  refine jj_aload_n hJ dX0_numberOf_4 0 rfl rfl ?_
  refine jj_get hJ lay_X0 dX0_numberOf_5 0 1 rfl rfl (Nat.le_of_ble_eq_true rfl) kw_108 rfl ?_
  refine jj_iload_n hJ dX0_numberOf_8 1 rfl rfl ?_
  obtain ⟨x1, h2, hF⟩ := ob hF
  refine jj_iald hJ dX0_numberOf_9 2 0 rfl rfl h2 ?_
  obtain ⟨x3, h4, hF⟩ := ob hF
  refine jj_iald hJ dX0_numberOf_10 1 0 rfl rfl h4 ?_
  cases Option.some.inj hF
  exact jj_iret hJ dX0_numberOf_11
section
def W_X0_gather (cI cS cII : ClassId) (AA : Nat → Nat) (SA : Nat → Nat) (LA : Nat → Nat) (A_i : Nat → Int32) (A_p : Nat → Int32) (A_t : Nat → Int32) (A_m : Int32) (S_k : Nat → Int32) (S_f : Nat → Int32) (S_t : Nat → Int32) (S_w : Nat → Int32) (S_l : Int32) (S_b : Int32) (L_G : Nat → Nat → Int32) (L_l : Int32) : va_W := ([((AA 0), .inr (0, [.ref (AA 1), .ref (AA 2), .ref (AA 3), .int A_m])), ((AA 1), .inl (cI, 16, .inl A_i)), ((AA 2), .inl (cI, 3, .inl A_p)), ((AA 3), .inl (cI, 10, .inl A_t)), ((SA 0), .inr (4, [.ref (SA 1), .ref (SA 2), .ref (SA 3), .ref (SA 4), .int S_l, .int S_b])), ((SA 1), .inl (cI, 10, .inl S_k)), ((SA 2), .inl (cI, 16, .inl S_f)), ((SA 3), .inl (cI, 16, .inl S_t)), ((SA 4), .inl (cI, 16, .inl S_w)), ((LA 0), .inr (1, [.ref (LA 1), .int L_l])), ((LA 1), .inl (cII, 10, .inr (.inr (.inr (.inr (fun i => some (LA (i + 2))))))))] ++ rw10 cI (fun i => LA (i + 2)) L_G)
abbrev Rm_X0_gather : Room := { frames := 0, cells := 0, slots := 0, locals := 0 }
variable {l : Launch} {D : va_G} {cI cS cII : ClassId} {AA : Nat → Nat} {SA : Nat → Nat} {LA : Nat → Nat} {A : Nat → Prop} {J : jT}
variable {z_A_i : Nat → Int32} {z_A_m : Int32}
def q_X0_gather_8 (S_f : Nat → Int32) (S_t : Nat → Int32) (S_w : Nat → Int32) (S_b : Int32) (L_G : Nat → Nat → Int32) (a3 : Int32) (a4 : Int32) (a5 : Int32)  : Nat → Int32 → (Nat → Int32) → Int32 → Option ((Nat → Int32) × Int32)
  | 0, _, _, _ => none
  | n + 1, v6, A_i, A_m => if S_b ≤ v6 then (some (A_i, A_m)) else ((ix 10 a5).bind fun j2 => (rd S_f 16 v6).bind fun x4 => (rd (L_G j2) 10 x4).bind fun x6 => (rd S_t 16 v6).bind fun x8 => (ix 10 x8).bind fun j10 => (rd (L_G j10) 10 a3).bind fun x12 => if x6 = ((-1000000)) then (q_X0_gather_8 S_f S_t S_w S_b L_G a3 a4 a5 n (v6 + 1) A_i A_m) else (if x12 = ((-1000000)) then (q_X0_gather_8 S_f S_t S_w S_b L_G a3 a4 a5 n (v6 + 1) A_i A_m) else ((rd S_w 16 v6).bind fun x16 => if (((x6 + x16) + x12) + a4) ≤ 0 then (q_X0_gather_8 S_f S_t S_w S_b L_G a3 a4 a5 n (v6 + 1) A_i A_m) else ((wr A_i 16 A_m v6).bind fun g19 => q_X0_gather_8 S_f S_t S_w S_b L_G a3 a4 a5 n (v6 + 1) g19 (A_m + 1)))))
theorem w_X0_gather_8 {A_p : Nat → Int32} {A_t : Nat → Int32} {S_k : Nat → Int32} {S_f : Nat → Int32} {S_t : Nat → Int32} {S_w : Nat → Int32} {S_l : Int32} {S_b : Int32} {L_G : Nat → Nat → Int32} {L_l : Int32} {a3 : Int32} {a4 : Int32} {a5 : Int32}  (hJ : jJ l cX0_gather 9 D (tysU cI cS cII) RX0 Rm_X0_gather none A none (W_X0_gather cI cS cII AA SA LA z_A_i A_p A_t z_A_m S_k S_f S_t S_w S_l S_b L_G L_l) J)  : ∀ (n : Nat) (v6 : Int32) (A_i : Nat → Int32) (A_m : Int32), q_X0_gather_8 S_f S_t S_w S_b L_G a3 a4 a5 n v6 A_i A_m = some (z_A_i, z_A_m) → J (W_X0_gather cI cS cII AA SA LA A_i A_p A_t A_m S_k S_f S_t S_w S_l S_b L_G L_l) 8 [(6, .int v6), (0, .ref (AA 0)), (1, .ref (SA 0)), (2, .ref (LA 0)), (3, .int a3), (4, .int a4), (5, .int a5)] [] := by
  intro n
  induction n with
  | zero =>
    intro v6 A_i A_m hF
    exact no_some (show (none : Option ((Nat → Int32) × Int32)) = some (z_A_i, z_A_m) from hF)
  | succ n ih =>
    intro v6 A_i A_m hF
    rw [q_X0_gather_8.eq_2] at hF
    refine jj_iload hJ dX0_gather_8 0 rfl ?_
    refine jj_aload_n hJ dX0_gather_10 2 rfl rfl ?_
    refine jj_getN hJ lay_X4 dX0_gather_11 4 5 rfl rfl (Nat.le_of_ble_eq_true rfl) kw_110 rfl ?_
    refine jj_icmp_ge hJ 110 dX0_gather_14 rfl (fun c1 => ?_) (fun c1 => ?_)
    · replace hF := ip c1 hF
      cases Option.some.inj hF
      exact jj_vret hJ dX0_gather_110
    · replace hF := iq c1 hF
      refine jj_aload_n hJ dX0_gather_17 3 rfl rfl ?_
      refine jj_getN hJ lay_X1 dX0_gather_18 9 0 rfl rfl (Nat.le_of_ble_eq_true rfl) kw_111 rfl ?_
      refine jj_iload hJ dX0_gather_21 6 rfl ?_
      obtain ⟨j2, h3, hF⟩ := ob hF
      refine jj_aald hJ dX0_gather_23 10 2 rfl rfl rfl (ix_some h3).1 (congrArg (fun i => some (LA (i + 2))) (ix_some h3).2.1) ?_
      refine jj_aload_n hJ dX0_gather_24 2 rfl rfl ?_
      refine jj_getN hJ lay_X4 dX0_gather_25 4 1 rfl rfl (Nat.le_of_ble_eq_true rfl) kw_112 rfl ?_
      refine jj_iload hJ dX0_gather_28 0 rfl ?_
      obtain ⟨x4, h5, hF⟩ := ob hF
      refine jj_iald hJ dX0_gather_30 6 0 rfl rfl h5 ?_
      obtain ⟨x6, h7, hF⟩ := ob hF
      refine jj_iald hJ dX0_gather_31 (11 + j2) 0 (rw10_get _ (ix_some h3).2.2) rfl h7 ?_
      refine jj_istore hJ dX0_gather_32 (Nat.le_of_ble_eq_true rfl) (lv' := [(7, .int x6), (6, .int v6), (0, .ref (AA 0)), (1, .ref (SA 0)), (2, .ref (LA 0)), (3, .int a3), (4, .int a4), (5, .int a5)]) rfl ?_
      refine jj_aload_n hJ dX0_gather_34 4 rfl rfl ?_
      refine jj_getN hJ lay_X1 dX0_gather_35 9 0 rfl rfl (Nat.le_of_ble_eq_true rfl) kw_111 rfl ?_
      refine jj_aload_n hJ dX0_gather_38 3 rfl rfl ?_
      refine jj_getN hJ lay_X4 dX0_gather_39 4 2 rfl rfl (Nat.le_of_ble_eq_true rfl) kw_113 rfl ?_
      refine jj_iload hJ dX0_gather_42 1 rfl ?_
      obtain ⟨x8, h9, hF⟩ := ob hF
      refine jj_iald hJ dX0_gather_44 7 0 rfl rfl h9 ?_
      obtain ⟨j10, h11, hF⟩ := ob hF
      refine jj_aald hJ dX0_gather_45 10 2 rfl rfl rfl (ix_some h11).1 (congrArg (fun i => some (LA (i + 2))) (ix_some h11).2.1) ?_
      refine jj_iload_n hJ dX0_gather_46 5 rfl rfl ?_
      obtain ⟨x12, h13, hF⟩ := ob hF
      refine jj_iald hJ dX0_gather_47 (11 + j10) 0 (rw10_get _ (ix_some h11).2.2) rfl h13 ?_
      refine jj_istore hJ dX0_gather_48 (Nat.le_of_ble_eq_true rfl) (lv' := [(8, .int x12), (7, .int x6), (6, .int v6), (0, .ref (AA 0)), (1, .ref (SA 0)), (2, .ref (LA 0)), (3, .int a3), (4, .int a4), (5, .int a5)]) rfl ?_
      refine jj_iload hJ dX0_gather_50 1 rfl ?_
      refine jj_ldc hJ dX0_gather_52 kw_114 ?_
      refine jj_icmp_eq hJ 104 dX0_gather_54 rfl (fun c14 => ?_) (fun c14 => ?_)
      · replace hF := ip c14 hF
        refine jj_iinc hJ dX0_gather_104 2 rfl (v := v6 + 1) (by rw [ic_1]) (Nat.le_of_ble_eq_true rfl) (lv' := [(6, .int (v6 + 1)), (8, .int x12), (7, .int x6), (0, .ref (AA 0)), (1, .ref (SA 0)), (2, .ref (LA 0)), (3, .int a3), (4, .int a4), (5, .int a5)]) rfl ?_
        refine jj_goto hJ 8 dX0_gather_107 rfl ?_
        refine jj_lv hJ [0, 3, 4, 5, 6, 7, 8] (lv' := [(6, .int (v6 + 1)), (0, .ref (AA 0)), (1, .ref (SA 0)), (2, .ref (LA 0)), (3, .int a3), (4, .int a4), (5, .int a5)]) rfl ?_
        exact ih (v6 + 1) A_i A_m hF
      · replace hF := iq c14 hF
        refine jj_iload hJ dX0_gather_57 0 rfl ?_
        refine jj_ldc hJ dX0_gather_59 kw_114 ?_
        refine jj_icmp_eq hJ 104 dX0_gather_61 rfl (fun c15 => ?_) (fun c15 => ?_)
        · replace hF := ip c15 hF
          refine jj_iinc hJ dX0_gather_104 2 rfl (v := v6 + 1) (by rw [ic_1]) (Nat.le_of_ble_eq_true rfl) (lv' := [(6, .int (v6 + 1)), (8, .int x12), (7, .int x6), (0, .ref (AA 0)), (1, .ref (SA 0)), (2, .ref (LA 0)), (3, .int a3), (4, .int a4), (5, .int a5)]) rfl ?_
          refine jj_goto hJ 8 dX0_gather_107 rfl ?_
          refine jj_lv hJ [0, 3, 4, 5, 6, 7, 8] (lv' := [(6, .int (v6 + 1)), (0, .ref (AA 0)), (1, .ref (SA 0)), (2, .ref (LA 0)), (3, .int a3), (4, .int a4), (5, .int a5)]) rfl ?_
          exact ih (v6 + 1) A_i A_m hF
        · replace hF := iq c15 hF
          refine jj_iload hJ dX0_gather_64 1 rfl ?_
          refine jj_aload_n hJ dX0_gather_66 4 rfl rfl ?_
          refine jj_getN hJ lay_X4 dX0_gather_67 4 3 rfl rfl (Nat.le_of_ble_eq_true rfl) kw_115 rfl ?_
          refine jj_iload hJ dX0_gather_70 2 rfl ?_
          obtain ⟨x16, h17, hF⟩ := ob hF
          refine jj_iald hJ dX0_gather_72 8 0 rfl rfl h17 ?_
          refine jj_iadd hJ dX0_gather_73 ?_
          refine jj_iload hJ dX0_gather_74 0 rfl ?_
          refine jj_iadd hJ dX0_gather_76 ?_
          refine jj_iload hJ dX0_gather_77 7 rfl ?_
          refine jj_iadd hJ dX0_gather_79 ?_
          refine jj_if_le hJ 104 dX0_gather_80 rfl (fun c18 => ?_) (fun c18 => ?_)
          · replace hF := ip c18 hF
            refine jj_iinc hJ dX0_gather_104 2 rfl (v := v6 + 1) (by rw [ic_1]) (Nat.le_of_ble_eq_true rfl) (lv' := [(6, .int (v6 + 1)), (8, .int x12), (7, .int x6), (0, .ref (AA 0)), (1, .ref (SA 0)), (2, .ref (LA 0)), (3, .int a3), (4, .int a4), (5, .int a5)]) rfl ?_
            refine jj_goto hJ 8 dX0_gather_107 rfl ?_
            refine jj_lv hJ [0, 3, 4, 5, 6, 7, 8] (lv' := [(6, .int (v6 + 1)), (0, .ref (AA 0)), (1, .ref (SA 0)), (2, .ref (LA 0)), (3, .int a3), (4, .int a4), (5, .int a5)]) rfl ?_
            exact ih (v6 + 1) A_i A_m hF
          · replace hF := iq c18 hF
            refine jj_aload_n hJ dX0_gather_83 3 rfl rfl ?_
            refine jj_get hJ lay_X0 dX0_gather_84 0 0 rfl rfl (Nat.le_of_ble_eq_true rfl) kw_107 rfl ?_
            refine jj_aload_n hJ dX0_gather_87 3 rfl rfl ?_
            refine jj_get hJ lay_X0 dX0_gather_88 0 3 rfl rfl (Nat.le_of_ble_eq_true rfl) kw_109 rfl ?_
            refine jj_iload hJ dX0_gather_91 2 rfl ?_
            obtain ⟨g19, h20, hF⟩ := ob hF
            refine jj_iast hJ dX0_gather_93 1 0 rfl rfl h20 (wn := (W_X0_gather cI cS cII AA SA LA g19 A_p A_t A_m S_k S_f S_t S_w S_l S_b L_G L_l)) rfl ?_
            refine jj_aload_n hJ dX0_gather_94 3 rfl rfl ?_
            refine jj_dup hJ dX0_gather_95 rfl ?_
            refine jj_get hJ lay_X0 dX0_gather_96 0 3 rfl rfl (Nat.le_of_ble_eq_true rfl) kw_109 rfl ?_
            refine jj_iconst hJ dX0_gather_99 ic_1 ?_
            refine jj_iadd hJ dX0_gather_100 ?_
            refine jj_puti hJ lay_X0 tyX0 tyX0_ok nmX0 dX0_gather_101 0 3 rfl rfl (Nat.le_of_ble_eq_true rfl) kw_109 rfl rfl (Nat.le_of_ble_eq_true rfl) (wn := (W_X0_gather cI cS cII AA SA LA g19 A_p A_t (A_m + 1) S_k S_f S_t S_w S_l S_b L_G L_l)) rfl ?_
            refine jj_iinc hJ dX0_gather_104 2 rfl (v := v6 + 1) (by rw [ic_1]) (Nat.le_of_ble_eq_true rfl) (lv' := [(6, .int (v6 + 1)), (8, .int x12), (7, .int x6), (0, .ref (AA 0)), (1, .ref (SA 0)), (2, .ref (LA 0)), (3, .int a3), (4, .int a4), (5, .int a5)]) rfl ?_
            refine jj_goto hJ 8 dX0_gather_107 rfl ?_
            refine jj_lv hJ [0, 3, 4, 5, 6, 7, 8] (lv' := [(6, .int (v6 + 1)), (0, .ref (AA 0)), (1, .ref (SA 0)), (2, .ref (LA 0)), (3, .int a3), (4, .int a4), (5, .int a5)]) rfl ?_
            exact ih (v6 + 1) g19 (A_m + 1) hF
def p_X0_gather (A_i : Nat → Int32) (A_m : Int32) (S_f : Nat → Int32) (S_t : Nat → Int32) (S_w : Nat → Int32) (S_b : Int32) (L_G : Nat → Nat → Int32) (a3 : Int32) (a4 : Int32) (a5 : Int32) : Option ((Nat → Int32) × Int32) := q_X0_gather_8 S_f S_t S_w S_b L_G a3 a4 a5 FU 0 A_i 0
end
theorem c_X0_gather (l : Launch) (D : va_G) (cI cS cII : ClassId) (AA : Nat → Nat) (SA : Nat → Nat) (LA : Nat → Nat) (A_i : Nat → Int32) (A_p : Nat → Int32) (A_t : Nat → Int32) (A_m : Int32) (S_k : Nat → Int32) (S_f : Nat → Int32) (S_t : Nat → Int32) (S_w : Nat → Int32) (S_l : Int32) (S_b : Int32) (L_G : Nat → Nat → Int32) (L_l : Int32) (a3 : Int32) (a4 : Int32) (a5 : Int32) {z_A_i : Nat → Int32} {z_A_m : Int32} (hF : p_X0_gather A_i A_m S_f S_t S_w S_b L_G a3 a4 a5 = some (z_A_i, z_A_m)) : MJ l yX0_gather cX0_gather 9 none Rm_X0_gather D (tysU cI cS cII) [.ref (AA 0), .ref (SA 0), .ref (LA 0), .int a3, .int a4, .int a5] (W_X0_gather cI cS cII AA SA LA A_i A_p A_t A_m S_k S_f S_t S_w S_l S_b L_G L_l) none (W_X0_gather cI cS cII AA SA LA z_A_i A_p A_t z_A_m S_k S_f S_t S_w S_l S_b L_G L_l) := by
  refine mj_of (own := RX0) (by decide) rfl (Nat.le_of_ble_eq_true rfl) (fun J hJ => ?_)
  show J (W_X0_gather cI cS cII AA SA LA A_i A_p A_t A_m S_k S_f S_t S_w S_l S_b L_G L_l) 0 [(0, .ref (AA 0)), (1, .ref (SA 0)), (2, .ref (LA 0)), (3, .int a3), (4, .int a4), (5, .int a5)] []
  unfold p_X0_gather at hF
  refine jj_aload_n hJ dX0_gather_0 0 rfl rfl ?_
  refine jj_iconst hJ dX0_gather_1 ic_0 ?_
  refine jj_puti hJ lay_X0 tyX0 tyX0_ok nmX0 dX0_gather_2 0 3 rfl rfl (Nat.le_of_ble_eq_true rfl) kw_109 rfl rfl (Nat.le_of_ble_eq_true rfl) (wn := (W_X0_gather cI cS cII AA SA LA A_i A_p A_t 0 S_k S_f S_t S_w S_l S_b L_G L_l)) rfl ?_
  refine jj_iconst hJ dX0_gather_5 ic_0 ?_
  refine jj_istore hJ dX0_gather_6 (Nat.le_of_ble_eq_true rfl) (lv' := [(6, .int 0), (0, .ref (AA 0)), (1, .ref (SA 0)), (2, .ref (LA 0)), (3, .int a3), (4, .int a4), (5, .int a5)]) rfl ?_
  exact w_X0_gather_8 hJ  FU 0 A_i 0 hF
section
def W_X0_pickedBits (cI cS cII : ClassId) (AA : Nat → Nat) (A_i : Nat → Int32) (A_p : Nat → Int32) (A_t : Nat → Int32) (A_m : Int32) : va_W := [((AA 0), .inr (0, [.ref (AA 1), .ref (AA 2), .ref (AA 3), .int A_m])), ((AA 1), .inl (cI, 16, .inl A_i)), ((AA 2), .inl (cI, 3, .inl A_p)), ((AA 3), .inl (cI, 10, .inl A_t))]
abbrev Rm_X0_pickedBits : Room := { frames := 1, cells := 0, slots := 0, locals := 21 }
variable {l : Launch} {D : va_G} {cI cS cII : ClassId} {AA : Nat → Nat} {A : Nat → Prop} {J : jT}
variable {z_r : Int32}
def q_X0_pickedBits_4 (A_i : Nat → Int32) (A_p : Nat → Int32) (a1 : Int32)  : Nat → Int32 → Int32 → Option (Int32)
  | 0, _, _ => none
  | n + 1, v3, v2 => if a1 ≤ v3 then (some v2) else ((p_X0_numberOf A_i A_p v3).bind fun r3 => q_X0_pickedBits_4 A_i A_p a1 n (v3 + 1) (v2 ||| (1 <<< (r3 &&& 31))))
theorem w_X0_pickedBits_4 {A_i : Nat → Int32} {A_p : Nat → Int32} {A_t : Nat → Int32} {A_m : Int32} {a1 : Int32}  (hJ : jJ l cX0_pickedBits 4 D (tysU cI cS cII) RX0 Rm_X0_pickedBits (some .int) A (some z_r) (W_X0_pickedBits cI cS cII AA A_i A_p A_t A_m) J)  : ∀ (n : Nat) (v3 : Int32) (v2 : Int32), q_X0_pickedBits_4 A_i A_p a1 n v3 v2 = some z_r → J (W_X0_pickedBits cI cS cII AA A_i A_p A_t A_m) 4 [(3, .int v3), (2, .int v2), (0, .ref (AA 0)), (1, .int a1)] [] := by
  intro n
  induction n with
  | zero =>
    intro v3 v2 hF
    exact no_some (show (none : Option (Int32)) = some z_r from hF)
  | succ n ih =>
    intro v3 v2 hF
    rw [q_X0_pickedBits_4.eq_2] at hF
    refine jj_iload_n hJ dX0_pickedBits_4 0 rfl rfl ?_
    refine jj_iload_n hJ dX0_pickedBits_5 3 rfl rfl ?_
    refine jj_icmp_ge hJ 25 dX0_pickedBits_6 rfl (fun c1 => ?_) (fun c1 => ?_)
    · replace hF := ip c1 hF
      refine jj_iload_n hJ dX0_pickedBits_25 1 rfl rfl ?_
      cases Option.some.inj hF
      exact jj_iret hJ dX0_pickedBits_26
    · replace hF := iq c1 hF
      refine jj_iload_n hJ dX0_pickedBits_9 1 rfl rfl ?_
      refine jj_iconst hJ dX0_pickedBits_10 ic_1 ?_
      refine jj_aload_n hJ dX0_pickedBits_11 2 rfl rfl ?_
      refine jj_iload_n hJ dX0_pickedBits_12 0 rfl rfl ?_
      obtain ⟨r3, h2, hF⟩ := ob hF
      refine jj_callV0 hJ (c_X0_numberOf l D cI cS cII AA A_i A_p A_t A_m v3 h2) dX0_pickedBits_13 kw_117 ⟨Nat.le_of_ble_eq_true rfl, Nat.le_of_ble_eq_true rfl, rfl, rfl⟩ kw_116 kw_118 kw_119 0 rfl rfl rfl rfl (Nat.le_of_ble_eq_true rfl) [0, 1, 2, 3] rfl rfl ?_
      refine jj_ishl hJ dX0_pickedBits_16 ?_
      refine jj_ior hJ dX0_pickedBits_17 ?_
      refine jj_istore_n hJ dX0_pickedBits_18 rfl (Nat.le_of_ble_eq_true rfl) (lv' := [(2, .int (v2 ||| (1 <<< (r3 &&& 31)))), (3, .int v3), (0, .ref (AA 0)), (1, .int a1)]) rfl ?_
      refine jj_iinc hJ dX0_pickedBits_19 1 rfl (v := v3 + 1) (by rw [ic_1]) (Nat.le_of_ble_eq_true rfl) (lv' := [(3, .int (v3 + 1)), (2, .int (v2 ||| (1 <<< (r3 &&& 31)))), (0, .ref (AA 0)), (1, .int a1)]) rfl ?_
      refine jj_goto hJ 4 dX0_pickedBits_22 rfl ?_
      exact ih (v3 + 1) (v2 ||| (1 <<< (r3 &&& 31))) hF
def p_X0_pickedBits (A_i : Nat → Int32) (A_p : Nat → Int32) (a1 : Int32) : Option (Int32) := q_X0_pickedBits_4 A_i A_p a1 FU 0 0
end
theorem c_X0_pickedBits (l : Launch) (D : va_G) (cI cS cII : ClassId) (AA : Nat → Nat) (A_i : Nat → Int32) (A_p : Nat → Int32) (A_t : Nat → Int32) (A_m : Int32) (a1 : Int32) {z_r : Int32} (hF : p_X0_pickedBits A_i A_p a1 = some z_r) : MJ l yX0_pickedBits cX0_pickedBits 4 (some .int) Rm_X0_pickedBits D (tysU cI cS cII) [.ref (AA 0), .int a1] (W_X0_pickedBits cI cS cII AA A_i A_p A_t A_m) (some z_r) (W_X0_pickedBits cI cS cII AA A_i A_p A_t A_m) := by
  refine mj_of (own := RX0) (by decide) rfl (Nat.le_of_ble_eq_true rfl) (fun J hJ => ?_)
  show J (W_X0_pickedBits cI cS cII AA A_i A_p A_t A_m) 0 [(0, .ref (AA 0)), (1, .int a1)] []
  unfold p_X0_pickedBits at hF
  refine jj_iconst hJ dX0_pickedBits_0 ic_0 ?_
  refine jj_istore_n hJ dX0_pickedBits_1 rfl (Nat.le_of_ble_eq_true rfl) (lv' := [(2, .int 0), (0, .ref (AA 0)), (1, .int a1)]) rfl ?_
  refine jj_iconst hJ dX0_pickedBits_2 ic_0 ?_
  refine jj_istore_n hJ dX0_pickedBits_3 rfl (Nat.le_of_ble_eq_true rfl) (lv' := [(3, .int 0), (2, .int 0), (0, .ref (AA 0)), (1, .int a1)]) rfl ?_
  exact w_X0_pickedBits_4 hJ  FU 0 0 hF
section
def W_X0_nextChoice (cI cS cII : ClassId) (AA : Nat → Nat) (A_i : Nat → Int32) (A_p : Nat → Int32) (A_t : Nat → Int32) (A_m : Int32) : va_W := [((AA 0), .inr (0, [.ref (AA 1), .ref (AA 2), .ref (AA 3), .int A_m])), ((AA 1), .inl (cI, 16, .inl A_i)), ((AA 2), .inl (cI, 3, .inl A_p)), ((AA 3), .inl (cI, 10, .inl A_t))]
abbrev Rm_X0_nextChoice : Room := { frames := 0, cells := 0, slots := 0, locals := 0 }
variable {l : Launch} {D : va_G} {cI cS cII : ClassId} {AA : Nat → Nat} {A : Nat → Prop} {J : jT}
variable {z_r : Int32} {z_A_p : Nat → Int32}
def q_X0_nextChoice_39 (A_m : Int32) (a1 : Int32)  : Nat → Int32 → (Nat → Int32) → Option (Int32 × (Nat → Int32))
  | 0, _, _ => none
  | n + 1, v3, A_p => if a1 ≤ v3 then (some (1, A_p)) else ((rd A_p 3 (v3 - 1)).bind fun x2 => (wr A_p 3 v3 (x2 + 1)).bind fun g4 => q_X0_nextChoice_39 A_m a1 n (v3 + 1) g4)
theorem w_X0_nextChoice_39 {A_i : Nat → Int32} {A_t : Nat → Int32} {A_m : Int32} {a1 : Int32}  (hJ : jJ l cX0_nextChoice 4 D (tysU cI cS cII) RX0 Rm_X0_nextChoice (some .boolean) A (some z_r) (W_X0_nextChoice cI cS cII AA A_i z_A_p A_t A_m) J)  : ∀ (n : Nat) (v3 : Int32) (A_p : Nat → Int32), q_X0_nextChoice_39 A_m a1 n v3 A_p = some (z_r, z_A_p) → J (W_X0_nextChoice cI cS cII AA A_i A_p A_t A_m) 39 [(3, .int v3), (0, .ref (AA 0)), (1, .int a1)] [] := by
  intro n
  induction n with
  | zero =>
    intro v3 A_p hF
    exact no_some (show (none : Option (Int32 × (Nat → Int32))) = some (z_r, z_A_p) from hF)
  | succ n ih =>
    intro v3 A_p hF
    rw [q_X0_nextChoice_39.eq_2] at hF
    refine jj_iload_n hJ dX0_nextChoice_39 0 rfl rfl ?_
    refine jj_iload_n hJ dX0_nextChoice_40 2 rfl rfl ?_
    refine jj_icmp_ge hJ 66 dX0_nextChoice_41 rfl (fun c1 => ?_) (fun c1 => ?_)
    · replace hF := ip c1 hF
      refine jj_iconst hJ dX0_nextChoice_66 ic_1 ?_
      cases Option.some.inj hF
      exact jj_zret hJ (Or.inr rfl) dX0_nextChoice_67
    · replace hF := iq c1 hF
      refine jj_aload_n hJ dX0_nextChoice_44 1 rfl rfl ?_
      refine jj_get hJ lay_X0 dX0_nextChoice_45 0 1 rfl rfl (Nat.le_of_ble_eq_true rfl) kw_108 rfl ?_
      refine jj_iload_n hJ dX0_nextChoice_48 0 rfl rfl ?_
      refine jj_aload_n hJ dX0_nextChoice_49 1 rfl rfl ?_
      refine jj_get hJ lay_X0 dX0_nextChoice_50 0 1 rfl rfl (Nat.le_of_ble_eq_true rfl) kw_108 rfl ?_
      refine jj_iload_n hJ dX0_nextChoice_53 0 rfl rfl ?_
      refine jj_iconst hJ dX0_nextChoice_54 ic_1 ?_
      refine jj_isub hJ dX0_nextChoice_55 ?_
      obtain ⟨x2, h3, hF⟩ := ob hF
      refine jj_iald hJ dX0_nextChoice_56 2 0 rfl rfl h3 ?_
      refine jj_iconst hJ dX0_nextChoice_57 ic_1 ?_
      refine jj_iadd hJ dX0_nextChoice_58 ?_
      obtain ⟨g4, h5, hF⟩ := ob hF
      refine jj_iast hJ dX0_nextChoice_59 2 0 rfl rfl h5 (wn := (W_X0_nextChoice cI cS cII AA A_i g4 A_t A_m)) rfl ?_
      refine jj_iinc hJ dX0_nextChoice_60 0 rfl (v := v3 + 1) (by rw [ic_1]) (Nat.le_of_ble_eq_true rfl) (lv' := [(3, .int (v3 + 1)), (0, .ref (AA 0)), (1, .int a1)]) rfl ?_
      refine jj_goto hJ 39 dX0_nextChoice_63 rfl ?_
      exact ih (v3 + 1) g4 hF
def q_X0_nextChoice_25 (A_m : Int32) (a1 : Int32)  (v2 : Int32) (A_p : Nat → Int32) : Option (Int32 × (Nat → Int32)) := (rd A_p 3 v2).bind fun x1 => (wr A_p 3 v2 (x1 + 1)).bind fun g3 => q_X0_nextChoice_39 A_m a1 FU (v2 + 1) g3
theorem w_X0_nextChoice_25 {A_i : Nat → Int32} {A_t : Nat → Int32} {A_m : Int32} {a1 : Int32}  (hJ : jJ l cX0_nextChoice 4 D (tysU cI cS cII) RX0 Rm_X0_nextChoice (some .boolean) A (some z_r) (W_X0_nextChoice cI cS cII AA A_i z_A_p A_t A_m) J)  : ∀ (v2 : Int32) (A_p : Nat → Int32), q_X0_nextChoice_25 A_m a1 v2 A_p = some (z_r, z_A_p) → J (W_X0_nextChoice cI cS cII AA A_i A_p A_t A_m) 25 [(2, .int v2), (0, .ref (AA 0)), (1, .int a1)] [] := by
  intro v2 A_p hF
  unfold q_X0_nextChoice_25 at hF
  refine jj_aload_n hJ dX0_nextChoice_25 1 rfl rfl ?_
  refine jj_get hJ lay_X0 dX0_nextChoice_26 0 1 rfl rfl (Nat.le_of_ble_eq_true rfl) kw_108 rfl ?_
  refine jj_iload_n hJ dX0_nextChoice_29 0 rfl rfl ?_
  refine jj_dup2 hJ dX0_nextChoice_30 rfl rfl ?_
  obtain ⟨x1, h2, hF⟩ := ob hF
  refine jj_iald hJ dX0_nextChoice_31 2 0 rfl rfl h2 ?_
  refine jj_iconst hJ dX0_nextChoice_32 ic_1 ?_
  refine jj_iadd hJ dX0_nextChoice_33 ?_
  obtain ⟨g3, h4, hF⟩ := ob hF
  refine jj_iast hJ dX0_nextChoice_34 2 0 rfl rfl h4 (wn := (W_X0_nextChoice cI cS cII AA A_i g3 A_t A_m)) rfl ?_
  refine jj_iload_n hJ dX0_nextChoice_35 0 rfl rfl ?_
  refine jj_iconst hJ dX0_nextChoice_36 ic_1 ?_
  refine jj_iadd hJ dX0_nextChoice_37 ?_
  refine jj_istore_n hJ dX0_nextChoice_38 rfl (Nat.le_of_ble_eq_true rfl) (lv' := [(3, .int (v2 + 1)), (2, .int v2), (0, .ref (AA 0)), (1, .int a1)]) rfl ?_
  refine jj_lv hJ [0, 2, 3] (lv' := [(3, .int (v2 + 1)), (0, .ref (AA 0)), (1, .int a1)]) rfl ?_
  exact w_X0_nextChoice_39 hJ  FU (v2 + 1) g3 hF
def q_X0_nextChoice_4 (A_m : Int32) (a1 : Int32)  : Nat → Int32 → (Nat → Int32) → Option (Int32 × (Nat → Int32))
  | 0, _, _ => none
  | n + 1, v2, A_p => if v2 < 0 then (some (0, A_p)) else ((rd A_p 3 v2).bind fun x2 => if ((A_m - a1) + v2) ≤ x2 then (q_X0_nextChoice_4 A_m a1 n (v2 + (-1)) A_p) else (q_X0_nextChoice_25 A_m a1 v2 A_p))
theorem w_X0_nextChoice_4 {A_i : Nat → Int32} {A_t : Nat → Int32} {A_m : Int32} {a1 : Int32}  (hJ : jJ l cX0_nextChoice 4 D (tysU cI cS cII) RX0 Rm_X0_nextChoice (some .boolean) A (some z_r) (W_X0_nextChoice cI cS cII AA A_i z_A_p A_t A_m) J)  : ∀ (n : Nat) (v2 : Int32) (A_p : Nat → Int32), q_X0_nextChoice_4 A_m a1 n v2 A_p = some (z_r, z_A_p) → J (W_X0_nextChoice cI cS cII AA A_i A_p A_t A_m) 4 [(2, .int v2), (0, .ref (AA 0)), (1, .int a1)] [] := by
  intro n
  induction n with
  | zero =>
    intro v2 A_p hF
    exact no_some (show (none : Option (Int32 × (Nat → Int32))) = some (z_r, z_A_p) from hF)
  | succ n ih =>
    intro v2 A_p hF
    rw [q_X0_nextChoice_4.eq_2] at hF
    refine jj_iload_n hJ dX0_nextChoice_4 0 rfl rfl ?_
    refine jj_if_lt hJ 74 dX0_nextChoice_5 rfl (fun c1 => ?_) (fun c1 => ?_)
    · replace hF := ip c1 hF
      refine jj_iconst hJ dX0_nextChoice_74 ic_0 ?_
      cases Option.some.inj hF
      exact jj_zret hJ (Or.inl rfl) dX0_nextChoice_75
    · replace hF := iq c1 hF
      refine jj_aload_n hJ dX0_nextChoice_8 1 rfl rfl ?_
      refine jj_get hJ lay_X0 dX0_nextChoice_9 0 1 rfl rfl (Nat.le_of_ble_eq_true rfl) kw_108 rfl ?_
      refine jj_iload_n hJ dX0_nextChoice_12 0 rfl rfl ?_
      obtain ⟨x2, h3, hF⟩ := ob hF
      refine jj_iald hJ dX0_nextChoice_13 2 0 rfl rfl h3 ?_
      refine jj_aload_n hJ dX0_nextChoice_14 1 rfl rfl ?_
      refine jj_get hJ lay_X0 dX0_nextChoice_15 0 3 rfl rfl (Nat.le_of_ble_eq_true rfl) kw_109 rfl ?_
      refine jj_iload_n hJ dX0_nextChoice_18 2 rfl rfl ?_
      refine jj_isub hJ dX0_nextChoice_19 ?_
      refine jj_iload_n hJ dX0_nextChoice_20 0 rfl rfl ?_
      refine jj_iadd hJ dX0_nextChoice_21 ?_
      refine jj_icmp_ge hJ 68 dX0_nextChoice_22 rfl (fun c4 => ?_) (fun c4 => ?_)
      · replace hF := ip c4 hF
        refine jj_iinc hJ dX0_nextChoice_68 0 rfl (v := v2 + (-1)) (by rw [ic_m1]) (Nat.le_of_ble_eq_true rfl) (lv' := [(2, .int (v2 + (-1))), (0, .ref (AA 0)), (1, .int a1)]) rfl ?_
        refine jj_goto hJ 4 dX0_nextChoice_71 rfl ?_
        exact ih (v2 + (-1)) A_p hF
      · replace hF := iq c4 hF
        exact w_X0_nextChoice_25 hJ  v2 A_p hF
def p_X0_nextChoice (A_p : Nat → Int32) (A_m : Int32) (a1 : Int32) : Option (Int32 × (Nat → Int32)) := q_X0_nextChoice_4 A_m a1 FU (a1 - 1) A_p
end
theorem c_X0_nextChoice (l : Launch) (D : va_G) (cI cS cII : ClassId) (AA : Nat → Nat) (A_i : Nat → Int32) (A_p : Nat → Int32) (A_t : Nat → Int32) (A_m : Int32) (a1 : Int32) {z_r : Int32} {z_A_p : Nat → Int32} (hF : p_X0_nextChoice A_p A_m a1 = some (z_r, z_A_p)) : MJ l yX0_nextChoice cX0_nextChoice 4 (some .boolean) Rm_X0_nextChoice D (tysU cI cS cII) [.ref (AA 0), .int a1] (W_X0_nextChoice cI cS cII AA A_i A_p A_t A_m) (some z_r) (W_X0_nextChoice cI cS cII AA A_i z_A_p A_t A_m) := by
  refine mj_of (own := RX0) (by decide) rfl (Nat.le_of_ble_eq_true rfl) (fun J hJ => ?_)
  show J (W_X0_nextChoice cI cS cII AA A_i A_p A_t A_m) 0 [(0, .ref (AA 0)), (1, .int a1)] []
  unfold p_X0_nextChoice at hF
  refine jj_iload_n hJ dX0_nextChoice_0 1 rfl rfl ?_
  refine jj_iconst hJ dX0_nextChoice_1 ic_1 ?_
  refine jj_isub hJ dX0_nextChoice_2 ?_
  refine jj_istore_n hJ dX0_nextChoice_3 rfl (Nat.le_of_ble_eq_true rfl) (lv' := [(2, .int (a1 - 1)), (0, .ref (AA 0)), (1, .int a1)]) rfl ?_
  exact w_X0_nextChoice_4 hJ  FU (a1 - 1) A_p hF
section
def W_X0_choose (cI cS cII : ClassId) (AA : Nat → Nat) (SA : Nat → Nat) (LA : Nat → Nat) (A_i : Nat → Int32) (A_p : Nat → Int32) (A_t : Nat → Int32) (A_m : Int32) (S_k : Nat → Int32) (S_f : Nat → Int32) (S_t : Nat → Int32) (S_w : Nat → Int32) (S_l : Int32) (S_b : Int32) (L_G : Nat → Nat → Int32) (L_l : Int32) : va_W := ([((AA 0), .inr (0, [.ref (AA 1), .ref (AA 2), .ref (AA 3), .int A_m])), ((AA 1), .inl (cI, 16, .inl A_i)), ((AA 2), .inl (cI, 3, .inl A_p)), ((AA 3), .inl (cI, 10, .inl A_t)), ((SA 0), .inr (4, [.ref (SA 1), .ref (SA 2), .ref (SA 3), .ref (SA 4), .int S_l, .int S_b])), ((SA 1), .inl (cI, 10, .inl S_k)), ((SA 2), .inl (cI, 16, .inl S_f)), ((SA 3), .inl (cI, 16, .inl S_t)), ((SA 4), .inl (cI, 16, .inl S_w)), ((LA 0), .inr (1, [.ref (LA 1), .int L_l])), ((LA 1), .inl (cII, 10, .inr (.inr (.inr (.inr (fun i => some (LA (i + 2))))))))] ++ rw10 cI (fun i => LA (i + 2)) L_G)
abbrev Rm_X0_choose : Room := { frames := 2, cells := 0, slots := 0, locals := 49 }
variable {l : Launch} {D : va_G} {cI cS cII : ClassId} {AA : Nat → Nat} {SA : Nat → Nat} {LA : Nat → Nat} {A : Nat → Prop} {J : jT}
variable {z_r : Int32} {z_A_i : Nat → Int32} {z_A_p : Nat → Int32} {z_A_t : Nat → Int32} {z_A_m : Int32}
def q_X0_choose_118 (S_f : Nat → Int32) (S_t : Nat → Int32) (S_w : Nat → Int32) (S_l : Int32) (S_b : Int32) (L_G : Nat → Nat → Int32) (a3 : Int32) (a4 : Int32) (a5 : Int32) (k14 : Int32 → (Nat → Int32) → (Nat → Int32) → (Nat → Int32) → Int32 → Option (Int32 × (Nat → Int32) × (Nat → Int32) × (Nat → Int32) × Int32)) (v6 : Int32) (A_i : Nat → Int32) (A_p : Nat → Int32) (A_t : Nat → Int32) (A_m : Int32) : Option (Int32 × (Nat → Int32) × (Nat → Int32) × (Nat → Int32) × Int32) := k14 (v6 + 1) A_i A_p A_t A_m
theorem w_X0_choose_118 {S_k : Nat → Int32} {S_f : Nat → Int32} {S_t : Nat → Int32} {S_w : Nat → Int32} {S_l : Int32} {S_b : Int32} {L_G : Nat → Nat → Int32} {L_l : Int32} {a3 : Int32} {a4 : Int32} {a5 : Int32} {k14 : Int32 → (Nat → Int32) → (Nat → Int32) → (Nat → Int32) → Int32 → Option (Int32 × (Nat → Int32) × (Nat → Int32) × (Nat → Int32) × Int32)} (hJ : jJ l cX0_choose 9 D (tysU cI cS cII) RX0 Rm_X0_choose (some .int) A (some z_r) (W_X0_choose cI cS cII AA SA LA z_A_i z_A_p z_A_t z_A_m S_k S_f S_t S_w S_l S_b L_G L_l) J) (hk14 : ∀ (v6 : Int32) (A_i : Nat → Int32) (A_p : Nat → Int32) (A_t : Nat → Int32) (A_m : Int32), k14 v6 A_i A_p A_t A_m = some (z_r, z_A_i, z_A_p, z_A_t, z_A_m) → J (W_X0_choose cI cS cII AA SA LA A_i A_p A_t A_m S_k S_f S_t S_w S_l S_b L_G L_l) 14 [(6, .int v6), (0, .ref (AA 0)), (1, .ref (SA 0)), (3, .int a3), (4, .int a4), (5, .int a5)] []) : ∀ (v6 : Int32) (A_i : Nat → Int32) (A_p : Nat → Int32) (A_t : Nat → Int32) (A_m : Int32), q_X0_choose_118 S_f S_t S_w S_l S_b L_G a3 a4 a5 k14 v6 A_i A_p A_t A_m = some (z_r, z_A_i, z_A_p, z_A_t, z_A_m) → J (W_X0_choose cI cS cII AA SA LA A_i A_p A_t A_m S_k S_f S_t S_w S_l S_b L_G L_l) 118 [(6, .int v6), (0, .ref (AA 0)), (1, .ref (SA 0)), (3, .int a3), (4, .int a4), (5, .int a5)] [] := by
  intro v6 A_i A_p A_t A_m hF
  unfold q_X0_choose_118 at hF
  refine jj_iinc hJ dX0_choose_118 0 rfl (v := v6 + 1) (by rw [ic_1]) (Nat.le_of_ble_eq_true rfl) (lv' := [(6, .int (v6 + 1)), (0, .ref (AA 0)), (1, .ref (SA 0)), (3, .int a3), (4, .int a4), (5, .int a5)]) rfl ?_
  refine jj_goto hJ 14 dX0_choose_121 rfl ?_
  exact hk14 (v6 + 1) A_i A_p A_t A_m hF
def q_X0_choose_60 (S_f : Nat → Int32) (S_t : Nat → Int32) (S_w : Nat → Int32) (S_l : Int32) (S_b : Int32) (L_G : Nat → Nat → Int32) (a3 : Int32) (a4 : Int32) (a5 : Int32) (k14 : Int32 → (Nat → Int32) → (Nat → Int32) → (Nat → Int32) → Int32 → Option (Int32 × (Nat → Int32) × (Nat → Int32) × (Nat → Int32) × Int32)) : Nat → Int32 → Int32 → Int32 → (Nat → Int32) → (Nat → Int32) → (Nat → Int32) → Int32 → Option (Int32 × (Nat → Int32) × (Nat → Int32) × (Nat → Int32) × Int32)
  | 0, _, _, _, _, _, _, _ => none
  | n + 1, v8, v7, v6, A_i, A_p, A_t, A_m => if 560 ≤ v8 then (q_X0_choose_118 S_f S_t S_w S_l S_b L_G a3 a4 a5 k14 v6 A_i A_p A_t A_m) else (if v7 = 0 then (q_X0_choose_118 S_f S_t S_w S_l S_b L_G a3 a4 a5 k14 v6 A_i A_p A_t A_m) else ((p_X0_pickedBits A_i A_p v6).bind fun r4 => (p_X4_lengthsFrom S_f S_t S_w S_l S_b A_t a5 r4).bind fun g6 => (rd g6 10 a3).bind fun x7 => if 0 < (x7 + a4) then ((p_X0_nextChoice A_p A_m v6).bind fun (r11, g12) => q_X0_choose_60 S_f S_t S_w S_l S_b L_G a3 a4 a5 k14 n (v8 + 1) r11 v6 A_i g12 g6 A_m) else (some (v6, A_i, A_p, g6, A_m))))
theorem w_X0_choose_60 {S_k : Nat → Int32} {S_f : Nat → Int32} {S_t : Nat → Int32} {S_w : Nat → Int32} {S_l : Int32} {S_b : Int32} {L_G : Nat → Nat → Int32} {L_l : Int32} {a3 : Int32} {a4 : Int32} {a5 : Int32} {k14 : Int32 → (Nat → Int32) → (Nat → Int32) → (Nat → Int32) → Int32 → Option (Int32 × (Nat → Int32) × (Nat → Int32) × (Nat → Int32) × Int32)} (hJ : jJ l cX0_choose 9 D (tysU cI cS cII) RX0 Rm_X0_choose (some .int) A (some z_r) (W_X0_choose cI cS cII AA SA LA z_A_i z_A_p z_A_t z_A_m S_k S_f S_t S_w S_l S_b L_G L_l) J) (hk14 : ∀ (v6 : Int32) (A_i : Nat → Int32) (A_p : Nat → Int32) (A_t : Nat → Int32) (A_m : Int32), k14 v6 A_i A_p A_t A_m = some (z_r, z_A_i, z_A_p, z_A_t, z_A_m) → J (W_X0_choose cI cS cII AA SA LA A_i A_p A_t A_m S_k S_f S_t S_w S_l S_b L_G L_l) 14 [(6, .int v6), (0, .ref (AA 0)), (1, .ref (SA 0)), (3, .int a3), (4, .int a4), (5, .int a5)] []) : ∀ (n : Nat) (v8 : Int32) (v7 : Int32) (v6 : Int32) (A_i : Nat → Int32) (A_p : Nat → Int32) (A_t : Nat → Int32) (A_m : Int32), q_X0_choose_60 S_f S_t S_w S_l S_b L_G a3 a4 a5 k14 n v8 v7 v6 A_i A_p A_t A_m = some (z_r, z_A_i, z_A_p, z_A_t, z_A_m) → J (W_X0_choose cI cS cII AA SA LA A_i A_p A_t A_m S_k S_f S_t S_w S_l S_b L_G L_l) 60 [(8, .int v8), (7, .int v7), (6, .int v6), (0, .ref (AA 0)), (1, .ref (SA 0)), (3, .int a3), (4, .int a4), (5, .int a5)] [] := by
  intro n
  induction n with
  | zero =>
    intro v8 v7 v6 A_i A_p A_t A_m hF
    exact no_some (show (none : Option (Int32 × (Nat → Int32) × (Nat → Int32) × (Nat → Int32) × Int32)) = some (z_r, z_A_i, z_A_p, z_A_t, z_A_m) from hF)
  | succ n ih =>
    intro v8 v7 v6 A_i A_p A_t A_m hF
    rw [q_X0_choose_60.eq_2] at hF
    refine jj_iload hJ dX0_choose_60 0 rfl ?_
    refine jj_sipush hJ dX0_choose_62 sp_560 ?_
    refine jj_icmp_ge hJ 118 dX0_choose_65 rfl (fun c1 => ?_) (fun c1 => ?_)
    · replace hF := ip c1 hF
      refine jj_lv hJ [2, 3, 4, 5, 6, 7] (lv' := [(6, .int v6), (0, .ref (AA 0)), (1, .ref (SA 0)), (3, .int a3), (4, .int a4), (5, .int a5)]) rfl ?_
      exact w_X0_choose_118 hJ hk14 v6 A_i A_p A_t A_m hF
    · replace hF := iq c1 hF
      refine jj_iload hJ dX0_choose_68 1 rfl ?_
      refine jj_if_eq hJ 118 dX0_choose_70 rfl (fun c2 => ?_) (fun c2 => ?_)
      · replace hF := ip c2 hF
        refine jj_lv hJ [2, 3, 4, 5, 6, 7] (lv' := [(6, .int v6), (0, .ref (AA 0)), (1, .ref (SA 0)), (3, .int a3), (4, .int a4), (5, .int a5)]) rfl ?_
        exact w_X0_choose_118 hJ hk14 v6 A_i A_p A_t A_m hF
      · replace hF := iq c2 hF
        refine jj_aload_n hJ dX0_choose_73 4 rfl rfl ?_
        refine jj_iload hJ dX0_choose_74 7 rfl ?_
        refine jj_aload_n hJ dX0_choose_76 3 rfl rfl ?_
        refine jj_iload hJ dX0_choose_77 2 rfl ?_
        obtain ⟨r4, h3, hF⟩ := ob hF
        refine jj_callV0 hJ (c_X0_pickedBits l D cI cS cII AA A_i A_p A_t A_m v6 h3) dX0_choose_79 kw_125 ⟨Nat.le_of_ble_eq_true rfl, Nat.le_of_ble_eq_true rfl, rfl, rfl⟩ kw_124 kw_126 kw_127 0 rfl rfl rfl rfl (Nat.le_of_ble_eq_true rfl) [0, 1, 2, 3] rfl rfl ?_
        refine jj_aload_n hJ dX0_choose_82 3 rfl rfl ?_
        refine jj_get hJ lay_X0 dX0_choose_83 0 2 rfl rfl (Nat.le_of_ble_eq_true rfl) kw_128 rfl ?_
        obtain ⟨g6, h5, hF⟩ := ob hF
        refine jj_callN hJ (c_X4_lengthsFrom l D cI cS cII SA (AA 3) S_k S_f S_t S_w S_l S_b A_t a5 r4 h5) dX0_choose_86 kw_22 ⟨Nat.le_of_ble_eq_true rfl, Nat.le_of_ble_eq_true rfl, rfl, rfl⟩ kw_129 kw_23 kw_24 4 rfl rfl rfl rfl (Nat.le_of_ble_eq_true rfl) [4, 5, 6, 7, 8, 3] rfl rfl (wn := (W_X0_choose cI cS cII AA SA LA A_i A_p g6 A_m S_k S_f S_t S_w S_l S_b L_G L_l)) (jNew_sel rfl [none, none, none, some 5, some 0, some 1, some 2, some 3, some 4, none, none, none, none, none, none, none, none, none, none, none, none] (by decide +kernel) rfl) ?_
        refine jj_aload_n hJ dX0_choose_89 3 rfl rfl ?_
        refine jj_get hJ lay_X0 dX0_choose_90 0 2 rfl rfl (Nat.le_of_ble_eq_true rfl) kw_128 rfl ?_
        refine jj_iload_n hJ dX0_choose_93 5 rfl rfl ?_
        obtain ⟨x7, h8, hF⟩ := ob hF
        refine jj_iald hJ dX0_choose_94 3 0 rfl rfl h8 ?_
        refine jj_iload hJ dX0_choose_95 6 rfl ?_
        refine jj_iadd hJ dX0_choose_97 ?_
        refine jj_if_gt hJ 104 dX0_choose_98 rfl (fun c9 => ?_) (fun c9 => ?_)
        · replace hF := ip c9 hF
          refine jj_aload_n hJ dX0_choose_104 3 rfl rfl ?_
          refine jj_iload hJ dX0_choose_105 2 rfl ?_
          obtain ⟨⟨r11, g12⟩, h10, hF⟩ := ob hF
          refine jj_callV hJ (c_X0_nextChoice l D cI cS cII AA A_i A_p g6 A_m v6 h10) dX0_choose_107 kw_131 ⟨Nat.le_of_ble_eq_true rfl, Nat.le_of_ble_eq_true rfl, rfl, rfl⟩ kw_130 kw_132 kw_133 0 rfl rfl rfl rfl (Nat.le_of_ble_eq_true rfl) [0, 1, 2, 3] rfl rfl (wn := (W_X0_choose cI cS cII AA SA LA A_i g12 g6 A_m S_k S_f S_t S_w S_l S_b L_G L_l)) (jNew_sel rfl [some 0, some 1, some 2, some 3, none, none, none, none, none, none, none, none, none, none, none, none, none, none, none, none, none] (by decide +kernel) rfl) ?_
          refine jj_istore hJ dX0_choose_110 (Nat.le_of_ble_eq_true rfl) (lv' := [(7, .int r11), (8, .int v8), (6, .int v6), (0, .ref (AA 0)), (1, .ref (SA 0)), (3, .int a3), (4, .int a4), (5, .int a5)]) rfl ?_
          refine jj_iinc hJ dX0_choose_112 1 rfl (v := v8 + 1) (by rw [ic_1]) (Nat.le_of_ble_eq_true rfl) (lv' := [(8, .int (v8 + 1)), (7, .int r11), (6, .int v6), (0, .ref (AA 0)), (1, .ref (SA 0)), (3, .int a3), (4, .int a4), (5, .int a5)]) rfl ?_
          refine jj_goto hJ 60 dX0_choose_115 rfl ?_
          exact ih (v8 + 1) r11 v6 A_i g12 g6 A_m hF
        · replace hF := iq c9 hF
          refine jj_iload hJ dX0_choose_101 2 rfl ?_
          cases Option.some.inj hF
          exact jj_iret hJ dX0_choose_103
def q_X0_choose_54 (S_f : Nat → Int32) (S_t : Nat → Int32) (S_w : Nat → Int32) (S_l : Int32) (S_b : Int32) (L_G : Nat → Nat → Int32) (a3 : Int32) (a4 : Int32) (a5 : Int32) (k14 : Int32 → (Nat → Int32) → (Nat → Int32) → (Nat → Int32) → Int32 → Option (Int32 × (Nat → Int32) × (Nat → Int32) × (Nat → Int32) × Int32)) (v6 : Int32) (A_i : Nat → Int32) (A_p : Nat → Int32) (A_t : Nat → Int32) (A_m : Int32) : Option (Int32 × (Nat → Int32) × (Nat → Int32) × (Nat → Int32) × Int32) := q_X0_choose_60 S_f S_t S_w S_l S_b L_G a3 a4 a5 k14 FU 0 1 v6 A_i A_p A_t A_m
theorem w_X0_choose_54 {S_k : Nat → Int32} {S_f : Nat → Int32} {S_t : Nat → Int32} {S_w : Nat → Int32} {S_l : Int32} {S_b : Int32} {L_G : Nat → Nat → Int32} {L_l : Int32} {a3 : Int32} {a4 : Int32} {a5 : Int32} {k14 : Int32 → (Nat → Int32) → (Nat → Int32) → (Nat → Int32) → Int32 → Option (Int32 × (Nat → Int32) × (Nat → Int32) × (Nat → Int32) × Int32)} (hJ : jJ l cX0_choose 9 D (tysU cI cS cII) RX0 Rm_X0_choose (some .int) A (some z_r) (W_X0_choose cI cS cII AA SA LA z_A_i z_A_p z_A_t z_A_m S_k S_f S_t S_w S_l S_b L_G L_l) J) (hk14 : ∀ (v6 : Int32) (A_i : Nat → Int32) (A_p : Nat → Int32) (A_t : Nat → Int32) (A_m : Int32), k14 v6 A_i A_p A_t A_m = some (z_r, z_A_i, z_A_p, z_A_t, z_A_m) → J (W_X0_choose cI cS cII AA SA LA A_i A_p A_t A_m S_k S_f S_t S_w S_l S_b L_G L_l) 14 [(6, .int v6), (0, .ref (AA 0)), (1, .ref (SA 0)), (3, .int a3), (4, .int a4), (5, .int a5)] []) : ∀ (v6 : Int32) (A_i : Nat → Int32) (A_p : Nat → Int32) (A_t : Nat → Int32) (A_m : Int32), q_X0_choose_54 S_f S_t S_w S_l S_b L_G a3 a4 a5 k14 v6 A_i A_p A_t A_m = some (z_r, z_A_i, z_A_p, z_A_t, z_A_m) → J (W_X0_choose cI cS cII AA SA LA A_i A_p A_t A_m S_k S_f S_t S_w S_l S_b L_G L_l) 54 [(6, .int v6), (0, .ref (AA 0)), (1, .ref (SA 0)), (3, .int a3), (4, .int a4), (5, .int a5)] [] := by
  intro v6 A_i A_p A_t A_m hF
  unfold q_X0_choose_54 at hF
  refine jj_iconst hJ dX0_choose_54 ic_1 ?_
  refine jj_istore hJ dX0_choose_55 (Nat.le_of_ble_eq_true rfl) (lv' := [(7, .int 1), (6, .int v6), (0, .ref (AA 0)), (1, .ref (SA 0)), (3, .int a3), (4, .int a4), (5, .int a5)]) rfl ?_
  refine jj_iconst hJ dX0_choose_57 ic_0 ?_
  refine jj_istore hJ dX0_choose_58 (Nat.le_of_ble_eq_true rfl) (lv' := [(8, .int 0), (7, .int 1), (6, .int v6), (0, .ref (AA 0)), (1, .ref (SA 0)), (3, .int a3), (4, .int a4), (5, .int a5)]) rfl ?_
  exact w_X0_choose_60 hJ hk14 FU 0 1 v6 A_i A_p A_t A_m hF
def q_X0_choose_32 (S_f : Nat → Int32) (S_t : Nat → Int32) (S_w : Nat → Int32) (S_l : Int32) (S_b : Int32) (L_G : Nat → Nat → Int32) (a3 : Int32) (a4 : Int32) (a5 : Int32) (k14 : Int32 → (Nat → Int32) → (Nat → Int32) → (Nat → Int32) → Int32 → Option (Int32 × (Nat → Int32) × (Nat → Int32) × (Nat → Int32) × Int32)) : Nat → Int32 → Int32 → (Nat → Int32) → (Nat → Int32) → (Nat → Int32) → Int32 → Option (Int32 × (Nat → Int32) × (Nat → Int32) × (Nat → Int32) × Int32)
  | 0, _, _, _, _, _, _ => none
  | n + 1, v7, v6, A_i, A_p, A_t, A_m => if v6 ≤ v7 then (q_X0_choose_54 S_f S_t S_w S_l S_b L_G a3 a4 a5 k14 v6 A_i A_p A_t A_m) else ((wr A_p 3 v7 v7).bind fun g2 => q_X0_choose_32 S_f S_t S_w S_l S_b L_G a3 a4 a5 k14 n (v7 + 1) v6 A_i g2 A_t A_m)
theorem w_X0_choose_32 {S_k : Nat → Int32} {S_f : Nat → Int32} {S_t : Nat → Int32} {S_w : Nat → Int32} {S_l : Int32} {S_b : Int32} {L_G : Nat → Nat → Int32} {L_l : Int32} {a3 : Int32} {a4 : Int32} {a5 : Int32} {k14 : Int32 → (Nat → Int32) → (Nat → Int32) → (Nat → Int32) → Int32 → Option (Int32 × (Nat → Int32) × (Nat → Int32) × (Nat → Int32) × Int32)} (hJ : jJ l cX0_choose 9 D (tysU cI cS cII) RX0 Rm_X0_choose (some .int) A (some z_r) (W_X0_choose cI cS cII AA SA LA z_A_i z_A_p z_A_t z_A_m S_k S_f S_t S_w S_l S_b L_G L_l) J) (hk14 : ∀ (v6 : Int32) (A_i : Nat → Int32) (A_p : Nat → Int32) (A_t : Nat → Int32) (A_m : Int32), k14 v6 A_i A_p A_t A_m = some (z_r, z_A_i, z_A_p, z_A_t, z_A_m) → J (W_X0_choose cI cS cII AA SA LA A_i A_p A_t A_m S_k S_f S_t S_w S_l S_b L_G L_l) 14 [(6, .int v6), (0, .ref (AA 0)), (1, .ref (SA 0)), (3, .int a3), (4, .int a4), (5, .int a5)] []) : ∀ (n : Nat) (v7 : Int32) (v6 : Int32) (A_i : Nat → Int32) (A_p : Nat → Int32) (A_t : Nat → Int32) (A_m : Int32), q_X0_choose_32 S_f S_t S_w S_l S_b L_G a3 a4 a5 k14 n v7 v6 A_i A_p A_t A_m = some (z_r, z_A_i, z_A_p, z_A_t, z_A_m) → J (W_X0_choose cI cS cII AA SA LA A_i A_p A_t A_m S_k S_f S_t S_w S_l S_b L_G L_l) 32 [(7, .int v7), (6, .int v6), (0, .ref (AA 0)), (1, .ref (SA 0)), (3, .int a3), (4, .int a4), (5, .int a5)] [] := by
  intro n
  induction n with
  | zero =>
    intro v7 v6 A_i A_p A_t A_m hF
    exact no_some (show (none : Option (Int32 × (Nat → Int32) × (Nat → Int32) × (Nat → Int32) × Int32)) = some (z_r, z_A_i, z_A_p, z_A_t, z_A_m) from hF)
  | succ n ih =>
    intro v7 v6 A_i A_p A_t A_m hF
    rw [q_X0_choose_32.eq_2] at hF
    refine jj_iload hJ dX0_choose_32 0 rfl ?_
    refine jj_iload hJ dX0_choose_34 1 rfl ?_
    refine jj_icmp_ge hJ 54 dX0_choose_36 rfl (fun c1 => ?_) (fun c1 => ?_)
    · replace hF := ip c1 hF
      refine jj_lv hJ [1, 2, 3, 4, 5, 6] (lv' := [(6, .int v6), (0, .ref (AA 0)), (1, .ref (SA 0)), (3, .int a3), (4, .int a4), (5, .int a5)]) rfl ?_
      exact w_X0_choose_54 hJ hk14 v6 A_i A_p A_t A_m hF
    · replace hF := iq c1 hF
      refine jj_aload_n hJ dX0_choose_39 2 rfl rfl ?_
      refine jj_get hJ lay_X0 dX0_choose_40 0 1 rfl rfl (Nat.le_of_ble_eq_true rfl) kw_108 rfl ?_
      refine jj_iload hJ dX0_choose_43 0 rfl ?_
      refine jj_iload hJ dX0_choose_45 0 rfl ?_
      obtain ⟨g2, h3, hF⟩ := ob hF
      refine jj_iast hJ dX0_choose_47 2 0 rfl rfl h3 (wn := (W_X0_choose cI cS cII AA SA LA A_i g2 A_t A_m S_k S_f S_t S_w S_l S_b L_G L_l)) rfl ?_
      refine jj_iinc hJ dX0_choose_48 0 rfl (v := v7 + 1) (by rw [ic_1]) (Nat.le_of_ble_eq_true rfl) (lv' := [(7, .int (v7 + 1)), (6, .int v6), (0, .ref (AA 0)), (1, .ref (SA 0)), (3, .int a3), (4, .int a4), (5, .int a5)]) rfl ?_
      refine jj_goto hJ 32 dX0_choose_51 rfl ?_
      exact ih (v7 + 1) v6 A_i g2 A_t A_m hF
def q_X0_choose_14 (S_f : Nat → Int32) (S_t : Nat → Int32) (S_w : Nat → Int32) (S_l : Int32) (S_b : Int32) (L_G : Nat → Nat → Int32) (a3 : Int32) (a4 : Int32) (a5 : Int32)  : Nat → Int32 → (Nat → Int32) → (Nat → Int32) → (Nat → Int32) → Int32 → Option (Int32 × (Nat → Int32) × (Nat → Int32) × (Nat → Int32) × Int32)
  | 0, _, _, _, _, _ => none
  | n + 1, v6, A_i, A_p, A_t, A_m => if 3 < v6 then (some ((-4), A_i, A_p, A_t, A_m)) else (if A_m < v6 then (some ((-4), A_i, A_p, A_t, A_m)) else (q_X0_choose_32 S_f S_t S_w S_l S_b L_G a3 a4 a5 (q_X0_choose_14 S_f S_t S_w S_l S_b L_G a3 a4 a5 n) FU 0 v6 A_i A_p A_t A_m))
theorem w_X0_choose_14 {S_k : Nat → Int32} {S_f : Nat → Int32} {S_t : Nat → Int32} {S_w : Nat → Int32} {S_l : Int32} {S_b : Int32} {L_G : Nat → Nat → Int32} {L_l : Int32} {a3 : Int32} {a4 : Int32} {a5 : Int32}  (hJ : jJ l cX0_choose 9 D (tysU cI cS cII) RX0 Rm_X0_choose (some .int) A (some z_r) (W_X0_choose cI cS cII AA SA LA z_A_i z_A_p z_A_t z_A_m S_k S_f S_t S_w S_l S_b L_G L_l) J)  : ∀ (n : Nat) (v6 : Int32) (A_i : Nat → Int32) (A_p : Nat → Int32) (A_t : Nat → Int32) (A_m : Int32), q_X0_choose_14 S_f S_t S_w S_l S_b L_G a3 a4 a5 n v6 A_i A_p A_t A_m = some (z_r, z_A_i, z_A_p, z_A_t, z_A_m) → J (W_X0_choose cI cS cII AA SA LA A_i A_p A_t A_m S_k S_f S_t S_w S_l S_b L_G L_l) 14 [(6, .int v6), (0, .ref (AA 0)), (1, .ref (SA 0)), (3, .int a3), (4, .int a4), (5, .int a5)] [] := by
  intro n
  induction n with
  | zero =>
    intro v6 A_i A_p A_t A_m hF
    exact no_some (show (none : Option (Int32 × (Nat → Int32) × (Nat → Int32) × (Nat → Int32) × Int32)) = some (z_r, z_A_i, z_A_p, z_A_t, z_A_m) from hF)
  | succ n ih =>
    intro v6 A_i A_p A_t A_m hF
    rw [q_X0_choose_14.eq_2] at hF
    refine jj_iload hJ dX0_choose_14 0 rfl ?_
    refine jj_iconst hJ dX0_choose_16 ic_3 ?_
    refine jj_icmp_gt hJ 124 dX0_choose_17 rfl (fun c1 => ?_) (fun c1 => ?_)
    · replace hF := ip c1 hF
      refine jj_bipush hJ dX0_choose_124 bp_m4 ?_
      cases Option.some.inj hF
      exact jj_iret hJ dX0_choose_126
    · replace hF := iq c1 hF
      refine jj_iload hJ dX0_choose_20 0 rfl ?_
      refine jj_aload_n hJ dX0_choose_22 1 rfl rfl ?_
      refine jj_get hJ lay_X0 dX0_choose_23 0 3 rfl rfl (Nat.le_of_ble_eq_true rfl) kw_109 rfl ?_
      refine jj_icmp_gt hJ 124 dX0_choose_26 rfl (fun c2 => ?_) (fun c2 => ?_)
      · replace hF := ip c2 hF
        refine jj_bipush hJ dX0_choose_124 bp_m4 ?_
        cases Option.some.inj hF
        exact jj_iret hJ dX0_choose_126
      · replace hF := iq c2 hF
        refine jj_iconst hJ dX0_choose_29 ic_0 ?_
        refine jj_istore hJ dX0_choose_30 (Nat.le_of_ble_eq_true rfl) (lv' := [(7, .int 0), (6, .int v6), (0, .ref (AA 0)), (1, .ref (SA 0)), (3, .int a3), (4, .int a4), (5, .int a5)]) rfl ?_
        exact w_X0_choose_32 hJ (fun v6 A_i A_p A_t A_m => ih v6 A_i A_p A_t A_m) FU 0 v6 A_i A_p A_t A_m hF
def p_X0_choose (A_i : Nat → Int32) (A_p : Nat → Int32) (A_t : Nat → Int32) (A_m : Int32) (S_f : Nat → Int32) (S_t : Nat → Int32) (S_w : Nat → Int32) (S_l : Int32) (S_b : Int32) (L_G : Nat → Nat → Int32) (a3 : Int32) (a4 : Int32) (a5 : Int32) : Option (Int32 × (Nat → Int32) × (Nat → Int32) × (Nat → Int32) × Int32) := (p_X0_gather A_i A_m S_f S_t S_w S_b L_G a3 a4 a5).bind fun (g2, g3) => q_X0_choose_14 S_f S_t S_w S_l S_b L_G a3 a4 a5 FU 0 g2 A_p A_t g3
end
theorem c_X0_choose (l : Launch) (D : va_G) (cI cS cII : ClassId) (AA : Nat → Nat) (SA : Nat → Nat) (LA : Nat → Nat) (A_i : Nat → Int32) (A_p : Nat → Int32) (A_t : Nat → Int32) (A_m : Int32) (S_k : Nat → Int32) (S_f : Nat → Int32) (S_t : Nat → Int32) (S_w : Nat → Int32) (S_l : Int32) (S_b : Int32) (L_G : Nat → Nat → Int32) (L_l : Int32) (a3 : Int32) (a4 : Int32) (a5 : Int32) {z_r : Int32} {z_A_i : Nat → Int32} {z_A_p : Nat → Int32} {z_A_t : Nat → Int32} {z_A_m : Int32} (hF : p_X0_choose A_i A_p A_t A_m S_f S_t S_w S_l S_b L_G a3 a4 a5 = some (z_r, z_A_i, z_A_p, z_A_t, z_A_m)) : MJ l yX0_choose cX0_choose 9 (some .int) Rm_X0_choose D (tysU cI cS cII) [.ref (AA 0), .ref (SA 0), .ref (LA 0), .int a3, .int a4, .int a5] (W_X0_choose cI cS cII AA SA LA A_i A_p A_t A_m S_k S_f S_t S_w S_l S_b L_G L_l) (some z_r) (W_X0_choose cI cS cII AA SA LA z_A_i z_A_p z_A_t z_A_m S_k S_f S_t S_w S_l S_b L_G L_l) := by
  refine mj_of (own := RX0) (by decide) rfl (Nat.le_of_ble_eq_true rfl) (fun J hJ => ?_)
  show J (W_X0_choose cI cS cII AA SA LA A_i A_p A_t A_m S_k S_f S_t S_w S_l S_b L_G L_l) 0 [(0, .ref (AA 0)), (1, .ref (SA 0)), (2, .ref (LA 0)), (3, .int a3), (4, .int a4), (5, .int a5)] []
  unfold p_X0_choose at hF
  refine jj_aload_n hJ dX0_choose_0 0 rfl rfl ?_
  refine jj_aload_n hJ dX0_choose_1 1 rfl rfl ?_
  refine jj_aload_n hJ dX0_choose_2 2 rfl rfl ?_
  refine jj_iload_n hJ dX0_choose_3 3 rfl rfl ?_
  refine jj_iload hJ dX0_choose_4 4 rfl ?_
  refine jj_iload hJ dX0_choose_6 5 rfl ?_
  obtain ⟨⟨g2, g3⟩, h1, hF⟩ := ob hF
  refine jj_callV hJ (c_X0_gather l D cI cS cII AA SA LA A_i A_p A_t A_m S_k S_f S_t S_w S_l S_b L_G L_l a3 a4 a5 h1) dX0_choose_8 kw_121 ⟨Nat.le_of_ble_eq_true rfl, Nat.le_of_ble_eq_true rfl, rfl, rfl⟩ kw_120 kw_122 kw_123 0 rfl rfl rfl rfl (Nat.le_of_ble_eq_true rfl) [0, 1, 2, 3, 4, 5, 6, 7, 8, 9, 10, 11, 12, 13, 14, 15, 16, 17, 18, 19, 20] rfl rfl (wn := (W_X0_choose cI cS cII AA SA LA g2 A_p A_t g3 S_k S_f S_t S_w S_l S_b L_G L_l)) (jNew_sel rfl [some 0, some 1, some 2, some 3, some 4, some 5, some 6, some 7, some 8, some 9, some 10, some 11, some 12, some 13, some 14, some 15, some 16, some 17, some 18, some 19, some 20] (by decide +kernel) rfl) ?_
  refine jj_iconst hJ dX0_choose_11 ic_0 ?_
  refine jj_istore hJ dX0_choose_12 (Nat.le_of_ble_eq_true rfl) (lv' := [(6, .int 0), (0, .ref (AA 0)), (1, .ref (SA 0)), (2, .ref (LA 0)), (3, .int a3), (4, .int a4), (5, .int a5)]) rfl ?_
  refine jj_lv hJ [0, 1, 2, 4, 5, 6] (lv' := [(6, .int 0), (0, .ref (AA 0)), (1, .ref (SA 0)), (3, .int a3), (4, .int a4), (5, .int a5)]) rfl ?_
  exact w_X0_choose_14 hJ  FU 0 g2 A_p A_t g3 hF
end
