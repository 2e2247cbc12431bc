section
-- ===== PART A: goes FIRST, ahead of the names: the tables' words, and 'selects' of the private methods out of them =====
/-- a private method of a class that the tables say can be made, by its rows of tables_1 -/
def lw_okq (q : MethodName × Nat) : Prop := (q.1.cls ≠ "java/lang/invoke/MethodHandle" ∧ q.1.cls ≠ "java/lang/invoke/VarHandle") ∧ Cond.instantiable q.1.cls q.2 ∈ tables_1 ∧ Cond.privateMethod q.1 ∈ tables_1 ∧ Cond.instanceMethod q.1 ∈ tables_1
theorem lw_p0 : lw_okq (⟨"ThawGives$Thing", "begin", "(IIII)V"⟩, 7) := ⟨⟨by decide +kernel, by decide +kernel⟩, List.mem_of_getElem? (i := 63) (by decide +kernel), List.mem_of_getElem? (i := 267) (by decide +kernel), List.mem_of_getElem? (i := 268) (by decide +kernel)⟩
theorem lw_p1 : lw_okq (⟨"ThawGives", "isThing", "(I)Z"⟩, 11) := ⟨⟨by decide +kernel, by decide +kernel⟩, List.mem_of_getElem? (i := 18) (by decide +kernel), List.mem_of_getElem? (i := 275) (by decide +kernel), List.mem_of_getElem? (i := 276) (by decide +kernel)⟩
theorem lw_p2 : lw_okq (⟨"ThawGives", "holding", "()LThawGives$Pass;"⟩, 11) := ⟨⟨by decide +kernel, by decide +kernel⟩, List.mem_of_getElem? (i := 18) (by decide +kernel), List.mem_of_getElem? (i := 279) (by decide +kernel), List.mem_of_getElem? (i := 280) (by decide +kernel)⟩
theorem lw_p3 : lw_okq (⟨"ThawGives$Thing", "meltIn", "(ILThawGives$Pass;)I"⟩, 7) := ⟨⟨by decide +kernel, by decide +kernel⟩, List.mem_of_getElem? (i := 63) (by decide +kernel), List.mem_of_getElem? (i := 283) (by decide +kernel), List.mem_of_getElem? (i := 284) (by decide +kernel)⟩
theorem lw_p4 : lw_okq (⟨"ThawGives$Pass", "warmth", "([I)I"⟩, 5) := ⟨⟨by decide +kernel, by decide +kernel⟩, List.mem_of_getElem? (i := 136) (by decide +kernel), List.mem_of_getElem? (i := 287) (by decide +kernel), List.mem_of_getElem? (i := 288) (by decide +kernel)⟩
theorem lw_p5 : lw_okq (⟨"ThawGives", "whenOf", "(I)I"⟩, 11) := ⟨⟨by decide +kernel, by decide +kernel⟩, List.mem_of_getElem? (i := 18) (by decide +kernel), List.mem_of_getElem? (i := 294) (by decide +kernel), List.mem_of_getElem? (i := 295) (by decide +kernel)⟩
theorem lw_p6 : lw_okq (⟨"ThawGives$Thing", "become", "(LThawGives$Thing;)V"⟩, 7) := ⟨⟨by decide +kernel, by decide +kernel⟩, List.mem_of_getElem? (i := 63) (by decide +kernel), List.mem_of_getElem? (i := 298) (by decide +kernel), List.mem_of_getElem? (i := 299) (by decide +kernel)⟩
theorem lw_p7 : lw_okq (⟨"ThawGives$Thing", "isOut", "()Z"⟩, 7) := ⟨⟨by decide +kernel, by decide +kernel⟩, List.mem_of_getElem? (i := 63) (by decide +kernel), List.mem_of_getElem? (i := 305) (by decide +kernel), List.mem_of_getElem? (i := 306) (by decide +kernel)⟩
theorem lw_p8 : lw_okq (⟨"ThawGives$Thing", "goWeek", "(ILThawGives$Pass;)V"⟩, 7) := ⟨⟨by decide +kernel, by decide +kernel⟩, List.mem_of_getElem? (i := 63) (by decide +kernel), List.mem_of_getElem? (i := 309) (by decide +kernel), List.mem_of_getElem? (i := 310) (by decide +kernel)⟩
theorem lw_p9 : lw_okq (⟨"ThawGives$Thing", "snowOn", "(I)V"⟩, 7) := ⟨⟨by decide +kernel, by decide +kernel⟩, List.mem_of_getElem? (i := 63) (by decide +kernel), List.mem_of_getElem? (i := 319) (by decide +kernel), List.mem_of_getElem? (i := 320) (by decide +kernel)⟩
theorem lw_p10 : lw_okq (⟨"ThawGives$Thing", "put", "(II)V"⟩, 7) := ⟨⟨by decide +kernel, by decide +kernel⟩, List.mem_of_getElem? (i := 63) (by decide +kernel), List.mem_of_getElem? (i := 330) (by decide +kernel), List.mem_of_getElem? (i := 331) (by decide +kernel)⟩
theorem lw_p11 : lw_okq (⟨"ThawGives$Text", "add", "(I)V"⟩, 5) := ⟨⟨by decide +kernel, by decide +kernel⟩, List.mem_of_getElem? (i := 130) (by decide +kernel), List.mem_of_getElem? (i := 346) (by decide +kernel), List.mem_of_getElem? (i := 347) (by decide +kernel)⟩
theorem lw_p12 : lw_okq (⟨"ThawGives$Text", "readInto", "(LThawGives$Pass;)I"⟩, 5) := ⟨⟨by decide +kernel, by decide +kernel⟩, List.mem_of_getElem? (i := 130) (by decide +kernel), List.mem_of_getElem? (i := 354) (by decide +kernel), List.mem_of_getElem? (i := 355) (by decide +kernel)⟩
theorem lw_p13 : lw_okq (⟨"ThawGives$Pass", "clear", "()V"⟩, 5) := ⟨⟨by decide +kernel, by decide +kernel⟩, List.mem_of_getElem? (i := 136) (by decide +kernel), List.mem_of_getElem? (i := 358) (by decide +kernel), List.mem_of_getElem? (i := 359) (by decide +kernel)⟩
theorem lw_p14 : lw_okq (⟨"ThawGives$Text", "takeClause", "()Z"⟩, 5) := ⟨⟨by decide +kernel, by decide +kernel⟩, List.mem_of_getElem? (i := 130) (by decide +kernel), List.mem_of_getElem? (i := 362) (by decide +kernel), List.mem_of_getElem? (i := 363) (by decide +kernel)⟩
theorem lw_p15 : lw_okq (⟨"ThawGives$Text", "takeWord", "(Ljava/lang/String;)Z"⟩, 5) := ⟨⟨by decide +kernel, by decide +kernel⟩, List.mem_of_getElem? (i := 130) (by decide +kernel), List.mem_of_getElem? (i := 369) (by decide +kernel), List.mem_of_getElem? (i := 370) (by decide +kernel)⟩
def lw_privs_1 : List (MethodName × Nat) := [(⟨"ThawGives$Thing", "begin", "(IIII)V"⟩, 7), (⟨"ThawGives", "isThing", "(I)Z"⟩, 11), (⟨"ThawGives", "holding", "()LThawGives$Pass;"⟩, 11), (⟨"ThawGives$Thing", "meltIn", "(ILThawGives$Pass;)I"⟩, 7), (⟨"ThawGives$Pass", "warmth", "([I)I"⟩, 5), (⟨"ThawGives", "whenOf", "(I)I"⟩, 11), (⟨"ThawGives$Thing", "become", "(LThawGives$Thing;)V"⟩, 7), (⟨"ThawGives$Thing", "isOut", "()Z"⟩, 7), (⟨"ThawGives$Thing", "goWeek", "(ILThawGives$Pass;)V"⟩, 7), (⟨"ThawGives$Thing", "snowOn", "(I)V"⟩, 7), (⟨"ThawGives$Thing", "put", "(II)V"⟩, 7), (⟨"ThawGives$Text", "add", "(I)V"⟩, 5), (⟨"ThawGives$Text", "readInto", "(LThawGives$Pass;)I"⟩, 5), (⟨"ThawGives$Pass", "clear", "()V"⟩, 5), (⟨"ThawGives$Text", "takeClause", "()Z"⟩, 5), (⟨"ThawGives$Text", "takeWord", "(Ljava/lang/String;)Z"⟩, 5)]
theorem lw_r1 : ∀ q ∈ lw_privs_1, lw_okq q := List.forall_mem_cons.mpr ⟨lw_p0, List.forall_mem_cons.mpr ⟨lw_p1, List.forall_mem_cons.mpr ⟨lw_p2, List.forall_mem_cons.mpr ⟨lw_p3, List.forall_mem_cons.mpr ⟨lw_p4, List.forall_mem_cons.mpr ⟨lw_p5, List.forall_mem_cons.mpr ⟨lw_p6, List.forall_mem_cons.mpr ⟨lw_p7, List.forall_mem_cons.mpr ⟨lw_p8, List.forall_mem_cons.mpr ⟨lw_p9, List.forall_mem_cons.mpr ⟨lw_p10, List.forall_mem_cons.mpr ⟨lw_p11, List.forall_mem_cons.mpr ⟨lw_p12, List.forall_mem_cons.mpr ⟨lw_p13, List.forall_mem_cons.mpr ⟨lw_p14, List.forall_mem_cons.mpr ⟨lw_p15, fun _ h => absurd h List.not_mem_nil⟩⟩⟩⟩⟩⟩⟩⟩⟩⟩⟩⟩⟩⟩⟩⟩
theorem lw_p16 : lw_okq (⟨"ThawGives$Text", "take", "(I)Z"⟩, 5) := ⟨⟨by decide +kernel, by decide +kernel⟩, List.mem_of_getElem? (i := 130) (by decide +kernel), List.mem_of_getElem? (i := 421) (by decide +kernel), List.mem_of_getElem? (i := 422) (by decide +kernel)⟩
theorem lw_p17 : lw_okq (⟨"ThawGives$Text", "takeNumber", "()Z"⟩, 5) := ⟨⟨by decide +kernel, by decide +kernel⟩, List.mem_of_getElem? (i := 130) (by decide +kernel), List.mem_of_getElem? (i := 425) (by decide +kernel), List.mem_of_getElem? (i := 426) (by decide +kernel)⟩
theorem lw_p18 : lw_okq (⟨"ThawGives$Text", "takeEither", "(I)Z"⟩, 5) := ⟨⟨by decide +kernel, by decide +kernel⟩, List.mem_of_getElem? (i := 130) (by decide +kernel), List.mem_of_getElem? (i := 429) (by decide +kernel), List.mem_of_getElem? (i := 430) (by decide +kernel)⟩
theorem lw_p19 : lw_okq (⟨"ThawGives$Text", "takePart", "(I)Z"⟩, 5) := ⟨⟨by decide +kernel, by decide +kernel⟩, List.mem_of_getElem? (i := 130) (by decide +kernel), List.mem_of_getElem? (i := 433) (by decide +kernel), List.mem_of_getElem? (i := 434) (by decide +kernel)⟩
theorem lw_p20 : lw_okq (⟨"ThawGives$Pass", "add", "(III)V"⟩, 5) := ⟨⟨by decide +kernel, by decide +kernel⟩, List.mem_of_getElem? (i := 136) (by decide +kernel), List.mem_of_getElem? (i := 437) (by decide +kernel), List.mem_of_getElem? (i := 438) (by decide +kernel)⟩
theorem lw_p21 : lw_okq (⟨"ThawGives$Text", "takeTest", "()Z"⟩, 5) := ⟨⟨by decide +kernel, by decide +kernel⟩, List.mem_of_getElem? (i := 130) (by decide +kernel), List.mem_of_getElem? (i := 441) (by decide +kernel), List.mem_of_getElem? (i := 442) (by decide +kernel)⟩
theorem lw_p22 : lw_okq (⟨"ThawGives", "outBits", "(I)I"⟩, 11) := ⟨⟨by decide +kernel, by decide +kernel⟩, List.mem_of_getElem? (i := 18) (by decide +kernel), List.mem_of_getElem? (i := 505) (by decide +kernel), List.mem_of_getElem? (i := 506) (by decide +kernel)⟩
theorem lw_p23 : lw_okq (⟨"ThawGives", "depthBehind", "(II)I"⟩, 11) := ⟨⟨by decide +kernel, by decide +kernel⟩, List.mem_of_getElem? (i := 18) (by decide +kernel), List.mem_of_getElem? (i := 509) (by decide +kernel), List.mem_of_getElem? (i := 510) (by decide +kernel)⟩
theorem lw_p24 : lw_okq (⟨"ThawGives", "goWeeks", "(LThawGives$Thing;I)V"⟩, 11) := ⟨⟨by decide +kernel, by decide +kernel⟩, List.mem_of_getElem? (i := 18) (by decide +kernel), List.mem_of_getElem? (i := 513) (by decide +kernel), List.mem_of_getElem? (i := 514) (by decide +kernel)⟩
theorem lw_p25 : lw_okq (⟨"ThawGives", "depthOfAll", "(I)I"⟩, 11) := ⟨⟨by decide +kernel, by decide +kernel⟩, List.mem_of_getElem? (i := 18) (by decide +kernel), List.mem_of_getElem? (i := 517) (by decide +kernel), List.mem_of_getElem? (i := 518) (by decide +kernel)⟩
theorem lw_p26 : lw_okq (⟨"ThawGives", "crossed", "(Z)I"⟩, 11) := ⟨⟨by decide +kernel, by decide +kernel⟩, List.mem_of_getElem? (i := 18) (by decide +kernel), List.mem_of_getElem? (i := 521) (by decide +kernel), List.mem_of_getElem? (i := 522) (by decide +kernel)⟩
theorem lw_p27 : lw_okq (⟨"ThawGives", "findWhens", "()V"⟩, 11) := ⟨⟨by decide +kernel, by decide +kernel⟩, List.mem_of_getElem? (i := 18) (by decide +kernel), List.mem_of_getElem? (i := 525) (by decide +kernel), List.mem_of_getElem? (i := 526) (by decide +kernel)⟩
theorem lw_p28 : lw_okq (⟨"ThawGives", "isCrossed", "(II)Z"⟩, 11) := ⟨⟨by decide +kernel, by decide +kernel⟩, List.mem_of_getElem? (i := 18) (by decide +kernel), List.mem_of_getElem? (i := 529) (by decide +kernel), List.mem_of_getElem? (i := 530) (by decide +kernel)⟩
theorem lw_p29 : lw_okq (⟨"ThawGives", "inOrder", "(I)I"⟩, 11) := ⟨⟨by decide +kernel, by decide +kernel⟩, List.mem_of_getElem? (i := 18) (by decide +kernel), List.mem_of_getElem? (i := 533) (by decide +kernel), List.mem_of_getElem? (i := 534) (by decide +kernel)⟩
theorem lw_p30 : lw_okq (⟨"ThawGives", "worthsOut", "(II)I"⟩, 11) := ⟨⟨by decide +kernel, by decide +kernel⟩, List.mem_of_getElem? (i := 18) (by decide +kernel), List.mem_of_getElem? (i := 549) (by decide +kernel), List.mem_of_getElem? (i := 550) (by decide +kernel)⟩
theorem lw_p31 : lw_okq (⟨"ThawGives", "isOutWith", "(IIII)Z"⟩, 11) := ⟨⟨by decide +kernel, by decide +kernel⟩, List.mem_of_getElem? (i := 18) (by decide +kernel), List.mem_of_getElem? (i := 553) (by decide +kernel), List.mem_of_getElem? (i := 554) (by decide +kernel)⟩
def lw_privs_2 : List (MethodName × Nat) := [(⟨"ThawGives$Text", "take", "(I)Z"⟩, 5), (⟨"ThawGives$Text", "takeNumber", "()Z"⟩, 5), (⟨"ThawGives$Text", "takeEither", "(I)Z"⟩, 5), (⟨"ThawGives$Text", "takePart", "(I)Z"⟩, 5), (⟨"ThawGives$Pass", "add", "(III)V"⟩, 5), (⟨"ThawGives$Text", "takeTest", "()Z"⟩, 5), (⟨"ThawGives", "outBits", "(I)I"⟩, 11), (⟨"ThawGives", "depthBehind", "(II)I"⟩, 11), (⟨"ThawGives", "goWeeks", "(LThawGives$Thing;I)V"⟩, 11), (⟨"ThawGives", "depthOfAll", "(I)I"⟩, 11), (⟨"ThawGives", "crossed", "(Z)I"⟩, 11), (⟨"ThawGives", "findWhens", "()V"⟩, 11), (⟨"ThawGives", "isCrossed", "(II)Z"⟩, 11), (⟨"ThawGives", "inOrder", "(I)I"⟩, 11), (⟨"ThawGives", "worthsOut", "(II)I"⟩, 11), (⟨"ThawGives", "isOutWith", "(IIII)Z"⟩, 11)]
theorem lw_r2 : ∀ q ∈ lw_privs_2, lw_okq q := List.forall_mem_cons.mpr ⟨lw_p16, List.forall_mem_cons.mpr ⟨lw_p17, List.forall_mem_cons.mpr ⟨lw_p18, List.forall_mem_cons.mpr ⟨lw_p19, List.forall_mem_cons.mpr ⟨lw_p20, List.forall_mem_cons.mpr ⟨lw_p21, List.forall_mem_cons.mpr ⟨lw_p22, List.forall_mem_cons.mpr ⟨lw_p23, List.forall_mem_cons.mpr ⟨lw_p24, List.forall_mem_cons.mpr ⟨lw_p25, List.forall_mem_cons.mpr ⟨lw_p26, List.forall_mem_cons.mpr ⟨lw_p27, List.forall_mem_cons.mpr ⟨lw_p28, List.forall_mem_cons.mpr ⟨lw_p29, List.forall_mem_cons.mpr ⟨lw_p30, List.forall_mem_cons.mpr ⟨lw_p31, fun _ h => absurd h List.not_mem_nil⟩⟩⟩⟩⟩⟩⟩⟩⟩⟩⟩⟩⟩⟩⟩⟩
theorem lw_p32 : lw_okq (⟨"ThawGives", "greatestWorthOut", "(II)I"⟩, 11) := ⟨⟨by decide +kernel, by decide +kernel⟩, List.mem_of_getElem? (i := 18) (by decide +kernel), List.mem_of_getElem? (i := 557) (by decide +kernel), List.mem_of_getElem? (i := 558) (by decide +kernel)⟩
theorem lw_p33 : lw_okq (⟨"ThawGives", "less", "(II)I"⟩, 11) := ⟨⟨by decide +kernel, by decide +kernel⟩, List.mem_of_getElem? (i := 18) (by decide +kernel), List.mem_of_getElem? (i := 565) (by decide +kernel), List.mem_of_getElem? (i := 566) (by decide +kernel)⟩
theorem lw_p34 : lw_okq (⟨"ThawGives", "moreToKeep", "(II)I"⟩, 11) := ⟨⟨by decide +kernel, by decide +kernel⟩, List.mem_of_getElem? (i := 18) (by decide +kernel), List.mem_of_getElem? (i := 570) (by decide +kernel), List.mem_of_getElem? (i := 571) (by decide +kernel)⟩
theorem lw_p35 : lw_okq (⟨"ThawGives$Rows", "add", "(III)I"⟩, 5) := ⟨⟨by decide +kernel, by decide +kernel⟩, List.mem_of_getElem? (i := 34) (by decide +kernel), List.mem_of_getElem? (i := 579) (by decide +kernel), List.mem_of_getElem? (i := 580) (by decide +kernel)⟩
theorem lw_p36 : lw_okq (⟨"ThawGives", "isAllSeenSo", "(III)Z"⟩, 11) := ⟨⟨by decide +kernel, by decide +kernel⟩, List.mem_of_getElem? (i := 18) (by decide +kernel), List.mem_of_getElem? (i := 587) (by decide +kernel), List.mem_of_getElem? (i := 588) (by decide +kernel)⟩
theorem lw_p37 : lw_okq (⟨"ThawGives", "depthByPlan", "(I)I"⟩, 11) := ⟨⟨by decide +kernel, by decide +kernel⟩, List.mem_of_getElem? (i := 18) (by decide +kernel), List.mem_of_getElem? (i := 611) (by decide +kernel), List.mem_of_getElem? (i := 612) (by decide +kernel)⟩
theorem lw_p38 : lw_okq (⟨"ThawGives", "isTape", "(I)Z"⟩, 11) := ⟨⟨by decide +kernel, by decide +kernel⟩, List.mem_of_getElem? (i := 18) (by decide +kernel), List.mem_of_getElem? (i := 628) (by decide +kernel), List.mem_of_getElem? (i := 629) (by decide +kernel)⟩
theorem lw_p39 : lw_okq (⟨"ThawGives$Tape", "hasPlace", "(I)Z"⟩, 3) := ⟨⟨by decide +kernel, by decide +kernel⟩, List.mem_of_getElem? (i := 207) (by decide +kernel), List.mem_of_getElem? (i := 632) (by decide +kernel), List.mem_of_getElem? (i := 633) (by decide +kernel)⟩
theorem lw_p40 : lw_okq (⟨"ThawGives$Winter", "become", "(LThawGives$Winter;)V"⟩, 7) := ⟨⟨by decide +kernel, by decide +kernel⟩, List.mem_of_getElem? (i := 26) (by decide +kernel), List.mem_of_getElem? (i := 640) (by decide +kernel), List.mem_of_getElem? (i := 641) (by decide +kernel)⟩
theorem lw_p41 : lw_okq (⟨"ThawGives$Rows", "become", "(LThawGives$Rows;)V"⟩, 5) := ⟨⟨by decide +kernel, by decide +kernel⟩, List.mem_of_getElem? (i := 34) (by decide +kernel), List.mem_of_getElem? (i := 645) (by decide +kernel), List.mem_of_getElem? (i := 646) (by decide +kernel)⟩
theorem lw_p42 : lw_okq (⟨"ThawGives$Acts", "forget", "()V"⟩, 5) := ⟨⟨by decide +kernel, by decide +kernel⟩, List.mem_of_getElem? (i := 182) (by decide +kernel), List.mem_of_getElem? (i := 658) (by decide +kernel), List.mem_of_getElem? (i := 659) (by decide +kernel)⟩
theorem lw_p43 : lw_okq (⟨"ThawGives$Acts", "start", "(LThawGives$Thing;II)I"⟩, 5) := ⟨⟨by decide +kernel, by decide +kernel⟩, List.mem_of_getElem? (i := 182) (by decide +kernel), List.mem_of_getElem? (i := 662) (by decide +kernel), List.mem_of_getElem? (i := 663) (by decide +kernel)⟩
theorem lw_p44 : lw_okq (⟨"ThawGives$Acts", "run", "(IIII)I"⟩, 5) := ⟨⟨by decide +kernel, by decide +kernel⟩, List.mem_of_getElem? (i := 182) (by decide +kernel), List.mem_of_getElem? (i := 666) (by decide +kernel), List.mem_of_getElem? (i := 667) (by decide +kernel)⟩
theorem lw_p45 : lw_okq (⟨"ThawGives$Acts", "answer", "(III)I"⟩, 5) := ⟨⟨by decide +kernel, by decide +kernel⟩, List.mem_of_getElem? (i := 182) (by decide +kernel), List.mem_of_getElem? (i := 672) (by decide +kernel), List.mem_of_getElem? (i := 673) (by decide +kernel)⟩
theorem lw_p46 : lw_okq (⟨"ThawGives$Tape", "begin", "(II)V"⟩, 3) := ⟨⟨by decide +kernel, by decide +kernel⟩, List.mem_of_getElem? (i := 207) (by decide +kernel), List.mem_of_getElem? (i := 694) (by decide +kernel), List.mem_of_getElem? (i := 695) (by decide +kernel)⟩
theorem lw_p47 : lw_okq (⟨"ThawGives$Tape", "put", "(IJ)V"⟩, 3) := ⟨⟨by decide +kernel, by decide +kernel⟩, List.mem_of_getElem? (i := 207) (by decide +kernel), List.mem_of_getElem? (i := 702) (by decide +kernel), List.mem_of_getElem? (i := 703) (by decide +kernel)⟩
def lw_privs_3 : List (MethodName × Nat) := [(⟨"ThawGives", "greatestWorthOut", "(II)I"⟩, 11), (⟨"ThawGives", "less", "(II)I"⟩, 11), (⟨"ThawGives", "moreToKeep", "(II)I"⟩, 11), (⟨"ThawGives$Rows", "add", "(III)I"⟩, 5), (⟨"ThawGives", "isAllSeenSo", "(III)Z"⟩, 11), (⟨"ThawGives", "depthByPlan", "(I)I"⟩, 11), (⟨"ThawGives", "isTape", "(I)Z"⟩, 11), (⟨"ThawGives$Tape", "hasPlace", "(I)Z"⟩, 3), (⟨"ThawGives$Winter", "become", "(LThawGives$Winter;)V"⟩, 7), (⟨"ThawGives$Rows", "become", "(LThawGives$Rows;)V"⟩, 5), (⟨"ThawGives$Acts", "forget", "()V"⟩, 5), (⟨"ThawGives$Acts", "start", "(LThawGives$Thing;II)I"⟩, 5), (⟨"ThawGives$Acts", "run", "(IIII)I"⟩, 5), (⟨"ThawGives$Acts", "answer", "(III)I"⟩, 5), (⟨"ThawGives$Tape", "begin", "(II)V"⟩, 3), (⟨"ThawGives$Tape", "put", "(IJ)V"⟩, 3)]
theorem lw_r3 : ∀ q ∈ lw_privs_3, lw_okq q := List.forall_mem_cons.mpr ⟨lw_p32, List.forall_mem_cons.mpr ⟨lw_p33, List.forall_mem_cons.mpr ⟨lw_p34, List.forall_mem_cons.mpr ⟨lw_p35, List.forall_mem_cons.mpr ⟨lw_p36, List.forall_mem_cons.mpr ⟨lw_p37, List.forall_mem_cons.mpr ⟨lw_p38, List.forall_mem_cons.mpr ⟨lw_p39, List.forall_mem_cons.mpr ⟨lw_p40, List.forall_mem_cons.mpr ⟨lw_p41, List.forall_mem_cons.mpr ⟨lw_p42, List.forall_mem_cons.mpr ⟨lw_p43, List.forall_mem_cons.mpr ⟨lw_p44, List.forall_mem_cons.mpr ⟨lw_p45, List.forall_mem_cons.mpr ⟨lw_p46, List.forall_mem_cons.mpr ⟨lw_p47, fun _ h => absurd h List.not_mem_nil⟩⟩⟩⟩⟩⟩⟩⟩⟩⟩⟩⟩⟩⟩⟩⟩
theorem lw_p48 : lw_okq (⟨"ThawGives$Tape", "hasPlaces", "(II)Z"⟩, 3) := ⟨⟨by decide +kernel, by decide +kernel⟩, List.mem_of_getElem? (i := 207) (by decide +kernel), List.mem_of_getElem? (i := 715) (by decide +kernel), List.mem_of_getElem? (i := 716) (by decide +kernel)⟩
theorem lw_p49 : lw_okq (⟨"ThawGivesModel", "isOne", "(I)Z"⟩, 43) := ⟨⟨by decide +kernel, by decide +kernel⟩, List.mem_of_getElem? (i := 720) (by decide +kernel), List.mem_of_getElem? (i := 868) (by decide +kernel), List.mem_of_getElem? (i := 869) (by decide +kernel)⟩
theorem lw_p50 : lw_okq (⟨"ThawGivesModel", "meltsIn", "(II)I"⟩, 43) := ⟨⟨by decide +kernel, by decide +kernel⟩, List.mem_of_getElem? (i := 720) (by decide +kernel), List.mem_of_getElem? (i := 872) (by decide +kernel), List.mem_of_getElem? (i := 873) (by decide +kernel)⟩
theorem lw_p51 : lw_okq (⟨"ThawGivesModel", "sum", "(II)I"⟩, 43) := ⟨⟨by decide +kernel, by decide +kernel⟩, List.mem_of_getElem? (i := 720) (by decide +kernel), List.mem_of_getElem? (i := 876) (by decide +kernel), List.mem_of_getElem? (i := 877) (by decide +kernel)⟩
theorem lw_p52 : lw_okq (⟨"ThawGivesModel", "isTrue", "(III)Z"⟩, 43) := ⟨⟨by decide +kernel, by decide +kernel⟩, List.mem_of_getElem? (i := 720) (by decide +kernel), List.mem_of_getElem? (i := 880) (by decide +kernel), List.mem_of_getElem? (i := 881) (by decide +kernel)⟩
theorem lw_p53 : lw_okq (⟨"ThawGivesModel", "letterOf", "(III)I"⟩, 43) := ⟨⟨by decide +kernel, by decide +kernel⟩, List.mem_of_getElem? (i := 720) (by decide +kernel), List.mem_of_getElem? (i := 884) (by decide +kernel), List.mem_of_getElem? (i := 885) (by decide +kernel)⟩
theorem lw_p54 : lw_okq (⟨"ThawGivesModel", "when", "(I)I"⟩, 43) := ⟨⟨by decide +kernel, by decide +kernel⟩, List.mem_of_getElem? (i := 720) (by decide +kernel), List.mem_of_getElem? (i := 888) (by decide +kernel), List.mem_of_getElem? (i := 889) (by decide +kernel)⟩
theorem lw_p55 : lw_okq (⟨"ThawGivesModel", "keep", "([I)V"⟩, 43) := ⟨⟨by decide +kernel, by decide +kernel⟩, List.mem_of_getElem? (i := 720) (by decide +kernel), List.mem_of_getElem? (i := 892) (by decide +kernel), List.mem_of_getElem? (i := 893) (by decide +kernel)⟩
theorem lw_p56 : lw_okq (⟨"ThawGivesModel", "goesWeek", "()V"⟩, 43) := ⟨⟨by decide +kernel, by decide +kernel⟩, List.mem_of_getElem? (i := 720) (by decide +kernel), List.mem_of_getElem? (i := 896) (by decide +kernel), List.mem_of_getElem? (i := 897) (by decide +kernel)⟩
theorem lw_p57 : lw_okq (⟨"ThawGivesModel", "snow", "()I"⟩, 43) := ⟨⟨by decide +kernel, by decide +kernel⟩, List.mem_of_getElem? (i := 720) (by decide +kernel), List.mem_of_getElem? (i := 900) (by decide +kernel), List.mem_of_getElem? (i := 901) (by decide +kernel)⟩
theorem lw_p58 : lw_okq (⟨"ThawGivesModel", "again", "([I)V"⟩, 43) := ⟨⟨by decide +kernel, by decide +kernel⟩, List.mem_of_getElem? (i := 720) (by decide +kernel), List.mem_of_getElem? (i := 909) (by decide +kernel), List.mem_of_getElem? (i := 910) (by decide +kernel)⟩
theorem lw_p59 : lw_okq (⟨"ThawGivesModel", "isClause", "(I)Z"⟩, 43) := ⟨⟨by decide +kernel, by decide +kernel⟩, List.mem_of_getElem? (i := 720) (by decide +kernel), List.mem_of_getElem? (i := 933) (by decide +kernel), List.mem_of_getElem? (i := 934) (by decide +kernel)⟩
theorem lw_p60 : lw_okq (⟨"ThawGivesModel", "isAll", "(Ljava/lang/String;)Z"⟩, 43) := ⟨⟨by decide +kernel, by decide +kernel⟩, List.mem_of_getElem? (i := 720) (by decide +kernel), List.mem_of_getElem? (i := 938) (by decide +kernel), List.mem_of_getElem? (i := 939) (by decide +kernel)⟩
theorem lw_p61 : lw_okq (⟨"ThawGivesModel", "is", "(I)Z"⟩, 43) := ⟨⟨by decide +kernel, by decide +kernel⟩, List.mem_of_getElem? (i := 720) (by decide +kernel), List.mem_of_getElem? (i := 944) (by decide +kernel), List.mem_of_getElem? (i := 945) (by decide +kernel)⟩
theorem lw_p62 : lw_okq (⟨"ThawGivesModel", "isNumber", "()Z"⟩, 43) := ⟨⟨by decide +kernel, by decide +kernel⟩, List.mem_of_getElem? (i := 720) (by decide +kernel), List.mem_of_getElem? (i := 950) (by decide +kernel), List.mem_of_getElem? (i := 951) (by decide +kernel)⟩
theorem lw_p63 : lw_okq (⟨"ThawGivesModel", "isDigit", "()Z"⟩, 43) := ⟨⟨by decide +kernel, by decide +kernel⟩, List.mem_of_getElem? (i := 720) (by decide +kernel), List.mem_of_getElem? (i := 954) (by decide +kernel), List.mem_of_getElem? (i := 955) (by decide +kernel)⟩
def lw_privs_4 : List (MethodName × Nat) := [(⟨"ThawGives$Tape", "hasPlaces", "(II)Z"⟩, 3), (⟨"ThawGivesModel", "isOne", "(I)Z"⟩, 43), (⟨"ThawGivesModel", "meltsIn", "(II)I"⟩, 43), (⟨"ThawGivesModel", "sum", "(II)I"⟩, 43), (⟨"ThawGivesModel", "isTrue", "(III)Z"⟩, 43), (⟨"ThawGivesModel", "letterOf", "(III)I"⟩, 43), (⟨"ThawGivesModel", "when", "(I)I"⟩, 43), (⟨"ThawGivesModel", "keep", "([I)V"⟩, 43), (⟨"ThawGivesModel", "goesWeek", "()V"⟩, 43), (⟨"ThawGivesModel", "snow", "()I"⟩, 43), (⟨"ThawGivesModel", "again", "([I)V"⟩, 43), (⟨"ThawGivesModel", "isClause", "(I)Z"⟩, 43), (⟨"ThawGivesModel", "isAll", "(Ljava/lang/String;)Z"⟩, 43), (⟨"ThawGivesModel", "is", "(I)Z"⟩, 43), (⟨"ThawGivesModel", "isNumber", "()Z"⟩, 43), (⟨"ThawGivesModel", "isDigit", "()Z"⟩, 43)]
theorem lw_r4 : ∀ q ∈ lw_privs_4, lw_okq q := List.forall_mem_cons.mpr ⟨lw_p48, List.forall_mem_cons.mpr ⟨lw_p49, List.forall_mem_cons.mpr ⟨lw_p50, List.forall_mem_cons.mpr ⟨lw_p51, List.forall_mem_cons.mpr ⟨lw_p52, List.forall_mem_cons.mpr ⟨lw_p53, List.forall_mem_cons.mpr ⟨lw_p54, List.forall_mem_cons.mpr ⟨lw_p55, List.forall_mem_cons.mpr ⟨lw_p56, List.forall_mem_cons.mpr ⟨lw_p57, List.forall_mem_cons.mpr ⟨lw_p58, List.forall_mem_cons.mpr ⟨lw_p59, List.forall_mem_cons.mpr ⟨lw_p60, List.forall_mem_cons.mpr ⟨lw_p61, List.forall_mem_cons.mpr ⟨lw_p62, List.forall_mem_cons.mpr ⟨lw_p63, fun _ h => absurd h List.not_mem_nil⟩⟩⟩⟩⟩⟩⟩⟩⟩⟩⟩⟩⟩⟩⟩⟩
theorem lw_p64 : lw_okq (⟨"ThawGivesModel", "isE", "()Z"⟩, 43) := ⟨⟨by decide +kernel, by decide +kernel⟩, List.mem_of_getElem? (i := 720) (by decide +kernel), List.mem_of_getElem? (i := 958) (by decide +kernel), List.mem_of_getElem? (i := 959) (by decide +kernel)⟩
theorem lw_p65 : lw_okq (⟨"ThawGivesModel", "isT", "()Z"⟩, 43) := ⟨⟨by decide +kernel, by decide +kernel⟩, List.mem_of_getElem? (i := 720) (by decide +kernel), List.mem_of_getElem? (i := 962) (by decide +kernel), List.mem_of_getElem? (i := 963) (by decide +kernel)⟩
theorem lw_p66 : lw_okq (⟨"ThawGivesModel", "isF", "()Z"⟩, 43) := ⟨⟨by decide +kernel, by decide +kernel⟩, List.mem_of_getElem? (i := 720) (by decide +kernel), List.mem_of_getElem? (i := 966) (by decide +kernel), List.mem_of_getElem? (i := 967) (by decide +kernel)⟩
theorem lw_p67 : lw_okq (⟨"ThawGivesModel", "isOpened", "(I)Z"⟩, 43) := ⟨⟨by decide +kernel, by decide +kernel⟩, List.mem_of_getElem? (i := 720) (by decide +kernel), List.mem_of_getElem? (i := 970) (by decide +kernel), List.mem_of_getElem? (i := 971) (by decide +kernel)⟩
theorem lw_p68 : lw_okq (⟨"ThawGivesModel", "codes", "(I)Z"⟩, 43) := ⟨⟨by decide +kernel, by decide +kernel⟩, List.mem_of_getElem? (i := 720) (by decide +kernel), List.mem_of_getElem? (i := 974) (by decide +kernel), List.mem_of_getElem? (i := 975) (by decide +kernel)⟩
theorem lw_p69 : lw_okq (⟨"ThawGivesModel", "isTest", "()Z"⟩, 43) := ⟨⟨by decide +kernel, by decide +kernel⟩, List.mem_of_getElem? (i := 720) (by decide +kernel), List.mem_of_getElem? (i := 978) (by decide +kernel), List.mem_of_getElem? (i := 979) (by decide +kernel)⟩
theorem lw_p70 : lw_okq (⟨"ThawGivesModel", "outs", "()I"⟩, 43) := ⟨⟨by decide +kernel, by decide +kernel⟩, List.mem_of_getElem? (i := 720) (by decide +kernel), List.mem_of_getElem? (i := 993) (by decide +kernel), List.mem_of_getElem? (i := 994) (by decide +kernel)⟩
theorem lw_p71 : lw_okq (⟨"ThawGivesModel", "allDepth", "()I"⟩, 43) := ⟨⟨by decide +kernel, by decide +kernel⟩, List.mem_of_getElem? (i := 720) (by decide +kernel), List.mem_of_getElem? (i := 997) (by decide +kernel), List.mem_of_getElem? (i := 998) (by decide +kernel)⟩
theorem lw_p72 : lw_okq (⟨"ThawGivesModel", "crossed", "(I)I"⟩, 43) := ⟨⟨by decide +kernel, by decide +kernel⟩, List.mem_of_getElem? (i := 720) (by decide +kernel), List.mem_of_getElem? (i := 1001) (by decide +kernel), List.mem_of_getElem? (i := 1002) (by decide +kernel)⟩
theorem lw_p73 : lw_okq (⟨"ThawGivesModel", "looks", "()V"⟩, 43) := ⟨⟨by decide +kernel, by decide +kernel⟩, List.mem_of_getElem? (i := 720) (by decide +kernel), List.mem_of_getElem? (i := 1005) (by decide +kernel), List.mem_of_getElem? (i := 1006) (by decide +kernel)⟩
theorem lw_p74 : lw_okq (⟨"ThawGivesModel", "order", "(I)I"⟩, 43) := ⟨⟨by decide +kernel, by decide +kernel⟩, List.mem_of_getElem? (i := 720) (by decide +kernel), List.mem_of_getElem? (i := 1009) (by decide +kernel), List.mem_of_getElem? (i := 1010) (by decide +kernel)⟩
theorem lw_p75 : lw_okq (⟨"ThawGivesModel", "isOutBehind", "(II)Z"⟩, 43) := ⟨⟨by decide +kernel, by decide +kernel⟩, List.mem_of_getElem? (i := 720) (by decide +kernel), List.mem_of_getElem? (i := 1021) (by decide +kernel), List.mem_of_getElem? (i := 1022) (by decide +kernel)⟩
theorem lw_p76 : lw_okq (⟨"ThawGivesModel", "isSeen", "(I)Z"⟩, 43) := ⟨⟨by decide +kernel, by decide +kernel⟩, List.mem_of_getElem? (i := 720) (by decide +kernel), List.mem_of_getElem? (i := 1037) (by decide +kernel), List.mem_of_getElem? (i := 1038) (by decide +kernel)⟩
theorem lw_p77 : lw_okq (⟨"ThawGivesModel", "sinks", "(III)I"⟩, 43) := ⟨⟨by decide +kernel, by decide +kernel⟩, List.mem_of_getElem? (i := 720) (by decide +kernel), List.mem_of_getElem? (i := 1086) (by decide +kernel), List.mem_of_getElem? (i := 1087) (by decide +kernel)⟩
theorem lw_p78 : lw_okq (⟨"ThawGivesModel", "ran", "(I)V"⟩, 43) := ⟨⟨by decide +kernel, by decide +kernel⟩, List.mem_of_getElem? (i := 720) (by decide +kernel), List.mem_of_getElem? (i := 1090) (by decide +kernel), List.mem_of_getElem? (i := 1091) (by decide +kernel)⟩
theorem lw_p79 : lw_okq (⟨"ThawGivesModel", "shows", "(III)I"⟩, 43) := ⟨⟨by decide +kernel, by decide +kernel⟩, List.mem_of_getElem? (i := 720) (by decide +kernel), List.mem_of_getElem? (i := 1097) (by decide +kernel), List.mem_of_getElem? (i := 1098) (by decide +kernel)⟩
def lw_privs_5 : List (MethodName × Nat) := [(⟨"ThawGivesModel", "isE", "()Z"⟩, 43), (⟨"ThawGivesModel", "isT", "()Z"⟩, 43), (⟨"ThawGivesModel", "isF", "()Z"⟩, 43), (⟨"ThawGivesModel", "isOpened", "(I)Z"⟩, 43), (⟨"ThawGivesModel", "codes", "(I)Z"⟩, 43), (⟨"ThawGivesModel", "isTest", "()Z"⟩, 43), (⟨"ThawGivesModel", "outs", "()I"⟩, 43), (⟨"ThawGivesModel", "allDepth", "()I"⟩, 43), (⟨"ThawGivesModel", "crossed", "(I)I"⟩, 43), (⟨"ThawGivesModel", "looks", "()V"⟩, 43), (⟨"ThawGivesModel", "order", "(I)I"⟩, 43), (⟨"ThawGivesModel", "isOutBehind", "(II)Z"⟩, 43), (⟨"ThawGivesModel", "isSeen", "(I)Z"⟩, 43), (⟨"ThawGivesModel", "sinks", "(III)I"⟩, 43), (⟨"ThawGivesModel", "ran", "(I)V"⟩, 43), (⟨"ThawGivesModel", "shows", "(III)I"⟩, 43)]
theorem lw_r5 : ∀ q ∈ lw_privs_5, lw_okq q := List.forall_mem_cons.mpr ⟨lw_p64, List.forall_mem_cons.mpr ⟨lw_p65, List.forall_mem_cons.mpr ⟨lw_p66, List.forall_mem_cons.mpr ⟨lw_p67, List.forall_mem_cons.mpr ⟨lw_p68, List.forall_mem_cons.mpr ⟨lw_p69, List.forall_mem_cons.mpr ⟨lw_p70, List.forall_mem_cons.mpr ⟨lw_p71, List.forall_mem_cons.mpr ⟨lw_p72, List.forall_mem_cons.mpr ⟨lw_p73, List.forall_mem_cons.mpr ⟨lw_p74, List.forall_mem_cons.mpr ⟨lw_p75, List.forall_mem_cons.mpr ⟨lw_p76, List.forall_mem_cons.mpr ⟨lw_p77, List.forall_mem_cons.mpr ⟨lw_p78, List.forall_mem_cons.mpr ⟨lw_p79, fun _ h => absurd h List.not_mem_nil⟩⟩⟩⟩⟩⟩⟩⟩⟩⟩⟩⟩⟩⟩⟩⟩
theorem lw_p80 : lw_okq (⟨"ThawGivesModel", "tells", "(III)I"⟩, 43) := ⟨⟨by decide +kernel, by decide +kernel⟩, List.mem_of_getElem? (i := 720) (by decide +kernel), List.mem_of_getElem? (i := 1101) (by decide +kernel), List.mem_of_getElem? (i := 1102) (by decide +kernel)⟩
def lw_privs_6 : List (MethodName × Nat) := [(⟨"ThawGivesModel", "tells", "(III)I"⟩, 43)]
theorem lw_r6 : ∀ q ∈ lw_privs_6, lw_okq q := List.forall_mem_cons.mpr ⟨lw_p80, fun _ h => absurd h List.not_mem_nil⟩
def lw_privs : List (MethodName × Nat) := lw_privs_1 ++ (lw_privs_2 ++ (lw_privs_3 ++ (lw_privs_4 ++ (lw_privs_5 ++ (lw_privs_6)))))
def lw_tbl : List Cond := k2_sels lw_privs ++ tables_1
theorem lw_privs_ok : ∀ q ∈ lw_privs, lw_okq q := by
  show ∀ q ∈ lw_privs_1 ++ (lw_privs_2 ++ (lw_privs_3 ++ (lw_privs_4 ++ (lw_privs_5 ++ (lw_privs_6))))), lw_okq q
  exact List.forall_mem_append.mpr ⟨lw_r1, List.forall_mem_append.mpr ⟨lw_r2, List.forall_mem_append.mpr ⟨lw_r3, List.forall_mem_append.mpr ⟨lw_r4, List.forall_mem_append.mpr ⟨lw_r5, lw_r6⟩⟩⟩⟩⟩
def RX0 : String := "ThawGives$Acts"
def TX0 : u_T := fun k => match k with
  | 0 => ("ThawGives$Acts", "bodies", "[I", true)
  | 1 => ("ThawGives$Acts", "ran", "I", false)
  | 2 => ("ThawGives$Acts", "kind", "I", false)
  | 3 => ("ThawGives$Acts", "number", "I", false)
  | _ => ("ThawGives$Acts", "v", "I", false)
def tyX0 : Nat → FieldType := fun k => match k with
  | 0 => .array .int
  | 1 => .int
  | 2 => .int
  | 3 => .int
  | _ => .int
abbrev wsX00 : List Cond := u_ws RX0 TX0 5
theorem nmX0 : ∀ a, a < 5 → ∀ b, b < 5 → a ≠ b → (TX0 a).2.1 ≠ (TX0 b).2.1 := by decide +kernel
theorem tyX0_ok : ∀ k, k < 5 → parseFieldDescriptor (TX0 k).2.2.1 = some (tyX0 k) := by decide +kernel
abbrev cX0_init : ByteArray := prog_2_method_1_code
def yX0_init : MethodName := ⟨RX0, "<init>", "()V"⟩
abbrev cX0_forget : ByteArray := prog_2_method_2_code
def yX0_forget : MethodName := ⟨RX0, "forget", "()V"⟩
abbrev cX0_start : ByteArray := prog_2_method_3_code
def yX0_start : MethodName := ⟨RX0, "start", "(LThawGives$Thing;II)I"⟩
abbrev cX0_run : ByteArray := prog_2_method_4_code
def yX0_run : MethodName := ⟨RX0, "run", "(IIII)I"⟩
abbrev cX0_answer : ByteArray := prog_2_method_5_code
def yX0_answer : MethodName := ⟨RX0, "answer", "(III)I"⟩
def RX1 : String := "ThawGives$Pass"
def TX1 : u_T := fun k => match k with
  | 0 => ("ThawGives$Pass", "steps", "[I", true)
  | 1 => ("ThawGives$Pass", "letters", "[I", true)
  | 2 => ("ThawGives$Pass", "numbers", "[I", true)
  | 3 => ("ThawGives$Pass", "size", "I", false)
  | _ => ("ThawGives$Pass", "snow", "I", false)
def tyX1 : Nat → FieldType := fun k => match k with
  | 0 => .array .int
  | 1 => .array .int
  | 2 => .array .int
  | 3 => .int
  | _ => .int
abbrev wsX10 : List Cond := u_ws RX1 TX1 5
theorem nmX1 : ∀ a, a < 5 → ∀ b, b < 5 → a ≠ b → (TX1 a).2.1 ≠ (TX1 b).2.1 := by decide +kernel
theorem tyX1_ok : ∀ k, k < 5 → parseFieldDescriptor (TX1 k).2.2.1 = some (tyX1 k) := by decide +kernel
abbrev cX1_init : ByteArray := prog_3_method_1_code
def yX1_init : MethodName := ⟨RX1, "<init>", "()V"⟩
abbrev cX1_clear : ByteArray := prog_3_method_2_code
def yX1_clear : MethodName := ⟨RX1, "clear", "()V"⟩
abbrev cX1_add : ByteArray := prog_3_method_3_code
def yX1_add : MethodName := ⟨RX1, "add", "(III)V"⟩
abbrev cX1_warmth : ByteArray := prog_3_method_4_code
def yX1_warmth : MethodName := ⟨RX1, "warmth", "([I)I"⟩
def RX2 : String := "ThawGives$Rows"
def TX2 : u_T := fun k => match k with
  | 0 => ("ThawGives$Rows", "most", "I", true)
  | 1 => ("ThawGives$Rows", "first", "[I", true)
  | 2 => ("ThawGives$Rows", "second", "[I", true)
  | 3 => ("ThawGives$Rows", "third", "[I", true)
  | _ => ("ThawGives$Rows", "size", "I", false)
def tyX2 : Nat → FieldType := fun k => match k with
  | 0 => .int
  | 1 => .array .int
  | 2 => .array .int
  | 3 => .array .int
  | _ => .int
abbrev wsX20 : List Cond := u_ws RX2 TX2 5
theorem nmX2 : ∀ a, a < 5 → ∀ b, b < 5 → a ≠ b → (TX2 a).2.1 ≠ (TX2 b).2.1 := by decide +kernel
theorem tyX2_ok : ∀ k, k < 5 → parseFieldDescriptor (TX2 k).2.2.1 = some (tyX2 k) := by decide +kernel
abbrev cX2_init : ByteArray := prog_4_method_1_code
def yX2_init : MethodName := ⟨RX2, "<init>", "(I)V"⟩
abbrev cX2_add : ByteArray := prog_4_method_2_code
def yX2_add : MethodName := ⟨RX2, "add", "(III)I"⟩
abbrev cX2_become : ByteArray := prog_4_method_3_code
def yX2_become : MethodName := ⟨RX2, "become", "(LThawGives$Rows;)V"⟩
def RX3 : String := "ThawGives$Tape"
def TX3 : u_T := fun k => match k with
  | 0 => ("ThawGives$Tape", "items", "[J", true)
  | 1 => ("ThawGives$Tape", "sort", "I", false)
  | _ => ("ThawGives$Tape", "length", "I", false)
def tyX3 : Nat → FieldType := fun k => match k with
  | 0 => .array .long
  | 1 => .int
  | _ => .int
abbrev wsX30 : List Cond := u_ws RX3 TX3 3
theorem nmX3 : ∀ a, a < 3 → ∀ b, b < 3 → a ≠ b → (TX3 a).2.1 ≠ (TX3 b).2.1 := by decide +kernel
theorem tyX3_ok : ∀ k, k < 3 → parseFieldDescriptor (TX3 k).2.2.1 = some (tyX3 k) := by decide +kernel
abbrev cX3_init : ByteArray := prog_5_method_1_code
def yX3_init : MethodName := ⟨RX3, "<init>", "()V"⟩
abbrev cX3_begin : ByteArray := prog_5_method_2_code
def yX3_begin : MethodName := ⟨RX3, "begin", "(II)V"⟩
abbrev cX3_hasPlace : ByteArray := prog_5_method_3_code
def yX3_hasPlace : MethodName := ⟨RX3, "hasPlace", "(I)Z"⟩
abbrev cX3_hasPlaces : ByteArray := prog_5_method_4_code
def yX3_hasPlaces : MethodName := ⟨RX3, "hasPlaces", "(II)Z"⟩
abbrev cX3_put : ByteArray := prog_5_method_5_code
def yX3_put : MethodName := ⟨RX3, "put", "(IJ)V"⟩
def RX4 : String := "ThawGives$Text"
def TX4 : u_T := fun k => match k with
  | 0 => ("ThawGives$Text", "signs", "[B", true)
  | 1 => ("ThawGives$Text", "length", "I", false)
  | 2 => ("ThawGives$Text", "at", "I", false)
  | 3 => ("ThawGives$Text", "number", "I", false)
  | _ => ("ThawGives$Text", "pass", "LThawGives$Pass;", false)
def tyX4 : Nat → FieldType := fun k => match k with
  | 0 => .array .byte
  | 1 => .int
  | 2 => .int
  | 3 => .int
  | _ => .object "ThawGives$Pass"
abbrev wsX40 : List Cond := u_ws RX4 TX4 5
theorem nmX4 : ∀ a, a < 5 → ∀ b, b < 5 → a ≠ b → (TX4 a).2.1 ≠ (TX4 b).2.1 := by decide +kernel
theorem tyX4_ok : ∀ k, k < 5 → parseFieldDescriptor (TX4 k).2.2.1 = some (tyX4 k) := by decide +kernel
abbrev cX4_init : ByteArray := prog_6_method_1_code
def yX4_init : MethodName := ⟨RX4, "<init>", "()V"⟩
abbrev cX4_add : ByteArray := prog_6_method_2_code
def yX4_add : MethodName := ⟨RX4, "add", "(I)V"⟩
abbrev cX4_readInto : ByteArray := prog_6_method_3_code
def yX4_readInto : MethodName := ⟨RX4, "readInto", "(LThawGives$Pass;)I"⟩
abbrev cX4_take : ByteArray := prog_6_method_4_code
def yX4_take : MethodName := ⟨RX4, "take", "(I)Z"⟩
abbrev cX4_takeWord : ByteArray := prog_6_method_5_code
def yX4_takeWord : MethodName := ⟨RX4, "takeWord", "(Ljava/lang/String;)Z"⟩
abbrev cX4_takeNumber : ByteArray := prog_6_method_6_code
def yX4_takeNumber : MethodName := ⟨RX4, "takeNumber", "()Z"⟩
abbrev cX4_takeClause : ByteArray := prog_6_method_7_code
def yX4_takeClause : MethodName := ⟨RX4, "takeClause", "()Z"⟩
abbrev cX4_takeEither : ByteArray := prog_6_method_8_code
def yX4_takeEither : MethodName := ⟨RX4, "takeEither", "(I)Z"⟩
abbrev cX4_takePart : ByteArray := prog_6_method_9_code
def yX4_takePart : MethodName := ⟨RX4, "takePart", "(I)Z"⟩
abbrev cX4_takeTest : ByteArray := prog_6_method_10_code
def yX4_takeTest : MethodName := ⟨RX4, "takeTest", "()Z"⟩
def RX5 : String := "ThawGives$Thing"
def TX5 : u_T := fun k => match k with
  | 0 => ("ThawGives$Thing", "number", "I", false)
  | 1 => ("ThawGives$Thing", "kind", "I", false)
  | 2 => ("ThawGives$Thing", "v", "I", false)
  | 3 => ("ThawGives$Thing", "worth", "I", false)
  | 4 => ("ThawGives$Thing", "depth", "I", false)
  | 5 => ("ThawGives$Thing", "row", "[I", true)
  | _ => ("ThawGives$Thing", "facts", "[I", true)
def tyX5 : Nat → FieldType := fun k => match k with
  | 0 => .int
  | 1 => .int
  | 2 => .int
  | 3 => .int
  | 4 => .int
  | 5 => .array .int
  | _ => .array .int
abbrev wsX50 : List Cond := u_ws RX5 TX5 7
theorem nmX5 : ∀ a, a < 7 → ∀ b, b < 7 → a ≠ b → (TX5 a).2.1 ≠ (TX5 b).2.1 := by decide +kernel
theorem tyX5_ok : ∀ k, k < 7 → parseFieldDescriptor (TX5 k).2.2.1 = some (tyX5 k) := by decide +kernel
abbrev cX5_init : ByteArray := prog_7_method_1_code
def yX5_init : MethodName := ⟨RX5, "<init>", "(I)V"⟩
abbrev cX5_begin : ByteArray := prog_7_method_2_code
def yX5_begin : MethodName := ⟨RX5, "begin", "(IIII)V"⟩
abbrev cX5_become : ByteArray := prog_7_method_3_code
def yX5_become : MethodName := ⟨RX5, "become", "(LThawGives$Thing;)V"⟩
abbrev cX5_put : ByteArray := prog_7_method_4_code
def yX5_put : MethodName := ⟨RX5, "put", "(II)V"⟩
abbrev cX5_isOut : ByteArray := prog_7_method_5_code
def yX5_isOut : MethodName := ⟨RX5, "isOut", "()Z"⟩
abbrev cX5_meltIn : ByteArray := prog_7_method_6_code
def yX5_meltIn : MethodName := ⟨RX5, "meltIn", "(ILThawGives$Pass;)I"⟩
abbrev cX5_goWeek : ByteArray := prog_7_method_7_code
def yX5_goWeek : MethodName := ⟨RX5, "goWeek", "(ILThawGives$Pass;)V"⟩
abbrev cX5_snowOn : ByteArray := prog_7_method_8_code
def yX5_snowOn : MethodName := ⟨RX5, "snowOn", "(I)V"⟩
def RX6 : String := "ThawGives$Winter"
def TX6 : u_T := fun k => match k with
  | 0 => ("ThawGives$Winter", "things", "[LThawGives$Thing;", true)
  | 1 => ("ThawGives$Winter", "count", "I", false)
  | 2 => ("ThawGives$Winter", "week", "I", false)
  | 3 => ("ThawGives$Winter", "holds", "I", false)
  | 4 => ("ThawGives$Winter", "seen", "LThawGives$Rows;", true)
  | 5 => ("ThawGives$Winter", "plan", "LThawGives$Rows;", true)
  | _ => ("ThawGives$Winter", "book", "LThawGives$Rows;", true)
def tyX6 : Nat → FieldType := fun k => match k with
  | 0 => .array (.object "ThawGives$Thing")
  | 1 => .int
  | 2 => .int
  | 3 => .int
  | 4 => .object "ThawGives$Rows"
  | 5 => .object "ThawGives$Rows"
  | _ => .object "ThawGives$Rows"
abbrev wsX60 : List Cond := u_ws RX6 TX6 7
theorem nmX6 : ∀ a, a < 7 → ∀ b, b < 7 → a ≠ b → (TX6 a).2.1 ≠ (TX6 b).2.1 := by decide +kernel
theorem tyX6_ok : ∀ k, k < 7 → parseFieldDescriptor (TX6 k).2.2.1 = some (tyX6 k) := by decide +kernel
abbrev cX6_init : ByteArray := prog_8_method_1_code
def yX6_init : MethodName := ⟨RX6, "<init>", "()V"⟩
abbrev cX6_become : ByteArray := prog_8_method_2_code
def yX6_become : MethodName := ⟨RX6, "become", "(LThawGives$Winter;)V"⟩
def RX7 : String := "ThawGives"
def TX7 : u_T := fun k => match k with
  | 0 => ("ThawGives", "now", "LThawGives$Winter;", true)
  | 1 => ("ThawGives", "kept", "LThawGives$Winter;", true)
  | 2 => ("ThawGives", "isKept", "Z", false)
  | 3 => ("ThawGives", "trial", "LThawGives$Thing;", true)
  | 4 => ("ThawGives", "whens", "[I", true)
  | 5 => ("ThawGives", "text", "LThawGives$Text;", true)
  | 6 => ("ThawGives", "passes", "[LThawGives$Pass;", true)
  | 7 => ("ThawGives", "passCount", "I", false)
  | 8 => ("ThawGives", "noPass", "LThawGives$Pass;", true)
  | 9 => ("ThawGives", "acts", "LThawGives$Acts;", true)
  | _ => ("ThawGives", "tapes", "[LThawGives$Tape;", true)
def tyX7 : Nat → FieldType := fun k => match k with
  | 0 => .object "ThawGives$Winter"
  | 1 => .object "ThawGives$Winter"
  | 2 => .boolean
  | 3 => .object "ThawGives$Thing"
  | 4 => .array .int
  | 5 => .object "ThawGives$Text"
  | 6 => .array (.object "ThawGives$Pass")
  | 7 => .int
  | 8 => .object "ThawGives$Pass"
  | 9 => .object "ThawGives$Acts"
  | _ => .array (.object "ThawGives$Tape")
abbrev wsX70 : List Cond := u_ws RX7 TX7 11
theorem nmX7 : ∀ a, a < 11 → ∀ b, b < 11 → a ≠ b → (TX7 a).2.1 ≠ (TX7 b).2.1 := by decide +kernel
theorem tyX7_ok : ∀ k, k < 11 → parseFieldDescriptor (TX7 k).2.2.1 = some (tyX7 k) := by decide +kernel
abbrev cX7_init : ByteArray := prog_1_method_1_code
def yX7_init : MethodName := ⟨RX7, "<init>", "()V"⟩
abbrev cX7_thing : ByteArray := prog_1_method_2_code
def yX7_thing : MethodName := ⟨RX7, "thing", "(IIII)I"⟩
abbrev cX7_of : ByteArray := prog_1_method_3_code
def yX7_of : MethodName := ⟨RX7, "of", "(II)I"⟩
abbrev cX7_set : ByteArray := prog_1_method_4_code
def yX7_set : MethodName := ⟨RX7, "set", "(III)I"⟩
abbrev cX7_melts : ByteArray := prog_1_method_5_code
def yX7_melts : MethodName := ⟨RX7, "melts", "(II)I"⟩
abbrev cX7_row : ByteArray := prog_1_method_6_code
def yX7_row : MethodName := ⟨RX7, "row", "(III)I"⟩
abbrev cX7_feed : ByteArray := prog_1_method_7_code
def yX7_feed : MethodName := ⟨RX7, "feed", "(I)I"⟩
abbrev cX7_col : ByteArray := prog_1_method_8_code
def yX7_col : MethodName := ⟨RX7, "col", "()I"⟩
abbrev cX7_told : ByteArray := prog_1_method_9_code
def yX7_told : MethodName := ⟨RX7, "told", "(I)I"⟩
abbrev cX7_pass : ByteArray := prog_1_method_10_code
def yX7_pass : MethodName := ⟨RX7, "pass", "(I)I"⟩
abbrev cX7_on : ByteArray := prog_1_method_11_code
def yX7_on : MethodName := ⟨RX7, "on", "(II)I"⟩
abbrev cX7_by : ByteArray := prog_1_method_12_code
def yX7_by : MethodName := ⟨RX7, "by", "(III)I"⟩
abbrev cX7_need : ByteArray := prog_1_method_13_code
def yX7_need : MethodName := ⟨RX7, "need", "(III)I"⟩
abbrev cX7_see : ByteArray := prog_1_method_14_code
def yX7_see : MethodName := ⟨RX7, "see", "(IIZ)I"⟩
abbrev cX7_can : ByteArray := prog_1_method_15_code
def yX7_can : MethodName := ⟨RX7, "can", "(III)I"⟩
abbrev cX7_odds : ByteArray := prog_1_method_16_code
def yX7_odds : MethodName := ⟨RX7, "odds", "(III)J"⟩
abbrev cX7_mean : ByteArray := prog_1_method_17_code
def yX7_mean : MethodName := ⟨RX7, "mean", "(II)J"⟩
abbrev cX7_plan : ByteArray := prog_1_method_18_code
def yX7_plan : MethodName := ⟨RX7, "plan", "(II)I"⟩
abbrev cX7_ends : ByteArray := prog_1_method_19_code
def yX7_ends : MethodName := ⟨RX7, "ends", "(I)I"⟩
abbrev cX7_book : ByteArray := prog_1_method_20_code
def yX7_book : MethodName := ⟨RX7, "book", "(II)I"⟩
abbrev cX7_looked : ByteArray := prog_1_method_21_code
def yX7_looked : MethodName := ⟨RX7, "looked", "()I"⟩
abbrev cX7_judge : ByteArray := prog_1_method_22_code
def yX7_judge : MethodName := ⟨RX7, "judge", "(II)I"⟩
abbrev cX7_image : ByteArray := prog_1_method_23_code
def yX7_image : MethodName := ⟨RX7, "image", "()I"⟩
abbrev cX7_undo : ByteArray := prog_1_method_24_code
def yX7_undo : MethodName := ⟨RX7, "undo", "()I"⟩
abbrev cX7_act : ByteArray := prog_1_method_25_code
def yX7_act : MethodName := ⟨RX7, "act", "(III)I"⟩
abbrev cX7_trace : ByteArray := prog_1_method_26_code
def yX7_trace : MethodName := ⟨RX7, "trace", "(I)I"⟩
abbrev cX7_taken : ByteArray := prog_1_method_27_code
def yX7_taken : MethodName := ⟨RX7, "taken", "(II)I"⟩
abbrev cX7_count : ByteArray := prog_1_method_28_code
def yX7_count : MethodName := ⟨RX7, "count", "(I)I"⟩
abbrev cX7_tape : ByteArray := prog_1_method_29_code
def yX7_tape : MethodName := ⟨RX7, "tape", "(III)I"⟩
abbrev cX7_item : ByteArray := prog_1_method_30_code
def yX7_item : MethodName := ⟨RX7, "item", "(IIJ)I"⟩
abbrev cX7_read : ByteArray := prog_1_method_31_code
def yX7_read : MethodName := ⟨RX7, "read", "(II)J"⟩
abbrev cX7_shift : ByteArray := prog_1_method_32_code
def yX7_shift : MethodName := ⟨RX7, "shift", "(IIIII)I"⟩
abbrev cX7_isUpTo : ByteArray := prog_1_method_33_code
def yX7_isUpTo : MethodName := ⟨RX7, "isUpTo", "(II)Z"⟩
abbrev cX7_isThing : ByteArray := prog_1_method_34_code
def yX7_isThing : MethodName := ⟨RX7, "isThing", "(I)Z"⟩
abbrev cX7_isTape : ByteArray := prog_1_method_35_code
def yX7_isTape : MethodName := ⟨RX7, "isTape", "(I)Z"⟩
abbrev cX7_holding : ByteArray := prog_1_method_36_code
def yX7_holding : MethodName := ⟨RX7, "holding", "()LThawGives$Pass;"⟩
abbrev cX7_orNever : ByteArray := prog_1_method_37_code
def yX7_orNever : MethodName := ⟨RX7, "orNever", "(I)I"⟩
abbrev cX7_partOf : ByteArray := prog_1_method_38_code
def yX7_partOf : MethodName := ⟨RX7, "partOf", "(III)I"⟩
abbrev cX7_goWeeks : ByteArray := prog_1_method_39_code
def yX7_goWeeks : MethodName := ⟨RX7, "goWeeks", "(LThawGives$Thing;I)V"⟩
abbrev cX7_depthBehind : ByteArray := prog_1_method_40_code
def yX7_depthBehind : MethodName := ⟨RX7, "depthBehind", "(II)I"⟩
abbrev cX7_outBits : ByteArray := prog_1_method_41_code
def yX7_outBits : MethodName := ⟨RX7, "outBits", "(I)I"⟩
abbrev cX7_depthOfAll : ByteArray := prog_1_method_42_code
def yX7_depthOfAll : MethodName := ⟨RX7, "depthOfAll", "(I)I"⟩
abbrev cX7_whenOf : ByteArray := prog_1_method_43_code
def yX7_whenOf : MethodName := ⟨RX7, "whenOf", "(I)I"⟩
abbrev cX7_findWhens : ByteArray := prog_1_method_44_code
def yX7_findWhens : MethodName := ⟨RX7, "findWhens", "()V"⟩
abbrev cX7_inOrder : ByteArray := prog_1_method_45_code
def yX7_inOrder : MethodName := ⟨RX7, "inOrder", "(I)I"⟩
abbrev cX7_crossed : ByteArray := prog_1_method_46_code
def yX7_crossed : MethodName := ⟨RX7, "crossed", "(Z)I"⟩
abbrev cX7_isCrossed : ByteArray := prog_1_method_47_code
def yX7_isCrossed : MethodName := ⟨RX7, "isCrossed", "(II)Z"⟩
abbrev cX7_isOutWith : ByteArray := prog_1_method_48_code
def yX7_isOutWith : MethodName := ⟨RX7, "isOutWith", "(IIII)Z"⟩
abbrev cX7_worthsOut : ByteArray := prog_1_method_49_code
def yX7_worthsOut : MethodName := ⟨RX7, "worthsOut", "(II)I"⟩
abbrev cX7_greatestWorthOut : ByteArray := prog_1_method_50_code
def yX7_greatestWorthOut : MethodName := ⟨RX7, "greatestWorthOut", "(II)I"⟩
abbrev cX7_less : ByteArray := prog_1_method_51_code
def yX7_less : MethodName := ⟨RX7, "less", "(II)I"⟩
abbrev cX7_moreToKeep : ByteArray := prog_1_method_52_code
def yX7_moreToKeep : MethodName := ⟨RX7, "moreToKeep", "(II)I"⟩
abbrev cX7_isAllSeenSo : ByteArray := prog_1_method_53_code
def yX7_isAllSeenSo : MethodName := ⟨RX7, "isAllSeenSo", "(III)Z"⟩
abbrev cX7_depthByPlan : ByteArray := prog_1_method_54_code
def yX7_depthByPlan : MethodName := ⟨RX7, "depthByPlan", "(I)I"⟩
def RX8 : String := "ThawGivesModel"
def TX8 : u_T := fun k => match k with
  | 0 => ("ThawGivesModel", "things", "I", false)
  | 1 => ("ThawGivesModel", "kind", "[I", true)
  | 2 => ("ThawGivesModel", "v", "[I", true)
  | 3 => ("ThawGivesModel", "worth", "[I", true)
  | 4 => ("ThawGivesModel", "depth", "[I", true)
  | 5 => ("ThawGivesModel", "rows", "[I", true)
  | 6 => ("ThawGivesModel", "week", "I", false)
  | 7 => ("ThawGivesModel", "texted", "I", false)
  | 8 => ("ThawGivesModel", "text", "[I", true)
  | 9 => ("ThawGivesModel", "at", "I", false)
  | 10 => ("ThawGivesModel", "value", "I", false)
  | 11 => ("ThawGivesModel", "digits", "I", false)
  | 12 => ("ThawGivesModel", "open", "I", false)
  | 13 => ("ThawGivesModel", "passes", "I", false)
  | 14 => ("ThawGivesModel", "holds", "I", false)
  | 15 => ("ThawGivesModel", "clauses", "[I", true)
  | 16 => ("ThawGivesModel", "word", "[I", true)
  | 17 => ("ThawGivesModel", "number", "[I", true)
  | 18 => ("ThawGivesModel", "begins", "[I", true)
  | 19 => ("ThawGivesModel", "length", "[I", true)
  | 20 => ("ThawGivesModel", "code", "[I", true)
  | 21 => ("ThawGivesModel", "coded", "I", false)
  | 22 => ("ThawGivesModel", "stack", "[Z", true)
  | 23 => ("ThawGivesModel", "seen", "I", false)
  | 24 => ("ThawGivesModel", "seenOf", "[I", true)
  | 25 => ("ThawGivesModel", "seenIn", "[I", true)
  | 26 => ("ThawGivesModel", "seenSo", "[I", true)
  | 27 => ("ThawGivesModel", "inPlan", "I", false)
  | 28 => ("ThawGivesModel", "goes", "[I", true)
  | 29 => ("ThawGivesModel", "whose", "[I", true)
  | 30 => ("ThawGivesModel", "inBook", "I", false)
  | 31 => ("ThawGivesModel", "booked", "[I", true)
  | 32 => ("ThawGivesModel", "bookDepth", "[I", true)
  | 33 => ("ThawGivesModel", "traced", "I", false)
  | 34 => ("ThawGivesModel", "traces", "[I", true)
  | 35 => ("ThawGivesModel", "imaged", "Z", false)
  | 36 => ("ThawGivesModel", "image", "[I", true)
  | 37 => ("ThawGivesModel", "ahead", "[I", true)
  | 38 => ("ThawGivesModel", "whens", "[I", true)
  | 39 => ("ThawGivesModel", "melting", "[I", true)
  | 40 => ("ThawGivesModel", "tapeSort", "[I", true)
  | 41 => ("ThawGivesModel", "tapeSize", "[I", true)
  | _ => ("ThawGivesModel", "items", "[J", true)
def tyX8 : Nat → FieldType := fun k => match k with
  | 0 => .int
  | 1 => .array .int
  | 2 => .array .int
  | 3 => .array .int
  | 4 => .array .int
  | 5 => .array .int
  | 6 => .int
  | 7 => .int
  | 8 => .array .int
  | 9 => .int
  | 10 => .int
  | 11 => .int
  | 12 => .int
  | 13 => .int
  | 14 => .int
  | 15 => .array .int
  | 16 => .array .int
  | 17 => .array .int
  | 18 => .array .int
  | 19 => .array .int
  | 20 => .array .int
  | 21 => .int
  | 22 => .array .boolean
  | 23 => .int
  | 24 => .array .int
  | 25 => .array .int
  | 26 => .array .int
  | 27 => .int
  | 28 => .array .int
  | 29 => .array .int
  | 30 => .int
  | 31 => .array .int
  | 32 => .array .int
  | 33 => .int
  | 34 => .array .int
  | 35 => .boolean
  | 36 => .array .int
  | 37 => .array .int
  | 38 => .array .int
  | 39 => .array .int
  | 40 => .array .int
  | 41 => .array .int
  | _ => .array .long
abbrev wsX80 : List Cond := u_ws RX8 TX8 43
theorem nmX8 : ∀ a, a < 43 → ∀ b, b < 43 → a ≠ b → (TX8 a).2.1 ≠ (TX8 b).2.1 := by decide +kernel
theorem tyX8_ok : ∀ k, k < 43 → parseFieldDescriptor (TX8 k).2.2.1 = some (tyX8 k) := by decide +kernel
abbrev cX8_init : ByteArray := prog_10_method_1_code
def yX8_init : MethodName := ⟨RX8, "<init>", "()V"⟩
abbrev cX8_within : ByteArray := prog_10_method_2_code
def yX8_within : MethodName := ⟨RX8, "within", "(III)Z"⟩
abbrev cX8_isOne : ByteArray := prog_10_method_3_code
def yX8_isOne : MethodName := ⟨RX8, "isOne", "(I)Z"⟩
abbrev cX8_thing : ByteArray := prog_10_method_4_code
def yX8_thing : MethodName := ⟨RX8, "thing", "(IIII)I"⟩
abbrev cX8_of : ByteArray := prog_10_method_5_code
def yX8_of : MethodName := ⟨RX8, "of", "(II)I"⟩
abbrev cX8_set : ByteArray := prog_10_method_6_code
def yX8_set : MethodName := ⟨RX8, "set", "(III)I"⟩
abbrev cX8_melts : ByteArray := prog_10_method_7_code
def yX8_melts : MethodName := ⟨RX8, "melts", "(II)I"⟩
abbrev cX8_row : ByteArray := prog_10_method_8_code
def yX8_row : MethodName := ⟨RX8, "row", "(III)I"⟩
abbrev cX8_feed : ByteArray := prog_10_method_9_code
def yX8_feed : MethodName := ⟨RX8, "feed", "(I)I"⟩
abbrev cX8_is : ByteArray := prog_10_method_10_code
def yX8_is : MethodName := ⟨RX8, "is", "(I)Z"⟩
abbrev cX8_isDigit : ByteArray := prog_10_method_11_code
def yX8_isDigit : MethodName := ⟨RX8, "isDigit", "()Z"⟩
abbrev cX8_isNumber : ByteArray := prog_10_method_12_code
def yX8_isNumber : MethodName := ⟨RX8, "isNumber", "()Z"⟩
abbrev cX8_isAll : ByteArray := prog_10_method_13_code
def yX8_isAll : MethodName := ⟨RX8, "isAll", "(Ljava/lang/String;)Z"⟩
abbrev cX8_codes : ByteArray := prog_10_method_14_code
def yX8_codes : MethodName := ⟨RX8, "codes", "(I)Z"⟩
abbrev cX8_isTest : ByteArray := prog_10_method_15_code
def yX8_isTest : MethodName := ⟨RX8, "isTest", "()Z"⟩
abbrev cX8_isOpened : ByteArray := prog_10_method_16_code
def yX8_isOpened : MethodName := ⟨RX8, "isOpened", "(I)Z"⟩
abbrev cX8_isF : ByteArray := prog_10_method_17_code
def yX8_isF : MethodName := ⟨RX8, "isF", "()Z"⟩
abbrev cX8_isT : ByteArray := prog_10_method_18_code
def yX8_isT : MethodName := ⟨RX8, "isT", "()Z"⟩
abbrev cX8_isE : ByteArray := prog_10_method_19_code
def yX8_isE : MethodName := ⟨RX8, "isE", "()Z"⟩
abbrev cX8_isClause : ByteArray := prog_10_method_20_code
def yX8_isClause : MethodName := ⟨RX8, "isClause", "(I)Z"⟩
abbrev cX8_col : ByteArray := prog_10_method_21_code
def yX8_col : MethodName := ⟨RX8, "col", "()I"⟩
abbrev cX8_letterOf : ByteArray := prog_10_method_22_code
def yX8_letterOf : MethodName := ⟨RX8, "letterOf", "(III)I"⟩
abbrev cX8_isTrue : ByteArray := prog_10_method_23_code
def yX8_isTrue : MethodName := ⟨RX8, "isTrue", "(III)Z"⟩
abbrev cX8_sum : ByteArray := prog_10_method_24_code
def yX8_sum : MethodName := ⟨RX8, "sum", "(II)I"⟩
abbrev cX8_snow : ByteArray := prog_10_method_25_code
def yX8_snow : MethodName := ⟨RX8, "snow", "()I"⟩
abbrev cX8_meltsIn : ByteArray := prog_10_method_26_code
def yX8_meltsIn : MethodName := ⟨RX8, "meltsIn", "(II)I"⟩
abbrev cX8_held : ByteArray := prog_10_method_27_code
def yX8_held : MethodName := ⟨RX8, "held", "(I)I"⟩
abbrev cX8_goesWeek : ByteArray := prog_10_method_28_code
def yX8_goesWeek : MethodName := ⟨RX8, "goesWeek", "()V"⟩
abbrev cX8_pass : ByteArray := prog_10_method_29_code
def yX8_pass : MethodName := ⟨RX8, "pass", "(I)I"⟩
abbrev cX8_outs : ByteArray := prog_10_method_30_code
def yX8_outs : MethodName := ⟨RX8, "outs", "()I"⟩
abbrev cX8_allDepth : ByteArray := prog_10_method_31_code
def yX8_allDepth : MethodName := ⟨RX8, "allDepth", "()I"⟩
abbrev cX8_when : ByteArray := prog_10_method_32_code
def yX8_when : MethodName := ⟨RX8, "when", "(I)I"⟩
abbrev cX8_looks : ByteArray := prog_10_method_33_code
def yX8_looks : MethodName := ⟨RX8, "looks", "()V"⟩
abbrev cX8_crossed : ByteArray := prog_10_method_34_code
def yX8_crossed : MethodName := ⟨RX8, "crossed", "(I)I"⟩
abbrev cX8_order : ByteArray := prog_10_method_35_code
def yX8_order : MethodName := ⟨RX8, "order", "(I)I"⟩
abbrev cX8_told : ByteArray := prog_10_method_36_code
def yX8_told : MethodName := ⟨RX8, "told", "(I)I"⟩
abbrev cX8_on : ByteArray := prog_10_method_37_code
def yX8_on : MethodName := ⟨RX8, "on", "(II)I"⟩
abbrev cX8_isOutBehind : ByteArray := prog_10_method_38_code
def yX8_isOutBehind : MethodName := ⟨RX8, "isOutBehind", "(II)Z"⟩
abbrev cX8_by : ByteArray := prog_10_method_39_code
def yX8_by : MethodName := ⟨RX8, "by", "(III)I"⟩
abbrev cX8_need : ByteArray := prog_10_method_40_code
def yX8_need : MethodName := ⟨RX8, "need", "(III)I"⟩
abbrev cX8_see : ByteArray := prog_10_method_41_code
def yX8_see : MethodName := ⟨RX8, "see", "(IIZ)I"⟩
abbrev cX8_isSeen : ByteArray := prog_10_method_42_code
def yX8_isSeen : MethodName := ⟨RX8, "isSeen", "(I)Z"⟩
abbrev cX8_can : ByteArray := prog_10_method_43_code
def yX8_can : MethodName := ⟨RX8, "can", "(III)I"⟩
abbrev cX8_part : ByteArray := prog_10_method_44_code
def yX8_part : MethodName := ⟨RX8, "part", "(III)J"⟩
abbrev cX8_odds : ByteArray := prog_10_method_45_code
def yX8_odds : MethodName := ⟨RX8, "odds", "(III)J"⟩
abbrev cX8_mean : ByteArray := prog_10_method_46_code
def yX8_mean : MethodName := ⟨RX8, "mean", "(II)J"⟩
abbrev cX8_plan : ByteArray := prog_10_method_47_code
def yX8_plan : MethodName := ⟨RX8, "plan", "(II)I"⟩
abbrev cX8_ends : ByteArray := prog_10_method_48_code
def yX8_ends : MethodName := ⟨RX8, "ends", "(I)I"⟩
abbrev cX8_book : ByteArray := prog_10_method_49_code
def yX8_book : MethodName := ⟨RX8, "book", "(II)I"⟩
abbrev cX8_looked : ByteArray := prog_10_method_50_code
def yX8_looked : MethodName := ⟨RX8, "looked", "()I"⟩
abbrev cX8_judge : ByteArray := prog_10_method_51_code
def yX8_judge : MethodName := ⟨RX8, "judge", "(II)I"⟩
abbrev cX8_keep : ByteArray := prog_10_method_52_code
def yX8_keep : MethodName := ⟨RX8, "keep", "([I)V"⟩
abbrev cX8_again : ByteArray := prog_10_method_53_code
def yX8_again : MethodName := ⟨RX8, "again", "([I)V"⟩
abbrev cX8_image : ByteArray := prog_10_method_54_code
def yX8_image : MethodName := ⟨RX8, "image", "()I"⟩
abbrev cX8_undo : ByteArray := prog_10_method_55_code
def yX8_undo : MethodName := ⟨RX8, "undo", "()I"⟩
abbrev cX8_ran : ByteArray := prog_10_method_56_code
def yX8_ran : MethodName := ⟨RX8, "ran", "(I)V"⟩
abbrev cX8_above : ByteArray := prog_10_method_57_code
def yX8_above : MethodName := ⟨RX8, "above", "(I)I"⟩
abbrev cX8_sinks : ByteArray := prog_10_method_58_code
def yX8_sinks : MethodName := ⟨RX8, "sinks", "(III)I"⟩
abbrev cX8_shows : ByteArray := prog_10_method_59_code
def yX8_shows : MethodName := ⟨RX8, "shows", "(III)I"⟩
abbrev cX8_tells : ByteArray := prog_10_method_60_code
def yX8_tells : MethodName := ⟨RX8, "tells", "(III)I"⟩
abbrev cX8_act : ByteArray := prog_10_method_61_code
def yX8_act : MethodName := ⟨RX8, "act", "(III)I"⟩
abbrev cX8_trace : ByteArray := prog_10_method_62_code
def yX8_trace : MethodName := ⟨RX8, "trace", "(I)I"⟩
abbrev cX8_taken : ByteArray := prog_10_method_63_code
def yX8_taken : MethodName := ⟨RX8, "taken", "(II)I"⟩
abbrev cX8_count : ByteArray := prog_10_method_64_code
def yX8_count : MethodName := ⟨RX8, "count", "(I)I"⟩
abbrev cX8_isTape : ByteArray := prog_10_method_65_code
def yX8_isTape : MethodName := ⟨RX8, "isTape", "(I)Z"⟩
abbrev cX8_tape : ByteArray := prog_10_method_66_code
def yX8_tape : MethodName := ⟨RX8, "tape", "(III)I"⟩
abbrev cX8_kept : ByteArray := prog_10_method_67_code
def yX8_kept : MethodName := ⟨RX8, "kept", "(IJ)J"⟩
abbrev cX8_item : ByteArray := prog_10_method_68_code
def yX8_item : MethodName := ⟨RX8, "item", "(IIJ)I"⟩
abbrev cX8_read : ByteArray := prog_10_method_69_code
def yX8_read : MethodName := ⟨RX8, "read", "(II)J"⟩
abbrev cX8_shift : ByteArray := prog_10_method_70_code
def yX8_shift : MethodName := ⟨RX8, "shift", "(IIIII)I"⟩
def RJ11 : String := "java/lang/Character"
def TJ11 : u_T := fun k => match k with
  | _ => ("", "", "", false)
def tyJ11 : Nat → FieldType := fun k => match k with
  | _ => .int
abbrev wsJ110 : List Cond := u_ws RJ11 TJ11 0
theorem nmJ11 : ∀ a, a < 0 → ∀ b, b < 0 → a ≠ b → (TJ11 a).2.1 ≠ (TJ11 b).2.1 := by decide +kernel
theorem tyJ11_ok : ∀ k, k < 0 → parseFieldDescriptor (TJ11 k).2.2.1 = some (tyJ11 k) := by decide +kernel
abbrev cJ11_isValidCodePoint_9a6ad : ByteArray := prog_11_method_11_code
def yJ11_isValidCodePoint_9a6ad : MethodName := ⟨RJ11, "isValidCodePoint", "(I)Z"⟩
abbrev cJ11_highSurrogate_5068e : ByteArray := prog_11_method_28_code
def yJ11_highSurrogate_5068e : MethodName := ⟨RJ11, "highSurrogate", "(I)C"⟩
abbrev cJ11_lowSurrogate_5068e : ByteArray := prog_11_method_29_code
def yJ11_lowSurrogate_5068e : MethodName := ⟨RJ11, "lowSurrogate", "(I)C"⟩
def RJ9 : String := "java/lang/Math"
def TJ9 : u_T := fun k => match k with
  | _ => ("", "", "", false)
def tyJ9 : Nat → FieldType := fun k => match k with
  | _ => .int
abbrev wsJ90 : List Cond := u_ws RJ9 TJ9 0
theorem nmJ9 : ∀ a, a < 0 → ∀ b, b < 0 → a ≠ b → (TJ9 a).2.1 ≠ (TJ9 b).2.1 := by decide +kernel
theorem tyJ9_ok : ∀ k, k < 0 → parseFieldDescriptor (TJ9 k).2.2.1 = some (tyJ9 k) := by decide +kernel
abbrev cJ9_floorMod_7cf53 : ByteArray := prog_12_method_50_code
def yJ9_floorMod_7cf53 : MethodName := ⟨RJ9, "floorMod", "(II)I"⟩
abbrev cJ9_max_7cf53 : ByteArray := prog_12_method_65_code
def yJ9_max_7cf53 : MethodName := ⟨RJ9, "max", "(II)I"⟩
abbrev cJ9_min_7cf53 : ByteArray := prog_12_method_69_code
def yJ9_min_7cf53 : MethodName := ⟨RJ9, "min", "(II)I"⟩
def RJ0 : String := "java/lang/String"
def TJ0 : u_T := fun k => match k with
  | _ => ("", "", "", false)
def tyJ0 : Nat → FieldType := fun k => match k with
  | _ => .int
abbrev wsJ00 : List Cond := u_ws RJ0 TJ0 0
theorem nmJ0 : ∀ a, a < 0 → ∀ b, b < 0 → a ≠ b → (TJ0 a).2.1 ≠ (TJ0 b).2.1 := by decide +kernel
theorem tyJ0_ok : ∀ k, k < 0 → parseFieldDescriptor (TJ0 k).2.2.1 = some (tyJ0 k) := by decide +kernel
abbrev cJ0_length_8abf5 : ByteArray := prog_13_method_54_code
def yJ0_length_8abf5 : MethodName := ⟨RJ0, "length", "()I"⟩
abbrev cJ0_charAt_5068e : ByteArray := prog_13_method_56_code
def yJ0_charAt_5068e : MethodName := ⟨RJ0, "charAt", "(I)C"⟩
abbrev cJ0_indexOf_0f7a4 : ByteArray := prog_13_method_79_code
def yJ0_indexOf_0f7a4 : MethodName := ⟨RJ0, "indexOf", "(I)I"⟩
abbrev cJ0_indexOf_7cf53 : ByteArray := prog_13_method_80_code
def yJ0_indexOf_7cf53 : MethodName := ⟨RJ0, "indexOf", "(II)I"⟩
abbrev cJ0_coder_7d493 : ByteArray := prog_13_method_152_code
def yJ0_coder_7d493 : MethodName := ⟨RJ0, "coder", "()B"⟩
abbrev cJ0_isLatin1_aae02 : ByteArray := prog_13_method_154_code
def yJ0_isLatin1_aae02 : MethodName := ⟨RJ0, "isLatin1", "()Z"⟩
abbrev cJ0_checkIndex_df160 : ByteArray := prog_13_method_155_code
def yJ0_checkIndex_df160 : MethodName := ⟨RJ0, "checkIndex", "(II)V"⟩
abbrev cJ0_checkBoundsBeginEnd_23922 : ByteArray := prog_13_method_158_code
def yJ0_checkBoundsBeginEnd_23922 : MethodName := ⟨RJ0, "checkBoundsBeginEnd", "(III)V"⟩
def RJ1 : String := "java/lang/StringLatin1"
def TJ1 : u_T := fun k => match k with
  | _ => ("", "", "", false)
def tyJ1 : Nat → FieldType := fun k => match k with
  | _ => .int
abbrev wsJ10 : List Cond := u_ws RJ1 TJ1 0
theorem nmJ1 : ∀ a, a < 0 → ∀ b, b < 0 → a ≠ b → (TJ1 a).2.1 ≠ (TJ1 b).2.1 := by decide +kernel
theorem tyJ1_ok : ∀ k, k < 0 → parseFieldDescriptor (TJ1 k).2.2.1 = some (tyJ1 k) := by decide +kernel
abbrev cJ1_charAt_3b067 : ByteArray := prog_14_method_2_code
def yJ1_charAt_3b067 : MethodName := ⟨RJ1, "charAt", "([BI)C"⟩
abbrev cJ1_canEncode_9a6ad : ByteArray := prog_14_method_4_code
def yJ1_canEncode_9a6ad : MethodName := ⟨RJ1, "canEncode", "(I)Z"⟩
abbrev cJ1_indexOf_4cfef : ByteArray := prog_14_method_22_code
def yJ1_indexOf_4cfef : MethodName := ⟨RJ1, "indexOf", "([BIII)I"⟩
abbrev cJ1_indexOfChar_4cfef : ByteArray := prog_14_method_23_code
def yJ1_indexOfChar_4cfef : MethodName := ⟨RJ1, "indexOfChar", "([BIII)I"⟩
def RJ2 : String := "java/lang/StringUTF16"
def TJ2 : u_T := fun k => match k with
  | _ => ("", "", "", false)
def tyJ2 : Nat → FieldType := fun k => match k with
  | _ => .int
abbrev wsJ20 : List Cond := u_ws RJ2 TJ2 0
theorem nmJ2 : ∀ a, a < 0 → ∀ b, b < 0 → a ≠ b → (TJ2 a).2.1 ≠ (TJ2 b).2.1 := by decide +kernel
theorem tyJ2_ok : ∀ k, k < 0 → parseFieldDescriptor (TJ2 k).2.2.1 = some (tyJ2 k) := by decide +kernel
abbrev cJ2_getChar_3b067 : ByteArray := prog_15_method_5_code
def yJ2_getChar_3b067 : MethodName := ⟨RJ2, "getChar", "([BI)C"⟩
abbrev cJ2_length_9d52b : ByteArray := prog_15_method_6_code
def yJ2_length_9d52b : MethodName := ⟨RJ2, "length", "([B)I"⟩
abbrev cJ2_indexOf_4cfef : ByteArray := prog_15_method_40_code
def yJ2_indexOf_4cfef : MethodName := ⟨RJ2, "indexOf", "([BIII)I"⟩
abbrev cJ2_indexOfChar_4cfef : ByteArray := prog_15_method_47_code
def yJ2_indexOfChar_4cfef : MethodName := ⟨RJ2, "indexOfChar", "([BIII)I"⟩
abbrev cJ2_indexOfCharUnsafe_4cfef : ByteArray := prog_15_method_48_code
def yJ2_indexOfCharUnsafe_4cfef : MethodName := ⟨RJ2, "indexOfCharUnsafe", "([BIII)I"⟩
abbrev cJ2_indexOfSupplementary_4cfef : ByteArray := prog_15_method_49_code
def yJ2_indexOfSupplementary_4cfef : MethodName := ⟨RJ2, "indexOfSupplementary", "([BIII)I"⟩
abbrev cJ2_charAt_3b067 : ByteArray := prog_15_method_83_code
def yJ2_charAt_3b067 : MethodName := ⟨RJ2, "charAt", "([BI)C"⟩
abbrev cJ2_checkIndex_2214a : ByteArray := prog_15_method_91_code
def yJ2_checkIndex_2214a : MethodName := ⟨RJ2, "checkIndex", "(I[B)V"⟩
abbrev cJ2_checkBoundsBeginEnd_d044e : ByteArray := prog_15_method_93_code
def yJ2_checkBoundsBeginEnd_d044e : MethodName := ⟨RJ2, "checkBoundsBeginEnd", "(II[B)V"⟩
def RJ10 : String := "java/lang/System"
def TJ10 : u_T := fun k => match k with
  | _ => ("", "", "", false)
def tyJ10 : Nat → FieldType := fun k => match k with
  | _ => .int
abbrev wsJ100 : List Cond := u_ws RJ10 TJ10 0
theorem nmJ10 : ∀ a, a < 0 → ∀ b, b < 0 → a ≠ b → (TJ10 a).2.1 ≠ (TJ10 b).2.1 := by decide +kernel
theorem tyJ10_ok : ∀ k, k < 0 → parseFieldDescriptor (TJ10 k).2.2.1 = some (tyJ10 k) := by decide +kernel
def RJ3 : String := "jdk/internal/util/Preconditions"
def TJ3 : u_T := fun k => match k with
  | _ => ("", "", "", false)
def tyJ3 : Nat → FieldType := fun k => match k with
  | _ => .int
abbrev wsJ30 : List Cond := u_ws RJ3 TJ3 0
theorem nmJ3 : ∀ a, a < 0 → ∀ b, b < 0 → a ≠ b → (TJ3 a).2.1 ≠ (TJ3 b).2.1 := by decide +kernel
theorem tyJ3_ok : ∀ k, k < 0 → parseFieldDescriptor (TJ3 k).2.2.1 = some (tyJ3 k) := by decide +kernel
abbrev cJ3_checkIndex_8e157 : ByteArray := prog_17_method_11_code
def yJ3_checkIndex_8e157 : MethodName := ⟨RJ3, "checkIndex", "(IILjava/util/function/BiFunction;)I"⟩
abbrev cJ3_checkFromToIndex_8c36e : ByteArray := prog_17_method_12_code
def yJ3_checkFromToIndex_8c36e : MethodName := ⟨RJ3, "checkFromToIndex", "(IIILjava/util/function/BiFunction;)I"⟩
def RL : String := "ThawGivesLaw"
abbrev cL_law : ByteArray := code
def yL_law : MethodName := ⟨RL, "law", "([I)Z"⟩
abbrev vwCl : List vw_C := [(RX0, TX0, 5), (RX1, TX1, 5), (RX2, TX2, 5), (RX3, TX3, 3), (RX4, TX4, 5), (RX5, TX5, 7), (RX6, TX6, 7), (RX7, TX7, 11), (RX8, TX8, 43)]
end
section
-- THE STORE: ints of fields (class, slot, object), rows of ints (class, slot, object, place), rows of longs, the PASS of the TEXT
abbrev Sto : Type := (Nat → Nat → Nat → Int32) × (Nat → Nat → Nat → Nat → Int32) × (Nat → Nat → Nat → Nat → Int64) × Nat
def sF (σ : Sto) (c k i : Nat) (v : Int32) : Sto := (fun c' k' i' => if c' = c ∧ k' = k ∧ i' = i then v else σ.1 c' k' i', σ.2)
def sA (σ : Sto) (c k i : Nat) (f : Nat → Int32) : Sto := (σ.1, fun c' k' i' => if c' = c ∧ k' = k ∧ i' = i then f else σ.2.1 c' k' i', σ.2.2)
def sL (σ : Sto) (c k i : Nat) (f : Nat → Int64) : Sto := (σ.1, σ.2.1, fun c' k' i' => if c' = c ∧ k' = k ∧ i' = i then f else σ.2.2.1 c' k' i', σ.2.2.2)
def sT (σ : Sto) (t : Nat) : Sto := (σ.1, σ.2.1, σ.2.2.1, t)
-- where all lies: an address for each (class, part, object); classes' facts; the classes of the kinds of rows; static rows; texts and their bytes
abbrev Gm : Type := (Nat → Nat → Nat → Nat) × va_G × (Nat → ClassId) × (Nat → Nat) × (Nat → Nat) × (Nat → Nat)
def kd : Nat → Nat → Nat
  | 0, 0 => 1
  | 1, 0 => 1
  | 1, 1 => 1
  | 1, 2 => 1
  | 2, 1 => 1
  | 2, 2 => 1
  | 2, 3 => 1
  | 3, 0 => 1
  | 4, 0 => 1
  | 4, 4 => 2
  | 5, 5 => 1
  | 5, 6 => 1
  | 6, 0 => 1
  | 6, 4 => 2
  | 6, 5 => 2
  | 6, 6 => 2
  | 7, 0 => 2
  | 7, 1 => 2
  | 7, 3 => 2
  | 7, 4 => 1
  | 7, 5 => 2
  | 7, 6 => 1
  | 7, 8 => 2
  | 7, 9 => 2
  | 7, 10 => 1
  | 8, 1 => 1
  | 8, 2 => 1
  | 8, 3 => 1
  | 8, 4 => 1
  | 8, 5 => 1
  | 8, 8 => 1
  | 8, 15 => 1
  | 8, 16 => 1
  | 8, 17 => 1
  | 8, 18 => 1
  | 8, 19 => 1
  | 8, 20 => 1
  | 8, 22 => 1
  | 8, 24 => 1
  | 8, 25 => 1
  | 8, 26 => 1
  | 8, 28 => 1
  | 8, 29 => 1
  | 8, 31 => 1
  | 8, 32 => 1
  | 8, 34 => 1
  | 8, 36 => 1
  | 8, 37 => 1
  | 8, 38 => 1
  | 8, 39 => 1
  | 8, 40 => 1
  | 8, 41 => 1
  | 8, 42 => 1
  | _, _ => 0
def alen : Nat → Nat → Nat
  | 0, 0 => 20
  | 1, 0 => 100
  | 1, 1 => 100
  | 1, 2 => 100
  | 2, 1 => 10
  | 2, 2 => 10
  | 2, 3 => 10
  | 3, 0 => 60
  | 4, 0 => 100
  | 5, 5 => 4
  | 5, 6 => 6
  | 6, 0 => 6
  | 7, 4 => 6
  | 7, 6 => 6
  | 7, 10 => 6
  | 8, 1 => 6
  | 8, 2 => 6
  | 8, 3 => 6
  | 8, 4 => 6
  | 8, 5 => 24
  | 8, 8 => 100
  | 8, 15 => 6
  | 8, 16 => 61
  | 8, 17 => 61
  | 8, 18 => 61
  | 8, 19 => 61
  | 8, 20 => 800
  | 8, 22 => 110
  | 8, 24 => 5
  | 8, 25 => 5
  | 8, 26 => 5
  | 8, 28 => 10
  | 8, 29 => 10
  | 8, 31 => 8
  | 8, 32 => 8
  | 8, 34 => 20
  | 8, 36 => 105
  | 8, 37 => 105
  | 8, 38 => 6
  | 8, 39 => 6
  | 8, 40 => 6
  | 8, 41 => 6
  | 8, 42 => 360
  | _, _ => 0
def aty : Nat → Nat → Nat
  | 0, 0 => 0
  | 1, 0 => 0
  | 1, 1 => 0
  | 1, 2 => 0
  | 2, 1 => 0
  | 2, 2 => 0
  | 2, 3 => 0
  | 3, 0 => 1
  | 4, 0 => 2
  | 5, 5 => 0
  | 5, 6 => 0
  | 6, 0 => 4
  | 7, 4 => 0
  | 7, 6 => 5
  | 7, 10 => 6
  | 8, 1 => 0
  | 8, 2 => 0
  | 8, 3 => 0
  | 8, 4 => 0
  | 8, 5 => 0
  | 8, 8 => 0
  | 8, 15 => 0
  | 8, 16 => 0
  | 8, 17 => 0
  | 8, 18 => 0
  | 8, 19 => 0
  | 8, 20 => 0
  | 8, 22 => 3
  | 8, 24 => 0
  | 8, 25 => 0
  | 8, 26 => 0
  | 8, 28 => 0
  | 8, 29 => 0
  | 8, 31 => 0
  | 8, 32 => 0
  | 8, 34 => 0
  | 8, 36 => 0
  | 8, 37 => 0
  | 8, 38 => 0
  | 8, 39 => 0
  | 8, 40 => 0
  | 8, 41 => 0
  | 8, 42 => 1
  | _, _ => 0
def nf : Nat → Nat
  | 0 => 5
  | 1 => 5
  | 2 => 5
  | 3 => 3
  | 4 => 5
  | 5 => 7
  | 6 => 7
  | 7 => 11
  | 8 => 43
  | _ => 0
def cn : Nat → Nat
  | 0 => 1
  | 1 => 8
  | 2 => 6
  | 3 => 6
  | 4 => 1
  | 5 => 13
  | 6 => 2
  | 7 => 1
  | 8 => 1
  | _ => 0
def tabs : List (Nat × Nat) := [(0, 0), (0, 1), (1, 0), (1, 1), (1, 2), (1, 3), (2, 0), (2, 2), (2, 3), (2, 4), (3, 0), (3, 1), (4, 0), (4, 1), (5, 0), (5, 6), (5, 7), (6, 0), (6, 1), (7, 0), (7, 5), (7, 7), (7, 11), (8, 0), (8, 2), (8, 3), (8, 4), (8, 5), (8, 6), (8, 9), (8, 16), (8, 17), (8, 18), (8, 19), (8, 20), (8, 21), (8, 23), (8, 25), (8, 26), (8, 27), (8, 29), (8, 30), (8, 32), (8, 33), (8, 35), (8, 37), (8, 38), (8, 39), (8, 40), (8, 41), (8, 42), (8, 43)]
def rf (σ : Sto) (c k i : Nat) : Nat × Nat × Nat := match c, k with
  | 6, 4 => (2, 0, 3 * i)
  | 6, 5 => (2, 0, 3 * i + 1)
  | 6, 6 => (2, 0, 3 * i + 2)
  | 7, 0 => (6, 0, 0)
  | 7, 1 => (6, 0, 1)
  | 7, 3 => (5, 0, 12)
  | 7, 5 => (4, 0, 0)
  | 7, 8 => (1, 0, 6)
  | 7, 9 => (0, 0, 0)
  | 4, 4 => (1, 0, σ.2.2.2)
  | _, _ => (0, 0, 0)
def ra (c k i j : Nat) : Nat × Nat := match c, k with
  | 6, 0 => (5, 6 * i + j)
  | 7, 6 => (1, j)
  | _, _ => (3, j)
def fv (g : Gm) (σ : Sto) (c k i : Nat) : Value := if kd c k = 0 then .int (σ.1 c k i) else if kd c k = 1 then .ref (g.1 c (k + 1) i) else .ref (g.1 (rf σ c k i).1 (rf σ c k i).2.1 (rf σ c k i).2.2)
def acon (g : Gm) (σ : Sto) (c k i : Nat) : (Nat → Int32) ⊕ (Nat → Int64) ⊕ (Nat → UInt32) ⊕ (Nat → UInt64) ⊕ (Nat → Option Nat) := if aty c k = 1 then .inr (.inl (σ.2.2.1 c k i)) else if aty c k ≤ 3 then .inl (σ.2.1 c k i) else .inr (.inr (.inr (.inr (fun j => some (g.1 (ra c k i j).1 0 (ra c k i j).2)))))
def flds (g : Gm) (σ : Sto) (c i : Nat) : List Value := (List.range (nf c)).map (fun k => fv g σ c k i)
def cel (g : Gm) (σ : Sto) (x : Nat × Nat × Nat) : va_E := match x.2.1 with
  | 0 => .inr (x.1, flds g σ x.1 x.2.2)
  | k + 1 => .inl (g.2.2.1 (aty x.1 k), alen x.1 k, acon g σ x.1 k x.2.2)
def allc : List (Nat × Nat × Nat) := tabs.flatMap (fun q => (List.range (cn q.1)).map (fun i => (q.1, q.2, i)))
def adr (g : Gm) (x : Nat × Nat × Nat) : Nat := g.1 x.1 x.2.1 x.2.2
def wl (g : Gm) (σ : Sto) : va_W := allc.map (fun x => (adr g x, cel g σ x))
theorem allc_nodup : allc.Nodup := by decide +kernel
theorem allc_mem {c s i : Nat} (h : (c, s) ∈ tabs) (hi : i < cn c) : (c, s, i) ∈ allc := List.mem_flatMap.mpr ⟨(c, s), h, List.mem_map.mpr ⟨i, List.mem_range.mpr hi, rfl⟩⟩
theorem wl_at (g : Gm) {x : Nat × Nat × Nat} (hx : x ∈ allc) : ∃ q0 : Nat, allc[q0]? = some x ∧ ∀ σ, (wl g σ)[q0]? = some (adr g x, cel g σ x) := by
  obtain ⟨q, hq⟩ := List.getElem?_of_mem hx
  exact ⟨q, hq, fun σ => by unfold wl; rw [List.getElem?_map, hq]; rfl⟩
theorem wl_set (g : Gm) {σ τ : Sto} {x : Nat × Nat × Nat} {q0 : Nat} {e : va_E} (hq : allc[q0]? = some x) (he : cel g τ x = e) (ho : ∀ y ∈ allc, y ≠ x → cel g τ y = cel g σ y) : (wl g σ).set q0 (adr g x, e) = wl g τ := by
  apply List.ext_getElem?
  intro k
  have hlt : q0 < (wl g σ).length := by unfold wl; rw [List.length_map]; exact (List.getElem?_eq_some_iff.mp hq).1
  by_cases hk : k = q0
  · subst hk
    rw [List.getElem?_set_self hlt]
    unfold wl
    rw [List.getElem?_map, hq, ← he]
    rfl
  · rw [List.getElem?_set_ne (Ne.symm hk)]
    unfold wl
    rw [List.getElem?_map, List.getElem?_map]
    cases hy : allc[k]? with
    | none => rfl
    | some y =>
      have hne : y ≠ x := fun h => by
        subst h
        obtain ⟨h1, e1⟩ := List.getElem?_eq_some_iff.mp hy
        obtain ⟨h2, e2⟩ := List.getElem?_eq_some_iff.mp hq
        have hp := List.pairwise_iff_getElem.mp allc_nodup
        rcases Nat.lt_or_ge k q0 with hlt | hge
        · exact hp k q0 h1 h2 hlt (e1.trans e2.symm)
        · exact hp q0 k h2 h1 (by omega) (e2.trans e1.symm)
      show some (adr g y, cel g σ y) = some (adr g y, cel g τ y)
      rw [ho y (List.mem_of_getElem? hy) hne]
theorem flds_at (g : Gm) (σ : Sto) {c i k : Nat} (hk : k < nf c) : (flds g σ c i)[k]? = some (fv g σ c k i) := by
  unfold flds
  rw [List.getElem?_map, List.getElem?_range hk]
  rfl
theorem sF_self (g : Gm) (σ : Sto) {c k i : Nat} (v : Int32) (hk : k < nf c) (h0 : kd c k = 0) : cel g (sF σ c k i v) (c, 0, i) = .inr (c, (flds g σ c i).set k (.int v)) := by
  show Sum.inr (c, flds g (sF σ c k i v) c i) = _
  congr 2
  apply List.ext_getElem?
  intro j
  by_cases hj : j = k
  · subst hj
    rw [flds_at g _ hk, List.getElem?_set_self (by unfold flds; rw [List.length_map, List.length_range]; exact hk)]
    simp [fv, h0, sF]
  · rw [List.getElem?_set_ne (Ne.symm hj)]
    by_cases hl : j < nf c
    · rw [flds_at g _ hl, flds_at g _ hl]
      simp [fv, sF, hj, rf]
    · rw [List.getElem?_eq_none (by unfold flds; simpa using Nat.le_of_not_lt hl), List.getElem?_eq_none (by unfold flds; simpa using Nat.le_of_not_lt hl)]
theorem rf_F (σ : Sto) (c k i : Nat) (v : Int32) : rf (sF σ c k i v) = rf σ := rfl
theorem sF_oth (g : Gm) (σ : Sto) {c k i : Nat} (v : Int32) : ∀ y ∈ allc, y ≠ (c, 0, i) → cel g (sF σ c k i v) y = cel g σ y := by
  rintro ⟨c', s, i'⟩ - hne
  cases s with
  | zero =>
    show Sum.inr (c', flds g (sF σ c k i v) c' i') = Sum.inr (c', flds g σ c' i')
    congr 2
    unfold flds
    apply List.map_congr_left
    intro j _
    have : ¬ (c' = c ∧ j = k ∧ i' = i) := fun h => hne (by rw [h.1, h.2.2])
    unfold fv
    rw [rf_F]
    simp [sF, this]
  | succ j => rfl
theorem acon_A (g : Gm) (σ : Sto) (c k i c' k' i' : Nat) (f : Nat → Int32) (h : ¬ (c' = c ∧ k' = k ∧ i' = i)) : acon g (sA σ c k i f) c' k' i' = acon g σ c' k' i' := by
  unfold acon
  simp [sA, h]
theorem sA_oth (g : Gm) (σ : Sto) {c k i : Nat} (f : Nat → Int32) : ∀ y ∈ allc, y ≠ (c, k + 1, i) → cel g (sA σ c k i f) y = cel g σ y := by
  rintro ⟨c', s, i'⟩ - hne
  cases s with
  | zero => rfl
  | succ j =>
    show Sum.inl (_, _, acon g (sA σ c k i f) c' j i') = Sum.inl (_, _, acon g σ c' j i')
    rw [acon_A]
    exact fun h => hne (by rw [h.1, h.2.1, h.2.2])
theorem sA_self (g : Gm) (σ : Sto) {c k i : Nat} (f : Nat → Int32) (h1 : aty c k ≠ 1) (h3 : aty c k ≤ 3) : cel g (sA σ c k i f) (c, k + 1, i) = .inl (g.2.2.1 (aty c k), alen c k, .inl f) := by
  show Sum.inl (_, _, acon g (sA σ c k i f) c k i) = _
  unfold acon
  simp [h1, h3, sA]
theorem acon_L (g : Gm) (σ : Sto) (c k i c' k' i' : Nat) (f : Nat → Int64) (h : ¬ (c' = c ∧ k' = k ∧ i' = i)) : acon g (sL σ c k i f) c' k' i' = acon g σ c' k' i' := by
  unfold acon
  simp [sL, h]
theorem sL_oth (g : Gm) (σ : Sto) {c k i : Nat} (f : Nat → Int64) : ∀ y ∈ allc, y ≠ (c, k + 1, i) → cel g (sL σ c k i f) y = cel g σ y := by
  rintro ⟨c', s, i'⟩ - hne
  cases s with
  | zero => rfl
  | succ j =>
    show Sum.inl (_, _, acon g (sL σ c k i f) c' j i') = Sum.inl (_, _, acon g σ c' j i')
    rw [acon_L]
    exact fun h => hne (by rw [h.1, h.2.1, h.2.2])
theorem sL_self (g : Gm) (σ : Sto) {c k i : Nat} (f : Nat → Int64) (h1 : aty c k = 1) : cel g (sL σ c k i f) (c, k + 1, i) = .inl (g.2.2.1 (aty c k), alen c k, .inr (.inl f)) := by
  show Sum.inl (_, _, acon g (sL σ c k i f) c k i) = _
  unfold acon
  simp [h1, sL]
end
section
-- WHAT HOLDS ALL THE WHILE
def isNest : Cond → Bool
  | .fieldLinkNest .. => true
  | .methodLinkNest .. => true
  | _ => false
def lw_good : List Cond := lw_tbl.filter goodWord
def lw_nest : List Cond := lw_tbl.filter isNest
theorem good_in {w : Cond} (h : w ∈ lw_tbl) (hg : goodWord w = true) : w ∈ lw_good := List.mem_filter.mpr ⟨h, hg⟩
theorem nest_in {w : Cond} (h : w ∈ lw_tbl) (hg : isNest w = true) : w ∈ lw_nest := List.mem_filter.mpr ⟨h, hg⟩
theorem nest_warm {s U : State} (hW : s.WarmedH U.vm) {w : Cond} (hn : isNest w = true) (h : va_Nw w s) : va_Nw w U := by
  cases w <;> first | exact va_Nw.warmF hW h | exact va_Nw.warmM hW h | (simp [isNest] at hn; done)
theorem nest_same {u U : State} (hv : u.vm = U.vm) {w : Cond} (hn : isNest w = true) (h : va_Nw w u) : va_Nw w U := by
  cases w <;> first | exact va_Nw.same rfl hv h | (simp [isNest] at hn; done)
def tys (g : Gm) : List (ClassId × FieldType) := [(g.2.2.1 0, .int), (g.2.2.1 1, .long), (g.2.2.1 2, .byte), (g.2.2.1 3, .boolean), (g.2.2.1 4, .object "ThawGives$Thing"), (g.2.2.1 5, .object "ThawGives$Pass"), (g.2.2.1 6, .object "ThawGives$Tape")]
def sarr : Nat → List Int32
  | 0 => [-1, 0, 0, 0, 1, 2, 3]
  | _ => [10, 11, 12, 10, 20, 12, 30, 11, 12, 10, 11, 40, 50, 51, 12, 30, 11, 60, 71, 70, 40]
def sbyt : List (List Int32) := [[119, 97, 114, 109, 32], [102, 114, 111, 115, 116, 32], [115, 110, 111, 119, 32], [112, 107, 118, 119, 100, 109], [60, 61, 62]]
def slen : List Nat := [5, 6, 5, 6, 3]
def strs : List (String × Nat × String × Nat) := [("ThawGives$Text", 52, "warm ", 0), ("ThawGives$Text", 54, "frost ", 1), ("ThawGives$Text", 56, "snow ", 2), ("ThawGives$Text", 81, "pkvwdm", 3), ("ThawGivesModel", 155, "pkvwdm", 3), ("ThawGivesModel", 160, "<=>", 4), ("ThawGivesModel", 186, "warm ", 0), ("ThawGivesModel", 192, "frost ", 1), ("ThawGivesModel", 194, "snow ", 2)]
def Ks1 (g : Gm) (A : Nat → Prop) (U : State) (H : Heap) : Prop :=
  (va_Z "ThawGives" "ABOVE" "[I" (.ref (g.2.2.2.1 0)) A U H ∧ va_T .int (g.2.2.2.1 0) 7 (fun j => .int ((sarr 0).getD j 0)) A U H) ∧ (va_Z "ThawGives$Acts" "BODIES" "[I" (.ref (g.2.2.2.1 1)) A U H ∧ va_T .int (g.2.2.2.1 1) 21 (fun j => .int ((sarr 1).getD j 0)) A U H) ∧ va_Z "java/lang/String" "COMPACT_STRINGS" "Z" (.int 1) A U H ∧ vk_S 5 slen sbyt g.2.2.2.2.1 g.2.2.2.2.2 A U H
def Ks2 (g : Gm) (U : State) : Prop := (∀ w ∈ lw_nest, va_Nw w U) ∧ ∀ q ∈ strs, vk_R q.1 q.2.1 q.2.2.1 (g.2.2.2.2.1 q.2.2.2) U
def Kst (g : Gm) (A : Nat → Prop) (U : State) (H : Heap) : Prop := va_K g.2.1 vwCl (tys g) U ∧ Ks1 g A U H ∧ Ks2 g U ∧ va_D A (wl g ((fun _ _ _ => 0), (fun _ _ _ _ => 0), (fun _ _ _ _ => 0), 0))
theorem wl_D {g : Gm} {A : Nat → Prop} {σ : Sto} (τ : Sto) (h : va_D A (wl g σ)) : va_D A (wl g τ) := by
  have key : ∀ (k : Nat) (q : Nat × va_E), (wl g τ)[k]? = some q → ∃ q', (wl g σ)[k]? = some q' ∧ q'.1 = q.1 := by
    intro k q hk
    unfold wl at hk ⊢
    rw [List.getElem?_map] at hk ⊢
    cases hx : allc[k]? with
    | none => rw [hx] at hk; cases hk
    | some x =>
      rw [hx] at hk
      cases hk
      exact ⟨_, rfl, rfl⟩
  refine ⟨fun i j p q hi hj e => ?_, fun k q hk => ?_⟩
  · obtain ⟨p', h1, h2⟩ := key i p hi
    obtain ⟨q', h3, h4⟩ := key j q hj
    exact h.1 i j p' q' h1 h3 (h2.trans (e.trans h4.symm))
  · obtain ⟨q', h1, h2⟩ := key k q hk
    rw [← h2]
    exact h.2 k q' h1
theorem Ks1.moved {g : Gm} {A : Nat → Prop} {u U : State} {H : Heap} (hvm : u.vm.Alike U.vm) (h : Ks1 g A u H) : Ks1 g A U H := ⟨⟨va_Z.moved hvm h.1.1, va_T.moved hvm h.1.2⟩, ⟨va_Z.moved hvm h.2.1.1, va_T.moved hvm h.2.1.2⟩, va_Z.moved hvm h.2.2.1, vk_S.moved hvm h.2.2.2⟩
theorem Ks1.kept {g : Gm} {A : Nat → Prop} {U : State} {H H1 : Heap} (h : Ks1 g A U H) (hq : ∀ a : Nat, a < H.size → ¬ A a → H1[a]? = H[a]?) : Ks1 g A U H1 := ⟨⟨h.1.1.kept hq, h.1.2.kept hq⟩, ⟨h.2.1.1.kept hq, h.2.1.2.kept hq⟩, h.2.2.1.kept hq, h.2.2.2.kept hq⟩
theorem Ks1.narrow {g : Gm} {A B : Nat → Prop} {U : State} {H : Heap} (h : Ks1 g A U H) (hAB : ∀ q, B q → A q) : Ks1 g B U H := ⟨⟨h.1.1.narrow hAB, h.1.2.narrow hAB⟩, ⟨h.2.1.1.narrow hAB, h.2.1.2.narrow hAB⟩, h.2.2.1.narrow hAB, h.2.2.2.narrow hAB⟩
theorem Ks2.warm {g : Gm} {s U : State} (hW : s.WarmedH U.vm) (h : Ks2 g s) : Ks2 g U := ⟨fun w hw => nest_warm hW (List.mem_filter.mp hw).2 (h.1 w hw), fun q hq => (h.2 q hq).warm hW⟩
theorem Ks2.same {g : Gm} {u U : State} (hv : u.vm = U.vm) (h : Ks2 g u) : Ks2 g U := ⟨fun w hw => nest_same hv (List.mem_filter.mp hw).2 (h.1 w hw), fun q hq => (h.2 q hq).same hv.symm⟩
-- the cells of the world
def Aw (g : Gm) : Nat → Prop := fun q => ∃ x ∈ allc, q = adr g x
theorem wl_A {g : Gm} {A : Nat → Prop} {σ : Sto} (h : va_D A (wl g σ)) : ∀ q, Aw g q → A q := by
  rintro q ⟨x, hx, rfl⟩
  obtain ⟨q0, -, h1⟩ := wl_at g hx
  exact h.2 q0 _ (h1 σ)
theorem wl_DA {g : Gm} {A : Nat → Prop} {σ : Sto} (h : va_D A (wl g σ)) : va_D (Aw g) (wl g σ) := h.weaken (fun k q hk _ => by
  unfold wl at hk
  rw [List.getElem?_map] at hk
  cases hx : allc[k]? with
  | none => rw [hx] at hk; cases hk
  | some x =>
    rw [hx] at hk
    cases hk
    exact ⟨x, List.mem_of_getElem? hx, rfl⟩)
-- METHODS: what a method's text is: its bytes, its class, its locals, its answer's kind
abbrev KK : Type := ByteArray × String × Nat × Option FieldType
abbrev Res : Type := Option Value × Sto
abbrev EE : Type := Gm × (State → Nat → Prop) × Room × Nat × Nat × (Res → Array Value → State → List Frame → State → Prop)
def Cx (E : EE) (K : KK) (p : Program) (s : State) (m : MethodId) (args : Array Value) (meth : Method) (c : Code) : Prop :=
  p.tables.exec = Jvm.exec ∧ c.code = K.1 ∧ meth.sig.returnType = K.2.2.2 ∧ c.maxLocals = K.2.2.1 ∧ meth.locks = false ∧ s.vm.findClass K.2.1 = some m.cls ∧ (∀ w ∈ lw_good, w.before args s = true) ∧ Kst E.1 (E.2.1 s) s s.heap
def lvl : Nat → List (Option Value) → List (Nat × Value)
  | _, [] => []
  | i, none :: r => lvl (i + 1) r
  | i, some v :: r => (i, v) :: lvl (i + 1) r
theorem lvl_mem : ∀ (lv : List (Option Value)) (i k : Nat) (v : Value), lv[k]? = some (some v) → (i + k, v) ∈ lvl i lv
  | [], _, _, _, h => by simp at h
  | none :: r, i, 0, v, h => by simp at h
  | none :: r, i, k + 1, v, h => by
    have := lvl_mem r (i + 1) k v (by simpa using h)
    rw [show i + (k + 1) = i + 1 + k by omega]
    exact this
  | some w :: r, i, 0, v, h => by
    simp at h
    subst h
    exact List.mem_cons_self
  | some w :: r, i, k + 1, v, h => by
    have := lvl_mem r (i + 1) k v (by simpa using h)
    rw [show i + (k + 1) = i + 1 + k by omega]
    exact List.mem_cons_of_mem _ this
theorem lvl_of : ∀ (lv : List (Option Value)) (i : Nat) (q : Nat × Value), q ∈ lvl i lv → ∃ k, q.1 = i + k ∧ lv[k]? = some (some q.2)
  | [], _, _, h => by simp [lvl] at h
  | none :: r, i, q, h => by
    obtain ⟨k, h1, h2⟩ := lvl_of r (i + 1) q h
    exact ⟨k + 1, by omega, by simpa using h2⟩
  | some w :: r, i, q, h => by
    rcases List.mem_cons.mp h with rfl | h
    · exact ⟨0, rfl, rfl⟩
    · obtain ⟨k, h1, h2⟩ := lvl_of r (i + 1) q h
      exact ⟨k + 1, by omega, by simpa using h2⟩
def LV (ls : Array Slot) (nL : Nat) (lv : List (Option Value)) : Prop := lv_has ls nL (lvl 0 lv)
theorem LV.at {ls : Array Slot} {nL : Nat} {lv : List (Option Value)} (h : LV ls nL lv) {k : Nat} {v : Value} (hk : lv[k]? = some (some v)) : ls[k]? = some (.val v) := by
  have := lvl_mem lv 0 k v hk
  rw [Nat.zero_add] at this
  exact h.2.2 _ this
def lok (lv : List (Option Value)) (i : Nat) : Bool := match i with
  | 0 => true
  | j + 1 => match lv[j]? with
    | some (some w) => w.category != 2
    | _ => true
theorem LV.set {ls : Array Slot} {nL : Nat} {lv : List (Option Value)} {i : Nat} {v : Value} (hok : lok lv i = true) (hi : i < lv.length) (h : lv_has ls nL ((i, v) :: (lvl 0 lv).filter (fun q => !(q.1 == i) && !(q.1 + 1 == i && q.2.category == 2)))) : LV ls nL (lv.set i (some v)) := by
  refine ⟨h.1, h.2.1, fun q hq => ?_⟩
  obtain ⟨k, h1, h2⟩ := lvl_of _ _ _ hq
  rw [Nat.zero_add] at h1
  by_cases hk : i = k
  · subst hk
    rw [List.getElem?_set_self hi] at h2
    have : q = (i, v) := by
      cases q
      simp only [Option.some.injEq] at h2
      simp_all
    rw [this]
    exact h.2.2 _ List.mem_cons_self
  · rw [List.getElem?_set_ne hk] at h2
    refine h.2.2 q (List.mem_cons_of_mem _ (List.mem_filter.mpr ⟨?_, ?_⟩))
    · have := lvl_mem lv 0 k q.2 h2
      rw [Nat.zero_add, ← h1] at this
      exact this
    · have h3 : ¬ q.1 = i := by omega
      simp only [Bool.and_eq_true, Bool.not_eq_true', beq_eq_false_iff_ne, ne_eq, h3, not_false_eq_true, Bool.and_eq_false_iff, true_and]
      by_cases h4 : q.1 + 1 = i
      · right
        subst h4
        rw [h1] at hok
        simp only [lok, h2] at hok
        simpa using hok
      · exact Or.inl h4
def Rf {α : Type} (cv : α → Res) (E : EE) (K : KK) (pc : Nat) (lv : List (Option Value)) (st : List Value) (σ : Sto) (o : Option α) : Prop :=
  ∀ a, o = some a → ∀ (p : Program) (l : Launch) (e : Env) (s : State) (m : MethodId) (args : Array Value) (below : List Frame) (meth : Method) (c : Code) (H : Heap) (locs : List Loc) (ls : Array Slot),
    Cx E K p s m args meth c → va_P E.1.2.1 vwCl (wl E.1 σ) H → va_S (E.2.1 s) s.heap H locs → LV ls K.2.2.1 lv → W p l e E.2.2.1 s m args below meth c H locs E.2.2.2.1 E.2.2.2.2.1 (E.2.2.2.2.2 (cv a) args s below) (F0 m pc ls st)
/-- an instruction's row: what stands at pc, how long it is, where the next begins -/
def Dc (K : KK) (pc : Nat) (i : Instr) (n npc : Nat) : Prop := decode K.1 pc = .ok (i, n) ∧ npc = pc + n
theorem ite_p {α : Type} {c : Prop} {d : Decidable c} {x y : Option α} {a : α} (h : (@ite _ c d x y) = some a) (hc : c) : x = some a := by rw [if_pos hc] at h; exact h
theorem ite_n {α : Type} {c : Prop} {d : Decidable c} {x y : Option α} {a : α} (h : (@ite _ c d x y) = some a) (hc : ¬ c) : y = some a := by rw [if_neg hc] at h; exact h
theorem inb {j n : Int32} {N : Nat} (hN : n.toInt = N) (h : 0 ≤ j ∧ j < n) : vp_in j N ∧ j.toNatClampNeg < N := by
  have h1 : (0 : Int) ≤ j.toInt := by have := Int32.le_iff_toInt_le.mp h.1; simpa using this
  have h2 : j.toInt < N := by rw [← hN]; exact Int32.lt_iff_toInt_lt.mp h.2
  have h3 : vp_in j N := vp_in_iff.mpr ⟨h1, h2⟩
  exact ⟨h3, Nat.not_le.mp fun q => h3 (Or.inr q)⟩
section RULES
variable {α : Type} {cv : α → Res} {E : EE} {K : KK} {pc npc : Nat} {lv : List (Option Value)} {st : List Value} {σ : Sto} {o o1 o2 : Option α}
theorem r_iconst {n : Int} {v : Int32} (hd : Dc K pc (.iconst n) 1 npc) (hv : Int32.ofInt n = v) (k : Rf cv E K npc lv (.int v :: st) σ o) : Rf cv E K pc lv (st) σ o := fun a ho p l e s m args below meth c H locs ls C hP hS hl => lv_iconst C.1 C.2.1 hd.1 hv (hd.2 ▸ k a ho p l e s m args below meth c H locs ls C hP hS hl)
theorem r_bipush {n : Int} {v : Int32} (hd : Dc K pc (.bipush n) 2 npc) (hv : (Int8.ofInt n).toInt32 = v) (k : Rf cv E K npc lv (.int v :: st) σ o) : Rf cv E K pc lv (st) σ o := fun a ho p l e s m args below meth c H locs ls C hP hS hl => lv_bipush C.1 C.2.1 hd.1 hv (hd.2 ▸ k a ho p l e s m args below meth c H locs ls C hP hS hl)
theorem r_sipush {n : Int} {v : Int32} (hd : Dc K pc (.sipush n) 3 npc) (hv : (Int16.ofInt n).toInt32 = v) (k : Rf cv E K npc lv (.int v :: st) σ o) : Rf cv E K pc lv (st) σ o := fun a ho p l e s m args below meth c H locs ls C hP hS hl => lv_sipush C.1 C.2.1 hd.1 hv (hd.2 ▸ k a ho p l e s m args below meth c H locs ls C hP hS hl)
theorem r_lconst {n : Fin 2} {v : Int64} (hd : Dc K pc (.lconst n) 1 npc) (hv : Int64.ofNat (n : Nat) = v) (k : Rf cv E K npc lv (.long v :: st) σ o) : Rf cv E K pc lv (st) σ o := fun a ho p l e s m args below meth c H locs ls C hP hS hl => lv_lconst C.1 C.2.1 hd.1 hv (hd.2 ▸ k a ho p l e s m args below meth c H locs ls C hP hS hl)
theorem r_ldc {i : Nat} {v : Int32} (hd : Dc K pc (.ldc i) 2 npc) (hw : Cond.constant K.2.1 i v ∈ lw_good) (k : Rf cv E K npc lv (.int v :: st) σ o) : Rf cv E K pc lv (st) σ o := fun a ho p l e s m args below meth c H locs ls C hP hS hl => lv_ldc C.1 C.2.1 C.2.2.2.2.2.1 (C.2.2.2.2.2.2.1 _ hw) hd.1 (hd.2 ▸ k a ho p l e s m args below meth c H locs ls C hP hS hl)
theorem r_ldc2 {i : Nat} {v : Int64} (hd : Dc K pc (.ldc2_w i) 3 npc) (hw : Cond.constantLong K.2.1 i v ∈ lw_good) (k : Rf cv E K npc lv (.long v :: st) σ o) : Rf cv E K pc lv (st) σ o := fun a ho p l e s m args below meth c H locs ls C hP hS hl => lv_ldc2 C.1 C.2.1 C.2.2.2.2.2.1 (C.2.2.2.2.2.2.1 _ hw) hd.1 (hd.2 ▸ k a ho p l e s m args below meth c H locs ls C hP hS hl)
theorem r_ldcS {i n : Nat} {tx : String} (hd : Dc K pc (.ldc i) 2 npc) (hw : (K.2.1, i, tx, n) ∈ strs) (k : Rf cv E K npc lv (.ref (E.1.2.2.2.2.1 n) :: st) σ o) : Rf cv E K pc lv (st) σ o := fun a ho p l e s m args below meth c H locs ls C hP hS hl => va_ldcS C.1 C.2.1 C.2.2.2.2.2.1 (C.2.2.2.2.2.2.2.2.2.1.2 _ hw) hd.1 (hd.2 ▸ k a ho p l e s m args below meth c H locs ls C hP hS hl)
theorem r_iload {i : Nat} {x : Int32} (hd : Dc K pc (.iload i) 2 npc) (hx : lv[i]? = some (some (.int x))) (k : Rf cv E K npc lv (.int x :: st) σ o) : Rf cv E K pc lv (st) σ o := fun a ho p l e s m args below meth c H locs ls C hP hS hl => lv_iload C.1 C.2.1 hd.1 (hl.at hx) (hd.2 ▸ k a ho p l e s m args below meth c H locs ls C hP hS hl)
theorem r_iload_n {i : Fin 4} {x : Int32} (hd : Dc K pc (.iload_n i) 1 npc) (hx : lv[(i : Nat)]? = some (some (.int x))) (k : Rf cv E K npc lv (.int x :: st) σ o) : Rf cv E K pc lv (st) σ o := fun a ho p l e s m args below meth c H locs ls C hP hS hl => lv_iload_n C.1 C.2.1 hd.1 rfl (hl.at hx) (hd.2 ▸ k a ho p l e s m args below meth c H locs ls C hP hS hl)
theorem r_aload {i : Nat} {x : Nat} (hd : Dc K pc (.aload i) 2 npc) (hx : lv[i]? = some (some (.ref x))) (k : Rf cv E K npc lv (.ref x :: st) σ o) : Rf cv E K pc lv (st) σ o := fun a ho p l e s m args below meth c H locs ls C hP hS hl => lv_aload C.1 C.2.1 hd.1 (hl.at hx) (hd.2 ▸ k a ho p l e s m args below meth c H locs ls C hP hS hl)
theorem r_aload_n {i : Fin 4} {x : Nat} (hd : Dc K pc (.aload_n i) 1 npc) (hx : lv[(i : Nat)]? = some (some (.ref x))) (k : Rf cv E K npc lv (.ref x :: st) σ o) : Rf cv E K pc lv (st) σ o := fun a ho p l e s m args below meth c H locs ls C hP hS hl => lv_aload_n C.1 C.2.1 hd.1 rfl (hl.at hx) (hd.2 ▸ k a ho p l e s m args below meth c H locs ls C hP hS hl)
theorem r_lload_n {i : Fin 4} {x : Int64} (hd : Dc K pc (.lload_n i) 1 npc) (hx : lv[(i : Nat)]? = some (some (.long x))) (k : Rf cv E K npc lv (.long x :: st) σ o) : Rf cv E K pc lv (st) σ o := fun a ho p l e s m args below meth c H locs ls C hP hS hl => lv_lload_n C.1 C.2.1 hd.1 rfl (hl.at hx) (hd.2 ▸ k a ho p l e s m args below meth c H locs ls C hP hS hl)
theorem r_istore_n {i : Fin 4} {x : Int32} (hd : Dc K pc (.istore_n i) 1 npc) (hok : lok lv (i : Nat) = true) (hi : (i : Nat) < lv.length) (hn : (i : Nat) < K.2.2.1) (k : Rf cv E K npc (lv.set (i : Nat) (some (.int x))) st σ o) : Rf cv E K pc lv (.int x :: st) σ o := fun a ho p l e s m args below meth c H locs ls C hP hS hl => lv_istore_n C.1 C.2.1 hd.1 rfl hl hn rfl (fun ls' hl' => hd.2 ▸ k a ho p l e s m args below meth c H locs ls' C hP hS (LV.set hok hi hl'))
theorem r_istore {i : Nat} {x : Int32} (hd : Dc K pc (.istore i) 2 npc) (hok : lok lv i = true) (hi : i < lv.length) (hn : i < K.2.2.1) (k : Rf cv E K npc (lv.set i (some (.int x))) st σ o) : Rf cv E K pc lv (.int x :: st) σ o := fun a ho p l e s m args below meth c H locs ls C hP hS hl => lv_istore C.1 C.2.1 hd.1 hl hn rfl (fun ls' hl' => hd.2 ▸ k a ho p l e s m args below meth c H locs ls' C hP hS (LV.set hok hi hl'))
theorem r_astore_n {i : Fin 4} {x : Nat} (hd : Dc K pc (.astore_n i) 1 npc) (hok : lok lv (i : Nat) = true) (hi : (i : Nat) < lv.length) (hn : (i : Nat) < K.2.2.1) (k : Rf cv E K npc (lv.set (i : Nat) (some (.ref x))) st σ o) : Rf cv E K pc lv (.ref x :: st) σ o := fun a ho p l e s m args below meth c H locs ls C hP hS hl => lv_astore_n C.1 C.2.1 hd.1 rfl hl hn rfl (fun ls' hl' => hd.2 ▸ k a ho p l e s m args below meth c H locs ls' C hP hS (LV.set hok hi hl'))
theorem r_astore {i : Nat} {x : Nat} (hd : Dc K pc (.astore i) 2 npc) (hok : lok lv i = true) (hi : i < lv.length) (hn : i < K.2.2.1) (k : Rf cv E K npc (lv.set i (some (.ref x))) st σ o) : Rf cv E K pc lv (.ref x :: st) σ o := fun a ho p l e s m args below meth c H locs ls C hP hS hl => lv_astore C.1 C.2.1 hd.1 hl hn rfl (fun ls' hl' => hd.2 ▸ k a ho p l e s m args below meth c H locs ls' C hP hS (LV.set hok hi hl'))
theorem r_iinc {i : Nat} {n : Int} {x v : Int32} (hd : Dc K pc (.iinc i n) 3 npc) (hx : lv[i]? = some (some (.int x))) (hv : x + Int32.ofInt n = v) (hok : lok lv i = true) (hn : i < K.2.2.1) (k : Rf cv E K npc (lv.set i (some (.int v))) st σ o) : Rf cv E K pc lv st σ o := fun a ho p l e s m args below meth c H locs ls C hP hS hl => by
  have hm := lvl_mem lv 0 i _ hx
  rw [Nat.zero_add] at hm
  obtain ⟨q, hq⟩ := List.getElem?_of_mem hm
  exact lv_iinc C.1 C.2.1 hd.1 hl hq hv hn rfl (fun ls' hl' => hd.2 ▸ k a ho p l e s m args below meth c H locs ls' C hP hS (LV.set hok (List.getElem?_eq_some_iff.mp hx).1 hl'))
theorem r_iadd {x y : Int32} (hd : Dc K pc (.iadd) 1 npc) (k : Rf cv E K npc lv (.int (x + y) :: st) σ o) : Rf cv E K pc lv (.int y :: .int x :: st) σ o := fun a ho p l e s m args below meth c H locs ls C hP hS hl => lv_iadd C.1 C.2.1 hd.1 (hd.2 ▸ k a ho p l e s m args below meth c H locs ls C hP hS hl)
theorem r_isub {x y : Int32} (hd : Dc K pc (.isub) 1 npc) (k : Rf cv E K npc lv (.int (x - y) :: st) σ o) : Rf cv E K pc lv (.int y :: .int x :: st) σ o := fun a ho p l e s m args below meth c H locs ls C hP hS hl => lv_isub C.1 C.2.1 hd.1 (hd.2 ▸ k a ho p l e s m args below meth c H locs ls C hP hS hl)
theorem r_imul {x y : Int32} (hd : Dc K pc (.imul) 1 npc) (k : Rf cv E K npc lv (.int (x * y) :: st) σ o) : Rf cv E K pc lv (.int y :: .int x :: st) σ o := fun a ho p l e s m args below meth c H locs ls C hP hS hl => lv_imul C.1 C.2.1 hd.1 (hd.2 ▸ k a ho p l e s m args below meth c H locs ls C hP hS hl)
theorem r_iand {x y : Int32} (hd : Dc K pc (.iand) 1 npc) (k : Rf cv E K npc lv (.int (x &&& y) :: st) σ o) : Rf cv E K pc lv (.int y :: .int x :: st) σ o := fun a ho p l e s m args below meth c H locs ls C hP hS hl => lv_iand C.1 C.2.1 hd.1 (hd.2 ▸ k a ho p l e s m args below meth c H locs ls C hP hS hl)
theorem r_ior {x y : Int32} (hd : Dc K pc (.ior) 1 npc) (k : Rf cv E K npc lv (.int (x ||| y) :: st) σ o) : Rf cv E K pc lv (.int y :: .int x :: st) σ o := fun a ho p l e s m args below meth c H locs ls C hP hS hl => lv_ior C.1 C.2.1 hd.1 (hd.2 ▸ k a ho p l e s m args below meth c H locs ls C hP hS hl)
theorem r_ixor {x y : Int32} (hd : Dc K pc (.ixor) 1 npc) (k : Rf cv E K npc lv (.int (x ^^^ y) :: st) σ o) : Rf cv E K pc lv (.int y :: .int x :: st) σ o := fun a ho p l e s m args below meth c H locs ls C hP hS hl => lv_ixor C.1 C.2.1 hd.1 (hd.2 ▸ k a ho p l e s m args below meth c H locs ls C hP hS hl)
theorem r_ladd {x y : Int64} (hd : Dc K pc (.ladd) 1 npc) (k : Rf cv E K npc lv (.long (x + y) :: st) σ o) : Rf cv E K pc lv (.long y :: .long x :: st) σ o := fun a ho p l e s m args below meth c H locs ls C hP hS hl => lv_ladd C.1 C.2.1 hd.1 (hd.2 ▸ k a ho p l e s m args below meth c H locs ls C hP hS hl)
theorem r_land {x y : Int64} (hd : Dc K pc (.land) 1 npc) (k : Rf cv E K npc lv (.long (x &&& y) :: st) σ o) : Rf cv E K pc lv (.long y :: .long x :: st) σ o := fun a ho p l e s m args below meth c H locs ls C hP hS hl => lv_land C.1 C.2.1 hd.1 (hd.2 ▸ k a ho p l e s m args below meth c H locs ls C hP hS hl)
theorem r_lor {x y : Int64} (hd : Dc K pc (.lor) 1 npc) (k : Rf cv E K npc lv (.long (x ||| y) :: st) σ o) : Rf cv E K pc lv (.long y :: .long x :: st) σ o := fun a ho p l e s m args below meth c H locs ls C hP hS hl => lv_lor C.1 C.2.1 hd.1 (hd.2 ▸ k a ho p l e s m args below meth c H locs ls C hP hS hl)
theorem r_idiv {x y : Int32} (hd : Dc K pc (.idiv) 1 npc) (hy : ¬ y = 0) (k : Rf cv E K npc lv (.int (x / y) :: st) σ o) : Rf cv E K pc lv (.int y :: .int x :: st) σ o := fun a ho p l e s m args below meth c H locs ls C hP hS hl => lv_idiv C.1 C.2.1 hd.1 hy (hd.2 ▸ k a ho p l e s m args below meth c H locs ls C hP hS hl)
theorem r_irem {x y : Int32} (hd : Dc K pc (.irem) 1 npc) (hy : ¬ y = 0) (k : Rf cv E K npc lv (.int (x - x / y * y) :: st) σ o) : Rf cv E K pc lv (.int y :: .int x :: st) σ o := fun a ho p l e s m args below meth c H locs ls C hP hS hl => lv_irem C.1 C.2.1 hd.1 hy (hd.2 ▸ k a ho p l e s m args below meth c H locs ls C hP hS hl)
theorem r_ineg {x : Int32} (hd : Dc K pc (.ineg) 1 npc) (k : Rf cv E K npc lv (.int (-x) :: st) σ o) : Rf cv E K pc lv (.int x :: st) σ o := fun a ho p l e s m args below meth c H locs ls C hP hS hl => lv_ineg C.1 C.2.1 hd.1 (hd.2 ▸ k a ho p l e s m args below meth c H locs ls C hP hS hl)
theorem r_ishl {x y : Int32} (hd : Dc K pc (.ishl) 1 npc) (k : Rf cv E K npc lv (.int (x <<< (y &&& 31)) :: st) σ o) : Rf cv E K pc lv (.int y :: .int x :: st) σ o := fun a ho p l e s m args below meth c H locs ls C hP hS hl => lv_ishl C.1 C.2.1 hd.1 (hd.2 ▸ k a ho p l e s m args below meth c H locs ls C hP hS hl)
theorem r_ishr {x y : Int32} (hd : Dc K pc (.ishr) 1 npc) (k : Rf cv E K npc lv (.int (x >>> (y &&& 31)) :: st) σ o) : Rf cv E K pc lv (.int y :: .int x :: st) σ o := fun a ho p l e s m args below meth c H locs ls C hP hS hl => lv_ishr C.1 C.2.1 hd.1 (hd.2 ▸ k a ho p l e s m args below meth c H locs ls C hP hS hl)
theorem r_lshl {x : Int64} {y : Int32} (hd : Dc K pc (.lshl) 1 npc) (k : Rf cv E K npc lv (.long (x <<< (y.toInt64 &&& 63)) :: st) σ o) : Rf cv E K pc lv (.int y :: .long x :: st) σ o := fun a ho p l e s m args below meth c H locs ls C hP hS hl => lv_lshl C.1 C.2.1 hd.1 rfl (hd.2 ▸ k a ho p l e s m args below meth c H locs ls C hP hS hl)
theorem r_i2l {x : Int32} (hd : Dc K pc (.i2l) 1 npc) (k : Rf cv E K npc lv (.long x.toInt64 :: st) σ o) : Rf cv E K pc lv (.int x :: st) σ o := fun a ho p l e s m args below meth c H locs ls C hP hS hl => lv_i2l C.1 C.2.1 hd.1 rfl (hd.2 ▸ k a ho p l e s m args below meth c H locs ls C hP hS hl)
theorem r_l2i {x : Int64} (hd : Dc K pc (.l2i) 1 npc) (k : Rf cv E K npc lv (.int x.toInt32 :: st) σ o) : Rf cv E K pc lv (.long x :: st) σ o := fun a ho p l e s m args below meth c H locs ls C hP hS hl => lv_l2i C.1 C.2.1 hd.1 rfl (hd.2 ▸ k a ho p l e s m args below meth c H locs ls C hP hS hl)
theorem r_i2b {x : Int32} (hd : Dc K pc (.i2b) 1 npc) (k : Rf cv E K npc lv (.int x.toInt8.toInt32 :: st) σ o) : Rf cv E K pc lv (.int x :: st) σ o := fun a ho p l e s m args below meth c H locs ls C hP hS hl => lv_i2b C.1 C.2.1 hd.1 rfl (hd.2 ▸ k a ho p l e s m args below meth c H locs ls C hP hS hl)
theorem r_i2s {x : Int32} (hd : Dc K pc (.i2s) 1 npc) (k : Rf cv E K npc lv (.int x.toInt16.toInt32 :: st) σ o) : Rf cv E K pc lv (.int x :: st) σ o := fun a ho p l e s m args below meth c H locs ls C hP hS hl => lv_i2s C.1 C.2.1 hd.1 rfl (hd.2 ▸ k a ho p l e s m args below meth c H locs ls C hP hS hl)
theorem r_i2c {x : Int32} (hd : Dc K pc (.i2c) 1 npc) (k : Rf cv E K npc lv (.int (x.toUInt32 % 65536).toInt32 :: st) σ o) : Rf cv E K pc lv (.int x :: st) σ o := fun a ho p l e s m args below meth c H locs ls C hP hS hl => lv_i2c C.1 C.2.1 hd.1 rfl (hd.2 ▸ k a ho p l e s m args below meth c H locs ls C hP hS hl)
theorem r_lcmp {x y : Int64} (hd : Dc K pc (.lcmp) 1 npc) (k : Rf cv E K npc lv (.int (lg_cmp x y) :: st) σ o) : Rf cv E K pc lv (.long y :: .long x :: st) σ o := fun a ho p l e s m args below meth c H locs ls C hP hS hl => W.lcmp C.1 C.2.1 hd.1 (hd.2 ▸ k a ho p l e s m args below meth c H locs ls C hP hS hl)
theorem r_dup {x : Value} (hd : Dc K pc (.dup) 1 npc) (hx : x.category = 1) (k : Rf cv E K npc lv (x :: x :: st) σ o) : Rf cv E K pc lv (x :: st) σ o := fun a ho p l e s m args below meth c H locs ls C hP hS hl => lv_dup C.1 C.2.1 hd.1 hx (hd.2 ▸ k a ho p l e s m args below meth c H locs ls C hP hS hl)
theorem r_dup_x1 {x y : Value} (hd : Dc K pc (.dup_x1) 1 npc) (hx : x.category = 1) (hy : y.category = 1) (k : Rf cv E K npc lv (x :: y :: x :: st) σ o) : Rf cv E K pc lv (x :: y :: st) σ o := fun a ho p l e s m args below meth c H locs ls C hP hS hl => lv_dup_x1 C.1 C.2.1 hd.1 hx hy (hd.2 ▸ k a ho p l e s m args below meth c H locs ls C hP hS hl)
theorem r_ifeq {x : Int32} {off : Int} {tgt : Nat} {d : Decidable (x = 0)} (hd : Dc K pc (.ifCond .eq off) 3 npc) (ht : (pc : Int) + off = (tgt : Int)) (k1 : x = 0 → Rf cv E K tgt lv st σ o1) (k2 : ¬ (x = 0) → Rf cv E K npc lv st σ o2) : Rf cv E K pc lv (.int x :: st) σ (@ite _ (x = 0) d o1 o2) := fun a ho p l e s m args below meth c H locs ls C hP hS hl => lv_if_eq C.1 C.2.1 hd.1 ht (fun h => k1 h a (ite_p ho h) p l e s m args below meth c H locs ls C hP hS hl) (fun h => hd.2 ▸ k2 h a (ite_n ho h) p l e s m args below meth c H locs ls C hP hS hl)
theorem r_iflt {x : Int32} {off : Int} {tgt : Nat} {d : Decidable (x < 0)} (hd : Dc K pc (.ifCond .lt off) 3 npc) (ht : (pc : Int) + off = (tgt : Int)) (k1 : x < 0 → Rf cv E K tgt lv st σ o1) (k2 : ¬ (x < 0) → Rf cv E K npc lv st σ o2) : Rf cv E K pc lv (.int x :: st) σ (@ite _ (x < 0) d o1 o2) := fun a ho p l e s m args below meth c H locs ls C hP hS hl => lv_if_lt C.1 C.2.1 hd.1 ht (fun h => k1 h a (ite_p ho h) p l e s m args below meth c H locs ls C hP hS hl) (fun h => hd.2 ▸ k2 h a (ite_n ho h) p l e s m args below meth c H locs ls C hP hS hl)
theorem r_ifge {x : Int32} {off : Int} {tgt : Nat} {d : Decidable (0 ≤ x)} (hd : Dc K pc (.ifCond .ge off) 3 npc) (ht : (pc : Int) + off = (tgt : Int)) (k1 : 0 ≤ x → Rf cv E K tgt lv st σ o1) (k2 : ¬ (0 ≤ x) → Rf cv E K npc lv st σ o2) : Rf cv E K pc lv (.int x :: st) σ (@ite _ (0 ≤ x) d o1 o2) := fun a ho p l e s m args below meth c H locs ls C hP hS hl => lv_if_ge C.1 C.2.1 hd.1 ht (fun h => k1 h a (ite_p ho h) p l e s m args below meth c H locs ls C hP hS hl) (fun h => hd.2 ▸ k2 h a (ite_n ho h) p l e s m args below meth c H locs ls C hP hS hl)
theorem r_ifgt {x : Int32} {off : Int} {tgt : Nat} {d : Decidable (0 < x)} (hd : Dc K pc (.ifCond .gt off) 3 npc) (ht : (pc : Int) + off = (tgt : Int)) (k1 : 0 < x → Rf cv E K tgt lv st σ o1) (k2 : ¬ (0 < x) → Rf cv E K npc lv st σ o2) : Rf cv E K pc lv (.int x :: st) σ (@ite _ (0 < x) d o1 o2) := fun a ho p l e s m args below meth c H locs ls C hP hS hl => lv_if_gt C.1 C.2.1 hd.1 ht (fun h => k1 h a (ite_p ho h) p l e s m args below meth c H locs ls C hP hS hl) (fun h => hd.2 ▸ k2 h a (ite_n ho h) p l e s m args below meth c H locs ls C hP hS hl)
theorem r_ifle {x : Int32} {off : Int} {tgt : Nat} {d : Decidable (x ≤ 0)} (hd : Dc K pc (.ifCond .le off) 3 npc) (ht : (pc : Int) + off = (tgt : Int)) (k1 : x ≤ 0 → Rf cv E K tgt lv st σ o1) (k2 : ¬ (x ≤ 0) → Rf cv E K npc lv st σ o2) : Rf cv E K pc lv (.int x :: st) σ (@ite _ (x ≤ 0) d o1 o2) := fun a ho p l e s m args below meth c H locs ls C hP hS hl => lv_if_le C.1 C.2.1 hd.1 ht (fun h => k1 h a (ite_p ho h) p l e s m args below meth c H locs ls C hP hS hl) (fun h => hd.2 ▸ k2 h a (ite_n ho h) p l e s m args below meth c H locs ls C hP hS hl)
theorem r_iceq {x y : Int32} {off : Int} {tgt : Nat} {d : Decidable (x = y)} (hd : Dc K pc (.if_icmp .eq off) 3 npc) (ht : (pc : Int) + off = (tgt : Int)) (k1 : x = y → Rf cv E K tgt lv st σ o1) (k2 : ¬ (x = y) → Rf cv E K npc lv st σ o2) : Rf cv E K pc lv (.int y :: .int x :: st) σ (@ite _ (x = y) d o1 o2) := fun a ho p l e s m args below meth c H locs ls C hP hS hl => lv_icmp_eq C.1 C.2.1 hd.1 ht (fun h => k1 h a (ite_p ho h) p l e s m args below meth c H locs ls C hP hS hl) (fun h => hd.2 ▸ k2 h a (ite_n ho h) p l e s m args below meth c H locs ls C hP hS hl)
theorem r_iclt {x y : Int32} {off : Int} {tgt : Nat} {d : Decidable (x < y)} (hd : Dc K pc (.if_icmp .lt off) 3 npc) (ht : (pc : Int) + off = (tgt : Int)) (k1 : x < y → Rf cv E K tgt lv st σ o1) (k2 : ¬ (x < y) → Rf cv E K npc lv st σ o2) : Rf cv E K pc lv (.int y :: .int x :: st) σ (@ite _ (x < y) d o1 o2) := fun a ho p l e s m args below meth c H locs ls C hP hS hl => lv_icmp_lt C.1 C.2.1 hd.1 ht (fun h => k1 h a (ite_p ho h) p l e s m args below meth c H locs ls C hP hS hl) (fun h => hd.2 ▸ k2 h a (ite_n ho h) p l e s m args below meth c H locs ls C hP hS hl)
theorem r_icge {x y : Int32} {off : Int} {tgt : Nat} {d : Decidable (y ≤ x)} (hd : Dc K pc (.if_icmp .ge off) 3 npc) (ht : (pc : Int) + off = (tgt : Int)) (k1 : y ≤ x → Rf cv E K tgt lv st σ o1) (k2 : ¬ (y ≤ x) → Rf cv E K npc lv st σ o2) : Rf cv E K pc lv (.int y :: .int x :: st) σ (@ite _ (y ≤ x) d o1 o2) := fun a ho p l e s m args below meth c H locs ls C hP hS hl => lv_icmp_ge C.1 C.2.1 hd.1 ht (fun h => k1 h a (ite_p ho h) p l e s m args below meth c H locs ls C hP hS hl) (fun h => hd.2 ▸ k2 h a (ite_n ho h) p l e s m args below meth c H locs ls C hP hS hl)
theorem r_icgt {x y : Int32} {off : Int} {tgt : Nat} {d : Decidable (y < x)} (hd : Dc K pc (.if_icmp .gt off) 3 npc) (ht : (pc : Int) + off = (tgt : Int)) (k1 : y < x → Rf cv E K tgt lv st σ o1) (k2 : ¬ (y < x) → Rf cv E K npc lv st σ o2) : Rf cv E K pc lv (.int y :: .int x :: st) σ (@ite _ (y < x) d o1 o2) := fun a ho p l e s m args below meth c H locs ls C hP hS hl => lv_icmp_gt C.1 C.2.1 hd.1 ht (fun h => k1 h a (ite_p ho h) p l e s m args below meth c H locs ls C hP hS hl) (fun h => hd.2 ▸ k2 h a (ite_n ho h) p l e s m args below meth c H locs ls C hP hS hl)
theorem r_icle {x y : Int32} {off : Int} {tgt : Nat} {d : Decidable (x ≤ y)} (hd : Dc K pc (.if_icmp .le off) 3 npc) (ht : (pc : Int) + off = (tgt : Int)) (k1 : x ≤ y → Rf cv E K tgt lv st σ o1) (k2 : ¬ (x ≤ y) → Rf cv E K npc lv st σ o2) : Rf cv E K pc lv (.int y :: .int x :: st) σ (@ite _ (x ≤ y) d o1 o2) := fun a ho p l e s m args below meth c H locs ls C hP hS hl => lv_icmp_le C.1 C.2.1 hd.1 ht (fun h => k1 h a (ite_p ho h) p l e s m args below meth c H locs ls C hP hS hl) (fun h => hd.2 ▸ k2 h a (ite_n ho h) p l e s m args below meth c H locs ls C hP hS hl)
theorem r_ifne {x : Int32} {off : Int} {tgt : Nat} {d : Decidable (x = 0)} (hd : Dc K pc (.ifCond .ne off) 3 npc) (ht : (pc : Int) + off = (tgt : Int)) (k1 : x = 0 → Rf cv E K npc lv st σ o1) (k2 : ¬ (x = 0) → Rf cv E K tgt lv st σ o2) : Rf cv E K pc lv (.int x :: st) σ (@ite _ (x = 0) d o1 o2) := fun a ho p l e s m args below meth c H locs ls C hP hS hl => lv_if_ne C.1 C.2.1 hd.1 ht (fun h => k2 h a (ite_n ho h) p l e s m args below meth c H locs ls C hP hS hl) (fun h => hd.2 ▸ k1 h a (ite_p ho h) p l e s m args below meth c H locs ls C hP hS hl)
theorem r_icne {x y : Int32} {off : Int} {tgt : Nat} {d : Decidable (x = y)} (hd : Dc K pc (.if_icmp .ne off) 3 npc) (ht : (pc : Int) + off = (tgt : Int)) (k1 : x = y → Rf cv E K npc lv st σ o1) (k2 : ¬ (x = y) → Rf cv E K tgt lv st σ o2) : Rf cv E K pc lv (.int y :: .int x :: st) σ (@ite _ (x = y) d o1 o2) := fun a ho p l e s m args below meth c H locs ls C hP hS hl => lv_icmp_ne C.1 C.2.1 hd.1 ht (fun h => k2 h a (ite_n ho h) p l e s m args below meth c H locs ls C hP hS hl) (fun h => hd.2 ▸ k1 h a (ite_p ho h) p l e s m args below meth c H locs ls C hP hS hl)
theorem r_goto {off : Int} {tgt : Nat} (hd : Dc K pc (.goto off) 3 npc) (ht : (pc : Int) + off = (tgt : Int)) (k : Rf cv E K tgt lv st σ o) : Rf cv E K pc lv st σ o := fun a ho p l e s m args below meth c H locs ls C hP hS hl => lv_goto C.1 C.2.1 hd.1 ht (k a ho p l e s m args below meth c H locs ls C hP hS hl)
theorem r_none {lv : List (Option Value)} {st : List Value} {pc : Nat} : Rf cv E K pc lv st σ none := fun a ho => nomatch ho
theorem r_gd {c : Prop} {d : Decidable c} (k : c → Rf cv E K pc lv st σ o) : Rf cv E K pc lv st σ (@ite _ c d o none) := fun a ho p l e s m args below meth cc H locs ls C hP hS hl => by
  by_cases hc : c
  · exact k hc a (ite_p ho hc) p l e s m args below meth cc H locs ls C hP hS hl
  · exact nomatch (ite_n ho hc)
theorem r_by {c : Prop} {d : Decidable c} (k1 : c → Rf cv E K pc lv st σ o1) (k2 : ¬ c → Rf cv E K pc lv st σ o2) : Rf cv E K pc lv st σ (@ite _ c d o1 o2) := fun a ho p l e s m args below meth cc H locs ls C hP hS hl => by
  by_cases hc : c
  · exact k1 hc a (ite_p ho hc) p l e s m args below meth cc H locs ls C hP hS hl
  · exact k2 hc a (ite_n ho hc) p l e s m args below meth cc H locs ls C hP hS hl
theorem r_tabIn {dflt lo hi : Int} {offs : Array Int} {n : Nat} {x v : Int32} {z : Int} {off : Int} {tgt : Nat} (hd : Dc K pc (.tableswitch dflt lo hi offs) n npc) (hx : x = v) (hz : v.toInt = z) (h1 : ¬ z < lo) (h2 : ¬ hi < z) (hof : offs[(z - lo).toNat]? = some off) (ht : (pc : Int) + off = (tgt : Int)) (k : Rf cv E K tgt lv st σ o) : Rf cv E K pc lv (.int x :: st) σ o := fun a ho p l e s m args below meth c H locs ls C hP hS hl => by
  subst hx
  subst hz
  exact lv_tableIn C.1 C.2.1 hd.1 h1 h2 hof ht (k a ho p l e s m args below meth c H locs ls C hP hS hl)
theorem r_tabOut {dflt lo hi : Int} {offs : Array Int} {n : Nat} {x : Int32} {tgt : Nat} (hd : Dc K pc (.tableswitch dflt lo hi offs) n npc) (h : x.toInt < lo ∨ hi < x.toInt) (ht : (pc : Int) + dflt = (tgt : Int)) (k : Rf cv E K tgt lv st σ o) : Rf cv E K pc lv (.int x :: st) σ o := fun a ho p l e s m args below meth c H locs ls C hP hS hl => lv_tableOut C.1 C.2.1 hd.1 h ht (k a ho p l e s m args below meth c H locs ls C hP hS hl)
theorem r_look {dflt : Int} {ps : Array (Int × Int)} {n : Nat} {x : Int32} {off : Int} {tgt : Nat} (hd : Dc K pc (.lookupswitch dflt ps) n npc) (hp : (ps.toList.zip (ps.toList.drop 1)).all (fun (a, next) => a.1 < next.1) = true) (hof : Op.lookupswitch.offset ps.toList dflt x.toInt = off) (ht : (pc : Int) + off = (tgt : Int)) (k : Rf cv E K tgt lv st σ o) : Rf cv E K pc lv (.int x :: st) σ o := fun a ho p l e s m args below meth c H locs ls C hP hS hl => lv_lookup C.1 C.2.1 hd.1 hp hof ht (k a ho p l e s m args below meth c H locs ls C hP hS hl)
theorem sw_ne {x v : Int32} {z : Int} (h : ¬ x = v) (hv : v.toInt = z) : x.toInt ≠ z := fun h2 => h (Int32.toInt_inj.mp (h2.trans hv.symm))
theorem wlD {E : EE} {K : KK} {p : Program} {s : State} {m : MethodId} {args : Array Value} {meth : Method} {c : Code} (C : Cx E K p s m args meth c) (σ : Sto) : va_D (E.2.1 s) (wl E.1 σ) := wl_D σ C.2.2.2.2.2.2.2.2.2.2
theorem r_get {c0 k i idx N : Nat} {CC : String} {T : u_T} {v : Value} (hd : Dc K pc (.getfield idx) 3 npc) (hc : vwCl[c0]? = some (CC, T, N)) (hws : ∀ w ∈ u_ws CC T N, w ∈ lw_good) (hk : k < N) (hkf : k < nf c0) (hT : (T k).1 = CC) (hlink : Cond.fieldLink K.2.1 idx CC (T k).2.1 (T k).2.2.1 ∈ lw_good) (ht : (c0, 0) ∈ tabs) (hi : i < cn c0) (hv : fv E.1 σ c0 k i = v) (kk : Rf cv E K npc lv (v :: st) σ o) : Rf cv E K pc lv (.ref (E.1.1 c0 0 i) :: st) σ o := fun a ho p l e s m args below meth c H locs ls C hP hS hl => by
  obtain ⟨q0, -, h1⟩ := wl_at E.1 (allc_mem ht hi)
  exact va_get C.1 C.2.1 C.2.2.2.2.2.2.1 hws C.2.2.2.2.2.1 C.2.2.2.2.2.2.2.1 hP q0 (h1 σ) hc k hk (C.2.2.2.2.2.2.1 _ hlink) (by rw [hT]; exact fun _ h => h) (v := v) (by rw [← hv]; exact flds_at E.1 σ hkf) hd.1 (hd.2 ▸ kk a ho p l e s m args below meth c H locs ls C hP hS hl)
theorem r_getN {c0 k i idx N : Nat} {CC : String} {T : u_T} {v : Value} (hd : Dc K pc (.getfield idx) 3 npc) (hc : vwCl[c0]? = some (CC, T, N)) (hws : ∀ w ∈ u_ws CC T N, w ∈ lw_good) (hk : k < N) (hkf : k < nf c0) (hT : (T k).1 = CC) (hlink : Cond.fieldLinkNest K.2.1 idx CC (T k).2.1 (T k).2.2.1 "ThawGives" ∈ lw_nest) (ht : (c0, 0) ∈ tabs) (hi : i < cn c0) (hv : fv E.1 σ c0 k i = v) (kk : Rf cv E K npc lv (v :: st) σ o) : Rf cv E K pc lv (.ref (E.1.1 c0 0 i) :: st) σ o := fun a ho p l e s m args below meth c H locs ls C hP hS hl => by
  obtain ⟨q0, -, h1⟩ := wl_at E.1 (allc_mem ht hi)
  exact va_getN C.1 C.2.1 C.2.2.2.2.2.2.1 hws C.2.2.2.2.2.1 C.2.2.2.2.2.2.2.1 hP q0 (h1 σ) hc k hk (va_Nw.use rfl (C.2.2.2.2.2.2.2.2.2.1.1 _ hlink)) (by rw [hT]; exact fun _ h => h) (v := v) (by rw [← hv]; exact flds_at E.1 σ hkf) hd.1 (hd.2 ▸ kk a ho p l e s m args below meth c H locs ls C hP hS hl)
theorem r_put {c0 k i idx N : Nat} {CC : String} {T : u_T} {ty0 : Nat → FieldType} {ty : FieldType} {v : Int32} (hd : Dc K pc (.putfield idx) 3 npc) (hc : vwCl[c0]? = some (CC, T, N)) (hws : ∀ w ∈ u_ws CC T N, w ∈ lw_good) (hty : ∀ k, k < N → parseFieldDescriptor (T k).2.2.1 = some (ty0 k)) (hnm : ∀ a, a < N → ∀ b, b < N → a ≠ b → (T a).2.1 ≠ (T b).2.1) (hk : k < N) (hkf : k < nf c0) (h0 : kd c0 k = 0) (hT : (T k).1 = CC) (hfin : (T k).2.2.2 = false) (hpd : parseFieldDescriptor (T k).2.2.1 = some ty) (hn : narrow ty (.int v) = .int v) (hfit : fits ty (.int v) = true) (hlink : Cond.fieldLink K.2.1 idx CC (T k).2.1 (T k).2.2.1 ∈ lw_good) (ht : (c0, 0) ∈ tabs) (hi : i < cn c0) (kk : Rf cv E K npc lv st (sF σ c0 k i v) o) : Rf cv E K pc lv (.int v :: .ref (E.1.1 c0 0 i) :: st) σ o := fun a ho p l e s m args below meth c H locs ls C hP hS hl => by
  obtain ⟨q0, hq, h1⟩ := wl_at E.1 (allc_mem ht hi)
  refine va_put C.1 C.2.1 C.2.2.2.2.2.2.1 hws ty0 hty hnm C.2.2.2.2.2.1 C.2.2.2.2.2.2.2.1 hP (wlD C σ) hS q0 (h1 σ) hc k hk (C.2.2.2.2.2.2.1 _ hlink) (by rw [hT]; exact fun _ h => h) hfin hpd hn hfit (by unfold flds; rw [List.length_map, List.length_range]; exact hkf) hd.1 (fun H1 locs1 hP1 _ hS1 => ?_)
  have hw := wl_set E.1 (τ := sF σ c0 k i v) hq (sF_self E.1 σ v hkf h0) (sF_oth E.1 σ v)
  exact hd.2 ▸ kk a ho p l e s m args below meth c H1 locs1 ls C (hw ▸ hP1) hS1 hl
theorem r_putN {c0 k i idx N : Nat} {CC : String} {T : u_T} {ty0 : Nat → FieldType} {ty : FieldType} {v : Int32} (hd : Dc K pc (.putfield idx) 3 npc) (hc : vwCl[c0]? = some (CC, T, N)) (hws : ∀ w ∈ u_ws CC T N, w ∈ lw_good) (hty : ∀ k, k < N → parseFieldDescriptor (T k).2.2.1 = some (ty0 k)) (hnm : ∀ a, a < N → ∀ b, b < N → a ≠ b → (T a).2.1 ≠ (T b).2.1) (hk : k < N) (hkf : k < nf c0) (h0 : kd c0 k = 0) (hT : (T k).1 = CC) (hfin : (T k).2.2.2 = false) (hpd : parseFieldDescriptor (T k).2.2.1 = some ty) (hn : narrow ty (.int v) = .int v) (hfit : fits ty (.int v) = true) (hlink : Cond.fieldLinkNest K.2.1 idx CC (T k).2.1 (T k).2.2.1 "ThawGives" ∈ lw_nest) (ht : (c0, 0) ∈ tabs) (hi : i < cn c0) (kk : Rf cv E K npc lv st (sF σ c0 k i v) o) : Rf cv E K pc lv (.int v :: .ref (E.1.1 c0 0 i) :: st) σ o := fun a ho p l e s m args below meth c H locs ls C hP hS hl => by
  obtain ⟨q0, hq, h1⟩ := wl_at E.1 (allc_mem ht hi)
  refine va_putN C.1 C.2.1 C.2.2.2.2.2.2.1 hws ty0 hty hnm C.2.2.2.2.2.1 C.2.2.2.2.2.2.2.1 hP (wlD C σ) hS q0 (h1 σ) hc k hk (va_Nw.use rfl (C.2.2.2.2.2.2.2.2.2.1.1 _ hlink)) (by rw [hT]; exact fun _ h => h) hfin hpd hn hfit (by unfold flds; rw [List.length_map, List.length_range]; exact hkf) hd.1 (fun H1 locs1 hP1 _ hS1 => ?_)
  have hw := wl_set E.1 (τ := sF σ c0 k i v) hq (sF_self E.1 σ v hkf h0) (sF_oth E.1 σ v)
  exact hd.2 ▸ kk a ho p l e s m args below meth c H1 locs1 ls C (hw ▸ hP1) hS1 hl
theorem cel_arr (g : Gm) (σ : Sto) (c k i : Nat) : cel g σ (c, k + 1, i) = .inl (g.2.2.1 (aty c k), alen c k, acon g σ c k i) := rfl
theorem acon_i (g : Gm) (σ : Sto) {c k : Nat} (i : Nat) (h1 : aty c k ≠ 1) (h3 : aty c k ≤ 3) : acon g σ c k i = .inl (σ.2.1 c k i) := by
  unfold acon
  rw [if_neg h1, if_pos h3]
theorem acon_l (g : Gm) (σ : Sto) {c k : Nat} (i : Nat) (h1 : aty c k = 1) : acon g σ c k i = .inr (.inl (σ.2.2.1 c k i)) := by
  unfold acon
  rw [if_pos h1]
theorem acon_q (g : Gm) (σ : Sto) {c k : Nat} (i : Nat) (h1 : aty c k ≠ 1) (h3 : ¬ aty c k ≤ 3) : acon g σ c k i = .inr (.inr (.inr (.inr (fun j => some (g.1 (ra c k i j).1 0 (ra c k i j).2))))) := by
  unfold acon
  rw [if_neg h1, if_neg h3]
theorem r_iald {c0 k i N : Nat} {j n : Int32} {d : Decidable (0 ≤ j ∧ j < n)} (hd : Dc K pc (.iaload) 1 npc) (ht : (c0, k + 1) ∈ tabs) (ha : aty c0 k = 0) (hN : alen c0 k = N) (hn : n.toInt = N) (hi : i < cn c0) (kk : 0 ≤ j ∧ j < n → j.toNatClampNeg < N → Rf cv E K npc lv (.int (σ.2.1 c0 k i j.toNatClampNeg) :: st) σ o) : Rf cv E K pc lv (.int j :: .ref (E.1.1 c0 (k + 1) i) :: st) σ (@ite _ (0 ≤ j ∧ j < n) d o none) := r_gd (fun hg a ho p l e s m args below meth c H locs ls C hP hS hl => by
  obtain ⟨q0, -, h1⟩ := wl_at E.1 (allc_mem ht hi)
  have h2 := h1 σ
  rw [cel_arr, ha, hN, acon_i E.1 σ i (by omega) (by omega)] at h2
  have hb := inb hn hg
  exact va_iald C.1 C.2.1 C.2.2.2.2.2.2.2.1 hP q0 0 h2 rfl hb.1 hd.1 (hd.2 ▸ kk hg hb.2 a ho p l e s m args below meth c H locs ls C hP hS hl))
theorem r_bald {c0 k i N : Nat} {j n : Int32} {d : Decidable (0 ≤ j ∧ j < n)} (hd : Dc K pc (.baload) 1 npc) (ht : (c0, k + 1) ∈ tabs) (ha : aty c0 k = 2) (hN : alen c0 k = N) (hn : n.toInt = N) (hi : i < cn c0) (kk : 0 ≤ j ∧ j < n → j.toNatClampNeg < N → Rf cv E K npc lv (.int (σ.2.1 c0 k i j.toNatClampNeg) :: st) σ o) : Rf cv E K pc lv (.int j :: .ref (E.1.1 c0 (k + 1) i) :: st) σ (@ite _ (0 ≤ j ∧ j < n) d o none) := r_gd (fun hg a ho p l e s m args below meth c H locs ls C hP hS hl => by
  obtain ⟨q0, -, h1⟩ := wl_at E.1 (allc_mem ht hi)
  have h2 := h1 σ
  rw [cel_arr, ha, hN, acon_i E.1 σ i (by omega) (by omega)] at h2
  have hb := inb hn hg
  exact va_bald C.1 C.2.1 C.2.2.2.2.2.2.2.1 hP q0 2 h2 rfl hb.1 hd.1 (hd.2 ▸ kk hg hb.2 a ho p l e s m args below meth c H locs ls C hP hS hl))
theorem r_zald {c0 k i N : Nat} {j n : Int32} {d : Decidable (0 ≤ j ∧ j < n)} (hd : Dc K pc (.baload) 1 npc) (ht : (c0, k + 1) ∈ tabs) (ha : aty c0 k = 3) (hN : alen c0 k = N) (hn : n.toInt = N) (hi : i < cn c0) (kk : 0 ≤ j ∧ j < n → j.toNatClampNeg < N → Rf cv E K npc lv (.int (σ.2.1 c0 k i j.toNatClampNeg) :: st) σ o) : Rf cv E K pc lv (.int j :: .ref (E.1.1 c0 (k + 1) i) :: st) σ (@ite _ (0 ≤ j ∧ j < n) d o none) := r_gd (fun hg a ho p l e s m args below meth c H locs ls C hP hS hl => by
  obtain ⟨q0, -, h1⟩ := wl_at E.1 (allc_mem ht hi)
  have h2 := h1 σ
  rw [cel_arr, ha, hN, acon_i E.1 σ i (by omega) (by omega)] at h2
  have hb := inb hn hg
  exact va_zald C.1 C.2.1 C.2.2.2.2.2.2.2.1 hP q0 3 h2 rfl hb.1 hd.1 (hd.2 ▸ kk hg hb.2 a ho p l e s m args below meth c H locs ls C hP hS hl))
theorem r_iast {c0 k i N : Nat} {j n x : Int32} {d : Decidable (0 ≤ j ∧ j < n)} (hd : Dc K pc (.iastore) 1 npc) (ht : (c0, k + 1) ∈ tabs) (ha : aty c0 k = 0) (hN : alen c0 k = N) (hn : n.toInt = N) (hi : i < cn c0) (kk : 0 ≤ j ∧ j < n → j.toNatClampNeg < N → Rf cv E K npc lv st (sA σ c0 k i (upd (σ.2.1 c0 k i) j.toNatClampNeg x)) o) : Rf cv E K pc lv (.int x :: .int j :: .ref (E.1.1 c0 (k + 1) i) :: st) σ (@ite _ (0 ≤ j ∧ j < n) d o none) := r_gd (fun hg a ho p l e s m args below meth c H locs ls C hP hS hl => by
  obtain ⟨q0, hq, h1⟩ := wl_at E.1 (allc_mem ht hi)
  have h2 := h1 σ
  have h5 := sA_self E.1 σ (c := c0) (k := k) (i := i) (upd (σ.2.1 c0 k i) j.toNatClampNeg x) (by omega) (by omega)
  rw [ha, hN] at h5
  rw [cel_arr, ha, hN, acon_i E.1 σ i (by omega) (by omega)] at h2
  have hb := inb hn hg
  refine va_iast C.1 C.2.1 C.2.2.2.2.2.2.2.1 hP (wlD C σ) hS q0 0 h2 rfl hb.1 hd.1 (fun H1 locs1 hP1 _ hS1 => ?_)
  have hw := wl_set E.1 hq h5 (sA_oth E.1 σ _)
  exact hd.2 ▸ kk hg hb.2 a ho p l e s m args below meth c H1 locs1 ls C (hw ▸ hP1) hS1 hl)
theorem r_bast {c0 k i N : Nat} {j n x : Int32} {d : Decidable (0 ≤ j ∧ j < n)} (hd : Dc K pc (.bastore) 1 npc) (ht : (c0, k + 1) ∈ tabs) (ha : aty c0 k = 2) (hN : alen c0 k = N) (hn : n.toInt = N) (hi : i < cn c0) (kk : 0 ≤ j ∧ j < n → j.toNatClampNeg < N → Rf cv E K npc lv st (sA σ c0 k i (upd (σ.2.1 c0 k i) j.toNatClampNeg (vp_nar .byte x))) o) : Rf cv E K pc lv (.int x :: .int j :: .ref (E.1.1 c0 (k + 1) i) :: st) σ (@ite _ (0 ≤ j ∧ j < n) d o none) := r_gd (fun hg a ho p l e s m args below meth c H locs ls C hP hS hl => by
  obtain ⟨q0, hq, h1⟩ := wl_at E.1 (allc_mem ht hi)
  have h2 := h1 σ
  have h5 := sA_self E.1 σ (c := c0) (k := k) (i := i) (upd (σ.2.1 c0 k i) j.toNatClampNeg (vp_nar .byte x)) (by omega) (by omega)
  rw [ha, hN] at h5
  rw [cel_arr, ha, hN, acon_i E.1 σ i (by omega) (by omega)] at h2
  have hb := inb hn hg
  refine va_bast C.1 C.2.1 C.2.2.2.2.2.2.2.1 hP (wlD C σ) hS q0 2 h2 rfl hb.1 hd.1 (fun H1 locs1 hP1 _ hS1 => ?_)
  have hw := wl_set E.1 hq h5 (sA_oth E.1 σ _)
  exact hd.2 ▸ kk hg hb.2 a ho p l e s m args below meth c H1 locs1 ls C (hw ▸ hP1) hS1 hl)
theorem r_zast {c0 k i N : Nat} {j n x : Int32} {d : Decidable (0 ≤ j ∧ j < n)} (hd : Dc K pc (.bastore) 1 npc) (ht : (c0, k + 1) ∈ tabs) (ha : aty c0 k = 3) (hN : alen c0 k = N) (hn : n.toInt = N) (hi : i < cn c0) (kk : 0 ≤ j ∧ j < n → j.toNatClampNeg < N → Rf cv E K npc lv st (sA σ c0 k i (upd (σ.2.1 c0 k i) j.toNatClampNeg (vp_nar .boolean x))) o) : Rf cv E K pc lv (.int x :: .int j :: .ref (E.1.1 c0 (k + 1) i) :: st) σ (@ite _ (0 ≤ j ∧ j < n) d o none) := r_gd (fun hg a ho p l e s m args below meth c H locs ls C hP hS hl => by
  obtain ⟨q0, hq, h1⟩ := wl_at E.1 (allc_mem ht hi)
  have h2 := h1 σ
  have h5 := sA_self E.1 σ (c := c0) (k := k) (i := i) (upd (σ.2.1 c0 k i) j.toNatClampNeg (vp_nar .boolean x)) (by omega) (by omega)
  rw [ha, hN] at h5
  rw [cel_arr, ha, hN, acon_i E.1 σ i (by omega) (by omega)] at h2
  have hb := inb hn hg
  refine va_zast C.1 C.2.1 C.2.2.2.2.2.2.2.1 hP (wlD C σ) hS q0 3 h2 rfl hb.1 hd.1 (fun H1 locs1 hP1 _ hS1 => ?_)
  have hw := wl_set E.1 hq h5 (sA_oth E.1 σ _)
  exact hd.2 ▸ kk hg hb.2 a ho p l e s m args below meth c H1 locs1 ls C (hw ▸ hP1) hS1 hl)
theorem r_lald {c0 k i N : Nat} {j n : Int32} {d : Decidable (0 ≤ j ∧ j < n)} (hd : Dc K pc (.laload) 1 npc) (ht : (c0, k + 1) ∈ tabs) (ha : aty c0 k = 1) (hN : alen c0 k = N) (hn : n.toInt = N) (hi : i < cn c0) (kk : 0 ≤ j ∧ j < n → j.toNatClampNeg < N → Rf cv E K npc lv (.long (σ.2.2.1 c0 k i j.toNatClampNeg) :: st) σ o) : Rf cv E K pc lv (.int j :: .ref (E.1.1 c0 (k + 1) i) :: st) σ (@ite _ (0 ≤ j ∧ j < n) d o none) := r_gd (fun hg a ho p l e s m args below meth c H locs ls C hP hS hl => by
  obtain ⟨q0, -, h1⟩ := wl_at E.1 (allc_mem ht hi)
  have h2 := h1 σ
  rw [cel_arr, ha, hN, acon_l E.1 σ i ha] at h2
  have hb := inb hn hg
  exact va_lald C.1 C.2.1 C.2.2.2.2.2.2.2.1 hP q0 1 h2 rfl hb.1 hd.1 (hd.2 ▸ kk hg hb.2 a ho p l e s m args below meth c H locs ls C hP hS hl))
theorem r_last {c0 k i N : Nat} {j n : Int32} {x : Int64} {d : Decidable (0 ≤ j ∧ j < n)} (hd : Dc K pc (.lastore) 1 npc) (ht : (c0, k + 1) ∈ tabs) (ha : aty c0 k = 1) (hN : alen c0 k = N) (hn : n.toInt = N) (hi : i < cn c0) (kk : 0 ≤ j ∧ j < n → j.toNatClampNeg < N → Rf cv E K npc lv st (sL σ c0 k i (vp_updL (σ.2.2.1 c0 k i) j.toNatClampNeg x)) o) : Rf cv E K pc lv (.long x :: .int j :: .ref (E.1.1 c0 (k + 1) i) :: st) σ (@ite _ (0 ≤ j ∧ j < n) d o none) := r_gd (fun hg a ho p l e s m args below meth c H locs ls C hP hS hl => by
  obtain ⟨q0, hq, h1⟩ := wl_at E.1 (allc_mem ht hi)
  have h2 := h1 σ
  have h5 := sL_self E.1 σ (c := c0) (k := k) (i := i) (vp_updL (σ.2.2.1 c0 k i) j.toNatClampNeg x) ha
  rw [ha, hN] at h5
  rw [cel_arr, ha, hN, acon_l E.1 σ i ha] at h2
  have hb := inb hn hg
  refine va_last C.1 C.2.1 C.2.2.2.2.2.2.2.1 hP (wlD C σ) hS q0 1 h2 rfl hb.1 hd.1 (fun H1 locs1 hP1 _ hS1 => ?_)
  have hw := wl_set E.1 hq h5 (sL_oth E.1 σ _)
  exact hd.2 ▸ kk hg hb.2 a ho p l e s m args below meth c H1 locs1 ls C (hw ▸ hP1) hS1 hl)
theorem r_aald {c0 k i N t : Nat} {j n : Int32} {CC : String} {d : Decidable (0 ≤ j ∧ j < n)} (hd : Dc K pc (.aaload) 1 npc) (ht : (c0, k + 1) ∈ tabs) (ha : aty c0 k = t) (ht3 : 3 < t) (hty : ∀ g : Gm, (tys g)[t]? = some (g.2.2.1 t, .object CC)) (hN : alen c0 k = N) (hn : n.toInt = N) (hi : i < cn c0) (kk : 0 ≤ j ∧ j < n → j.toNatClampNeg < N → Rf cv E K npc lv (.ref (E.1.1 (ra c0 k i j.toNatClampNeg).1 0 (ra c0 k i j.toNatClampNeg).2) :: st) σ o) : Rf cv E K pc lv (.int j :: .ref (E.1.1 c0 (k + 1) i) :: st) σ (@ite _ (0 ≤ j ∧ j < n) d o none) := r_gd (fun hg a ho p l e s m args below meth c H locs ls C hP hS hl => by
  obtain ⟨q0, -, h1⟩ := wl_at E.1 (allc_mem ht hi)
  have h2 := h1 σ
  rw [cel_arr, ha, hN, acon_q E.1 σ i (by omega) (by omega)] at h2
  have hb := inb hn hg
  exact va_aldq C.1 C.2.1 C.2.2.2.2.2.2.2.1 hP q0 t h2 (hty E.1) hb.1 hd.1 (hd.2 ▸ kk hg hb.2 a ho p l e s m args below meth c H locs ls C hP hS hl))
theorem r_alen {c0 k i : Nat} {n : Int32} {ty : FieldType} (hd : Dc K pc (.arraylength) 1 npc) (ht : (c0, k + 1) ∈ tabs) (hn : Int32.ofNat (alen c0 k) = n) (hty : ∀ g : Gm, (tys g)[aty c0 k]? = some (g.2.2.1 (aty c0 k), ty)) (hi : i < cn c0) (kk : Rf cv E K npc lv (.int n :: st) σ o) : Rf cv E K pc lv (.ref (E.1.1 c0 (k + 1) i) :: st) σ o := fun a ho p l e s m args below meth c H locs ls C hP hS hl => by
  obtain ⟨q0, -, h1⟩ := wl_at E.1 (allc_mem ht hi)
  have h2 := h1 σ
  rw [cel_arr] at h2
  exact va_alen C.1 C.2.1 C.2.2.2.2.2.2.2.1 hP q0 (aty c0 k) h2 (hty E.1) hn hd.1 (hd.2 ▸ kk a ho p l e s m args below meth c H locs ls C hP hS hl)
end RULES
-- CONTRACTS
def Wd (g : Gm) (σ : Sto) (U : State) : Prop := Kst g (Aw g) U U.heap ∧ va_P g.2.1 vwCl (wl g σ) U.heap
def QC (g : Gm) (r : Res) : Array Value → State → Outcome → State → Prop := fun _ st oc t => oc = .returned r.1 ∧ va_P g.2.1 vwCl (wl g r.2) t.heap ∧ va_F (Aw g) st t
def rmm (d : Nat) : Room := { frames := d, cells := 0, slots := 0, locals := 40 * d }
def wsm (y : MethodName) (K : KK) : List Cond := .code y K.1 K.2.2.1 K.2.2.2 :: lw_good
def Ok {α : Type} (g : Gm) (y : MethodName) (K : KK) (d : Nat) (as : List Value) (σ : Sto) (cv : α → Res) (o : Option α) : Prop :=
  ∀ a, o = some a → ∀ l : Launch, Met l y (wsm y K) (rmm d) (va_Pc as (Wd g σ)) (QC g (cv a)) 0 0 (Aw g)
/-- the surroundings of a method's own run -/
def Em (g : Gm) (d : Nat) : EE := (g, (fun _ => Aw g), rmm d, 0, 0, fun r args s below => MQ below (QC g r) args s 0 0 (Aw g))
theorem Ok.of {α : Type} {cv : α → Res} {g : Gm} {y : MethodName} {K : KK} {d : Nat} {as : List Value} {σ : Sto} {o : Option α} {lv : List (Option Value)} (hy : plainName y.cls = true) (hc : y.cls = K.2.1) (hfit : (lg_sl as).length ≤ K.2.2.1) (hlv : lvl 0 lv = lv_args 0 as) (h : Rf cv (Em g d) K 0 lv [] σ o) : Ok g y K d as σ cv o := by
  intro a ho l
  refine Met.ofW (cc := K.1) (maxL := K.2.2.1) (ret := K.2.2.2) hy rfl ?_
  intro p e s m args below meth c s₁ B hml hv
  obtain ⟨rfl, hk, hP⟩ := hv
  have hts := atoms_spec (ws := wsm y K) B.pre
  rw [lg_entry_eq]
  have hl := lv_entry as hfit
  have hl' : LV ((lg_sl as ++ List.replicate (K.2.2.1 - (lg_sl as).length) Slot.unset).toArray) K.2.2.1 lv := by
    unfold LV
    rw [hlv]
    exact hl
  exact h a ho p l e s m _ below meth c s.heap [] _ ⟨B.exec, B.bytes, B.returns, hml, B.notSynchronized, by rw [← hc]; exact findClass_of_methodNamed B.named, fun w hw => hts w (List.mem_cons_of_mem _ hw), hk⟩ hP va_S.rf hl'
section CALLS
variable {α β : Type} {cv : α → Res} {cv2 : β → Res} {E : EE} {K : KK} {pc npc : Nat} {lv : List (Option Value)} {st : List Value} {σ : Sto} {oc : Option β} {kf : β → Option α}
theorem Wd_blind {g : Gm} {as : List Value} {σ : Sto} : FrameBlind (va_Pc as (Wd g σ)) := fun a U gg mk h => ⟨h.1, ⟨va_K.moved (u := U) (U := U.calling gg mk a) (Vm.Alike.refl U.vm) h.2.1.1, h.2.1.2.1.moved (u := U) (U := U.calling gg mk a) (Vm.Alike.refl U.vm), h.2.1.2.2.1.same (u := U) (U := U.calling gg mk a) rfl, h.2.1.2.2.2⟩, h.2.2⟩
theorem Wd_at {p : Program} {s U : State} {m : MethodId} {args : Array Value} {meth : Method} {c : Code} {H : Heap} {locs : List Loc} (C : Cx E K p s m args meth c) (hP : va_P E.1.2.1 vwCl (wl E.1 σ) H) (hS : va_S (E.2.1 s) s.heap H locs) (hU : U.heap = H) (hW : s.WarmedH U.vm) : Wd E.1 σ U := by
  obtain ⟨-, -, -, -, -, -, -, h1, h2, h3, h4⟩ := C
  have hA := wl_A h4
  subst hU
  exact ⟨⟨va_K.moved hW.alike h1, ((h2.kept hS.2.1).narrow hA).moved hW.alike, h3.warm hW, wl_DA h4⟩, hP⟩
theorem call_go {g : Gm} {r : Res} {p : Program} {l : Launch} {e : Env} {R : Room} {s : State} {m : MethodId} {args : Array Value} {below : List Frame} {meth : Method} {c : Code} {H H0 : Heap} {locs : List Loc} {cells slots : Nat} {Q : State → Prop} {ls : Array Slot} {rest st0 : List Value} {as : Array Value} {A0 : Nat → Prop}
    (hr : va_Run p l e R s m args below meth c H locs cells slots 0 0 (F0 m pc ls st0) rest (QC g r as) (Aw g)) (hS : va_S A0 H0 H locs) (hA : ∀ q, Aw g q → A0 q)
    (kk : ∀ (H1 : Heap) (locs1 : List Loc), va_P g.2.1 vwCl (wl g r.2) H1 → va_S A0 H0 H1 locs1 → W p l e R s m args below meth c H1 locs1 cells slots Q (F0 m (pc + 3) ls (r.1.toList ++ rest))) : W p l e R s m args below meth c H locs cells slots Q (F0 m pc ls st0) := by
  intro T hT X
  obtain ⟨v, st₀, t, T', L, h0, X', hL, e1, e2, ⟨hv, hp, hz, hk⟩, stp⟩ := hr T hT X
  cases hv
  rw [h0] at hz hk
  obtain ⟨t2, a1, b1⟩ := kk T'.heap (locs ++ L) (by rw [e1]; exact hp) ⟨Nat.le_trans hS.1 (by rw [e1]; exact hz), fun q h1 h2 => by rw [e1, hk q (Nat.lt_of_lt_of_le h1 hS.1) (fun z => h2 (hA q z))]; exact hS.2.1 q h1 h2, fun q hq => by
      rcases List.mem_append.mp hq with h | h
      · exact hS.2.2 q h
      · exact hA _ (hL q h)⟩ T' rfl X'
  exact ⟨t2, stp t2 a1, b1⟩
/-- the room that a callee of depth d with n locals wants -/
def fits_ (E : EE) (d n : Nat) : Prop := d + 1 ≤ E.2.2.1.frames ∧ 8 + (n + 11) + 40 * d ≤ E.2.2.1.locals
theorem fits_m {g : Gm} {d d' n : Nat} (h : d' < d) (hn : n ≤ 21) : fits_ (Em g d) d' n := by
  unfold fits_ Em rmm
  constructor
  · show d' + 1 ≤ d
    omega
  · show 8 + (n + 11) + 40 * d' ≤ 40 * d
    omega
def room_ok (E : EE) : Prop := E.2.2.2.1 ≤ E.2.2.1.cells ∧ E.2.2.2.2.1 ≤ E.2.2.1.slots
theorem room_m {g : Gm} {d : Nat} : room_ok (Em g d) := ⟨Nat.le_refl 0, Nat.le_refl 0⟩
theorem wsm_good {y : MethodName} {K : KK} (h : Cond.code y K.1 K.2.2.1 K.2.2.2 ∈ lw_good) : GoodIn lw_good (wsm y K) := fun w hw => by
  have h1 : w ∈ lw_good := by
    rcases List.mem_cons.mp hw with rfl | hw
    · exact h
    · exact hw
  exact ⟨h1, good_of_word (List.mem_filter.mp h1).2⟩
/-- a static method of the own class or another -/
theorem c_S {y : MethodName} {K2 : KK} {d n idx : Nat} {as stk : List Value} (hd : Dc K pc (.invokestatic idx) 3 npc) (hOk : Ok E.1 y K2 d as σ cv2 oc) (hlk : Cond.methodLink K.2.1 idx y ∈ lw_good) (hst : Cond.static y ∈ lw_good) (hin : Cond.initialized y.cls ∈ lw_good) (hcd : Cond.code y K2.1 K2.2.2.1 K2.2.2.2 ∈ lw_good) (hds : y.cls ≠ "java/lang/invoke/MethodHandle" ∧ y.cls ≠ "java/lang/invoke/VarHandle" ∧ (parseMethodDescriptor y.desc).map (fun d => d.parameters.length) = some n) (hn : as.length = n) (hstk : stk = as.reverse ++ st) (hw : (st.map fun v => v.category).sum ≤ 8) (hfit : fits_ E d K2.2.2.1) (hrm : room_ok E) (kk : ∀ b, oc = some b → Rf cv E K npc lv ((cv2 b).1.toList ++ st) (cv2 b).2 (kf b)) : Rf cv E K pc lv stk σ (oc.bind kf) := by
  intro a ho p l e s m args below meth c H locs ls C hP hS hl
  cases hoc : oc with
  | none => rw [hoc] at ho; cases ho
  | some b =>
    rw [hoc] at ho
    have hts := C.2.2.2.2.2.2.1
    refine call_go (va_runS (As := as) (rest := st) ⟨C.1, C.2.1, C.2.2.2.1, C.2.2.2.2.2.1, hts⟩ (hOk b hoc l) ⟨callB_of n hts (wsm_good hcd) rfl rfl rfl (hts _ hin) (hts _ hlk) hds hfit, hts _ hst⟩ ⟨Wd_blind, fun U hU hW => ⟨rfl, Wd_at C hP hS hU hW⟩⟩ rfl hn hl.1 hstk (lv_room hw) hd.1 hrm) hS (wl_A C.2.2.2.2.2.2.2.2.2.2) (fun H1 locs1 hP1 hS1 => ?_)
    exact hd.2 ▸ kk b hoc a ho p l e s m args below meth c H1 locs1 ls C hP1 hS1 hl
theorem c_V {y : MethodName} {K2 : KK} {d n idx c0 i N : Nat} {CC : String} {T : u_T} {as stk : List Value} (hd : Dc K pc (.invokevirtual idx) 3 npc) (hOk : Ok E.1 y K2 d (.ref (E.1.1 c0 0 i) :: as) σ cv2 oc) (hlk : Cond.methodLink K.2.1 idx y ∈ lw_good) (him : Cond.instanceMethod y ∈ lw_good) (hse : Cond.selects CC y y ∈ lw_good) (hin : Cond.initialized y.cls ∈ lw_good) (hcd : Cond.code y K2.1 K2.2.2.1 K2.2.2.2 ∈ lw_good) (hc : vwCl[c0]? = some (CC, T, N)) (ht : (c0, 0) ∈ tabs) (hi : i < cn c0) (hds : y.cls ≠ "java/lang/invoke/MethodHandle" ∧ y.cls ≠ "java/lang/invoke/VarHandle" ∧ (parseMethodDescriptor y.desc).map (fun d => d.parameters.length) = some n) (hn : as.length = n) (hstk : stk = as.reverse ++ .ref (E.1.1 c0 0 i) :: st) (hw : (st.map fun v => v.category).sum ≤ 8) (hfit : fits_ E d K2.2.2.1) (hrm : room_ok E) (kk : ∀ b, oc = some b → Rf cv E K npc lv ((cv2 b).1.toList ++ st) (cv2 b).2 (kf b)) : Rf cv E K pc lv stk σ (oc.bind kf) := by
  intro a ho p l e s m args below meth c H locs ls C hP hS hl
  cases hoc : oc with
  | none => rw [hoc] at ho; cases ho
  | some b =>
    rw [hoc] at ho
    have hts := C.2.2.2.2.2.2.1
    obtain ⟨q0, -, h1⟩ := wl_at E.1 (allc_mem ht hi)
    refine call_go (va_runV (As := as) (rest := st) (b := E.1.1 c0 0 i) ⟨C.1, C.2.1, C.2.2.2.1, C.2.2.2.2.2.1, hts⟩ (hOk b hoc l) ⟨callB_of n hts (wsm_good hcd) rfl rfl rfl (hts _ hin) (hts _ hlk) hds hfit, hts _ him, hts _ hse⟩ ⟨Wd_blind, va_recv C.2.2.2.2.2.2.2.1 hP hc (h1 σ), fun U hU hW => ⟨rfl, Wd_at C hP hS hU hW⟩⟩ rfl hn hl.1 hstk (lv_room hw) hd.1 hrm) hS (wl_A C.2.2.2.2.2.2.2.2.2.2) (fun H1 locs1 hP1 hS1 => ?_)
    exact hd.2 ▸ kk b hoc a ho p l e s m args below meth c H1 locs1 ls C hP1 hS1 hl
theorem c_N {y : MethodName} {K2 : KK} {d n idx c0 i N : Nat} {CC : String} {T : u_T} {as stk : List Value} (hd : Dc K pc (.invokevirtual idx) 3 npc) (hOk : Ok E.1 y K2 d (.ref (E.1.1 c0 0 i) :: as) σ cv2 oc) (hlk : Cond.methodLinkNest K.2.1 idx y "ThawGives" ∈ lw_nest) (him : Cond.instanceMethod y ∈ lw_good) (hse : Cond.selects CC y y ∈ lw_good) (hin : Cond.initialized y.cls ∈ lw_good) (hcd : Cond.code y K2.1 K2.2.2.1 K2.2.2.2 ∈ lw_good) (hc : vwCl[c0]? = some (CC, T, N)) (ht : (c0, 0) ∈ tabs) (hi : i < cn c0) (hds : y.cls ≠ "java/lang/invoke/MethodHandle" ∧ y.cls ≠ "java/lang/invoke/VarHandle" ∧ (parseMethodDescriptor y.desc).map (fun d => d.parameters.length) = some n) (hn : as.length = n) (hstk : stk = as.reverse ++ .ref (E.1.1 c0 0 i) :: st) (hw : (st.map fun v => v.category).sum ≤ 8) (hfit : fits_ E d K2.2.2.1) (hrm : room_ok E) (kk : ∀ b, oc = some b → Rf cv E K npc lv ((cv2 b).1.toList ++ st) (cv2 b).2 (kf b)) : Rf cv E K pc lv stk σ (oc.bind kf) := by
  intro a ho p l e s m args below meth c H locs ls C hP hS hl
  cases hoc : oc with
  | none => rw [hoc] at ho; cases ho
  | some b =>
    rw [hoc] at ho
    have hts := C.2.2.2.2.2.2.1
    obtain ⟨q0, -, h1⟩ := wl_at E.1 (allc_mem ht hi)
    refine call_go (va_runVN (As := as) (rest := st) (b := E.1.1 c0 0 i) (host := "ThawGives") ⟨C.1, C.2.1, C.2.2.2.1, C.2.2.2.2.2.1, hts⟩ (hOk b hoc l) ⟨va_cnB n hts (wsm_good hcd) rfl rfl rfl (C.2.2.2.2.2.2.2.2.2.1.1 _ hlk) (hts _ hin) hds hfit, hts _ him, hts _ hse⟩ ⟨Wd_blind, va_recv C.2.2.2.2.2.2.2.1 hP hc (h1 σ), fun U hU hW => ⟨rfl, Wd_at C hP hS hU hW⟩⟩ rfl hn hl.1 hstk (lv_room hw) hd.1 hrm) hS (wl_A C.2.2.2.2.2.2.2.2.2.2) (fun H1 locs1 hP1 hS1 => ?_)
    exact hd.2 ▸ kk b hoc a ho p l e s m args below meth c H1 locs1 ls C hP1 hS1 hl
end CALLS
section RETS
variable {α : Type} {cv : α → Res} {g : Gm} {d : Nat} {K : KK} {pc npc : Nat} {lv : List (Option Value)} {σ : Sto} {a : α}
theorem r_iret {v : Int32} (hd : Dc K pc .ireturn 1 npc) (hr : K.2.2.2 = some .int) (ha : cv a = (some (.int v), σ)) : Rf cv (Em g d) K pc lv [.int v] σ (some a) := fun a' ho p l e s m args below meth c H locs ls C hP hS hl => by
  cases ho
  show W _ _ _ _ _ _ _ _ _ _ _ _ _ _ (MQ below (QC g (cv a)) args s 0 0 (Aw g)) _
  rw [ha]
  exact W.iret C.1 C.2.1 (C.2.2.1.trans hr) (fun t ht _ => ⟨rfl, by rw [ht]; exact hP, hS.F ht⟩) hS.2.2 hd.1 C.2.2.2.2.1
theorem r_zret {v : Int32} {ty : FieldType} (hd : Dc K pc .ireturn 1 npc) (hr : K.2.2.2 = some ty) (hn : narrow ty (.int v) = .int v) (ha : cv a = (some (.int v), σ)) : Rf cv (Em g d) K pc lv [.int v] σ (some a) := fun a' ho p l e s m args below meth c H locs ls C hP hS hl => by
  cases ho
  show W _ _ _ _ _ _ _ _ _ _ _ _ _ _ (MQ below (QC g (cv a)) args s 0 0 (Aw g)) _
  rw [ha]
  exact W.zret C.1 C.2.1 (C.2.2.1.trans hr) hn (fun t ht _ => ⟨rfl, by rw [ht]; exact hP, hS.F ht⟩) hS.2.2 hd.1 C.2.2.2.2.1
theorem r_lret {v : Int64} (hd : Dc K pc .lreturn 1 npc) (hr : K.2.2.2 = some .long) (ha : cv a = (some (.long v), σ)) : Rf cv (Em g d) K pc lv [.long v] σ (some a) := fun a' ho p l e s m args below meth c H locs ls C hP hS hl => by
  cases ho
  show W _ _ _ _ _ _ _ _ _ _ _ _ _ _ (MQ below (QC g (cv a)) args s 0 0 (Aw g)) _
  rw [ha]
  exact W.lret C.1 C.2.1 (C.2.2.1.trans hr) (fun t ht _ => ⟨rfl, by rw [ht]; exact hP, hS.F ht⟩) hS.2.2 hd.1 C.2.2.2.2.1
theorem r_aret {v : Nat} {CC : String} (hd : Dc K pc .areturn 1 npc) (hr : K.2.2.2 = some (.object CC)) (ha : cv a = (some (.ref v), σ)) : Rf cv (Em g d) K pc lv [.ref v] σ (some a) := fun a' ho p l e s m args below meth c H locs ls C hP hS hl => by
  cases ho
  show W _ _ _ _ _ _ _ _ _ _ _ _ _ _ (MQ below (QC g (cv a)) args s 0 0 (Aw g)) _
  rw [ha]
  exact W.aret C.1 C.2.1 (C.2.2.1.trans hr) (Or.inl ⟨_, rfl⟩) (Or.inr ⟨_, rfl⟩) (fun t ht _ => ⟨rfl, by rw [ht]; exact hP, hS.F ht⟩) hS.2.2 hd.1 C.2.2.2.2.1
theorem r_vret (hd : Dc K pc .return_ 1 npc) (hr : K.2.2.2 = none) (ha : cv a = (none, σ)) : Rf cv (Em g d) K pc lv [] σ (some a) := fun a' ho p l e s m args below meth c H locs ls C hP hS hl => by
  cases ho
  show W _ _ _ _ _ _ _ _ _ _ _ _ _ _ (MQ below (QC g (cv a)) args s 0 0 (Aw g)) _
  rw [ha]
  exact W.vret C.1 C.2.1 (C.2.2.1.trans hr) (fun t ht _ => ⟨rfl, by rw [ht]; exact hP, hS.F ht⟩) hS.2.2 hd.1 C.2.2.2.2.1
end RETS
end
