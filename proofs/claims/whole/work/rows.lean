section
-- ===== PART A: goes FIRST, ahead of the names: the tables' words, and 'selects' of the private methods out of them =====
/-- a private method of a class that the tables say can be made, by its rows of tables_1 -/
def lw_okq (q : MethodName × Nat) : Prop := (q.1.cls ≠ "java/lang/invoke/MethodHandle" ∧ q.1.cls ≠ "java/lang/invoke/VarHandle") ∧ Cond.instantiable q.1.cls q.2 ∈ tables_1 ∧ Cond.privateMethod q.1 ∈ tables_1 ∧ Cond.instanceMethod q.1 ∈ tables_1
theorem lw_p0 : lw_okq (⟨"RectangleTree", "numberNodes", "()V"⟩, 8) := ⟨⟨by decide +kernel, by decide +kernel⟩, List.mem_of_getElem? (i := 13) (by decide +kernel), List.mem_of_getElem? (i := 189) (by decide +kernel), List.mem_of_getElem? (i := 190) (by decide +kernel)⟩
theorem lw_p1 : lw_okq (⟨"RectangleTree$Walk", "makeRoom", "(I)V"⟩, 3) := ⟨⟨by decide +kernel, by decide +kernel⟩, List.mem_of_getElem? (i := 83) (by decide +kernel), List.mem_of_getElem? (i := 201) (by decide +kernel), List.mem_of_getElem? (i := 202) (by decide +kernel)⟩
theorem lw_p2 : lw_okq (⟨"RectangleTree$History", "dropOldest", "()V"⟩, 2) := ⟨⟨by decide +kernel, by decide +kernel⟩, List.mem_of_getElem? (i := 172) (by decide +kernel), List.mem_of_getElem? (i := 271) (by decide +kernel), List.mem_of_getElem? (i := 272) (by decide +kernel)⟩
theorem lw_p3 : lw_okq (⟨"RectangleTree$Tree", "makeRoom", "(I)V"⟩, 10) := ⟨⟨by decide +kernel, by decide +kernel⟩, List.mem_of_getElem? (i := 21) (by decide +kernel), List.mem_of_getElem? (i := 280) (by decide +kernel), List.mem_of_getElem? (i := 281) (by decide +kernel)⟩
theorem lw_p4 : lw_okq (⟨"RectangleTree$Tree", "firstFree", "(II)I"⟩, 10) := ⟨⟨by decide +kernel, by decide +kernel⟩, List.mem_of_getElem? (i := 21) (by decide +kernel), List.mem_of_getElem? (i := 309) (by decide +kernel), List.mem_of_getElem? (i := 310) (by decide +kernel)⟩
theorem lw_p5 : lw_okq (⟨"RectangleTree$Tree", "take", "(II)V"⟩, 10) := ⟨⟨by decide +kernel, by decide +kernel⟩, List.mem_of_getElem? (i := 21) (by decide +kernel), List.mem_of_getElem? (i := 313) (by decide +kernel), List.mem_of_getElem? (i := 314) (by decide +kernel)⟩
theorem lw_p6 : lw_okq (⟨"RectangleTree$Tree", "setCorners", "(IIIII)V"⟩, 10) := ⟨⟨by decide +kernel, by decide +kernel⟩, List.mem_of_getElem? (i := 21) (by decide +kernel), List.mem_of_getElem? (i := 317) (by decide +kernel), List.mem_of_getElem? (i := 318) (by decide +kernel)⟩
theorem lw_p7 : lw_okq (⟨"RectangleTree$Changes", "targetFor", "(I)I"⟩, 8) := ⟨⟨by decide +kernel, by decide +kernel⟩, List.mem_of_getElem? (i := 77) (by decide +kernel), List.mem_of_getElem? (i := 325) (by decide +kernel), List.mem_of_getElem? (i := 326) (by decide +kernel)⟩
theorem lw_p8 : lw_okq (⟨"RectangleTree$Changes", "bestEntry", "(II)I"⟩, 8) := ⟨⟨by decide +kernel, by decide +kernel⟩, List.mem_of_getElem? (i := 77) (by decide +kernel), List.mem_of_getElem? (i := 331) (by decide +kernel), List.mem_of_getElem? (i := 332) (by decide +kernel)⟩
theorem lw_p9 : lw_okq (⟨"RectangleTree$Tree", "refreshUp", "(I)V"⟩, 10) := ⟨⟨by decide +kernel, by decide +kernel⟩, List.mem_of_getElem? (i := 21) (by decide +kernel), List.mem_of_getElem? (i := 356) (by decide +kernel), List.mem_of_getElem? (i := 357) (by decide +kernel)⟩
theorem lw_p10 : lw_okq (⟨"RectangleTree$Changes", "mayReinsert", "(I)Z"⟩, 8) := ⟨⟨by decide +kernel, by decide +kernel⟩, List.mem_of_getElem? (i := 77) (by decide +kernel), List.mem_of_getElem? (i := 365) (by decide +kernel), List.mem_of_getElem? (i := 366) (by decide +kernel)⟩
theorem lw_p11 : lw_okq (⟨"RectangleTree$Changes", "reinsertFarthest", "(I)I"⟩, 8) := ⟨⟨by decide +kernel, by decide +kernel⟩, List.mem_of_getElem? (i := 77) (by decide +kernel), List.mem_of_getElem? (i := 369) (by decide +kernel), List.mem_of_getElem? (i := 370) (by decide +kernel)⟩
theorem lw_p12 : lw_okq (⟨"RectangleTree$Changes", "farthestEntry", "(I)I"⟩, 8) := ⟨⟨by decide +kernel, by decide +kernel⟩, List.mem_of_getElem? (i := 77) (by decide +kernel), List.mem_of_getElem? (i := 373) (by decide +kernel), List.mem_of_getElem? (i := 374) (by decide +kernel)⟩
theorem lw_p13 : lw_okq (⟨"RectangleTree$Tree", "placeOf", "(II)I"⟩, 10) := ⟨⟨by decide +kernel, by decide +kernel⟩, List.mem_of_getElem? (i := 21) (by decide +kernel), List.mem_of_getElem? (i := 393) (by decide +kernel), List.mem_of_getElem? (i := 394) (by decide +kernel)⟩
theorem lw_p14 : lw_okq (⟨"RectangleTree$Changes", "splitNode", "(I)I"⟩, 8) := ⟨⟨by decide +kernel, by decide +kernel⟩, List.mem_of_getElem? (i := 77) (by decide +kernel), List.mem_of_getElem? (i := 398) (by decide +kernel), List.mem_of_getElem? (i := 399) (by decide +kernel)⟩
theorem lw_p15 : lw_okq (⟨"RectangleTree$Changes", "fillPool", "(I)V"⟩, 8) := ⟨⟨by decide +kernel, by decide +kernel⟩, List.mem_of_getElem? (i := 77) (by decide +kernel), List.mem_of_getElem? (i := 413) (by decide +kernel), List.mem_of_getElem? (i := 414) (by decide +kernel)⟩
def lw_privs_1 : List (MethodName × Nat) := [(⟨"RectangleTree", "numberNodes", "()V"⟩, 8), (⟨"RectangleTree$Walk", "makeRoom", "(I)V"⟩, 3), (⟨"RectangleTree$History", "dropOldest", "()V"⟩, 2), (⟨"RectangleTree$Tree", "makeRoom", "(I)V"⟩, 10), (⟨"RectangleTree$Tree", "firstFree", "(II)I"⟩, 10), (⟨"RectangleTree$Tree", "take", "(II)V"⟩, 10), (⟨"RectangleTree$Tree", "setCorners", "(IIIII)V"⟩, 10), (⟨"RectangleTree$Changes", "targetFor", "(I)I"⟩, 8), (⟨"RectangleTree$Changes", "bestEntry", "(II)I"⟩, 8), (⟨"RectangleTree$Tree", "refreshUp", "(I)V"⟩, 10), (⟨"RectangleTree$Changes", "mayReinsert", "(I)Z"⟩, 8), (⟨"RectangleTree$Changes", "reinsertFarthest", "(I)I"⟩, 8), (⟨"RectangleTree$Changes", "farthestEntry", "(I)I"⟩, 8), (⟨"RectangleTree$Tree", "placeOf", "(II)I"⟩, 10), (⟨"RectangleTree$Changes", "splitNode", "(I)I"⟩, 8), (⟨"RectangleTree$Changes", "fillPool", "(I)V"⟩, 8)]
theorem lw_r1 : ∀ q ∈ lw_privs_1, lw_okq q := List.forall_mem_cons.mpr ⟨lw_p0, List.forall_mem_cons.mpr ⟨lw_p1, List.forall_mem_cons.mpr ⟨lw_p2, List.forall_mem_cons.mpr ⟨lw_p3, List.forall_mem_cons.mpr ⟨lw_p4, List.forall_mem_cons.mpr ⟨lw_p5, List.forall_mem_cons.mpr ⟨lw_p6, List.forall_mem_cons.mpr ⟨lw_p7, List.forall_mem_cons.mpr ⟨lw_p8, List.forall_mem_cons.mpr ⟨lw_p9, List.forall_mem_cons.mpr ⟨lw_p10, List.forall_mem_cons.mpr ⟨lw_p11, List.forall_mem_cons.mpr ⟨lw_p12, List.forall_mem_cons.mpr ⟨lw_p13, List.forall_mem_cons.mpr ⟨lw_p14, List.forall_mem_cons.mpr ⟨lw_p15, fun _ h => absurd h List.not_mem_nil⟩⟩⟩⟩⟩⟩⟩⟩⟩⟩⟩⟩⟩⟩⟩⟩
theorem lw_p16 : lw_okq (⟨"RectangleTree$Changes", "findSeeds", "()I"⟩, 8) := ⟨⟨by decide +kernel, by decide +kernel⟩, List.mem_of_getElem? (i := 77) (by decide +kernel), List.mem_of_getElem? (i := 418) (by decide +kernel), List.mem_of_getElem? (i := 419) (by decide +kernel)⟩
theorem lw_p17 : lw_okq (⟨"RectangleTree$Changes", "giveTo", "(II)V"⟩, 8) := ⟨⟨by decide +kernel, by decide +kernel⟩, List.mem_of_getElem? (i := 77) (by decide +kernel), List.mem_of_getElem? (i := 427) (by decide +kernel), List.mem_of_getElem? (i := 428) (by decide +kernel)⟩
theorem lw_p18 : lw_okq (⟨"RectangleTree$Changes", "giveAllTo", "(I)V"⟩, 8) := ⟨⟨by decide +kernel, by decide +kernel⟩, List.mem_of_getElem? (i := 77) (by decide +kernel), List.mem_of_getElem? (i := 436) (by decide +kernel), List.mem_of_getElem? (i := 437) (by decide +kernel)⟩
theorem lw_p19 : lw_okq (⟨"RectangleTree$Changes", "mostDecided", "(II)I"⟩, 8) := ⟨⟨by decide +kernel, by decide +kernel⟩, List.mem_of_getElem? (i := 77) (by decide +kernel), List.mem_of_getElem? (i := 440) (by decide +kernel), List.mem_of_getElem? (i := 441) (by decide +kernel)⟩
theorem lw_p20 : lw_okq (⟨"RectangleTree$Changes", "betterGroup", "(III)I"⟩, 8) := ⟨⟨by decide +kernel, by decide +kernel⟩, List.mem_of_getElem? (i := 77) (by decide +kernel), List.mem_of_getElem? (i := 453) (by decide +kernel), List.mem_of_getElem? (i := 454) (by decide +kernel)⟩
theorem lw_p21 : lw_okq (⟨"RectangleTree$Changes", "keepEntriesOf", "(I)V"⟩, 8) := ⟨⟨by decide +kernel, by decide +kernel⟩, List.mem_of_getElem? (i := 77) (by decide +kernel), List.mem_of_getElem? (i := 475) (by decide +kernel), List.mem_of_getElem? (i := 476) (by decide +kernel)⟩
theorem lw_p22 : lw_okq (⟨"RectangleTree$Changes", "dissolve", "(I)V"⟩, 8) := ⟨⟨by decide +kernel, by decide +kernel⟩, List.mem_of_getElem? (i := 77) (by decide +kernel), List.mem_of_getElem? (i := 494) (by decide +kernel), List.mem_of_getElem? (i := 495) (by decide +kernel)⟩
theorem lw_p23 : lw_okq (⟨"RectangleTree$Packing", "listBoxes", "()I"⟩, 2) := ⟨⟨by decide +kernel, by decide +kernel⟩, List.mem_of_getElem? (i := 128) (by decide +kernel), List.mem_of_getElem? (i := 507) (by decide +kernel), List.mem_of_getElem? (i := 508) (by decide +kernel)⟩
theorem lw_p24 : lw_okq (⟨"RectangleTree$Packing", "sortPart", "(III)V"⟩, 2) := ⟨⟨by decide +kernel, by decide +kernel⟩, List.mem_of_getElem? (i := 128) (by decide +kernel), List.mem_of_getElem? (i := 522) (by decide +kernel), List.mem_of_getElem? (i := 523) (by decide +kernel)⟩
theorem lw_p25 : lw_okq (⟨"RectangleTree$Packing", "comesAhead", "(III)Z"⟩, 2) := ⟨⟨by decide +kernel, by decide +kernel⟩, List.mem_of_getElem? (i := 128) (by decide +kernel), List.mem_of_getElem? (i := 527) (by decide +kernel), List.mem_of_getElem? (i := 528) (by decide +kernel)⟩
theorem lw_p26 : lw_okq (⟨"RectangleTree$Packing", "groupRow", "(II)I"⟩, 2) := ⟨⟨by decide +kernel, by decide +kernel⟩, List.mem_of_getElem? (i := 128) (by decide +kernel), List.mem_of_getElem? (i := 533) (by decide +kernel), List.mem_of_getElem? (i := 534) (by decide +kernel)⟩
theorem lw_p27 : lw_okq (⟨"RectangleTree$RectangleText", "takeDigit", "(I)Z"⟩, 7) := ⟨⟨by decide +kernel, by decide +kernel⟩, List.mem_of_getElem? (i := 143) (by decide +kernel), List.mem_of_getElem? (i := 577) (by decide +kernel), List.mem_of_getElem? (i := 578) (by decide +kernel)⟩
theorem lw_p28 : lw_okq (⟨"RectangleTree$RectangleText", "leastNumber", "()I"⟩, 7) := ⟨⟨by decide +kernel, by decide +kernel⟩, List.mem_of_getElem? (i := 143) (by decide +kernel), List.mem_of_getElem? (i := 581) (by decide +kernel), List.mem_of_getElem? (i := 582) (by decide +kernel)⟩
theorem lw_p29 : lw_okq (⟨"RectangleTree$RectangleText", "takeSign", "(I)Z"⟩, 7) := ⟨⟨by decide +kernel, by decide +kernel⟩, List.mem_of_getElem? (i := 143) (by decide +kernel), List.mem_of_getElem? (i := 585) (by decide +kernel), List.mem_of_getElem? (i := 586) (by decide +kernel)⟩
theorem lw_p30 : lw_okq (⟨"RectangleTree", "hasNode", "(I)Z"⟩, 8) := ⟨⟨by decide +kernel, by decide +kernel⟩, List.mem_of_getElem? (i := 13) (by decide +kernel), List.mem_of_getElem? (i := 636) (by decide +kernel), List.mem_of_getElem? (i := 637) (by decide +kernel)⟩
theorem lw_p31 : lw_okq (⟨"RectangleTree", "nodeAt", "(I)I"⟩, 8) := ⟨⟨by decide +kernel, by decide +kernel⟩, List.mem_of_getElem? (i := 13) (by decide +kernel), List.mem_of_getElem? (i := 640) (by decide +kernel), List.mem_of_getElem? (i := 641) (by decide +kernel)⟩
def lw_privs_2 : List (MethodName × Nat) := [(⟨"RectangleTree$Changes", "findSeeds", "()I"⟩, 8), (⟨"RectangleTree$Changes", "giveTo", "(II)V"⟩, 8), (⟨"RectangleTree$Changes", "giveAllTo", "(I)V"⟩, 8), (⟨"RectangleTree$Changes", "mostDecided", "(II)I"⟩, 8), (⟨"RectangleTree$Changes", "betterGroup", "(III)I"⟩, 8), (⟨"RectangleTree$Changes", "keepEntriesOf", "(I)V"⟩, 8), (⟨"RectangleTree$Changes", "dissolve", "(I)V"⟩, 8), (⟨"RectangleTree$Packing", "listBoxes", "()I"⟩, 2), (⟨"RectangleTree$Packing", "sortPart", "(III)V"⟩, 2), (⟨"RectangleTree$Packing", "comesAhead", "(III)Z"⟩, 2), (⟨"RectangleTree$Packing", "groupRow", "(II)I"⟩, 2), (⟨"RectangleTree$RectangleText", "takeDigit", "(I)Z"⟩, 7), (⟨"RectangleTree$RectangleText", "leastNumber", "()I"⟩, 7), (⟨"RectangleTree$RectangleText", "takeSign", "(I)Z"⟩, 7), (⟨"RectangleTree", "hasNode", "(I)Z"⟩, 8), (⟨"RectangleTree", "nodeAt", "(I)I"⟩, 8)]
theorem lw_r2 : ∀ q ∈ lw_privs_2, lw_okq q := List.forall_mem_cons.mpr ⟨lw_p16, List.forall_mem_cons.mpr ⟨lw_p17, List.forall_mem_cons.mpr ⟨lw_p18, List.forall_mem_cons.mpr ⟨lw_p19, List.forall_mem_cons.mpr ⟨lw_p20, List.forall_mem_cons.mpr ⟨lw_p21, List.forall_mem_cons.mpr ⟨lw_p22, List.forall_mem_cons.mpr ⟨lw_p23, List.forall_mem_cons.mpr ⟨lw_p24, List.forall_mem_cons.mpr ⟨lw_p25, List.forall_mem_cons.mpr ⟨lw_p26, List.forall_mem_cons.mpr ⟨lw_p27, List.forall_mem_cons.mpr ⟨lw_p28, List.forall_mem_cons.mpr ⟨lw_p29, List.forall_mem_cons.mpr ⟨lw_p30, List.forall_mem_cons.mpr ⟨lw_p31, fun _ h => absurd h List.not_mem_nil⟩⟩⟩⟩⟩⟩⟩⟩⟩⟩⟩⟩⟩⟩⟩⟩
theorem lw_p32 : lw_okq (⟨"RectangleTree", "overlapWithEarlier", "(II)I"⟩, 8) := ⟨⟨by decide +kernel, by decide +kernel⟩, List.mem_of_getElem? (i := 13) (by decide +kernel), List.mem_of_getElem? (i := 715) (by decide +kernel), List.mem_of_getElem? (i := 716) (by decide +kernel)⟩
theorem lw_p33 : lw_okq (⟨"RectangleTreeModel", "boxCount", "()I"⟩, 26) := ⟨⟨by decide +kernel, by decide +kernel⟩, List.mem_of_getElem? (i := 727) (by decide +kernel), List.mem_of_getElem? (i := 823) (by decide +kernel), List.mem_of_getElem? (i := 824) (by decide +kernel)⟩
theorem lw_p34 : lw_okq (⟨"RectangleTreeModel", "isBox", "(I)Z"⟩, 26) := ⟨⟨by decide +kernel, by decide +kernel⟩, List.mem_of_getElem? (i := 727) (by decide +kernel), List.mem_of_getElem? (i := 827) (by decide +kernel), List.mem_of_getElem? (i := 828) (by decide +kernel)⟩
theorem lw_p35 : lw_okq (⟨"RectangleTreeModel", "records", "()V"⟩, 26) := ⟨⟨by decide +kernel, by decide +kernel⟩, List.mem_of_getElem? (i := 727) (by decide +kernel), List.mem_of_getElem? (i := 831) (by decide +kernel), List.mem_of_getElem? (i := 832) (by decide +kernel)⟩
theorem lw_p36 : lw_okq (⟨"RectangleTreeModel", "adds", "(IIII)I"⟩, 26) := ⟨⟨by decide +kernel, by decide +kernel⟩, List.mem_of_getElem? (i := 727) (by decide +kernel), List.mem_of_getElem? (i := 835) (by decide +kernel), List.mem_of_getElem? (i := 836) (by decide +kernel)⟩
theorem lw_p37 : lw_okq (⟨"RectangleTreeModel", "inserts", "()V"⟩, 26) := ⟨⟨by decide +kernel, by decide +kernel⟩, List.mem_of_getElem? (i := 727) (by decide +kernel), List.mem_of_getElem? (i := 839) (by decide +kernel), List.mem_of_getElem? (i := 840) (by decide +kernel)⟩
theorem lw_p38 : lw_okq (⟨"RectangleTreeModel", "chosen", "()I"⟩, 26) := ⟨⟨by decide +kernel, by decide +kernel⟩, List.mem_of_getElem? (i := 727) (by decide +kernel), List.mem_of_getElem? (i := 843) (by decide +kernel), List.mem_of_getElem? (i := 844) (by decide +kernel)⟩
theorem lw_p39 : lw_okq (⟨"RectangleTreeModel", "bounds", "([IIII)V"⟩, 26) := ⟨⟨by decide +kernel, by decide +kernel⟩, List.mem_of_getElem? (i := 727) (by decide +kernel), List.mem_of_getElem? (i := 847) (by decide +kernel), List.mem_of_getElem? (i := 848) (by decide +kernel)⟩
theorem lw_p40 : lw_okq (⟨"RectangleTreeModel", "levelAt", "(I)I"⟩, 26) := ⟨⟨by decide +kernel, by decide +kernel⟩, List.mem_of_getElem? (i := 727) (by decide +kernel), List.mem_of_getElem? (i := 857) (by decide +kernel), List.mem_of_getElem? (i := 858) (by decide +kernel)⟩
theorem lw_p41 : lw_okq (⟨"RectangleTreeModel", "at", "(I)I"⟩, 26) := ⟨⟨by decide +kernel, by decide +kernel⟩, List.mem_of_getElem? (i := 727) (by decide +kernel), List.mem_of_getElem? (i := 861) (by decide +kernel), List.mem_of_getElem? (i := 862) (by decide +kernel)⟩
theorem lw_p42 : lw_okq (⟨"RectangleTreeModel", "endOf", "(I)I"⟩, 26) := ⟨⟨by decide +kernel, by decide +kernel⟩, List.mem_of_getElem? (i := 727) (by decide +kernel), List.mem_of_getElem? (i := 868) (by decide +kernel), List.mem_of_getElem? (i := 869) (by decide +kernel)⟩
theorem lw_p43 : lw_okq (⟨"RectangleTreeModel", "length", "()I"⟩, 26) := ⟨⟨by decide +kernel, by decide +kernel⟩, List.mem_of_getElem? (i := 727) (by decide +kernel), List.mem_of_getElem? (i := 872) (by decide +kernel), List.mem_of_getElem? (i := 873) (by decide +kernel)⟩
theorem lw_p44 : lw_okq (⟨"RectangleTreeModel", "boundsAt", "(II)V"⟩, 26) := ⟨⟨by decide +kernel, by decide +kernel⟩, List.mem_of_getElem? (i := 727) (by decide +kernel), List.mem_of_getElem? (i := 876) (by decide +kernel), List.mem_of_getElem? (i := 877) (by decide +kernel)⟩
theorem lw_p45 : lw_okq (⟨"RectangleTreeModel", "enlargement", "(II)I"⟩, 26) := ⟨⟨by decide +kernel, by decide +kernel⟩, List.mem_of_getElem? (i := 727) (by decide +kernel), List.mem_of_getElem? (i := 880) (by decide +kernel), List.mem_of_getElem? (i := 881) (by decide +kernel)⟩
theorem lw_p46 : lw_okq (⟨"RectangleTreeModel", "unites", "(III)V"⟩, 26) := ⟨⟨by decide +kernel, by decide +kernel⟩, List.mem_of_getElem? (i := 727) (by decide +kernel), List.mem_of_getElem? (i := 884) (by decide +kernel), List.mem_of_getElem? (i := 885) (by decide +kernel)⟩
theorem lw_p47 : lw_okq (⟨"RectangleTreeModel", "areaOf", "(I)I"⟩, 26) := ⟨⟨by decide +kernel, by decide +kernel⟩, List.mem_of_getElem? (i := 727) (by decide +kernel), List.mem_of_getElem? (i := 888) (by decide +kernel), List.mem_of_getElem? (i := 889) (by decide +kernel)⟩
def lw_privs_3 : List (MethodName × Nat) := [(⟨"RectangleTree", "overlapWithEarlier", "(II)I"⟩, 8), (⟨"RectangleTreeModel", "boxCount", "()I"⟩, 26), (⟨"RectangleTreeModel", "isBox", "(I)Z"⟩, 26), (⟨"RectangleTreeModel", "records", "()V"⟩, 26), (⟨"RectangleTreeModel", "adds", "(IIII)I"⟩, 26), (⟨"RectangleTreeModel", "inserts", "()V"⟩, 26), (⟨"RectangleTreeModel", "chosen", "()I"⟩, 26), (⟨"RectangleTreeModel", "bounds", "([IIII)V"⟩, 26), (⟨"RectangleTreeModel", "levelAt", "(I)I"⟩, 26), (⟨"RectangleTreeModel", "at", "(I)I"⟩, 26), (⟨"RectangleTreeModel", "endOf", "(I)I"⟩, 26), (⟨"RectangleTreeModel", "length", "()I"⟩, 26), (⟨"RectangleTreeModel", "boundsAt", "(II)V"⟩, 26), (⟨"RectangleTreeModel", "enlargement", "(II)I"⟩, 26), (⟨"RectangleTreeModel", "unites", "(III)V"⟩, 26), (⟨"RectangleTreeModel", "areaOf", "(I)I"⟩, 26)]
theorem lw_r3 : ∀ q ∈ lw_privs_3, lw_okq q := List.forall_mem_cons.mpr ⟨lw_p32, List.forall_mem_cons.mpr ⟨lw_p33, List.forall_mem_cons.mpr ⟨lw_p34, List.forall_mem_cons.mpr ⟨lw_p35, List.forall_mem_cons.mpr ⟨lw_p36, List.forall_mem_cons.mpr ⟨lw_p37, List.forall_mem_cons.mpr ⟨lw_p38, List.forall_mem_cons.mpr ⟨lw_p39, List.forall_mem_cons.mpr ⟨lw_p40, List.forall_mem_cons.mpr ⟨lw_p41, List.forall_mem_cons.mpr ⟨lw_p42, List.forall_mem_cons.mpr ⟨lw_p43, List.forall_mem_cons.mpr ⟨lw_p44, List.forall_mem_cons.mpr ⟨lw_p45, List.forall_mem_cons.mpr ⟨lw_p46, List.forall_mem_cons.mpr ⟨lw_p47, fun _ h => absurd h List.not_mem_nil⟩⟩⟩⟩⟩⟩⟩⟩⟩⟩⟩⟩⟩⟩⟩⟩
theorem lw_p48 : lw_okq (⟨"RectangleTreeModel", "puts", "(I)V"⟩, 26) := ⟨⟨by decide +kernel, by decide +kernel⟩, List.mem_of_getElem? (i := 727) (by decide +kernel), List.mem_of_getElem? (i := 892) (by decide +kernel), List.mem_of_getElem? (i := 893) (by decide +kernel)⟩
theorem lw_p49 : lw_okq (⟨"RectangleTreeModel", "opens", "(II)V"⟩, 26) := ⟨⟨by decide +kernel, by decide +kernel⟩, List.mem_of_getElem? (i := 727) (by decide +kernel), List.mem_of_getElem? (i := 896) (by decide +kernel), List.mem_of_getElem? (i := 897) (by decide +kernel)⟩
theorem lw_p50 : lw_okq (⟨"RectangleTreeModel", "entriesOf", "(I)I"⟩, 26) := ⟨⟨by decide +kernel, by decide +kernel⟩, List.mem_of_getElem? (i := 727) (by decide +kernel), List.mem_of_getElem? (i := 900) (by decide +kernel), List.mem_of_getElem? (i := 901) (by decide +kernel)⟩
theorem lw_p51 : lw_okq (⟨"RectangleTreeModel", "takesFar", "(I)V"⟩, 26) := ⟨⟨by decide +kernel, by decide +kernel⟩, List.mem_of_getElem? (i := 727) (by decide +kernel), List.mem_of_getElem? (i := 904) (by decide +kernel), List.mem_of_getElem? (i := 905) (by decide +kernel)⟩
theorem lw_p52 : lw_okq (⟨"RectangleTreeModel", "centerDistance", "(II)I"⟩, 26) := ⟨⟨by decide +kernel, by decide +kernel⟩, List.mem_of_getElem? (i := 727) (by decide +kernel), List.mem_of_getElem? (i := 908) (by decide +kernel), List.mem_of_getElem? (i := 909) (by decide +kernel)⟩
theorem lw_p53 : lw_okq (⟨"RectangleTreeModel", "takes", "([III)V"⟩, 26) := ⟨⟨by decide +kernel, by decide +kernel⟩, List.mem_of_getElem? (i := 727) (by decide +kernel), List.mem_of_getElem? (i := 912) (by decide +kernel), List.mem_of_getElem? (i := 913) (by decide +kernel)⟩
theorem lw_p54 : lw_okq (⟨"RectangleTreeModel", "cuts", "(II)V"⟩, 26) := ⟨⟨by decide +kernel, by decide +kernel⟩, List.mem_of_getElem? (i := 727) (by decide +kernel), List.mem_of_getElem? (i := 916) (by decide +kernel), List.mem_of_getElem? (i := 917) (by decide +kernel)⟩
theorem lw_p55 : lw_okq (⟨"RectangleTreeModel", "divides", "(I)I"⟩, 26) := ⟨⟨by decide +kernel, by decide +kernel⟩, List.mem_of_getElem? (i := 727) (by decide +kernel), List.mem_of_getElem? (i := 920) (by decide +kernel), List.mem_of_getElem? (i := 921) (by decide +kernel)⟩
theorem lw_p56 : lw_okq (⟨"RectangleTreeModel", "groups", "(I)V"⟩, 26) := ⟨⟨by decide +kernel, by decide +kernel⟩, List.mem_of_getElem? (i := 727) (by decide +kernel), List.mem_of_getElem? (i := 924) (by decide +kernel), List.mem_of_getElem? (i := 925) (by decide +kernel)⟩
theorem lw_p57 : lw_okq (⟨"RectangleTreeModel", "farthest", "(I)V"⟩, 26) := ⟨⟨by decide +kernel, by decide +kernel⟩, List.mem_of_getElem? (i := 727) (by decide +kernel), List.mem_of_getElem? (i := 928) (by decide +kernel), List.mem_of_getElem? (i := 929) (by decide +kernel)⟩
theorem lw_p58 : lw_okq (⟨"RectangleTreeModel", "joins", "(II)V"⟩, 26) := ⟨⟨by decide +kernel, by decide +kernel⟩, List.mem_of_getElem? (i := 727) (by decide +kernel), List.mem_of_getElem? (i := 932) (by decide +kernel), List.mem_of_getElem? (i := 933) (by decide +kernel)⟩
theorem lw_p59 : lw_okq (⟨"RectangleTreeModel", "nextEntry", "(I)I"⟩, 26) := ⟨⟨by decide +kernel, by decide +kernel⟩, List.mem_of_getElem? (i := 727) (by decide +kernel), List.mem_of_getElem? (i := 936) (by decide +kernel), List.mem_of_getElem? (i := 937) (by decide +kernel)⟩
theorem lw_p60 : lw_okq (⟨"RectangleTreeModel", "preferred", "(I)I"⟩, 26) := ⟨⟨by decide +kernel, by decide +kernel⟩, List.mem_of_getElem? (i := 727) (by decide +kernel), List.mem_of_getElem? (i := 940) (by decide +kernel), List.mem_of_getElem? (i := 941) (by decide +kernel)⟩
theorem lw_p61 : lw_okq (⟨"RectangleTreeModel", "lays", "(IIII)I"⟩, 26) := ⟨⟨by decide +kernel, by decide +kernel⟩, List.mem_of_getElem? (i := 727) (by decide +kernel), List.mem_of_getElem? (i := 944) (by decide +kernel), List.mem_of_getElem? (i := 945) (by decide +kernel)⟩
theorem lw_p62 : lw_okq (⟨"RectangleTreeModel", "above", "(I)I"⟩, 26) := ⟨⟨by decide +kernel, by decide +kernel⟩, List.mem_of_getElem? (i := 727) (by decide +kernel), List.mem_of_getElem? (i := 948) (by decide +kernel), List.mem_of_getElem? (i := 949) (by decide +kernel)⟩
theorem lw_p63 : lw_okq (⟨"RectangleTreeModel", "placeOf", "(I)I"⟩, 26) := ⟨⟨by decide +kernel, by decide +kernel⟩, List.mem_of_getElem? (i := 727) (by decide +kernel), List.mem_of_getElem? (i := 956) (by decide +kernel), List.mem_of_getElem? (i := 957) (by decide +kernel)⟩
def lw_privs_4 : List (MethodName × Nat) := [(⟨"RectangleTreeModel", "puts", "(I)V"⟩, 26), (⟨"RectangleTreeModel", "opens", "(II)V"⟩, 26), (⟨"RectangleTreeModel", "entriesOf", "(I)I"⟩, 26), (⟨"RectangleTreeModel", "takesFar", "(I)V"⟩, 26), (⟨"RectangleTreeModel", "centerDistance", "(II)I"⟩, 26), (⟨"RectangleTreeModel", "takes", "([III)V"⟩, 26), (⟨"RectangleTreeModel", "cuts", "(II)V"⟩, 26), (⟨"RectangleTreeModel", "divides", "(I)I"⟩, 26), (⟨"RectangleTreeModel", "groups", "(I)V"⟩, 26), (⟨"RectangleTreeModel", "farthest", "(I)V"⟩, 26), (⟨"RectangleTreeModel", "joins", "(II)V"⟩, 26), (⟨"RectangleTreeModel", "nextEntry", "(I)I"⟩, 26), (⟨"RectangleTreeModel", "preferred", "(I)I"⟩, 26), (⟨"RectangleTreeModel", "lays", "(IIII)I"⟩, 26), (⟨"RectangleTreeModel", "above", "(I)I"⟩, 26), (⟨"RectangleTreeModel", "placeOf", "(I)I"⟩, 26)]
theorem lw_r4 : ∀ q ∈ lw_privs_4, lw_okq q := List.forall_mem_cons.mpr ⟨lw_p48, List.forall_mem_cons.mpr ⟨lw_p49, List.forall_mem_cons.mpr ⟨lw_p50, List.forall_mem_cons.mpr ⟨lw_p51, List.forall_mem_cons.mpr ⟨lw_p52, List.forall_mem_cons.mpr ⟨lw_p53, List.forall_mem_cons.mpr ⟨lw_p54, List.forall_mem_cons.mpr ⟨lw_p55, List.forall_mem_cons.mpr ⟨lw_p56, List.forall_mem_cons.mpr ⟨lw_p57, List.forall_mem_cons.mpr ⟨lw_p58, List.forall_mem_cons.mpr ⟨lw_p59, List.forall_mem_cons.mpr ⟨lw_p60, List.forall_mem_cons.mpr ⟨lw_p61, List.forall_mem_cons.mpr ⟨lw_p62, List.forall_mem_cons.mpr ⟨lw_p63, fun _ h => absurd h List.not_mem_nil⟩⟩⟩⟩⟩⟩⟩⟩⟩⟩⟩⟩⟩⟩⟩⟩
theorem lw_p64 : lw_okq (⟨"RectangleTreeModel", "keepsAside", "(I)V"⟩, 26) := ⟨⟨by decide +kernel, by decide +kernel⟩, List.mem_of_getElem? (i := 727) (by decide +kernel), List.mem_of_getElem? (i := 960) (by decide +kernel), List.mem_of_getElem? (i := 961) (by decide +kernel)⟩
theorem lw_p65 : lw_okq (⟨"RectangleTreeModel", "shrinks", "()V"⟩, 26) := ⟨⟨by decide +kernel, by decide +kernel⟩, List.mem_of_getElem? (i := 727) (by decide +kernel), List.mem_of_getElem? (i := 964) (by decide +kernel), List.mem_of_getElem? (i := 965) (by decide +kernel)⟩
theorem lw_p66 : lw_okq (⟨"RectangleTreeModel", "insertsAside", "(I)V"⟩, 26) := ⟨⟨by decide +kernel, by decide +kernel⟩, List.mem_of_getElem? (i := 727) (by decide +kernel), List.mem_of_getElem? (i := 968) (by decide +kernel), List.mem_of_getElem? (i := 969) (by decide +kernel)⟩
theorem lw_p67 : lw_okq (⟨"RectangleTreeModel", "packsLeaves", "(I)V"⟩, 26) := ⟨⟨by decide +kernel, by decide +kernel⟩, List.mem_of_getElem? (i := 727) (by decide +kernel), List.mem_of_getElem? (i := 976) (by decide +kernel), List.mem_of_getElem? (i := 977) (by decide +kernel)⟩
theorem lw_p68 : lw_okq (⟨"RectangleTreeModel", "slice", "(I)I"⟩, 26) := ⟨⟨by decide +kernel, by decide +kernel⟩, List.mem_of_getElem? (i := 727) (by decide +kernel), List.mem_of_getElem? (i := 980) (by decide +kernel), List.mem_of_getElem? (i := 981) (by decide +kernel)⟩
theorem lw_p69 : lw_okq (⟨"RectangleTreeModel", "sorts", "(III)V"⟩, 26) := ⟨⟨by decide +kernel, by decide +kernel⟩, List.mem_of_getElem? (i := 727) (by decide +kernel), List.mem_of_getElem? (i := 984) (by decide +kernel), List.mem_of_getElem? (i := 985) (by decide +kernel)⟩
theorem lw_p70 : lw_okq (⟨"RectangleTreeModel", "key", "(II)I"⟩, 26) := ⟨⟨by decide +kernel, by decide +kernel⟩, List.mem_of_getElem? (i := 727) (by decide +kernel), List.mem_of_getElem? (i := 988) (by decide +kernel), List.mem_of_getElem? (i := 989) (by decide +kernel)⟩
theorem lw_p71 : lw_okq (⟨"RectangleTreeModel", "appends", "(I)V"⟩, 26) := ⟨⟨by decide +kernel, by decide +kernel⟩, List.mem_of_getElem? (i := 727) (by decide +kernel), List.mem_of_getElem? (i := 992) (by decide +kernel), List.mem_of_getElem? (i := 993) (by decide +kernel)⟩
theorem lw_p72 : lw_okq (⟨"RectangleTreeModel", "nodesAhead", "(I)I"⟩, 26) := ⟨⟨by decide +kernel, by decide +kernel⟩, List.mem_of_getElem? (i := 727) (by decide +kernel), List.mem_of_getElem? (i := 1000) (by decide +kernel), List.mem_of_getElem? (i := 1001) (by decide +kernel)⟩
theorem lw_p73 : lw_okq (⟨"RectangleTreeModel", "packsAbove", "(I)I"⟩, 26) := ⟨⟨by decide +kernel, by decide +kernel⟩, List.mem_of_getElem? (i := 727) (by decide +kernel), List.mem_of_getElem? (i := 1004) (by decide +kernel), List.mem_of_getElem? (i := 1005) (by decide +kernel)⟩
theorem lw_p74 : lw_okq (⟨"RectangleTreeModel", "isList", "()Z"⟩, 26) := ⟨⟨by decide +kernel, by decide +kernel⟩, List.mem_of_getElem? (i := 727) (by decide +kernel), List.mem_of_getElem? (i := 1024) (by decide +kernel), List.mem_of_getElem? (i := 1025) (by decide +kernel)⟩
theorem lw_p75 : lw_okq (⟨"RectangleTreeModel", "readsRectangle", "()Z"⟩, 26) := ⟨⟨by decide +kernel, by decide +kernel⟩, List.mem_of_getElem? (i := 727) (by decide +kernel), List.mem_of_getElem? (i := 1028) (by decide +kernel), List.mem_of_getElem? (i := 1029) (by decide +kernel)⟩
theorem lw_p76 : lw_okq (⟨"RectangleTreeModel", "reads", "(II)Z"⟩, 26) := ⟨⟨by decide +kernel, by decide +kernel⟩, List.mem_of_getElem? (i := 727) (by decide +kernel), List.mem_of_getElem? (i := 1032) (by decide +kernel), List.mem_of_getElem? (i := 1033) (by decide +kernel)⟩
theorem lw_p77 : lw_okq (⟨"RectangleTreeModel", "isDigit", "()Z"⟩, 26) := ⟨⟨by decide +kernel, by decide +kernel⟩, List.mem_of_getElem? (i := 727) (by decide +kernel), List.mem_of_getElem? (i := 1036) (by decide +kernel), List.mem_of_getElem? (i := 1037) (by decide +kernel)⟩
theorem lw_p78 : lw_okq (⟨"RectangleTreeModel", "nodeAt", "(I)I"⟩, 26) := ⟨⟨by decide +kernel, by decide +kernel⟩, List.mem_of_getElem? (i := 727) (by decide +kernel), List.mem_of_getElem? (i := 1073) (by decide +kernel), List.mem_of_getElem? (i := 1074) (by decide +kernel)⟩
theorem lw_p79 : lw_okq (⟨"RectangleTreeModel", "frames", "(IIII)V"⟩, 26) := ⟨⟨by decide +kernel, by decide +kernel⟩, List.mem_of_getElem? (i := 727) (by decide +kernel), List.mem_of_getElem? (i := 1109) (by decide +kernel), List.mem_of_getElem? (i := 1110) (by decide +kernel)⟩
def lw_privs_5 : List (MethodName × Nat) := [(⟨"RectangleTreeModel", "keepsAside", "(I)V"⟩, 26), (⟨"RectangleTreeModel", "shrinks", "()V"⟩, 26), (⟨"RectangleTreeModel", "insertsAside", "(I)V"⟩, 26), (⟨"RectangleTreeModel", "packsLeaves", "(I)V"⟩, 26), (⟨"RectangleTreeModel", "slice", "(I)I"⟩, 26), (⟨"RectangleTreeModel", "sorts", "(III)V"⟩, 26), (⟨"RectangleTreeModel", "key", "(II)I"⟩, 26), (⟨"RectangleTreeModel", "appends", "(I)V"⟩, 26), (⟨"RectangleTreeModel", "nodesAhead", "(I)I"⟩, 26), (⟨"RectangleTreeModel", "packsAbove", "(I)I"⟩, 26), (⟨"RectangleTreeModel", "isList", "()Z"⟩, 26), (⟨"RectangleTreeModel", "readsRectangle", "()Z"⟩, 26), (⟨"RectangleTreeModel", "reads", "(II)Z"⟩, 26), (⟨"RectangleTreeModel", "isDigit", "()Z"⟩, 26), (⟨"RectangleTreeModel", "nodeAt", "(I)I"⟩, 26), (⟨"RectangleTreeModel", "frames", "(IIII)V"⟩, 26)]
theorem lw_r5 : ∀ q ∈ lw_privs_5, lw_okq q := List.forall_mem_cons.mpr ⟨lw_p64, List.forall_mem_cons.mpr ⟨lw_p65, List.forall_mem_cons.mpr ⟨lw_p66, List.forall_mem_cons.mpr ⟨lw_p67, List.forall_mem_cons.mpr ⟨lw_p68, List.forall_mem_cons.mpr ⟨lw_p69, List.forall_mem_cons.mpr ⟨lw_p70, List.forall_mem_cons.mpr ⟨lw_p71, List.forall_mem_cons.mpr ⟨lw_p72, List.forall_mem_cons.mpr ⟨lw_p73, List.forall_mem_cons.mpr ⟨lw_p74, List.forall_mem_cons.mpr ⟨lw_p75, List.forall_mem_cons.mpr ⟨lw_p76, List.forall_mem_cons.mpr ⟨lw_p77, List.forall_mem_cons.mpr ⟨lw_p78, List.forall_mem_cons.mpr ⟨lw_p79, fun _ h => absurd h List.not_mem_nil⟩⟩⟩⟩⟩⟩⟩⟩⟩⟩⟩⟩⟩⟩⟩⟩
theorem lw_p80 : lw_okq (⟨"RectangleTreeModel", "meets", "(I)Z"⟩, 26) := ⟨⟨by decide +kernel, by decide +kernel⟩, List.mem_of_getElem? (i := 727) (by decide +kernel), List.mem_of_getElem? (i := 1113) (by decide +kernel), List.mem_of_getElem? (i := 1114) (by decide +kernel)⟩
theorem lw_p81 : lw_okq (⟨"RectangleTreeModel", "commonArea", "(II)I"⟩, 26) := ⟨⟨by decide +kernel, by decide +kernel⟩, List.mem_of_getElem? (i := 727) (by decide +kernel), List.mem_of_getElem? (i := 1117) (by decide +kernel), List.mem_of_getElem? (i := 1118) (by decide +kernel)⟩
def lw_privs_6 : List (MethodName × Nat) := [(⟨"RectangleTreeModel", "meets", "(I)Z"⟩, 26), (⟨"RectangleTreeModel", "commonArea", "(II)I"⟩, 26)]
theorem lw_r6 : ∀ q ∈ lw_privs_6, lw_okq q := List.forall_mem_cons.mpr ⟨lw_p80, List.forall_mem_cons.mpr ⟨lw_p81, fun _ h => absurd h List.not_mem_nil⟩⟩
def lw_privs : List (MethodName × Nat) := lw_privs_1 ++ (lw_privs_2 ++ (lw_privs_3 ++ (lw_privs_4 ++ (lw_privs_5 ++ (lw_privs_6)))))
def lw_tbl : List Cond := k2_sels lw_privs ++ tables_1
theorem lw_privs_ok : ∀ q ∈ lw_privs, lw_okq q := by
  show ∀ q ∈ lw_privs_1 ++ (lw_privs_2 ++ (lw_privs_3 ++ (lw_privs_4 ++ (lw_privs_5 ++ (lw_privs_6))))), lw_okq q
  exact List.forall_mem_append.mpr ⟨lw_r1, List.forall_mem_append.mpr ⟨lw_r2, List.forall_mem_append.mpr ⟨lw_r3, List.forall_mem_append.mpr ⟨lw_r4, List.forall_mem_append.mpr ⟨lw_r5, lw_r6⟩⟩⟩⟩⟩
/-- the streams that the claim lets the run draw from -/
abbrev lw_cs : List Choice := [Jvm.Choice.named "NaN.bits"]
theorem lw_bits : nanBits ∈ lw_cs := by first | decide | exact List.mem_cons_self | simp [lw_cs, nanBits]
end
section
/-! ===== BEGIN words of one list among another's, by their places ===== -/
theorem goodIn_r {big : List Cond} (ws : List Cond) (ps : List Nat) (hp : ws = ps.filterMap (fun i => big[i]?)) (h : ws.all goodWord = true) : GoodIn big ws := by
  intro w hw
  have h1 := List.all_eq_true.mp h w hw
  rw [hp] at hw
  obtain ⟨i, -, hi⟩ := List.mem_filterMap.mp hw
  have hm : w ∈ big := by first | exact List.mem_of_getElem? hi | exact List.getElem?_mem hi
  exact ⟨hm, good_of_word h1⟩
theorem goodIn_app {big a b : List Cond} (ha : GoodIn big a) (hb : GoodIn big b) : GoodIn big (a ++ b) := fun w h => (List.mem_append.mp h).elim (ha w) (hb w)
theorem goodIn_ca {big a b : List Cond} {c : Cond} (ha : GoodIn big (c :: a)) (hb : GoodIn big b) : GoodIn big (c :: (a ++ b)) := fun w h => (List.mem_cons.mp h).elim (fun e => ha w (List.mem_cons.mpr (Or.inl e))) (fun h => (List.mem_append.mp h).elim (fun h => ha w (List.mem_cons.mpr (Or.inr h))) (hb w))
theorem goodIn_sub {big ws : List Cond} (hm : ∀ w ∈ ws, w ∈ big) (h : ws.all goodWord = true) : GoodIn big ws := fun w hw => ⟨hm w hw, good_of_word (List.all_eq_true.mp h w hw)⟩
/-! ===== END ===== -/

/-! ===== BEGIN printed: names, fields, word lists, decode rows ===== -/
def RX0 : String := "RectangleTree$Changes"
def TX0 : u_T := fun k => match k with
  | 0 => ("RectangleTree$Changes", "tree", "LRectangleTree$Tree;", true)
  | 1 => ("RectangleTree$Changes", "kept", "[I", true)
  | 2 => ("RectangleTree$Changes", "keptCount", "I", false)
  | 3 => ("RectangleTree$Changes", "pool", "[I", true)
  | 4 => ("RectangleTree$Changes", "left", "I", false)
  | 5 => ("RectangleTree$Changes", "treatedLevels", "J", false)
  | 6 => ("RectangleTree$Changes", "looseBoxes", "LRectangleTree$Walk;", true)
  | _ => ("RectangleTree$Changes", "looseNodes", "LRectangleTree$Walk;", true)
def tyX0 : Nat → FieldType := fun k => match k with
  | 0 => .object "RectangleTree$Tree"
  | 1 => .array .int
  | 2 => .int
  | 3 => .array .int
  | 4 => .int
  | 5 => .long
  | 6 => .object "RectangleTree$Walk"
  | _ => .object "RectangleTree$Walk"
abbrev wsX00 : List Cond := u_ws RX0 TX0 8
theorem nmX0 : ∀ a, a < 8 → ∀ b, b < 8 → a ≠ b → (TX0 a).2.1 ≠ (TX0 b).2.1 := by decide +kernel
theorem tyX0_ok : ∀ k, k < 8 → parseFieldDescriptor (TX0 k).2.2.1 = some (tyX0 k) := by decide +kernel
abbrev cX0_init : ByteArray := prog_2_method_1_code
def yX0_init : MethodName := ⟨RX0, "<init>", "(LRectangleTree$Tree;)V"⟩
abbrev cX0_insertOwn : ByteArray := prog_2_method_2_code
def yX0_insertOwn : MethodName := ⟨RX0, "insertOwn", "(I)V"⟩
abbrev cX0_targetFor : ByteArray := prog_2_method_3_code
def yX0_targetFor : MethodName := ⟨RX0, "targetFor", "(I)I"⟩
abbrev cX0_bestEntry : ByteArray := prog_2_method_4_code
def yX0_bestEntry : MethodName := ⟨RX0, "bestEntry", "(II)I"⟩
abbrev cX0_mayReinsert : ByteArray := prog_2_method_5_code
def yX0_mayReinsert : MethodName := ⟨RX0, "mayReinsert", "(I)Z"⟩
abbrev cX0_reinsertFarthest : ByteArray := prog_2_method_6_code
def yX0_reinsertFarthest : MethodName := ⟨RX0, "reinsertFarthest", "(I)I"⟩
abbrev cX0_farthestEntry : ByteArray := prog_2_method_7_code
def yX0_farthestEntry : MethodName := ⟨RX0, "farthestEntry", "(I)I"⟩
abbrev cX0_splitNode : ByteArray := prog_2_method_8_code
def yX0_splitNode : MethodName := ⟨RX0, "splitNode", "(I)I"⟩
abbrev cX0_fillPool : ByteArray := prog_2_method_9_code
def yX0_fillPool : MethodName := ⟨RX0, "fillPool", "(I)V"⟩
abbrev cX0_findSeeds : ByteArray := prog_2_method_10_code
def yX0_findSeeds : MethodName := ⟨RX0, "findSeeds", "()I"⟩
abbrev cX0_mostDecided : ByteArray := prog_2_method_11_code
def yX0_mostDecided : MethodName := ⟨RX0, "mostDecided", "(II)I"⟩
abbrev cX0_betterGroup : ByteArray := prog_2_method_12_code
def yX0_betterGroup : MethodName := ⟨RX0, "betterGroup", "(III)I"⟩
abbrev cX0_giveTo : ByteArray := prog_2_method_13_code
def yX0_giveTo : MethodName := ⟨RX0, "giveTo", "(II)V"⟩
abbrev cX0_giveAllTo : ByteArray := prog_2_method_14_code
def yX0_giveAllTo : MethodName := ⟨RX0, "giveAllTo", "(I)V"⟩
abbrev cX0_takeOutBox : ByteArray := prog_2_method_15_code
def yX0_takeOutBox : MethodName := ⟨RX0, "takeOutBox", "(I)V"⟩
abbrev cX0_keepEntriesOf : ByteArray := prog_2_method_16_code
def yX0_keepEntriesOf : MethodName := ⟨RX0, "keepEntriesOf", "(I)V"⟩
abbrev cX0_putBackKept : ByteArray := prog_2_method_17_code
def yX0_putBackKept : MethodName := ⟨RX0, "putBackKept", "()V"⟩
abbrev cX0_dissolve : ByteArray := prog_2_method_18_code
def yX0_dissolve : MethodName := ⟨RX0, "dissolve", "(I)V"⟩
def RX1 : String := "RectangleTree$History"
def TX1 : u_T := fun k => match k with
  | 0 => ("RectangleTree$History", "states", "[LRectangleTree$Tree;", true)
  | _ => ("RectangleTree$History", "count", "I", false)
def tyX1 : Nat → FieldType := fun k => match k with
  | 0 => .array (.object "RectangleTree$Tree")
  | _ => .int
abbrev wsX10 : List Cond := u_ws RX1 TX1 2
theorem nmX1 : ∀ a, a < 2 → ∀ b, b < 2 → a ≠ b → (TX1 a).2.1 ≠ (TX1 b).2.1 := by decide +kernel
theorem tyX1_ok : ∀ k, k < 2 → parseFieldDescriptor (TX1 k).2.2.1 = some (tyX1 k) := by decide +kernel
abbrev cX1_init : ByteArray := prog_3_method_1_code
def yX1_init : MethodName := ⟨RX1, "<init>", "()V"⟩
abbrev cX1_record : ByteArray := prog_3_method_2_code
def yX1_record : MethodName := ⟨RX1, "record", "(LRectangleTree$Tree;)V"⟩
abbrev cX1_dropOldest : ByteArray := prog_3_method_3_code
def yX1_dropOldest : MethodName := ⟨RX1, "dropOldest", "()V"⟩
abbrev cX1_takeBack : ByteArray := prog_3_method_4_code
def yX1_takeBack : MethodName := ⟨RX1, "takeBack", "(LRectangleTree$Tree;)V"⟩
def RX2 : String := "RectangleTree$Packing"
def TX2 : u_T := fun k => match k with
  | 0 => ("RectangleTree$Packing", "tree", "LRectangleTree$Tree;", true)
  | _ => ("RectangleTree$Packing", "row", "[I", true)
def tyX2 : Nat → FieldType := fun k => match k with
  | 0 => .object "RectangleTree$Tree"
  | _ => .array .int
abbrev wsX20 : List Cond := u_ws RX2 TX2 2
theorem nmX2 : ∀ a, a < 2 → ∀ b, b < 2 → a ≠ b → (TX2 a).2.1 ≠ (TX2 b).2.1 := by decide +kernel
theorem tyX2_ok : ∀ k, k < 2 → parseFieldDescriptor (TX2 k).2.2.1 = some (tyX2 k) := by decide +kernel
abbrev cX2_init : ByteArray := prog_4_method_1_code
def yX2_init : MethodName := ⟨RX2, "<init>", "(LRectangleTree$Tree;)V"⟩
abbrev cX2_rebuild : ByteArray := prog_4_method_2_code
def yX2_rebuild : MethodName := ⟨RX2, "rebuild", "()V"⟩
abbrev cX2_listBoxes : ByteArray := prog_4_method_3_code
def yX2_listBoxes : MethodName := ⟨RX2, "listBoxes", "()I"⟩
abbrev cX2_leastRoot : ByteArray := prog_4_method_4_code
def yX2_leastRoot : MethodName := ⟨RX2, "leastRoot", "(I)I"⟩
abbrev cX2_sortPart : ByteArray := prog_4_method_5_code
def yX2_sortPart : MethodName := ⟨RX2, "sortPart", "(III)V"⟩
abbrev cX2_comesAhead : ByteArray := prog_4_method_6_code
def yX2_comesAhead : MethodName := ⟨RX2, "comesAhead", "(III)Z"⟩
abbrev cX2_groupRow : ByteArray := prog_4_method_7_code
def yX2_groupRow : MethodName := ⟨RX2, "groupRow", "(II)I"⟩
def RX3 : String := "RectangleTree$RectangleText"
def TX3 : u_T := fun k => match k with
  | 0 => ("RectangleTree$RectangleText", "characters", "[I", true)
  | 1 => ("RectangleTree$RectangleText", "length", "I", false)
  | 2 => ("RectangleTree$RectangleText", "parts", "[I", true)
  | 3 => ("RectangleTree$RectangleText", "rectangles", "I", false)
  | 4 => ("RectangleTree$RectangleText", "part", "I", false)
  | 5 => ("RectangleTree$RectangleText", "digits", "I", false)
  | _ => ("RectangleTree$RectangleText", "value", "I", false)
def tyX3 : Nat → FieldType := fun k => match k with
  | 0 => .array .int
  | 1 => .int
  | 2 => .array .int
  | 3 => .int
  | 4 => .int
  | 5 => .int
  | _ => .int
abbrev wsX30 : List Cond := u_ws RX3 TX3 7
theorem nmX3 : ∀ a, a < 7 → ∀ b, b < 7 → a ≠ b → (TX3 a).2.1 ≠ (TX3 b).2.1 := by decide +kernel
theorem tyX3_ok : ∀ k, k < 7 → parseFieldDescriptor (TX3 k).2.2.1 = some (tyX3 k) := by decide +kernel
abbrev cX3_init : ByteArray := prog_5_method_1_code
def yX3_init : MethodName := ⟨RX3, "<init>", "()V"⟩
abbrev cX3_isFull : ByteArray := prog_5_method_2_code
def yX3_isFull : MethodName := ⟨RX3, "isFull", "()Z"⟩
abbrev cX3_addLast : ByteArray := prog_5_method_3_code
def yX3_addLast : MethodName := ⟨RX3, "addLast", "(I)I"⟩
abbrev cX3_makeEmpty : ByteArray := prog_5_method_4_code
def yX3_makeEmpty : MethodName := ⟨RX3, "makeEmpty", "()I"⟩
abbrev cX3_partOf : ByteArray := prog_5_method_5_code
def yX3_partOf : MethodName := ⟨RX3, "partOf", "(II)I"⟩
abbrev cX3_findFault : ByteArray := prog_5_method_6_code
def yX3_findFault : MethodName := ⟨RX3, "findFault", "()I"⟩
abbrev cX3_takeDigit : ByteArray := prog_5_method_7_code
def yX3_takeDigit : MethodName := ⟨RX3, "takeDigit", "(I)Z"⟩
abbrev cX3_takeSign : ByteArray := prog_5_method_8_code
def yX3_takeSign : MethodName := ⟨RX3, "takeSign", "(I)Z"⟩
abbrev cX3_leastNumber : ByteArray := prog_5_method_9_code
def yX3_leastNumber : MethodName := ⟨RX3, "leastNumber", "()I"⟩
def RX4 : String := "RectangleTree$Tree"
def TX4 : u_T := fun k => match k with
  | 0 => ("RectangleTree$Tree", "levels", "[I", false)
  | 1 => ("RectangleTree$Tree", "holders", "[I", false)
  | 2 => ("RectangleTree$Tree", "sizes", "[I", false)
  | 3 => ("RectangleTree$Tree", "corners", "[I", false)
  | 4 => ("RectangleTree$Tree", "lists", "[I", false)
  | 5 => ("RectangleTree$Tree", "root", "I", false)
  | 6 => ("RectangleTree$Tree", "capacity", "I", false)
  | 7 => ("RectangleTree$Tree", "reinsert", "I", false)
  | 8 => ("RectangleTree$Tree", "splitCount", "I", false)
  | _ => ("RectangleTree$Tree", "reinsertionCount", "I", false)
def tyX4 : Nat → FieldType := fun k => match k with
  | 0 => .array .int
  | 1 => .array .int
  | 2 => .array .int
  | 3 => .array .int
  | 4 => .array .int
  | 5 => .int
  | 6 => .int
  | 7 => .int
  | 8 => .int
  | _ => .int
abbrev wsX40 : List Cond := u_ws RX4 TX4 10
theorem nmX4 : ∀ a, a < 10 → ∀ b, b < 10 → a ≠ b → (TX4 a).2.1 ≠ (TX4 b).2.1 := by decide +kernel
theorem tyX4_ok : ∀ k, k < 10 → parseFieldDescriptor (TX4 k).2.2.1 = some (tyX4 k) := by decide +kernel
abbrev cX4_init : ByteArray := prog_6_method_1_code
def yX4_init : MethodName := ⟨RX4, "<init>", "()V"⟩
abbrev cX4_copyFrom : ByteArray := prog_6_method_2_code
def yX4_copyFrom : MethodName := ⟨RX4, "copyFrom", "(LRectangleTree$Tree;)V"⟩
abbrev cX4_copyRow : ByteArray := prog_6_method_3_code
def yX4_copyRow : MethodName := ⟨RX4, "copyRow", "([I[I)V"⟩
abbrev cX4_room : ByteArray := prog_6_method_4_code
def yX4_room : MethodName := ⟨RX4, "room", "()I"⟩
abbrev cX4_makeRoom : ByteArray := prog_6_method_5_code
def yX4_makeRoom : MethodName := ⟨RX4, "makeRoom", "(I)V"⟩
abbrev cX4_levelOf : ByteArray := prog_6_method_6_code
def yX4_levelOf : MethodName := ⟨RX4, "levelOf", "(I)I"⟩
abbrev cX4_holderOf : ByteArray := prog_6_method_7_code
def yX4_holderOf : MethodName := ⟨RX4, "holderOf", "(I)I"⟩
abbrev cX4_sizeOf : ByteArray := prog_6_method_8_code
def yX4_sizeOf : MethodName := ⟨RX4, "sizeOf", "(I)I"⟩
abbrev cX4_entryAt : ByteArray := prog_6_method_9_code
def yX4_entryAt : MethodName := ⟨RX4, "entryAt", "(II)I"⟩
abbrev cX4_corner : ByteArray := prog_6_method_10_code
def yX4_corner : MethodName := ⟨RX4, "corner", "(II)I"⟩
abbrev cX4_least : ByteArray := prog_6_method_11_code
def yX4_least : MethodName := ⟨RX4, "least", "()I"⟩
abbrev cX4_isNode : ByteArray := prog_6_method_12_code
def yX4_isNode : MethodName := ⟨RX4, "isNode", "(I)Z"⟩
abbrev cX4_hasBox : ByteArray := prog_6_method_13_code
def yX4_hasBox : MethodName := ⟨RX4, "hasBox", "(I)Z"⟩
abbrev cX4_countBoxes : ByteArray := prog_6_method_14_code
def yX4_countBoxes : MethodName := ⟨RX4, "countBoxes", "()I"⟩
abbrev cX4_newBox : ByteArray := prog_6_method_15_code
def yX4_newBox : MethodName := ⟨RX4, "newBox", "(IIII)I"⟩
abbrev cX4_newNode : ByteArray := prog_6_method_16_code
def yX4_newNode : MethodName := ⟨RX4, "newNode", "(I)I"⟩
abbrev cX4_firstFree : ByteArray := prog_6_method_17_code
def yX4_firstFree : MethodName := ⟨RX4, "firstFree", "(II)I"⟩
abbrev cX4_take : ByteArray := prog_6_method_18_code
def yX4_take : MethodName := ⟨RX4, "take", "(II)V"⟩
abbrev cX4_release : ByteArray := prog_6_method_19_code
def yX4_release : MethodName := ⟨RX4, "release", "(I)V"⟩
abbrev cX4_setLoose : ByteArray := prog_6_method_20_code
def yX4_setLoose : MethodName := ⟨RX4, "setLoose", "(I)V"⟩
abbrev cX4_makeListEmpty : ByteArray := prog_6_method_21_code
def yX4_makeListEmpty : MethodName := ⟨RX4, "makeListEmpty", "(I)V"⟩
abbrev cX4_releaseNodes : ByteArray := prog_6_method_22_code
def yX4_releaseNodes : MethodName := ⟨RX4, "releaseNodes", "()V"⟩
abbrev cX4_addBehind : ByteArray := prog_6_method_23_code
def yX4_addBehind : MethodName := ⟨RX4, "addBehind", "(III)V"⟩
abbrev cX4_addAt : ByteArray := prog_6_method_24_code
def yX4_addAt : MethodName := ⟨RX4, "addAt", "(III)V"⟩
abbrev cX4_placeOf : ByteArray := prog_6_method_25_code
def yX4_placeOf : MethodName := ⟨RX4, "placeOf", "(II)I"⟩
abbrev cX4_takeOut : ByteArray := prog_6_method_26_code
def yX4_takeOut : MethodName := ⟨RX4, "takeOut", "(I)V"⟩
abbrev cX4_refreshUp : ByteArray := prog_6_method_27_code
def yX4_refreshUp : MethodName := ⟨RX4, "refreshUp", "(I)V"⟩
abbrev cX4_setCorners : ByteArray := prog_6_method_28_code
def yX4_setCorners : MethodName := ⟨RX4, "setCorners", "(IIIII)V"⟩
abbrev cX4_raiseRoot : ByteArray := prog_6_method_29_code
def yX4_raiseRoot : MethodName := ⟨RX4, "raiseRoot", "()I"⟩
abbrev cX4_lowerRoot : ByteArray := prog_6_method_30_code
def yX4_lowerRoot : MethodName := ⟨RX4, "lowerRoot", "()V"⟩
abbrev cX4_areaOf : ByteArray := prog_6_method_31_code
def yX4_areaOf : MethodName := ⟨RX4, "areaOf", "(I)I"⟩
abbrev cX4_unionArea : ByteArray := prog_6_method_32_code
def yX4_unionArea : MethodName := ⟨RX4, "unionArea", "(II)I"⟩
abbrev cX4_commonArea : ByteArray := prog_6_method_33_code
def yX4_commonArea : MethodName := ⟨RX4, "commonArea", "(II)I"⟩
abbrev cX4_enlargement : ByteArray := prog_6_method_34_code
def yX4_enlargement : MethodName := ⟨RX4, "enlargement", "(II)I"⟩
abbrev cX4_doubleCenter : ByteArray := prog_6_method_35_code
def yX4_doubleCenter : MethodName := ⟨RX4, "doubleCenter", "(II)I"⟩
abbrev cX4_centerDistance : ByteArray := prog_6_method_36_code
def yX4_centerDistance : MethodName := ⟨RX4, "centerDistance", "(II)I"⟩
abbrev cX4_meetsWindow : ByteArray := prog_6_method_37_code
def yX4_meetsWindow : MethodName := ⟨RX4, "meetsWindow", "(IIIII)Z"⟩
abbrev cX4_liesInWindow : ByteArray := prog_6_method_38_code
def yX4_liesInWindow : MethodName := ⟨RX4, "liesInWindow", "(IIIII)Z"⟩
abbrev cX4_squareDistance : ByteArray := prog_6_method_39_code
def yX4_squareDistance : MethodName := ⟨RX4, "squareDistance", "(III)I"⟩
def RX5 : String := "RectangleTree$Walk"
def TX5 : u_T := fun k => match k with
  | 0 => ("RectangleTree$Walk", "items", "[I", false)
  | 1 => ("RectangleTree$Walk", "count", "I", false)
  | _ => ("RectangleTree$Walk", "pending", "[I", false)
def tyX5 : Nat → FieldType := fun k => match k with
  | 0 => .array .int
  | 1 => .int
  | _ => .array .int
abbrev wsX50 : List Cond := u_ws RX5 TX5 3
theorem nmX5 : ∀ a, a < 3 → ∀ b, b < 3 → a ≠ b → (TX5 a).2.1 ≠ (TX5 b).2.1 := by decide +kernel
theorem tyX5_ok : ∀ k, k < 3 → parseFieldDescriptor (TX5 k).2.2.1 = some (tyX5 k) := by decide +kernel
abbrev cX5_init : ByteArray := prog_7_method_1_code
def yX5_init : MethodName := ⟨RX5, "<init>", "()V"⟩
abbrev cX5_gather : ByteArray := prog_7_method_2_code
def yX5_gather : MethodName := ⟨RX5, "gather", "(LRectangleTree$Tree;IZ)V"⟩
abbrev cX5_placeOf : ByteArray := prog_7_method_3_code
def yX5_placeOf : MethodName := ⟨RX5, "placeOf", "(I)I"⟩
abbrev cX5_makeRoom : ByteArray := prog_7_method_4_code
def yX5_makeRoom : MethodName := ⟨RX5, "makeRoom", "(I)V"⟩
def RX6 : String := "RectangleTree"
def TX6 : u_T := fun k => match k with
  | 0 => ("RectangleTree", "tree", "LRectangleTree$Tree;", true)
  | 1 => ("RectangleTree", "changes", "LRectangleTree$Changes;", true)
  | 2 => ("RectangleTree", "packing", "LRectangleTree$Packing;", true)
  | 3 => ("RectangleTree", "numbering", "LRectangleTree$Walk;", true)
  | 4 => ("RectangleTree", "text", "LRectangleTree$RectangleText;", true)
  | 5 => ("RectangleTree", "history", "LRectangleTree$History;", true)
  | 6 => ("RectangleTree", "snapshot", "LRectangleTree$Tree;", true)
  | _ => ("RectangleTree", "hasSnapshot", "Z", false)
def tyX6 : Nat → FieldType := fun k => match k with
  | 0 => .object "RectangleTree$Tree"
  | 1 => .object "RectangleTree$Changes"
  | 2 => .object "RectangleTree$Packing"
  | 3 => .object "RectangleTree$Walk"
  | 4 => .object "RectangleTree$RectangleText"
  | 5 => .object "RectangleTree$History"
  | 6 => .object "RectangleTree$Tree"
  | _ => .boolean
abbrev wsX60 : List Cond := u_ws RX6 TX6 8
theorem nmX6 : ∀ a, a < 8 → ∀ b, b < 8 → a ≠ b → (TX6 a).2.1 ≠ (TX6 b).2.1 := by decide +kernel
theorem tyX6_ok : ∀ k, k < 8 → parseFieldDescriptor (TX6 k).2.2.1 = some (tyX6 k) := by decide +kernel
abbrev cX6_init : ByteArray := prog_1_method_1_code
def yX6_init : MethodName := ⟨RX6, "<init>", "()V"⟩
abbrev cX6_insert : ByteArray := prog_1_method_2_code
def yX6_insert : MethodName := ⟨RX6, "insert", "(IIII)I"⟩
abbrev cX6_remove : ByteArray := prog_1_method_3_code
def yX6_remove : MethodName := ⟨RX6, "remove", "(I)I"⟩
abbrev cX6_pack : ByteArray := prog_1_method_4_code
def yX6_pack : MethodName := ⟨RX6, "pack", "()I"⟩
abbrev cX6_setSetting : ByteArray := prog_1_method_5_code
def yX6_setSetting : MethodName := ⟨RX6, "setSetting", "(II)I"⟩
abbrev cX6_append : ByteArray := prog_1_method_6_code
def yX6_append : MethodName := ⟨RX6, "append", "(I)I"⟩
abbrev cX6_clearText : ByteArray := prog_1_method_7_code
def yX6_clearText : MethodName := ⟨RX6, "clearText", "()I"⟩
abbrev cX6_fault : ByteArray := prog_1_method_8_code
def yX6_fault : MethodName := ⟨RX6, "fault", "()I"⟩
abbrev cX6_read : ByteArray := prog_1_method_9_code
def yX6_read : MethodName := ⟨RX6, "read", "()I"⟩
abbrev cX6_undo : ByteArray := prog_1_method_10_code
def yX6_undo : MethodName := ⟨RX6, "undo", "()I"⟩
abbrev cX6_save : ByteArray := prog_1_method_11_code
def yX6_save : MethodName := ⟨RX6, "save", "()I"⟩
abbrev cX6_restore : ByteArray := prog_1_method_12_code
def yX6_restore : MethodName := ⟨RX6, "restore", "()I"⟩
abbrev cX6_boxes : ByteArray := prog_1_method_13_code
def yX6_boxes : MethodName := ⟨RX6, "boxes", "()I"⟩
abbrev cX6_side : ByteArray := prog_1_method_14_code
def yX6_side : MethodName := ⟨RX6, "side", "(II)I"⟩
abbrev cX6_nodes : ByteArray := prog_1_method_15_code
def yX6_nodes : MethodName := ⟨RX6, "nodes", "()I"⟩
abbrev cX6_height : ByteArray := prog_1_method_16_code
def yX6_height : MethodName := ⟨RX6, "height", "()I"⟩
abbrev cX6_level : ByteArray := prog_1_method_17_code
def yX6_level : MethodName := ⟨RX6, "level", "(I)I"⟩
abbrev cX6_entries : ByteArray := prog_1_method_18_code
def yX6_entries : MethodName := ⟨RX6, "entries", "(I)I"⟩
abbrev cX6_entry : ByteArray := prog_1_method_19_code
def yX6_entry : MethodName := ⟨RX6, "entry", "(II)I"⟩
abbrev cX6_bound : ByteArray := prog_1_method_20_code
def yX6_bound : MethodName := ⟨RX6, "bound", "(II)I"⟩
abbrev cX6_leafOf : ByteArray := prog_1_method_21_code
def yX6_leafOf : MethodName := ⟨RX6, "leafOf", "(I)I"⟩
abbrev cX6_setting : ByteArray := prog_1_method_22_code
def yX6_setting : MethodName := ⟨RX6, "setting", "(I)I"⟩
abbrev cX6_splits : ByteArray := prog_1_method_23_code
def yX6_splits : MethodName := ⟨RX6, "splits", "()I"⟩
abbrev cX6_reinsertions : ByteArray := prog_1_method_24_code
def yX6_reinsertions : MethodName := ⟨RX6, "reinsertions", "()I"⟩
abbrev cX6_meeting : ByteArray := prog_1_method_25_code
def yX6_meeting : MethodName := ⟨RX6, "meeting", "(IIII)I"⟩
abbrev cX6_inside : ByteArray := prog_1_method_26_code
def yX6_inside : MethodName := ⟨RX6, "inside", "(IIII)I"⟩
abbrev cX6_visits : ByteArray := prog_1_method_27_code
def yX6_visits : MethodName := ⟨RX6, "visits", "(IIII)I"⟩
abbrev cX6_nearest : ByteArray := prog_1_method_28_code
def yX6_nearest : MethodName := ⟨RX6, "nearest", "(II)I"⟩
abbrev cX6_area : ByteArray := prog_1_method_29_code
def yX6_area : MethodName := ⟨RX6, "area", "(I)I"⟩
abbrev cX6_overlap : ByteArray := prog_1_method_30_code
def yX6_overlap : MethodName := ⟨RX6, "overlap", "(I)I"⟩
abbrev cX6_fill : ByteArray := prog_1_method_31_code
def yX6_fill : MethodName := ⟨RX6, "fill", "()F"⟩
abbrev cX6_overlapWithEarlier : ByteArray := prog_1_method_32_code
def yX6_overlapWithEarlier : MethodName := ⟨RX6, "overlapWithEarlier", "(II)I"⟩
abbrev cX6_numberNodes : ByteArray := prog_1_method_33_code
def yX6_numberNodes : MethodName := ⟨RX6, "numberNodes", "()V"⟩
abbrev cX6_hasNode : ByteArray := prog_1_method_34_code
def yX6_hasNode : MethodName := ⟨RX6, "hasNode", "(I)Z"⟩
abbrev cX6_nodeAt : ByteArray := prog_1_method_35_code
def yX6_nodeAt : MethodName := ⟨RX6, "nodeAt", "(I)I"⟩
abbrev cX6_isRectangle : ByteArray := prog_1_method_36_code
def yX6_isRectangle : MethodName := ⟨RX6, "isRectangle", "(IIII)Z"⟩
abbrev cX6_isSpan : ByteArray := prog_1_method_37_code
def yX6_isSpan : MethodName := ⟨RX6, "isSpan", "(II)Z"⟩
abbrev cX6_at : ByteArray := prog_1_method_38_code
def yX6_at : MethodName := ⟨RX6, "at", "([II)I"⟩
abbrev cX6_put : ByteArray := prog_1_method_39_code
def yX6_put : MethodName := ⟨RX6, "put", "([III)V"⟩
def RX7 : String := "RectangleTreeModel"
def TX7 : u_T := fun k => match k with
  | 0 => ("RectangleTreeModel", "s", "[I", true)
  | 1 => ("RectangleTreeModel", "past", "[I", true)
  | 2 => ("RectangleTreeModel", "kept", "[I", true)
  | 3 => ("RectangleTreeModel", "isKept", "Z", false)
  | 4 => ("RectangleTreeModel", "pasts", "I", false)
  | 5 => ("RectangleTreeModel", "text", "[I", true)
  | 6 => ("RectangleTreeModel", "typed", "I", false)
  | 7 => ("RectangleTreeModel", "rect", "[I", true)
  | 8 => ("RectangleTreeModel", "item", "[I", true)
  | 9 => ("RectangleTreeModel", "items", "I", false)
  | 10 => ("RectangleTreeModel", "itemLevel", "I", false)
  | 11 => ("RectangleTreeModel", "treated", "[Z", true)
  | 12 => ("RectangleTreeModel", "from", "[I", true)
  | 13 => ("RectangleTreeModel", "group", "[I", true)
  | 14 => ("RectangleTreeModel", "turn", "[I", true)
  | 15 => ("RectangleTreeModel", "size", "[I", true)
  | 16 => ("RectangleTreeModel", "old", "[I", true)
  | 17 => ("RectangleTreeModel", "aside", "[I", true)
  | 18 => ("RectangleTreeModel", "begin", "[I", true)
  | 19 => ("RectangleTreeModel", "level", "[I", true)
  | 20 => ("RectangleTreeModel", "asides", "I", false)
  | 21 => ("RectangleTreeModel", "sorted", "[I", true)
  | 22 => ("RectangleTreeModel", "spot", "I", false)
  | 23 => ("RectangleTreeModel", "rectangles", "I", false)
  | 24 => ("RectangleTreeModel", "parts", "[I", true)
  | _ => ("RectangleTreeModel", "visited", "[Z", true)
def tyX7 : Nat → FieldType := fun k => match k with
  | 0 => .array .int
  | 1 => .array .int
  | 2 => .array .int
  | 3 => .boolean
  | 4 => .int
  | 5 => .array .int
  | 6 => .int
  | 7 => .array .int
  | 8 => .array .int
  | 9 => .int
  | 10 => .int
  | 11 => .array .boolean
  | 12 => .array .int
  | 13 => .array .int
  | 14 => .array .int
  | 15 => .array .int
  | 16 => .array .int
  | 17 => .array .int
  | 18 => .array .int
  | 19 => .array .int
  | 20 => .int
  | 21 => .array .int
  | 22 => .int
  | 23 => .int
  | 24 => .array .int
  | _ => .array .boolean
abbrev wsX70 : List Cond := u_ws RX7 TX7 26
theorem nmX7 : ∀ a, a < 26 → ∀ b, b < 26 → a ≠ b → (TX7 a).2.1 ≠ (TX7 b).2.1 := by decide +kernel
theorem tyX7_ok : ∀ k, k < 26 → parseFieldDescriptor (TX7 k).2.2.1 = some (tyX7 k) := by decide +kernel
abbrev cX7_init : ByteArray := prog_9_method_1_code
def yX7_init : MethodName := ⟨RX7, "<init>", "()V"⟩
abbrev cX7_in : ByteArray := prog_9_method_3_code
def yX7_in : MethodName := ⟨RX7, "in", "(III)Z"⟩
abbrev cX7_records : ByteArray := prog_9_method_4_code
def yX7_records : MethodName := ⟨RX7, "records", "()V"⟩
abbrev cX7_length : ByteArray := prog_9_method_5_code
def yX7_length : MethodName := ⟨RX7, "length", "()I"⟩
abbrev cX7_at : ByteArray := prog_9_method_6_code
def yX7_at : MethodName := ⟨RX7, "at", "(I)I"⟩
abbrev cX7_levelOf : ByteArray := prog_9_method_7_code
def yX7_levelOf : MethodName := ⟨RX7, "levelOf", "(I)I"⟩
abbrev cX7_levelAt : ByteArray := prog_9_method_8_code
def yX7_levelAt : MethodName := ⟨RX7, "levelAt", "(I)I"⟩
abbrev cX7_endOf : ByteArray := prog_9_method_9_code
def yX7_endOf : MethodName := ⟨RX7, "endOf", "(I)I"⟩
abbrev cX7_above : ByteArray := prog_9_method_10_code
def yX7_above : MethodName := ⟨RX7, "above", "(I)I"⟩
abbrev cX7_entriesOf : ByteArray := prog_9_method_11_code
def yX7_entriesOf : MethodName := ⟨RX7, "entriesOf", "(I)I"⟩
abbrev cX7_nodesAhead : ByteArray := prog_9_method_12_code
def yX7_nodesAhead : MethodName := ⟨RX7, "nodesAhead", "(I)I"⟩
abbrev cX7_nodeAt : ByteArray := prog_9_method_13_code
def yX7_nodeAt : MethodName := ⟨RX7, "nodeAt", "(I)I"⟩
abbrev cX7_placeOf : ByteArray := prog_9_method_14_code
def yX7_placeOf : MethodName := ⟨RX7, "placeOf", "(I)I"⟩
abbrev cX7_cuts : ByteArray := prog_9_method_15_code
def yX7_cuts : MethodName := ⟨RX7, "cuts", "(II)V"⟩
abbrev cX7_opens : ByteArray := prog_9_method_16_code
def yX7_opens : MethodName := ⟨RX7, "opens", "(II)V"⟩
abbrev cX7_less : ByteArray := prog_9_method_17_code
def yX7_less : MethodName := ⟨RX7, "less", "(II)I"⟩
abbrev cX7_greater : ByteArray := prog_9_method_18_code
def yX7_greater : MethodName := ⟨RX7, "greater", "(II)I"⟩
abbrev cX7_unites : ByteArray := prog_9_method_19_code
def yX7_unites : MethodName := ⟨RX7, "unites", "(III)V"⟩
abbrev cX7_bounds : ByteArray := prog_9_method_20_code
def yX7_bounds : MethodName := ⟨RX7, "bounds", "([IIII)V"⟩
abbrev cX7_boundsAt : ByteArray := prog_9_method_21_code
def yX7_boundsAt : MethodName := ⟨RX7, "boundsAt", "(II)V"⟩
abbrev cX7_areaOf : ByteArray := prog_9_method_22_code
def yX7_areaOf : MethodName := ⟨RX7, "areaOf", "(I)I"⟩
abbrev cX7_enlargement : ByteArray := prog_9_method_23_code
def yX7_enlargement : MethodName := ⟨RX7, "enlargement", "(II)I"⟩
abbrev cX7_commonArea : ByteArray := prog_9_method_24_code
def yX7_commonArea : MethodName := ⟨RX7, "commonArea", "(II)I"⟩
abbrev cX7_centerDistance : ByteArray := prog_9_method_25_code
def yX7_centerDistance : MethodName := ⟨RX7, "centerDistance", "(II)I"⟩
abbrev cX7_takes : ByteArray := prog_9_method_26_code
def yX7_takes : MethodName := ⟨RX7, "takes", "([III)V"⟩
abbrev cX7_chosen : ByteArray := prog_9_method_27_code
def yX7_chosen : MethodName := ⟨RX7, "chosen", "()I"⟩
abbrev cX7_puts : ByteArray := prog_9_method_28_code
def yX7_puts : MethodName := ⟨RX7, "puts", "(I)V"⟩
abbrev cX7_takesFar : ByteArray := prog_9_method_29_code
def yX7_takesFar : MethodName := ⟨RX7, "takesFar", "(I)V"⟩
abbrev cX7_inserts : ByteArray := prog_9_method_30_code
def yX7_inserts : MethodName := ⟨RX7, "inserts", "()V"⟩
abbrev cX7_farthest : ByteArray := prog_9_method_31_code
def yX7_farthest : MethodName := ⟨RX7, "farthest", "(I)V"⟩
abbrev cX7_joins : ByteArray := prog_9_method_32_code
def yX7_joins : MethodName := ⟨RX7, "joins", "(II)V"⟩
abbrev cX7_preferred : ByteArray := prog_9_method_33_code
def yX7_preferred : MethodName := ⟨RX7, "preferred", "(I)I"⟩
abbrev cX7_nextEntry : ByteArray := prog_9_method_34_code
def yX7_nextEntry : MethodName := ⟨RX7, "nextEntry", "(I)I"⟩
abbrev cX7_groups : ByteArray := prog_9_method_35_code
def yX7_groups : MethodName := ⟨RX7, "groups", "(I)V"⟩
abbrev cX7_lays : ByteArray := prog_9_method_36_code
def yX7_lays : MethodName := ⟨RX7, "lays", "(IIII)I"⟩
abbrev cX7_divides : ByteArray := prog_9_method_37_code
def yX7_divides : MethodName := ⟨RX7, "divides", "(I)I"⟩
abbrev cX7_boxCount : ByteArray := prog_9_method_38_code
def yX7_boxCount : MethodName := ⟨RX7, "boxCount", "()I"⟩
abbrev cX7_isBox : ByteArray := prog_9_method_39_code
def yX7_isBox : MethodName := ⟨RX7, "isBox", "(I)Z"⟩
abbrev cX7_isRectangle : ByteArray := prog_9_method_40_code
def yX7_isRectangle : MethodName := ⟨RX7, "isRectangle", "(IIII)Z"⟩
abbrev cX7_adds : ByteArray := prog_9_method_41_code
def yX7_adds : MethodName := ⟨RX7, "adds", "(IIII)I"⟩
abbrev cX7_insert : ByteArray := prog_9_method_42_code
def yX7_insert : MethodName := ⟨RX7, "insert", "(IIII)I"⟩
abbrev cX7_keepsAside : ByteArray := prog_9_method_43_code
def yX7_keepsAside : MethodName := ⟨RX7, "keepsAside", "(I)V"⟩
abbrev cX7_shrinks : ByteArray := prog_9_method_44_code
def yX7_shrinks : MethodName := ⟨RX7, "shrinks", "()V"⟩
abbrev cX7_insertsAside : ByteArray := prog_9_method_45_code
def yX7_insertsAside : MethodName := ⟨RX7, "insertsAside", "(I)V"⟩
abbrev cX7_remove : ByteArray := prog_9_method_46_code
def yX7_remove : MethodName := ⟨RX7, "remove", "(I)I"⟩
abbrev cX7_key : ByteArray := prog_9_method_47_code
def yX7_key : MethodName := ⟨RX7, "key", "(II)I"⟩
abbrev cX7_sorts : ByteArray := prog_9_method_48_code
def yX7_sorts : MethodName := ⟨RX7, "sorts", "(III)V"⟩
abbrev cX7_appends : ByteArray := prog_9_method_49_code
def yX7_appends : MethodName := ⟨RX7, "appends", "(I)V"⟩
abbrev cX7_slice : ByteArray := prog_9_method_50_code
def yX7_slice : MethodName := ⟨RX7, "slice", "(I)I"⟩
abbrev cX7_packsLeaves : ByteArray := prog_9_method_51_code
def yX7_packsLeaves : MethodName := ⟨RX7, "packsLeaves", "(I)V"⟩
abbrev cX7_packsAbove : ByteArray := prog_9_method_52_code
def yX7_packsAbove : MethodName := ⟨RX7, "packsAbove", "(I)I"⟩
abbrev cX7_pack : ByteArray := prog_9_method_53_code
def yX7_pack : MethodName := ⟨RX7, "pack", "()I"⟩
abbrev cX7_setSetting : ByteArray := prog_9_method_54_code
def yX7_setSetting : MethodName := ⟨RX7, "setSetting", "(II)I"⟩
abbrev cX7_append : ByteArray := prog_9_method_55_code
def yX7_append : MethodName := ⟨RX7, "append", "(I)I"⟩
abbrev cX7_clearText : ByteArray := prog_9_method_56_code
def yX7_clearText : MethodName := ⟨RX7, "clearText", "()I"⟩
abbrev cX7_isDigit : ByteArray := prog_9_method_57_code
def yX7_isDigit : MethodName := ⟨RX7, "isDigit", "()Z"⟩
abbrev cX7_reads : ByteArray := prog_9_method_58_code
def yX7_reads : MethodName := ⟨RX7, "reads", "(II)Z"⟩
abbrev cX7_readsRectangle : ByteArray := prog_9_method_59_code
def yX7_readsRectangle : MethodName := ⟨RX7, "readsRectangle", "()Z"⟩
abbrev cX7_isList : ByteArray := prog_9_method_60_code
def yX7_isList : MethodName := ⟨RX7, "isList", "()Z"⟩
abbrev cX7_fault : ByteArray := prog_9_method_61_code
def yX7_fault : MethodName := ⟨RX7, "fault", "()I"⟩
abbrev cX7_read : ByteArray := prog_9_method_62_code
def yX7_read : MethodName := ⟨RX7, "read", "()I"⟩
abbrev cX7_undo : ByteArray := prog_9_method_63_code
def yX7_undo : MethodName := ⟨RX7, "undo", "()I"⟩
abbrev cX7_save : ByteArray := prog_9_method_64_code
def yX7_save : MethodName := ⟨RX7, "save", "()I"⟩
abbrev cX7_restore : ByteArray := prog_9_method_65_code
def yX7_restore : MethodName := ⟨RX7, "restore", "()I"⟩
abbrev cX7_boxes : ByteArray := prog_9_method_66_code
def yX7_boxes : MethodName := ⟨RX7, "boxes", "()I"⟩
abbrev cX7_side : ByteArray := prog_9_method_67_code
def yX7_side : MethodName := ⟨RX7, "side", "(II)I"⟩
abbrev cX7_nodes : ByteArray := prog_9_method_68_code
def yX7_nodes : MethodName := ⟨RX7, "nodes", "()I"⟩
abbrev cX7_height : ByteArray := prog_9_method_69_code
def yX7_height : MethodName := ⟨RX7, "height", "()I"⟩
abbrev cX7_level : ByteArray := prog_9_method_70_code
def yX7_level : MethodName := ⟨RX7, "level", "(I)I"⟩
abbrev cX7_entries : ByteArray := prog_9_method_71_code
def yX7_entries : MethodName := ⟨RX7, "entries", "(I)I"⟩
abbrev cX7_entry : ByteArray := prog_9_method_72_code
def yX7_entry : MethodName := ⟨RX7, "entry", "(II)I"⟩
abbrev cX7_bound : ByteArray := prog_9_method_73_code
def yX7_bound : MethodName := ⟨RX7, "bound", "(II)I"⟩
abbrev cX7_leafOf : ByteArray := prog_9_method_74_code
def yX7_leafOf : MethodName := ⟨RX7, "leafOf", "(I)I"⟩
abbrev cX7_setting : ByteArray := prog_9_method_75_code
def yX7_setting : MethodName := ⟨RX7, "setting", "(I)I"⟩
abbrev cX7_splits : ByteArray := prog_9_method_76_code
def yX7_splits : MethodName := ⟨RX7, "splits", "()I"⟩
abbrev cX7_reinsertions : ByteArray := prog_9_method_77_code
def yX7_reinsertions : MethodName := ⟨RX7, "reinsertions", "()I"⟩
abbrev cX7_frames : ByteArray := prog_9_method_78_code
def yX7_frames : MethodName := ⟨RX7, "frames", "(IIII)V"⟩
abbrev cX7_meets : ByteArray := prog_9_method_79_code
def yX7_meets : MethodName := ⟨RX7, "meets", "(I)Z"⟩
abbrev cX7_meeting : ByteArray := prog_9_method_80_code
def yX7_meeting : MethodName := ⟨RX7, "meeting", "(IIII)I"⟩
abbrev cX7_inside : ByteArray := prog_9_method_81_code
def yX7_inside : MethodName := ⟨RX7, "inside", "(IIII)I"⟩
abbrev cX7_visits : ByteArray := prog_9_method_82_code
def yX7_visits : MethodName := ⟨RX7, "visits", "(IIII)I"⟩
abbrev cX7_off : ByteArray := prog_9_method_83_code
def yX7_off : MethodName := ⟨RX7, "off", "(III)I"⟩
abbrev cX7_nearest : ByteArray := prog_9_method_84_code
def yX7_nearest : MethodName := ⟨RX7, "nearest", "(II)I"⟩
abbrev cX7_area : ByteArray := prog_9_method_85_code
def yX7_area : MethodName := ⟨RX7, "area", "(I)I"⟩
abbrev cX7_overlap : ByteArray := prog_9_method_86_code
def yX7_overlap : MethodName := ⟨RX7, "overlap", "(I)I"⟩
abbrev cX7_fill : ByteArray := prog_9_method_87_code
def yX7_fill : MethodName := ⟨RX7, "fill", "()F"⟩
def RJx8e188 : String := "java/lang/Cloneable"
def TJx8e188 : u_T := fun k => match k with
  | _ => ("", "", "", false)
def tyJx8e188 : Nat → FieldType := fun k => match k with
  | _ => .int
abbrev wsJx8e1880 : List Cond := u_ws RJx8e188 TJx8e188 0
theorem nmJx8e188 : ∀ a, a < 0 → ∀ b, b < 0 → a ≠ b → (TJx8e188 a).2.1 ≠ (TJx8e188 b).2.1 := by decide +kernel
theorem tyJx8e188_ok : ∀ k, k < 0 → parseFieldDescriptor (TJx8e188 k).2.2.1 = some (tyJx8e188 k) := by decide +kernel
def RJ9 : String := "java/lang/Math"
def TJ9 : u_T := fun k => match k with
  | _ => ("", "", "", false)
def tyJ9 : Nat → FieldType := fun k => match k with
  | _ => .int
abbrev wsJ90 : List Cond := u_ws RJ9 TJ9 0
theorem nmJ9 : ∀ a, a < 0 → ∀ b, b < 0 → a ≠ b → (TJ9 a).2.1 ≠ (TJ9 b).2.1 := by decide +kernel
theorem tyJ9_ok : ∀ k, k < 0 → parseFieldDescriptor (TJ9 k).2.2.1 = some (tyJ9 k) := by decide +kernel
abbrev cJ9_abs_0f7a4 : ByteArray := prog_11_method_59_code
def yJ9_abs_0f7a4 : MethodName := ⟨RJ9, "abs", "(I)I"⟩
abbrev cJ9_max_7cf53 : ByteArray := prog_11_method_65_code
def yJ9_max_7cf53 : MethodName := ⟨RJ9, "max", "(II)I"⟩
abbrev cJ9_min_7cf53 : ByteArray := prog_11_method_69_code
def yJ9_min_7cf53 : MethodName := ⟨RJ9, "min", "(II)I"⟩
def RJ10 : String := "java/lang/System"
def TJ10 : u_T := fun k => match k with
  | _ => ("", "", "", false)
def tyJ10 : Nat → FieldType := fun k => match k with
  | _ => .int
abbrev wsJ100 : List Cond := u_ws RJ10 TJ10 0
theorem nmJ10 : ∀ a, a < 0 → ∀ b, b < 0 → a ≠ b → (TJ10 a).2.1 ≠ (TJ10 b).2.1 := by decide +kernel
theorem tyJ10_ok : ∀ k, k < 0 → parseFieldDescriptor (TJ10 k).2.2.1 = some (tyJ10 k) := by decide +kernel
def RJ7 : String := "java/util/Arrays"
def TJ7 : u_T := fun k => match k with
  | _ => ("", "", "", false)
def tyJ7 : Nat → FieldType := fun k => match k with
  | _ => .int
abbrev wsJ70 : List Cond := u_ws RJ7 TJ7 0
theorem nmJ7 : ∀ a, a < 0 → ∀ b, b < 0 → a ≠ b → (TJ7 a).2.1 ≠ (TJ7 b).2.1 := by decide +kernel
theorem tyJ7_ok : ∀ k, k < 0 → parseFieldDescriptor (TJ7 k).2.2.1 = some (tyJ7 k) := by decide +kernel
abbrev cJ7_fill_53178 : ByteArray := prog_13_method_103_code
def yJ7_fill_53178 : MethodName := ⟨RJ7, "fill", "([II)V"⟩
abbrev cJ7_copyOf_59c91 : ByteArray := prog_13_method_123_code
def yJ7_copyOf_59c91 : MethodName := ⟨RJ7, "copyOf", "([II)[I"⟩
def RL : String := "RectangleTreeLaw"
abbrev cL_law : ByteArray := code
def yL_law : MethodName := ⟨RL, "law", "([I)Z"⟩
abbrev vwCl : List vw_C := [(RX0, TX0, 8), (RX1, TX1, 2), (RX2, TX2, 2), (RX3, TX3, 7), (RX4, TX4, 10), (RX5, TX5, 3), (RX6, TX6, 8), (RX7, TX7, 26)]
end
section
theorem dX0_init_0 : decode cX0_init 0 = .ok (.aload_n 0, 1) := by decide +kernel
theorem dX0_init_1 : decode cX0_init 1 = .ok (.invokespecial 3, 3) := by decide +kernel
theorem dX0_init_4 : decode cX0_init 4 = .ok (.aload_n 0, 1) := by decide +kernel
theorem dX0_init_5 : decode cX0_init 5 = .ok (.bipush 24, 2) := by decide +kernel
theorem dX0_init_7 : decode cX0_init 7 = .ok (.newarray .int, 2) := by decide +kernel
theorem dX0_init_9 : decode cX0_init 9 = .ok (.putfield 9, 3) := by decide +kernel
theorem dX0_init_12 : decode cX0_init 12 = .ok (.aload_n 0, 1) := by decide +kernel
theorem dX0_init_13 : decode cX0_init 13 = .ok (.iconst 0, 1) := by decide +kernel
theorem dX0_init_14 : decode cX0_init 14 = .ok (.putfield 15, 3) := by decide +kernel
theorem dX0_init_17 : decode cX0_init 17 = .ok (.aload_n 0, 1) := by decide +kernel
theorem dX0_init_18 : decode cX0_init 18 = .ok (.bipush 6, 2) := by decide +kernel
theorem dX0_init_20 : decode cX0_init 20 = .ok (.newarray .int, 2) := by decide +kernel
theorem dX0_init_22 : decode cX0_init 22 = .ok (.putfield 19, 3) := by decide +kernel
theorem dX0_init_25 : decode cX0_init 25 = .ok (.aload_n 0, 1) := by decide +kernel
theorem dX0_init_26 : decode cX0_init 26 = .ok (.iconst 0, 1) := by decide +kernel
theorem dX0_init_27 : decode cX0_init 27 = .ok (.putfield 22, 3) := by decide +kernel
theorem dX0_init_30 : decode cX0_init 30 = .ok (.aload_n 0, 1) := by decide +kernel
theorem dX0_init_31 : decode cX0_init 31 = .ok (.lconst 0, 1) := by decide +kernel
theorem dX0_init_32 : decode cX0_init 32 = .ok (.putfield 25, 3) := by decide +kernel
theorem dX0_init_35 : decode cX0_init 35 = .ok (.aload_n 0, 1) := by decide +kernel
theorem dX0_init_36 : decode cX0_init 36 = .ok (.new 29, 3) := by decide +kernel
theorem dX0_init_39 : decode cX0_init 39 = .ok (.dup, 1) := by decide +kernel
theorem dX0_init_40 : decode cX0_init 40 = .ok (.invokespecial 31, 3) := by decide +kernel
theorem dX0_init_43 : decode cX0_init 43 = .ok (.putfield 32, 3) := by decide +kernel
theorem dX0_init_46 : decode cX0_init 46 = .ok (.aload_n 0, 1) := by decide +kernel
theorem dX0_init_47 : decode cX0_init 47 = .ok (.new 29, 3) := by decide +kernel
theorem dX0_init_50 : decode cX0_init 50 = .ok (.dup, 1) := by decide +kernel
theorem dX0_init_51 : decode cX0_init 51 = .ok (.invokespecial 31, 3) := by decide +kernel
theorem dX0_init_54 : decode cX0_init 54 = .ok (.putfield 36, 3) := by decide +kernel
theorem dX0_init_57 : decode cX0_init 57 = .ok (.aload_n 0, 1) := by decide +kernel
theorem dX0_init_58 : decode cX0_init 58 = .ok (.aload_n 1, 1) := by decide +kernel
theorem dX0_init_59 : decode cX0_init 59 = .ok (.putfield 39, 3) := by decide +kernel
theorem dX0_init_62 : decode cX0_init 62 = .ok (.return_, 1) := by decide +kernel
theorem dX0_insertOwn_0 : decode cX0_insertOwn 0 = .ok (.aload_n 0, 1) := by decide +kernel
theorem dX0_insertOwn_1 : decode cX0_insertOwn 1 = .ok (.lconst 0, 1) := by decide +kernel
theorem dX0_insertOwn_2 : decode cX0_insertOwn 2 = .ok (.putfield 25, 3) := by decide +kernel
theorem dX0_insertOwn_5 : decode cX0_insertOwn 5 = .ok (.aload_n 0, 1) := by decide +kernel
theorem dX0_insertOwn_6 : decode cX0_insertOwn 6 = .ok (.iload_n 1, 1) := by decide +kernel
theorem dX0_insertOwn_7 : decode cX0_insertOwn 7 = .ok (.invokevirtual 43, 3) := by decide +kernel
theorem dX0_insertOwn_10 : decode cX0_insertOwn 10 = .ok (.istore_n 2, 1) := by decide +kernel
theorem dX0_insertOwn_11 : decode cX0_insertOwn 11 = .ok (.aload_n 0, 1) := by decide +kernel
theorem dX0_insertOwn_12 : decode cX0_insertOwn 12 = .ok (.getfield 39, 3) := by decide +kernel
theorem dX0_insertOwn_15 : decode cX0_insertOwn 15 = .ok (.iload_n 2, 1) := by decide +kernel
theorem dX0_insertOwn_16 : decode cX0_insertOwn 16 = .ok (.aload_n 0, 1) := by decide +kernel
theorem dX0_insertOwn_17 : decode cX0_insertOwn 17 = .ok (.getfield 39, 3) := by decide +kernel
theorem dX0_insertOwn_20 : decode cX0_insertOwn 20 = .ok (.iload_n 2, 1) := by decide +kernel
theorem dX0_insertOwn_21 : decode cX0_insertOwn 21 = .ok (.invokevirtual 47, 3) := by decide +kernel
theorem dX0_insertOwn_24 : decode cX0_insertOwn 24 = .ok (.iload_n 1, 1) := by decide +kernel
theorem dX0_insertOwn_25 : decode cX0_insertOwn 25 = .ok (.invokevirtual 52, 3) := by decide +kernel
theorem dX0_insertOwn_28 : decode cX0_insertOwn 28 = .ok (.iconst 0, 1) := by decide +kernel
theorem dX0_insertOwn_29 : decode cX0_insertOwn 29 = .ok (.istore_n 3, 1) := by decide +kernel
theorem dX0_insertOwn_30 : decode cX0_insertOwn 30 = .ok (.aload_n 0, 1) := by decide +kernel
theorem dX0_insertOwn_31 : decode cX0_insertOwn 31 = .ok (.getfield 39, 3) := by decide +kernel
theorem dX0_insertOwn_34 : decode cX0_insertOwn 34 = .ok (.iload_n 2, 1) := by decide +kernel
theorem dX0_insertOwn_35 : decode cX0_insertOwn 35 = .ok (.invokevirtual 47, 3) := by decide +kernel
theorem dX0_insertOwn_38 : decode cX0_insertOwn 38 = .ok (.aload_n 0, 1) := by decide +kernel
theorem dX0_insertOwn_39 : decode cX0_insertOwn 39 = .ok (.getfield 39, 3) := by decide +kernel
theorem dX0_insertOwn_42 : decode cX0_insertOwn 42 = .ok (.getfield 56, 3) := by decide +kernel
theorem dX0_insertOwn_45 : decode cX0_insertOwn 45 = .ok (.if_icmp .le 37, 3) := by decide +kernel
theorem dX0_insertOwn_48 : decode cX0_insertOwn 48 = .ok (.iload_n 3, 1) := by decide +kernel
theorem dX0_insertOwn_49 : decode cX0_insertOwn 49 = .ok (.ldc 59, 2) := by decide +kernel
theorem dX0_insertOwn_51 : decode cX0_insertOwn 51 = .ok (.if_icmp .ge 31, 3) := by decide +kernel
theorem dX0_insertOwn_54 : decode cX0_insertOwn 54 = .ok (.aload_n 0, 1) := by decide +kernel
theorem dX0_insertOwn_55 : decode cX0_insertOwn 55 = .ok (.iload_n 2, 1) := by decide +kernel
theorem dX0_insertOwn_56 : decode cX0_insertOwn 56 = .ok (.invokevirtual 60, 3) := by decide +kernel
theorem dX0_insertOwn_59 : decode cX0_insertOwn 59 = .ok (.ifCond .eq 11, 3) := by decide +kernel
theorem dX0_insertOwn_62 : decode cX0_insertOwn 62 = .ok (.aload_n 0, 1) := by decide +kernel
theorem dX0_insertOwn_63 : decode cX0_insertOwn 63 = .ok (.iload_n 2, 1) := by decide +kernel
theorem dX0_insertOwn_64 : decode cX0_insertOwn 64 = .ok (.invokevirtual 64, 3) := by decide +kernel
theorem dX0_insertOwn_67 : decode cX0_insertOwn 67 = .ok (.goto 8, 3) := by decide +kernel
theorem dX0_insertOwn_70 : decode cX0_insertOwn 70 = .ok (.aload_n 0, 1) := by decide +kernel
theorem dX0_insertOwn_71 : decode cX0_insertOwn 71 = .ok (.iload_n 2, 1) := by decide +kernel
theorem dX0_insertOwn_72 : decode cX0_insertOwn 72 = .ok (.invokevirtual 67, 3) := by decide +kernel
theorem dX0_insertOwn_75 : decode cX0_insertOwn 75 = .ok (.istore_n 2, 1) := by decide +kernel
theorem dX0_insertOwn_76 : decode cX0_insertOwn 76 = .ok (.iinc 3 1, 3) := by decide +kernel
theorem dX0_insertOwn_79 : decode cX0_insertOwn 79 = .ok (.goto (-49), 3) := by decide +kernel
theorem dX0_insertOwn_82 : decode cX0_insertOwn 82 = .ok (.return_, 1) := by decide +kernel
theorem dX0_targetFor_0 : decode cX0_targetFor 0 = .ok (.aload_n 0, 1) := by decide +kernel
theorem dX0_targetFor_1 : decode cX0_targetFor 1 = .ok (.getfield 39, 3) := by decide +kernel
theorem dX0_targetFor_4 : decode cX0_targetFor 4 = .ok (.iload_n 1, 1) := by decide +kernel
theorem dX0_targetFor_5 : decode cX0_targetFor 5 = .ok (.invokevirtual 70, 3) := by decide +kernel
theorem dX0_targetFor_8 : decode cX0_targetFor 8 = .ok (.iconst 1, 1) := by decide +kernel
theorem dX0_targetFor_9 : decode cX0_targetFor 9 = .ok (.iadd, 1) := by decide +kernel
theorem dX0_targetFor_10 : decode cX0_targetFor 10 = .ok (.istore_n 2, 1) := by decide +kernel
theorem dX0_targetFor_11 : decode cX0_targetFor 11 = .ok (.aload_n 0, 1) := by decide +kernel
theorem dX0_targetFor_12 : decode cX0_targetFor 12 = .ok (.getfield 39, 3) := by decide +kernel
theorem dX0_targetFor_15 : decode cX0_targetFor 15 = .ok (.getfield 73, 3) := by decide +kernel
theorem dX0_targetFor_18 : decode cX0_targetFor 18 = .ok (.istore_n 3, 1) := by decide +kernel
theorem dX0_targetFor_19 : decode cX0_targetFor 19 = .ok (.iconst 0, 1) := by decide +kernel
theorem dX0_targetFor_20 : decode cX0_targetFor 20 = .ok (.istore 4, 2) := by decide +kernel
theorem dX0_targetFor_22 : decode cX0_targetFor 22 = .ok (.aload_n 0, 1) := by decide +kernel
theorem dX0_targetFor_23 : decode cX0_targetFor 23 = .ok (.getfield 39, 3) := by decide +kernel
theorem dX0_targetFor_26 : decode cX0_targetFor 26 = .ok (.iload_n 3, 1) := by decide +kernel
theorem dX0_targetFor_27 : decode cX0_targetFor 27 = .ok (.invokevirtual 70, 3) := by decide +kernel
theorem dX0_targetFor_30 : decode cX0_targetFor 30 = .ok (.iload_n 2, 1) := by decide +kernel
theorem dX0_targetFor_31 : decode cX0_targetFor 31 = .ok (.if_icmp .le 23, 3) := by decide +kernel
theorem dX0_targetFor_34 : decode cX0_targetFor 34 = .ok (.iload 4, 2) := by decide +kernel
theorem dX0_targetFor_36 : decode cX0_targetFor 36 = .ok (.ldc 59, 2) := by decide +kernel
theorem dX0_targetFor_38 : decode cX0_targetFor 38 = .ok (.if_icmp .ge 16, 3) := by decide +kernel
theorem dX0_targetFor_41 : decode cX0_targetFor 41 = .ok (.aload_n 0, 1) := by decide +kernel
theorem dX0_targetFor_42 : decode cX0_targetFor 42 = .ok (.iload_n 3, 1) := by decide +kernel
theorem dX0_targetFor_43 : decode cX0_targetFor 43 = .ok (.iload_n 1, 1) := by decide +kernel
theorem dX0_targetFor_44 : decode cX0_targetFor 44 = .ok (.invokevirtual 76, 3) := by decide +kernel
theorem dX0_targetFor_47 : decode cX0_targetFor 47 = .ok (.istore_n 3, 1) := by decide +kernel
theorem dX0_targetFor_48 : decode cX0_targetFor 48 = .ok (.iinc 4 1, 3) := by decide +kernel
theorem dX0_targetFor_51 : decode cX0_targetFor 51 = .ok (.goto (-29), 3) := by decide +kernel
theorem dX0_targetFor_54 : decode cX0_targetFor 54 = .ok (.iload_n 3, 1) := by decide +kernel
theorem dX0_targetFor_55 : decode cX0_targetFor 55 = .ok (.ireturn, 1) := by decide +kernel
theorem dX0_bestEntry_0 : decode cX0_bestEntry 0 = .ok (.iconst (-1), 1) := by decide +kernel
theorem dX0_bestEntry_1 : decode cX0_bestEntry 1 = .ok (.istore_n 3, 1) := by decide +kernel
theorem dX0_bestEntry_2 : decode cX0_bestEntry 2 = .ok (.iconst 0, 1) := by decide +kernel
theorem dX0_bestEntry_3 : decode cX0_bestEntry 3 = .ok (.istore 4, 2) := by decide +kernel
theorem dX0_bestEntry_5 : decode cX0_bestEntry 5 = .ok (.iconst 0, 1) := by decide +kernel
theorem dX0_bestEntry_6 : decode cX0_bestEntry 6 = .ok (.istore 5, 2) := by decide +kernel
theorem dX0_bestEntry_8 : decode cX0_bestEntry 8 = .ok (.aload_n 0, 1) := by decide +kernel
theorem dX0_bestEntry_9 : decode cX0_bestEntry 9 = .ok (.getfield 39, 3) := by decide +kernel
theorem dX0_bestEntry_12 : decode cX0_bestEntry 12 = .ok (.iload_n 1, 1) := by decide +kernel
theorem dX0_bestEntry_13 : decode cX0_bestEntry 13 = .ok (.invokevirtual 47, 3) := by decide +kernel
theorem dX0_bestEntry_16 : decode cX0_bestEntry 16 = .ok (.istore 6, 2) := by decide +kernel
theorem dX0_bestEntry_18 : decode cX0_bestEntry 18 = .ok (.iconst 0, 1) := by decide +kernel
theorem dX0_bestEntry_19 : decode cX0_bestEntry 19 = .ok (.istore 7, 2) := by decide +kernel
theorem dX0_bestEntry_21 : decode cX0_bestEntry 21 = .ok (.iload 7, 2) := by decide +kernel
theorem dX0_bestEntry_23 : decode cX0_bestEntry 23 = .ok (.iload 6, 2) := by decide +kernel
theorem dX0_bestEntry_25 : decode cX0_bestEntry 25 = .ok (.if_icmp .ge 84, 3) := by decide +kernel
theorem dX0_bestEntry_28 : decode cX0_bestEntry 28 = .ok (.aload_n 0, 1) := by decide +kernel
theorem dX0_bestEntry_29 : decode cX0_bestEntry 29 = .ok (.getfield 39, 3) := by decide +kernel
theorem dX0_bestEntry_32 : decode cX0_bestEntry 32 = .ok (.iload_n 1, 1) := by decide +kernel
theorem dX0_bestEntry_33 : decode cX0_bestEntry 33 = .ok (.iload 7, 2) := by decide +kernel
theorem dX0_bestEntry_35 : decode cX0_bestEntry 35 = .ok (.invokevirtual 80, 3) := by decide +kernel
theorem dX0_bestEntry_38 : decode cX0_bestEntry 38 = .ok (.istore 8, 2) := by decide +kernel
theorem dX0_bestEntry_40 : decode cX0_bestEntry 40 = .ok (.aload_n 0, 1) := by decide +kernel
theorem dX0_bestEntry_41 : decode cX0_bestEntry 41 = .ok (.getfield 39, 3) := by decide +kernel
theorem dX0_bestEntry_44 : decode cX0_bestEntry 44 = .ok (.iload 8, 2) := by decide +kernel
theorem dX0_bestEntry_46 : decode cX0_bestEntry 46 = .ok (.invokevirtual 83, 3) := by decide +kernel
theorem dX0_bestEntry_49 : decode cX0_bestEntry 49 = .ok (.istore 9, 2) := by decide +kernel
theorem dX0_bestEntry_51 : decode cX0_bestEntry 51 = .ok (.aload_n 0, 1) := by decide +kernel
theorem dX0_bestEntry_52 : decode cX0_bestEntry 52 = .ok (.getfield 39, 3) := by decide +kernel
theorem dX0_bestEntry_55 : decode cX0_bestEntry 55 = .ok (.iload 8, 2) := by decide +kernel
theorem dX0_bestEntry_57 : decode cX0_bestEntry 57 = .ok (.iload_n 2, 1) := by decide +kernel
theorem dX0_bestEntry_58 : decode cX0_bestEntry 58 = .ok (.invokevirtual 86, 3) := by decide +kernel
theorem dX0_bestEntry_61 : decode cX0_bestEntry 61 = .ok (.iload 9, 2) := by decide +kernel
theorem dX0_bestEntry_63 : decode cX0_bestEntry 63 = .ok (.isub, 1) := by decide +kernel
theorem dX0_bestEntry_64 : decode cX0_bestEntry 64 = .ok (.istore 10, 2) := by decide +kernel
theorem dX0_bestEntry_66 : decode cX0_bestEntry 66 = .ok (.iload_n 3, 1) := by decide +kernel
theorem dX0_bestEntry_67 : decode cX0_bestEntry 67 = .ok (.iconst (-1), 1) := by decide +kernel
theorem dX0_bestEntry_68 : decode cX0_bestEntry 68 = .ok (.if_icmp .eq 24, 3) := by decide +kernel
theorem dX0_bestEntry_71 : decode cX0_bestEntry 71 = .ok (.iload 10, 2) := by decide +kernel
theorem dX0_bestEntry_73 : decode cX0_bestEntry 73 = .ok (.iload 4, 2) := by decide +kernel
theorem dX0_bestEntry_75 : decode cX0_bestEntry 75 = .ok (.if_icmp .lt 17, 3) := by decide +kernel
theorem dX0_bestEntry_78 : decode cX0_bestEntry 78 = .ok (.iload 10, 2) := by decide +kernel
theorem dX0_bestEntry_80 : decode cX0_bestEntry 80 = .ok (.iload 4, 2) := by decide +kernel
theorem dX0_bestEntry_82 : decode cX0_bestEntry 82 = .ok (.if_icmp .ne 21, 3) := by decide +kernel
theorem dX0_bestEntry_85 : decode cX0_bestEntry 85 = .ok (.iload 9, 2) := by decide +kernel
theorem dX0_bestEntry_87 : decode cX0_bestEntry 87 = .ok (.iload 5, 2) := by decide +kernel
theorem dX0_bestEntry_89 : decode cX0_bestEntry 89 = .ok (.if_icmp .ge 14, 3) := by decide +kernel
theorem dX0_bestEntry_92 : decode cX0_bestEntry 92 = .ok (.iload 8, 2) := by decide +kernel
theorem dX0_bestEntry_94 : decode cX0_bestEntry 94 = .ok (.istore_n 3, 1) := by decide +kernel
theorem dX0_bestEntry_95 : decode cX0_bestEntry 95 = .ok (.iload 10, 2) := by decide +kernel
theorem dX0_bestEntry_97 : decode cX0_bestEntry 97 = .ok (.istore 4, 2) := by decide +kernel
theorem dX0_bestEntry_99 : decode cX0_bestEntry 99 = .ok (.iload 9, 2) := by decide +kernel
theorem dX0_bestEntry_101 : decode cX0_bestEntry 101 = .ok (.istore 5, 2) := by decide +kernel
theorem dX0_bestEntry_103 : decode cX0_bestEntry 103 = .ok (.iinc 7 1, 3) := by decide +kernel
theorem dX0_bestEntry_106 : decode cX0_bestEntry 106 = .ok (.goto (-85), 3) := by decide +kernel
theorem dX0_bestEntry_109 : decode cX0_bestEntry 109 = .ok (.iload_n 3, 1) := by decide +kernel
theorem dX0_bestEntry_110 : decode cX0_bestEntry 110 = .ok (.ireturn, 1) := by decide +kernel
theorem dX0_mayReinsert_0 : decode cX0_mayReinsert 0 = .ok (.lconst 1, 1) := by decide +kernel
theorem dX0_mayReinsert_1 : decode cX0_mayReinsert 1 = .ok (.aload_n 0, 1) := by decide +kernel
theorem dX0_mayReinsert_2 : decode cX0_mayReinsert 2 = .ok (.getfield 39, 3) := by decide +kernel
theorem dX0_mayReinsert_5 : decode cX0_mayReinsert 5 = .ok (.iload_n 1, 1) := by decide +kernel
theorem dX0_mayReinsert_6 : decode cX0_mayReinsert 6 = .ok (.invokevirtual 70, 3) := by decide +kernel
theorem dX0_mayReinsert_9 : decode cX0_mayReinsert 9 = .ok (.lshl, 1) := by decide +kernel
theorem dX0_mayReinsert_10 : decode cX0_mayReinsert 10 = .ok (.lstore_n 2, 1) := by decide +kernel
theorem dX0_mayReinsert_11 : decode cX0_mayReinsert 11 = .ok (.aload_n 0, 1) := by decide +kernel
theorem dX0_mayReinsert_12 : decode cX0_mayReinsert 12 = .ok (.getfield 39, 3) := by decide +kernel
theorem dX0_mayReinsert_15 : decode cX0_mayReinsert 15 = .ok (.getfield 89, 3) := by decide +kernel
theorem dX0_mayReinsert_18 : decode cX0_mayReinsert 18 = .ok (.iconst 1, 1) := by decide +kernel
theorem dX0_mayReinsert_19 : decode cX0_mayReinsert 19 = .ok (.if_icmp .ne 29, 3) := by decide +kernel
theorem dX0_mayReinsert_22 : decode cX0_mayReinsert 22 = .ok (.iload_n 1, 1) := by decide +kernel
theorem dX0_mayReinsert_23 : decode cX0_mayReinsert 23 = .ok (.aload_n 0, 1) := by decide +kernel
theorem dX0_mayReinsert_24 : decode cX0_mayReinsert 24 = .ok (.getfield 39, 3) := by decide +kernel
theorem dX0_mayReinsert_27 : decode cX0_mayReinsert 27 = .ok (.getfield 73, 3) := by decide +kernel
theorem dX0_mayReinsert_30 : decode cX0_mayReinsert 30 = .ok (.if_icmp .eq 18, 3) := by decide +kernel
theorem dX0_mayReinsert_33 : decode cX0_mayReinsert 33 = .ok (.aload_n 0, 1) := by decide +kernel
theorem dX0_mayReinsert_34 : decode cX0_mayReinsert 34 = .ok (.getfield 25, 3) := by decide +kernel
theorem dX0_mayReinsert_37 : decode cX0_mayReinsert 37 = .ok (.lload_n 2, 1) := by decide +kernel
theorem dX0_mayReinsert_38 : decode cX0_mayReinsert 38 = .ok (.land, 1) := by decide +kernel
theorem dX0_mayReinsert_39 : decode cX0_mayReinsert 39 = .ok (.lconst 0, 1) := by decide +kernel
theorem dX0_mayReinsert_40 : decode cX0_mayReinsert 40 = .ok (.lcmp, 1) := by decide +kernel
theorem dX0_mayReinsert_41 : decode cX0_mayReinsert 41 = .ok (.ifCond .ne 7, 3) := by decide +kernel
theorem dX0_mayReinsert_44 : decode cX0_mayReinsert 44 = .ok (.iconst 1, 1) := by decide +kernel
theorem dX0_mayReinsert_45 : decode cX0_mayReinsert 45 = .ok (.goto 4, 3) := by decide +kernel
theorem dX0_mayReinsert_48 : decode cX0_mayReinsert 48 = .ok (.iconst 0, 1) := by decide +kernel
theorem dX0_mayReinsert_49 : decode cX0_mayReinsert 49 = .ok (.ireturn, 1) := by decide +kernel
theorem dX0_reinsertFarthest_0 : decode cX0_reinsertFarthest 0 = .ok (.aload_n 0, 1) := by decide +kernel
theorem dX0_reinsertFarthest_1 : decode cX0_reinsertFarthest 1 = .ok (.dup, 1) := by decide +kernel
theorem dX0_reinsertFarthest_2 : decode cX0_reinsertFarthest 2 = .ok (.getfield 25, 3) := by decide +kernel
theorem dX0_reinsertFarthest_5 : decode cX0_reinsertFarthest 5 = .ok (.lconst 1, 1) := by decide +kernel
theorem dX0_reinsertFarthest_6 : decode cX0_reinsertFarthest 6 = .ok (.aload_n 0, 1) := by decide +kernel
theorem dX0_reinsertFarthest_7 : decode cX0_reinsertFarthest 7 = .ok (.getfield 39, 3) := by decide +kernel
theorem dX0_reinsertFarthest_10 : decode cX0_reinsertFarthest 10 = .ok (.iload_n 1, 1) := by decide +kernel
theorem dX0_reinsertFarthest_11 : decode cX0_reinsertFarthest 11 = .ok (.invokevirtual 70, 3) := by decide +kernel
theorem dX0_reinsertFarthest_14 : decode cX0_reinsertFarthest 14 = .ok (.lshl, 1) := by decide +kernel
theorem dX0_reinsertFarthest_15 : decode cX0_reinsertFarthest 15 = .ok (.lor, 1) := by decide +kernel
theorem dX0_reinsertFarthest_16 : decode cX0_reinsertFarthest 16 = .ok (.putfield 25, 3) := by decide +kernel
theorem dX0_reinsertFarthest_19 : decode cX0_reinsertFarthest 19 = .ok (.aload_n 0, 1) := by decide +kernel
theorem dX0_reinsertFarthest_20 : decode cX0_reinsertFarthest 20 = .ok (.getfield 39, 3) := by decide +kernel
theorem dX0_reinsertFarthest_23 : decode cX0_reinsertFarthest 23 = .ok (.dup, 1) := by decide +kernel
theorem dX0_reinsertFarthest_24 : decode cX0_reinsertFarthest 24 = .ok (.getfield 92, 3) := by decide +kernel
theorem dX0_reinsertFarthest_27 : decode cX0_reinsertFarthest 27 = .ok (.iconst 1, 1) := by decide +kernel
theorem dX0_reinsertFarthest_28 : decode cX0_reinsertFarthest 28 = .ok (.iadd, 1) := by decide +kernel
theorem dX0_reinsertFarthest_29 : decode cX0_reinsertFarthest 29 = .ok (.putfield 92, 3) := by decide +kernel
theorem dX0_reinsertFarthest_32 : decode cX0_reinsertFarthest 32 = .ok (.aload_n 0, 1) := by decide +kernel
theorem dX0_reinsertFarthest_33 : decode cX0_reinsertFarthest 33 = .ok (.iload_n 1, 1) := by decide +kernel
theorem dX0_reinsertFarthest_34 : decode cX0_reinsertFarthest 34 = .ok (.invokevirtual 95, 3) := by decide +kernel
theorem dX0_reinsertFarthest_37 : decode cX0_reinsertFarthest 37 = .ok (.istore_n 2, 1) := by decide +kernel
theorem dX0_reinsertFarthest_38 : decode cX0_reinsertFarthest 38 = .ok (.aload_n 0, 1) := by decide +kernel
theorem dX0_reinsertFarthest_39 : decode cX0_reinsertFarthest 39 = .ok (.getfield 39, 3) := by decide +kernel
theorem dX0_reinsertFarthest_42 : decode cX0_reinsertFarthest 42 = .ok (.iload_n 2, 1) := by decide +kernel
theorem dX0_reinsertFarthest_43 : decode cX0_reinsertFarthest 43 = .ok (.invokevirtual 98, 3) := by decide +kernel
theorem dX0_reinsertFarthest_46 : decode cX0_reinsertFarthest 46 = .ok (.aload_n 0, 1) := by decide +kernel
theorem dX0_reinsertFarthest_47 : decode cX0_reinsertFarthest 47 = .ok (.iload_n 2, 1) := by decide +kernel
theorem dX0_reinsertFarthest_48 : decode cX0_reinsertFarthest 48 = .ok (.invokevirtual 43, 3) := by decide +kernel
theorem dX0_reinsertFarthest_51 : decode cX0_reinsertFarthest 51 = .ok (.istore_n 3, 1) := by decide +kernel
theorem dX0_reinsertFarthest_52 : decode cX0_reinsertFarthest 52 = .ok (.aload_n 0, 1) := by decide +kernel
theorem dX0_reinsertFarthest_53 : decode cX0_reinsertFarthest 53 = .ok (.getfield 39, 3) := by decide +kernel
theorem dX0_reinsertFarthest_56 : decode cX0_reinsertFarthest 56 = .ok (.iload_n 3, 1) := by decide +kernel
theorem dX0_reinsertFarthest_57 : decode cX0_reinsertFarthest 57 = .ok (.aload_n 0, 1) := by decide +kernel
theorem dX0_reinsertFarthest_58 : decode cX0_reinsertFarthest 58 = .ok (.getfield 39, 3) := by decide +kernel
theorem dX0_reinsertFarthest_61 : decode cX0_reinsertFarthest 61 = .ok (.iload_n 3, 1) := by decide +kernel
theorem dX0_reinsertFarthest_62 : decode cX0_reinsertFarthest 62 = .ok (.invokevirtual 47, 3) := by decide +kernel
theorem dX0_reinsertFarthest_65 : decode cX0_reinsertFarthest 65 = .ok (.iload_n 2, 1) := by decide +kernel
theorem dX0_reinsertFarthest_66 : decode cX0_reinsertFarthest 66 = .ok (.invokevirtual 52, 3) := by decide +kernel
theorem dX0_reinsertFarthest_69 : decode cX0_reinsertFarthest 69 = .ok (.iload_n 3, 1) := by decide +kernel
theorem dX0_reinsertFarthest_70 : decode cX0_reinsertFarthest 70 = .ok (.ireturn, 1) := by decide +kernel
theorem dX0_farthestEntry_0 : decode cX0_farthestEntry 0 = .ok (.iconst (-1), 1) := by decide +kernel
theorem dX0_farthestEntry_1 : decode cX0_farthestEntry 1 = .ok (.istore_n 2, 1) := by decide +kernel
theorem dX0_farthestEntry_2 : decode cX0_farthestEntry 2 = .ok (.iconst 0, 1) := by decide +kernel
theorem dX0_farthestEntry_3 : decode cX0_farthestEntry 3 = .ok (.istore_n 3, 1) := by decide +kernel
theorem dX0_farthestEntry_4 : decode cX0_farthestEntry 4 = .ok (.aload_n 0, 1) := by decide +kernel
theorem dX0_farthestEntry_5 : decode cX0_farthestEntry 5 = .ok (.getfield 39, 3) := by decide +kernel
theorem dX0_farthestEntry_8 : decode cX0_farthestEntry 8 = .ok (.iload_n 1, 1) := by decide +kernel
theorem dX0_farthestEntry_9 : decode cX0_farthestEntry 9 = .ok (.invokevirtual 47, 3) := by decide +kernel
theorem dX0_farthestEntry_12 : decode cX0_farthestEntry 12 = .ok (.istore 4, 2) := by decide +kernel
theorem dX0_farthestEntry_14 : decode cX0_farthestEntry 14 = .ok (.iconst 0, 1) := by decide +kernel
theorem dX0_farthestEntry_15 : decode cX0_farthestEntry 15 = .ok (.istore 5, 2) := by decide +kernel
theorem dX0_farthestEntry_17 : decode cX0_farthestEntry 17 = .ok (.iload 5, 2) := by decide +kernel
theorem dX0_farthestEntry_19 : decode cX0_farthestEntry 19 = .ok (.iload 4, 2) := by decide +kernel
theorem dX0_farthestEntry_21 : decode cX0_farthestEntry 21 = .ok (.if_icmp .ge 45, 3) := by decide +kernel
theorem dX0_farthestEntry_24 : decode cX0_farthestEntry 24 = .ok (.aload_n 0, 1) := by decide +kernel
theorem dX0_farthestEntry_25 : decode cX0_farthestEntry 25 = .ok (.getfield 39, 3) := by decide +kernel
theorem dX0_farthestEntry_28 : decode cX0_farthestEntry 28 = .ok (.iload_n 1, 1) := by decide +kernel
theorem dX0_farthestEntry_29 : decode cX0_farthestEntry 29 = .ok (.iload 5, 2) := by decide +kernel
theorem dX0_farthestEntry_31 : decode cX0_farthestEntry 31 = .ok (.invokevirtual 80, 3) := by decide +kernel
theorem dX0_farthestEntry_34 : decode cX0_farthestEntry 34 = .ok (.istore 6, 2) := by decide +kernel
theorem dX0_farthestEntry_36 : decode cX0_farthestEntry 36 = .ok (.aload_n 0, 1) := by decide +kernel
theorem dX0_farthestEntry_37 : decode cX0_farthestEntry 37 = .ok (.getfield 39, 3) := by decide +kernel
theorem dX0_farthestEntry_40 : decode cX0_farthestEntry 40 = .ok (.iload 6, 2) := by decide +kernel
theorem dX0_farthestEntry_42 : decode cX0_farthestEntry 42 = .ok (.iload_n 1, 1) := by decide +kernel
theorem dX0_farthestEntry_43 : decode cX0_farthestEntry 43 = .ok (.invokevirtual 102, 3) := by decide +kernel
theorem dX0_farthestEntry_46 : decode cX0_farthestEntry 46 = .ok (.istore 7, 2) := by decide +kernel
theorem dX0_farthestEntry_48 : decode cX0_farthestEntry 48 = .ok (.iload 7, 2) := by decide +kernel
theorem dX0_farthestEntry_50 : decode cX0_farthestEntry 50 = .ok (.iload_n 3, 1) := by decide +kernel
theorem dX0_farthestEntry_51 : decode cX0_farthestEntry 51 = .ok (.if_icmp .lt 9, 3) := by decide +kernel
theorem dX0_farthestEntry_54 : decode cX0_farthestEntry 54 = .ok (.iload 6, 2) := by decide +kernel
theorem dX0_farthestEntry_56 : decode cX0_farthestEntry 56 = .ok (.istore_n 2, 1) := by decide +kernel
theorem dX0_farthestEntry_57 : decode cX0_farthestEntry 57 = .ok (.iload 7, 2) := by decide +kernel
theorem dX0_farthestEntry_59 : decode cX0_farthestEntry 59 = .ok (.istore_n 3, 1) := by decide +kernel
theorem dX0_farthestEntry_60 : decode cX0_farthestEntry 60 = .ok (.iinc 5 1, 3) := by decide +kernel
theorem dX0_farthestEntry_63 : decode cX0_farthestEntry 63 = .ok (.goto (-46), 3) := by decide +kernel
theorem dX0_farthestEntry_66 : decode cX0_farthestEntry 66 = .ok (.iload_n 2, 1) := by decide +kernel
theorem dX0_farthestEntry_67 : decode cX0_farthestEntry 67 = .ok (.ireturn, 1) := by decide +kernel
theorem dX0_splitNode_0 : decode cX0_splitNode 0 = .ok (.iload_n 1, 1) := by decide +kernel
theorem dX0_splitNode_1 : decode cX0_splitNode 1 = .ok (.aload_n 0, 1) := by decide +kernel
theorem dX0_splitNode_2 : decode cX0_splitNode 2 = .ok (.getfield 39, 3) := by decide +kernel
theorem dX0_splitNode_5 : decode cX0_splitNode 5 = .ok (.getfield 73, 3) := by decide +kernel
theorem dX0_splitNode_8 : decode cX0_splitNode 8 = .ok (.if_icmp .ne 13, 3) := by decide +kernel
theorem dX0_splitNode_11 : decode cX0_splitNode 11 = .ok (.aload_n 0, 1) := by decide +kernel
theorem dX0_splitNode_12 : decode cX0_splitNode 12 = .ok (.getfield 39, 3) := by decide +kernel
theorem dX0_splitNode_15 : decode cX0_splitNode 15 = .ok (.invokevirtual 105, 3) := by decide +kernel
theorem dX0_splitNode_18 : decode cX0_splitNode 18 = .ok (.goto 11, 3) := by decide +kernel
theorem dX0_splitNode_21 : decode cX0_splitNode 21 = .ok (.aload_n 0, 1) := by decide +kernel
theorem dX0_splitNode_22 : decode cX0_splitNode 22 = .ok (.getfield 39, 3) := by decide +kernel
theorem dX0_splitNode_25 : decode cX0_splitNode 25 = .ok (.iload_n 1, 1) := by decide +kernel
theorem dX0_splitNode_26 : decode cX0_splitNode 26 = .ok (.invokevirtual 109, 3) := by decide +kernel
theorem dX0_splitNode_29 : decode cX0_splitNode 29 = .ok (.istore_n 2, 1) := by decide +kernel
theorem dX0_splitNode_30 : decode cX0_splitNode 30 = .ok (.aload_n 0, 1) := by decide +kernel
theorem dX0_splitNode_31 : decode cX0_splitNode 31 = .ok (.getfield 39, 3) := by decide +kernel
theorem dX0_splitNode_34 : decode cX0_splitNode 34 = .ok (.aload_n 0, 1) := by decide +kernel
theorem dX0_splitNode_35 : decode cX0_splitNode 35 = .ok (.getfield 39, 3) := by decide +kernel
theorem dX0_splitNode_38 : decode cX0_splitNode 38 = .ok (.iload_n 1, 1) := by decide +kernel
theorem dX0_splitNode_39 : decode cX0_splitNode 39 = .ok (.invokevirtual 70, 3) := by decide +kernel
theorem dX0_splitNode_42 : decode cX0_splitNode 42 = .ok (.invokevirtual 112, 3) := by decide +kernel
theorem dX0_splitNode_45 : decode cX0_splitNode 45 = .ok (.istore_n 3, 1) := by decide +kernel
theorem dX0_splitNode_46 : decode cX0_splitNode 46 = .ok (.iload_n 2, 1) := by decide +kernel
theorem dX0_splitNode_47 : decode cX0_splitNode 47 = .ok (.iconst (-1), 1) := by decide +kernel
theorem dX0_splitNode_48 : decode cX0_splitNode 48 = .ok (.if_icmp .eq 8, 3) := by decide +kernel
theorem dX0_splitNode_51 : decode cX0_splitNode 51 = .ok (.iload_n 3, 1) := by decide +kernel
theorem dX0_splitNode_52 : decode cX0_splitNode 52 = .ok (.iconst (-1), 1) := by decide +kernel
theorem dX0_splitNode_53 : decode cX0_splitNode 53 = .ok (.if_icmp .ne 5, 3) := by decide +kernel
theorem dX0_splitNode_56 : decode cX0_splitNode 56 = .ok (.iconst (-1), 1) := by decide +kernel
theorem dX0_splitNode_57 : decode cX0_splitNode 57 = .ok (.ireturn, 1) := by decide +kernel
theorem dX0_splitNode_58 : decode cX0_splitNode 58 = .ok (.aload_n 0, 1) := by decide +kernel
theorem dX0_splitNode_59 : decode cX0_splitNode 59 = .ok (.getfield 39, 3) := by decide +kernel
theorem dX0_splitNode_62 : decode cX0_splitNode 62 = .ok (.dup, 1) := by decide +kernel
theorem dX0_splitNode_63 : decode cX0_splitNode 63 = .ok (.getfield 115, 3) := by decide +kernel
theorem dX0_splitNode_66 : decode cX0_splitNode 66 = .ok (.iconst 1, 1) := by decide +kernel
theorem dX0_splitNode_67 : decode cX0_splitNode 67 = .ok (.iadd, 1) := by decide +kernel
theorem dX0_splitNode_68 : decode cX0_splitNode 68 = .ok (.putfield 115, 3) := by decide +kernel
theorem dX0_splitNode_71 : decode cX0_splitNode 71 = .ok (.aload_n 0, 1) := by decide +kernel
theorem dX0_splitNode_72 : decode cX0_splitNode 72 = .ok (.iload_n 1, 1) := by decide +kernel
theorem dX0_splitNode_73 : decode cX0_splitNode 73 = .ok (.invokevirtual 118, 3) := by decide +kernel
theorem dX0_splitNode_76 : decode cX0_splitNode 76 = .ok (.aload_n 0, 1) := by decide +kernel
theorem dX0_splitNode_77 : decode cX0_splitNode 77 = .ok (.invokevirtual 121, 3) := by decide +kernel
theorem dX0_splitNode_80 : decode cX0_splitNode 80 = .ok (.istore 4, 2) := by decide +kernel
theorem dX0_splitNode_82 : decode cX0_splitNode 82 = .ok (.aload_n 0, 1) := by decide +kernel
theorem dX0_splitNode_83 : decode cX0_splitNode 83 = .ok (.getfield 39, 3) := by decide +kernel
theorem dX0_splitNode_86 : decode cX0_splitNode 86 = .ok (.iload_n 1, 1) := by decide +kernel
theorem dX0_splitNode_87 : decode cX0_splitNode 87 = .ok (.invokevirtual 124, 3) := by decide +kernel
theorem dX0_splitNode_90 : decode cX0_splitNode 90 = .ok (.aload_n 0, 1) := by decide +kernel
theorem dX0_splitNode_91 : decode cX0_splitNode 91 = .ok (.iload_n 3, 1) := by decide +kernel
theorem dX0_splitNode_92 : decode cX0_splitNode 92 = .ok (.iload 4, 2) := by decide +kernel
theorem dX0_splitNode_94 : decode cX0_splitNode 94 = .ok (.bipush 6, 2) := by decide +kernel
theorem dX0_splitNode_96 : decode cX0_splitNode 96 = .ok (.irem, 1) := by decide +kernel
theorem dX0_splitNode_97 : decode cX0_splitNode 97 = .ok (.invokevirtual 127, 3) := by decide +kernel
theorem dX0_splitNode_100 : decode cX0_splitNode 100 = .ok (.aload_n 0, 1) := by decide +kernel
theorem dX0_splitNode_101 : decode cX0_splitNode 101 = .ok (.iload_n 1, 1) := by decide +kernel
theorem dX0_splitNode_102 : decode cX0_splitNode 102 = .ok (.iload 4, 2) := by decide +kernel
theorem dX0_splitNode_104 : decode cX0_splitNode 104 = .ok (.bipush 6, 2) := by decide +kernel
theorem dX0_splitNode_106 : decode cX0_splitNode 106 = .ok (.idiv, 1) := by decide +kernel
theorem dX0_splitNode_107 : decode cX0_splitNode 107 = .ok (.invokevirtual 127, 3) := by decide +kernel
theorem dX0_splitNode_110 : decode cX0_splitNode 110 = .ok (.iconst 0, 1) := by decide +kernel
theorem dX0_splitNode_111 : decode cX0_splitNode 111 = .ok (.istore 5, 2) := by decide +kernel
theorem dX0_splitNode_113 : decode cX0_splitNode 113 = .ok (.aload_n 0, 1) := by decide +kernel
theorem dX0_splitNode_114 : decode cX0_splitNode 114 = .ok (.getfield 22, 3) := by decide +kernel
theorem dX0_splitNode_117 : decode cX0_splitNode 117 = .ok (.ifCond .le 107, 3) := by decide +kernel
theorem dX0_splitNode_120 : decode cX0_splitNode 120 = .ok (.iload 5, 2) := by decide +kernel
theorem dX0_splitNode_122 : decode cX0_splitNode 122 = .ok (.bipush 6, 2) := by decide +kernel
theorem dX0_splitNode_124 : decode cX0_splitNode 124 = .ok (.if_icmp .ge 100, 3) := by decide +kernel
theorem dX0_splitNode_127 : decode cX0_splitNode 127 = .ok (.aload_n 0, 1) := by decide +kernel
theorem dX0_splitNode_128 : decode cX0_splitNode 128 = .ok (.getfield 39, 3) := by decide +kernel
theorem dX0_splitNode_131 : decode cX0_splitNode 131 = .ok (.iload_n 1, 1) := by decide +kernel
theorem dX0_splitNode_132 : decode cX0_splitNode 132 = .ok (.invokevirtual 47, 3) := by decide +kernel
theorem dX0_splitNode_135 : decode cX0_splitNode 135 = .ok (.aload_n 0, 1) := by decide +kernel
theorem dX0_splitNode_136 : decode cX0_splitNode 136 = .ok (.getfield 22, 3) := by decide +kernel
theorem dX0_splitNode_139 : decode cX0_splitNode 139 = .ok (.iadd, 1) := by decide +kernel
theorem dX0_splitNode_140 : decode cX0_splitNode 140 = .ok (.aload_n 0, 1) := by decide +kernel
theorem dX0_splitNode_141 : decode cX0_splitNode 141 = .ok (.getfield 39, 3) := by decide +kernel
theorem dX0_splitNode_144 : decode cX0_splitNode 144 = .ok (.invokevirtual 131, 3) := by decide +kernel
theorem dX0_splitNode_147 : decode cX0_splitNode 147 = .ok (.if_icmp .gt 11, 3) := by decide +kernel
theorem dX0_splitNode_150 : decode cX0_splitNode 150 = .ok (.aload_n 0, 1) := by decide +kernel
theorem dX0_splitNode_151 : decode cX0_splitNode 151 = .ok (.iload_n 1, 1) := by decide +kernel
theorem dX0_splitNode_152 : decode cX0_splitNode 152 = .ok (.invokevirtual 134, 3) := by decide +kernel
theorem dX0_splitNode_155 : decode cX0_splitNode 155 = .ok (.goto 63, 3) := by decide +kernel
theorem dX0_splitNode_158 : decode cX0_splitNode 158 = .ok (.aload_n 0, 1) := by decide +kernel
theorem dX0_splitNode_159 : decode cX0_splitNode 159 = .ok (.getfield 39, 3) := by decide +kernel
theorem dX0_splitNode_162 : decode cX0_splitNode 162 = .ok (.iload_n 3, 1) := by decide +kernel
theorem dX0_splitNode_163 : decode cX0_splitNode 163 = .ok (.invokevirtual 47, 3) := by decide +kernel
theorem dX0_splitNode_166 : decode cX0_splitNode 166 = .ok (.aload_n 0, 1) := by decide +kernel
theorem dX0_splitNode_167 : decode cX0_splitNode 167 = .ok (.getfield 22, 3) := by decide +kernel
theorem dX0_splitNode_170 : decode cX0_splitNode 170 = .ok (.iadd, 1) := by decide +kernel
theorem dX0_splitNode_171 : decode cX0_splitNode 171 = .ok (.aload_n 0, 1) := by decide +kernel
theorem dX0_splitNode_172 : decode cX0_splitNode 172 = .ok (.getfield 39, 3) := by decide +kernel
theorem dX0_splitNode_175 : decode cX0_splitNode 175 = .ok (.invokevirtual 131, 3) := by decide +kernel
theorem dX0_splitNode_178 : decode cX0_splitNode 178 = .ok (.if_icmp .gt 11, 3) := by decide +kernel
theorem dX0_splitNode_181 : decode cX0_splitNode 181 = .ok (.aload_n 0, 1) := by decide +kernel
theorem dX0_splitNode_182 : decode cX0_splitNode 182 = .ok (.iload_n 3, 1) := by decide +kernel
theorem dX0_splitNode_183 : decode cX0_splitNode 183 = .ok (.invokevirtual 134, 3) := by decide +kernel
theorem dX0_splitNode_186 : decode cX0_splitNode 186 = .ok (.goto 32, 3) := by decide +kernel
theorem dX0_splitNode_189 : decode cX0_splitNode 189 = .ok (.aload_n 0, 1) := by decide +kernel
theorem dX0_splitNode_190 : decode cX0_splitNode 190 = .ok (.iload_n 1, 1) := by decide +kernel
theorem dX0_splitNode_191 : decode cX0_splitNode 191 = .ok (.iload_n 3, 1) := by decide +kernel
theorem dX0_splitNode_192 : decode cX0_splitNode 192 = .ok (.invokevirtual 137, 3) := by decide +kernel
theorem dX0_splitNode_195 : decode cX0_splitNode 195 = .ok (.istore 6, 2) := by decide +kernel
theorem dX0_splitNode_197 : decode cX0_splitNode 197 = .ok (.aload_n 0, 1) := by decide +kernel
theorem dX0_splitNode_198 : decode cX0_splitNode 198 = .ok (.aload_n 0, 1) := by decide +kernel
theorem dX0_splitNode_199 : decode cX0_splitNode 199 = .ok (.iload_n 1, 1) := by decide +kernel
theorem dX0_splitNode_200 : decode cX0_splitNode 200 = .ok (.iload_n 3, 1) := by decide +kernel
theorem dX0_splitNode_201 : decode cX0_splitNode 201 = .ok (.aload_n 0, 1) := by decide +kernel
theorem dX0_splitNode_202 : decode cX0_splitNode 202 = .ok (.getfield 19, 3) := by decide +kernel
theorem dX0_splitNode_205 : decode cX0_splitNode 205 = .ok (.iload 6, 2) := by decide +kernel
theorem dX0_splitNode_207 : decode cX0_splitNode 207 = .ok (.invokestatic 140, 3) := by decide +kernel
theorem dX0_splitNode_210 : decode cX0_splitNode 210 = .ok (.invokevirtual 144, 3) := by decide +kernel
theorem dX0_splitNode_213 : decode cX0_splitNode 213 = .ok (.iload 6, 2) := by decide +kernel
theorem dX0_splitNode_215 : decode cX0_splitNode 215 = .ok (.invokevirtual 127, 3) := by decide +kernel
theorem dX0_splitNode_218 : decode cX0_splitNode 218 = .ok (.iinc 5 1, 3) := by decide +kernel
theorem dX0_splitNode_221 : decode cX0_splitNode 221 = .ok (.goto (-108), 3) := by decide +kernel
theorem dX0_splitNode_224 : decode cX0_splitNode 224 = .ok (.aload_n 0, 1) := by decide +kernel
theorem dX0_splitNode_225 : decode cX0_splitNode 225 = .ok (.getfield 39, 3) := by decide +kernel
theorem dX0_splitNode_228 : decode cX0_splitNode 228 = .ok (.iload_n 2, 1) := by decide +kernel
theorem dX0_splitNode_229 : decode cX0_splitNode 229 = .ok (.iload_n 1, 1) := by decide +kernel
theorem dX0_splitNode_230 : decode cX0_splitNode 230 = .ok (.iload_n 3, 1) := by decide +kernel
theorem dX0_splitNode_231 : decode cX0_splitNode 231 = .ok (.invokevirtual 148, 3) := by decide +kernel
theorem dX0_splitNode_234 : decode cX0_splitNode 234 = .ok (.iload_n 2, 1) := by decide +kernel
theorem dX0_splitNode_235 : decode cX0_splitNode 235 = .ok (.ireturn, 1) := by decide +kernel
theorem dX0_fillPool_0 : decode cX0_fillPool 0 = .ok (.aload_n 0, 1) := by decide +kernel
theorem dX0_fillPool_1 : decode cX0_fillPool 1 = .ok (.aload_n 0, 1) := by decide +kernel
theorem dX0_fillPool_2 : decode cX0_fillPool 2 = .ok (.getfield 39, 3) := by decide +kernel
theorem dX0_fillPool_5 : decode cX0_fillPool 5 = .ok (.iload_n 1, 1) := by decide +kernel
theorem dX0_fillPool_6 : decode cX0_fillPool 6 = .ok (.invokevirtual 47, 3) := by decide +kernel
theorem dX0_fillPool_9 : decode cX0_fillPool 9 = .ok (.putfield 22, 3) := by decide +kernel
theorem dX0_fillPool_12 : decode cX0_fillPool 12 = .ok (.iconst 0, 1) := by decide +kernel
theorem dX0_fillPool_13 : decode cX0_fillPool 13 = .ok (.istore_n 2, 1) := by decide +kernel
theorem dX0_fillPool_14 : decode cX0_fillPool 14 = .ok (.iload_n 2, 1) := by decide +kernel
theorem dX0_fillPool_15 : decode cX0_fillPool 15 = .ok (.aload_n 0, 1) := by decide +kernel
theorem dX0_fillPool_16 : decode cX0_fillPool 16 = .ok (.getfield 22, 3) := by decide +kernel
theorem dX0_fillPool_19 : decode cX0_fillPool 19 = .ok (.if_icmp .ge 26, 3) := by decide +kernel
theorem dX0_fillPool_22 : decode cX0_fillPool 22 = .ok (.aload_n 0, 1) := by decide +kernel
theorem dX0_fillPool_23 : decode cX0_fillPool 23 = .ok (.getfield 19, 3) := by decide +kernel
theorem dX0_fillPool_26 : decode cX0_fillPool 26 = .ok (.iload_n 2, 1) := by decide +kernel
theorem dX0_fillPool_27 : decode cX0_fillPool 27 = .ok (.aload_n 0, 1) := by decide +kernel
theorem dX0_fillPool_28 : decode cX0_fillPool 28 = .ok (.getfield 39, 3) := by decide +kernel
theorem dX0_fillPool_31 : decode cX0_fillPool 31 = .ok (.iload_n 1, 1) := by decide +kernel
theorem dX0_fillPool_32 : decode cX0_fillPool 32 = .ok (.iload_n 2, 1) := by decide +kernel
theorem dX0_fillPool_33 : decode cX0_fillPool 33 = .ok (.invokevirtual 80, 3) := by decide +kernel
theorem dX0_fillPool_36 : decode cX0_fillPool 36 = .ok (.invokestatic 151, 3) := by decide +kernel
theorem dX0_fillPool_39 : decode cX0_fillPool 39 = .ok (.iinc 2 1, 3) := by decide +kernel
theorem dX0_fillPool_42 : decode cX0_fillPool 42 = .ok (.goto (-28), 3) := by decide +kernel
theorem dX0_fillPool_45 : decode cX0_fillPool 45 = .ok (.return_, 1) := by decide +kernel
theorem dX0_findSeeds_0 : decode cX0_findSeeds 0 = .ok (.iconst (-1), 1) := by decide +kernel
theorem dX0_findSeeds_1 : decode cX0_findSeeds 1 = .ok (.istore_n 1, 1) := by decide +kernel
theorem dX0_findSeeds_2 : decode cX0_findSeeds 2 = .ok (.iconst 0, 1) := by decide +kernel
theorem dX0_findSeeds_3 : decode cX0_findSeeds 3 = .ok (.istore_n 2, 1) := by decide +kernel
theorem dX0_findSeeds_4 : decode cX0_findSeeds 4 = .ok (.iconst 0, 1) := by decide +kernel
theorem dX0_findSeeds_5 : decode cX0_findSeeds 5 = .ok (.istore_n 3, 1) := by decide +kernel
theorem dX0_findSeeds_6 : decode cX0_findSeeds 6 = .ok (.iload_n 3, 1) := by decide +kernel
theorem dX0_findSeeds_7 : decode cX0_findSeeds 7 = .ok (.aload_n 0, 1) := by decide +kernel
theorem dX0_findSeeds_8 : decode cX0_findSeeds 8 = .ok (.getfield 22, 3) := by decide +kernel
theorem dX0_findSeeds_11 : decode cX0_findSeeds 11 = .ok (.if_icmp .ge 105, 3) := by decide +kernel
theorem dX0_findSeeds_14 : decode cX0_findSeeds 14 = .ok (.iload_n 3, 1) := by decide +kernel
theorem dX0_findSeeds_15 : decode cX0_findSeeds 15 = .ok (.iconst 1, 1) := by decide +kernel
theorem dX0_findSeeds_16 : decode cX0_findSeeds 16 = .ok (.iadd, 1) := by decide +kernel
theorem dX0_findSeeds_17 : decode cX0_findSeeds 17 = .ok (.istore 4, 2) := by decide +kernel
theorem dX0_findSeeds_19 : decode cX0_findSeeds 19 = .ok (.iload 4, 2) := by decide +kernel
theorem dX0_findSeeds_21 : decode cX0_findSeeds 21 = .ok (.aload_n 0, 1) := by decide +kernel
theorem dX0_findSeeds_22 : decode cX0_findSeeds 22 = .ok (.getfield 22, 3) := by decide +kernel
theorem dX0_findSeeds_25 : decode cX0_findSeeds 25 = .ok (.if_icmp .ge 85, 3) := by decide +kernel
theorem dX0_findSeeds_28 : decode cX0_findSeeds 28 = .ok (.aload_n 0, 1) := by decide +kernel
theorem dX0_findSeeds_29 : decode cX0_findSeeds 29 = .ok (.getfield 19, 3) := by decide +kernel
theorem dX0_findSeeds_32 : decode cX0_findSeeds 32 = .ok (.iload_n 3, 1) := by decide +kernel
theorem dX0_findSeeds_33 : decode cX0_findSeeds 33 = .ok (.invokestatic 140, 3) := by decide +kernel
theorem dX0_findSeeds_36 : decode cX0_findSeeds 36 = .ok (.istore 5, 2) := by decide +kernel
theorem dX0_findSeeds_38 : decode cX0_findSeeds 38 = .ok (.aload_n 0, 1) := by decide +kernel
theorem dX0_findSeeds_39 : decode cX0_findSeeds 39 = .ok (.getfield 19, 3) := by decide +kernel
theorem dX0_findSeeds_42 : decode cX0_findSeeds 42 = .ok (.iload 4, 2) := by decide +kernel
theorem dX0_findSeeds_44 : decode cX0_findSeeds 44 = .ok (.invokestatic 140, 3) := by decide +kernel
theorem dX0_findSeeds_47 : decode cX0_findSeeds 47 = .ok (.istore 6, 2) := by decide +kernel
theorem dX0_findSeeds_49 : decode cX0_findSeeds 49 = .ok (.aload_n 0, 1) := by decide +kernel
theorem dX0_findSeeds_50 : decode cX0_findSeeds 50 = .ok (.getfield 39, 3) := by decide +kernel
theorem dX0_findSeeds_53 : decode cX0_findSeeds 53 = .ok (.iload 5, 2) := by decide +kernel
theorem dX0_findSeeds_55 : decode cX0_findSeeds 55 = .ok (.iload 6, 2) := by decide +kernel
theorem dX0_findSeeds_57 : decode cX0_findSeeds 57 = .ok (.invokevirtual 86, 3) := by decide +kernel
theorem dX0_findSeeds_60 : decode cX0_findSeeds 60 = .ok (.aload_n 0, 1) := by decide +kernel
theorem dX0_findSeeds_61 : decode cX0_findSeeds 61 = .ok (.getfield 39, 3) := by decide +kernel
theorem dX0_findSeeds_64 : decode cX0_findSeeds 64 = .ok (.iload 5, 2) := by decide +kernel
theorem dX0_findSeeds_66 : decode cX0_findSeeds 66 = .ok (.invokevirtual 83, 3) := by decide +kernel
theorem dX0_findSeeds_69 : decode cX0_findSeeds 69 = .ok (.isub, 1) := by decide +kernel
theorem dX0_findSeeds_70 : decode cX0_findSeeds 70 = .ok (.aload_n 0, 1) := by decide +kernel
theorem dX0_findSeeds_71 : decode cX0_findSeeds 71 = .ok (.getfield 39, 3) := by decide +kernel
theorem dX0_findSeeds_74 : decode cX0_findSeeds 74 = .ok (.iload 6, 2) := by decide +kernel
theorem dX0_findSeeds_76 : decode cX0_findSeeds 76 = .ok (.invokevirtual 83, 3) := by decide +kernel
theorem dX0_findSeeds_79 : decode cX0_findSeeds 79 = .ok (.isub, 1) := by decide +kernel
theorem dX0_findSeeds_80 : decode cX0_findSeeds 80 = .ok (.istore 7, 2) := by decide +kernel
theorem dX0_findSeeds_82 : decode cX0_findSeeds 82 = .ok (.iload_n 1, 1) := by decide +kernel
theorem dX0_findSeeds_83 : decode cX0_findSeeds 83 = .ok (.iconst (-1), 1) := by decide +kernel
theorem dX0_findSeeds_84 : decode cX0_findSeeds 84 = .ok (.if_icmp .eq 9, 3) := by decide +kernel
theorem dX0_findSeeds_87 : decode cX0_findSeeds 87 = .ok (.iload 7, 2) := by decide +kernel
theorem dX0_findSeeds_89 : decode cX0_findSeeds 89 = .ok (.iload_n 2, 1) := by decide +kernel
theorem dX0_findSeeds_90 : decode cX0_findSeeds 90 = .ok (.if_icmp .le 14, 3) := by decide +kernel
theorem dX0_findSeeds_93 : decode cX0_findSeeds 93 = .ok (.iload_n 3, 1) := by decide +kernel
theorem dX0_findSeeds_94 : decode cX0_findSeeds 94 = .ok (.bipush 6, 2) := by decide +kernel
theorem dX0_findSeeds_96 : decode cX0_findSeeds 96 = .ok (.imul, 1) := by decide +kernel
theorem dX0_findSeeds_97 : decode cX0_findSeeds 97 = .ok (.iload 4, 2) := by decide +kernel
theorem dX0_findSeeds_99 : decode cX0_findSeeds 99 = .ok (.iadd, 1) := by decide +kernel
theorem dX0_findSeeds_100 : decode cX0_findSeeds 100 = .ok (.istore_n 1, 1) := by decide +kernel
theorem dX0_findSeeds_101 : decode cX0_findSeeds 101 = .ok (.iload 7, 2) := by decide +kernel
theorem dX0_findSeeds_103 : decode cX0_findSeeds 103 = .ok (.istore_n 2, 1) := by decide +kernel
theorem dX0_findSeeds_104 : decode cX0_findSeeds 104 = .ok (.iinc 4 1, 3) := by decide +kernel
theorem dX0_findSeeds_107 : decode cX0_findSeeds 107 = .ok (.goto (-88), 3) := by decide +kernel
theorem dX0_findSeeds_110 : decode cX0_findSeeds 110 = .ok (.iinc 3 1, 3) := by decide +kernel
theorem dX0_findSeeds_113 : decode cX0_findSeeds 113 = .ok (.goto (-107), 3) := by decide +kernel
theorem dX0_findSeeds_116 : decode cX0_findSeeds 116 = .ok (.iload_n 1, 1) := by decide +kernel
theorem dX0_findSeeds_117 : decode cX0_findSeeds 117 = .ok (.ireturn, 1) := by decide +kernel
theorem dX0_mostDecided_0 : decode cX0_mostDecided 0 = .ok (.iconst (-1), 1) := by decide +kernel
theorem dX0_mostDecided_1 : decode cX0_mostDecided 1 = .ok (.istore_n 3, 1) := by decide +kernel
theorem dX0_mostDecided_2 : decode cX0_mostDecided 2 = .ok (.iconst 0, 1) := by decide +kernel
theorem dX0_mostDecided_3 : decode cX0_mostDecided 3 = .ok (.istore 4, 2) := by decide +kernel
theorem dX0_mostDecided_5 : decode cX0_mostDecided 5 = .ok (.iconst 0, 1) := by decide +kernel
theorem dX0_mostDecided_6 : decode cX0_mostDecided 6 = .ok (.istore 5, 2) := by decide +kernel
theorem dX0_mostDecided_8 : decode cX0_mostDecided 8 = .ok (.iload 5, 2) := by decide +kernel
theorem dX0_mostDecided_10 : decode cX0_mostDecided 10 = .ok (.aload_n 0, 1) := by decide +kernel
theorem dX0_mostDecided_11 : decode cX0_mostDecided 11 = .ok (.getfield 22, 3) := by decide +kernel
theorem dX0_mostDecided_14 : decode cX0_mostDecided 14 = .ok (.if_icmp .ge 65, 3) := by decide +kernel
theorem dX0_mostDecided_17 : decode cX0_mostDecided 17 = .ok (.aload_n 0, 1) := by decide +kernel
theorem dX0_mostDecided_18 : decode cX0_mostDecided 18 = .ok (.getfield 19, 3) := by decide +kernel
theorem dX0_mostDecided_21 : decode cX0_mostDecided 21 = .ok (.iload 5, 2) := by decide +kernel
theorem dX0_mostDecided_23 : decode cX0_mostDecided 23 = .ok (.invokestatic 140, 3) := by decide +kernel
theorem dX0_mostDecided_26 : decode cX0_mostDecided 26 = .ok (.istore 6, 2) := by decide +kernel
theorem dX0_mostDecided_28 : decode cX0_mostDecided 28 = .ok (.aload_n 0, 1) := by decide +kernel
theorem dX0_mostDecided_29 : decode cX0_mostDecided 29 = .ok (.getfield 39, 3) := by decide +kernel
theorem dX0_mostDecided_32 : decode cX0_mostDecided 32 = .ok (.iload_n 1, 1) := by decide +kernel
theorem dX0_mostDecided_33 : decode cX0_mostDecided 33 = .ok (.iload 6, 2) := by decide +kernel
theorem dX0_mostDecided_35 : decode cX0_mostDecided 35 = .ok (.invokevirtual 155, 3) := by decide +kernel
theorem dX0_mostDecided_38 : decode cX0_mostDecided 38 = .ok (.aload_n 0, 1) := by decide +kernel
theorem dX0_mostDecided_39 : decode cX0_mostDecided 39 = .ok (.getfield 39, 3) := by decide +kernel
theorem dX0_mostDecided_42 : decode cX0_mostDecided 42 = .ok (.iload_n 2, 1) := by decide +kernel
theorem dX0_mostDecided_43 : decode cX0_mostDecided 43 = .ok (.iload 6, 2) := by decide +kernel
theorem dX0_mostDecided_45 : decode cX0_mostDecided 45 = .ok (.invokevirtual 155, 3) := by decide +kernel
theorem dX0_mostDecided_48 : decode cX0_mostDecided 48 = .ok (.isub, 1) := by decide +kernel
theorem dX0_mostDecided_49 : decode cX0_mostDecided 49 = .ok (.invokestatic 158, 3) := by decide +kernel
theorem dX0_mostDecided_52 : decode cX0_mostDecided 52 = .ok (.istore 7, 2) := by decide +kernel
theorem dX0_mostDecided_54 : decode cX0_mostDecided 54 = .ok (.iload_n 3, 1) := by decide +kernel
theorem dX0_mostDecided_55 : decode cX0_mostDecided 55 = .ok (.iconst (-1), 1) := by decide +kernel
theorem dX0_mostDecided_56 : decode cX0_mostDecided 56 = .ok (.if_icmp .eq 10, 3) := by decide +kernel
theorem dX0_mostDecided_59 : decode cX0_mostDecided 59 = .ok (.iload 7, 2) := by decide +kernel
theorem dX0_mostDecided_61 : decode cX0_mostDecided 61 = .ok (.iload 4, 2) := by decide +kernel
theorem dX0_mostDecided_63 : decode cX0_mostDecided 63 = .ok (.if_icmp .le 10, 3) := by decide +kernel
theorem dX0_mostDecided_66 : decode cX0_mostDecided 66 = .ok (.iload 5, 2) := by decide +kernel
theorem dX0_mostDecided_68 : decode cX0_mostDecided 68 = .ok (.istore_n 3, 1) := by decide +kernel
theorem dX0_mostDecided_69 : decode cX0_mostDecided 69 = .ok (.iload 7, 2) := by decide +kernel
theorem dX0_mostDecided_71 : decode cX0_mostDecided 71 = .ok (.istore 4, 2) := by decide +kernel
theorem dX0_mostDecided_73 : decode cX0_mostDecided 73 = .ok (.iinc 5 1, 3) := by decide +kernel
theorem dX0_mostDecided_76 : decode cX0_mostDecided 76 = .ok (.goto (-68), 3) := by decide +kernel
theorem dX0_mostDecided_79 : decode cX0_mostDecided 79 = .ok (.iload_n 3, 1) := by decide +kernel
theorem dX0_mostDecided_80 : decode cX0_mostDecided 80 = .ok (.ireturn, 1) := by decide +kernel
theorem dX0_betterGroup_0 : decode cX0_betterGroup 0 = .ok (.aload_n 0, 1) := by decide +kernel
theorem dX0_betterGroup_1 : decode cX0_betterGroup 1 = .ok (.getfield 39, 3) := by decide +kernel
theorem dX0_betterGroup_4 : decode cX0_betterGroup 4 = .ok (.iload_n 1, 1) := by decide +kernel
theorem dX0_betterGroup_5 : decode cX0_betterGroup 5 = .ok (.iload_n 3, 1) := by decide +kernel
theorem dX0_betterGroup_6 : decode cX0_betterGroup 6 = .ok (.invokevirtual 155, 3) := by decide +kernel
theorem dX0_betterGroup_9 : decode cX0_betterGroup 9 = .ok (.aload_n 0, 1) := by decide +kernel
theorem dX0_betterGroup_10 : decode cX0_betterGroup 10 = .ok (.getfield 39, 3) := by decide +kernel
theorem dX0_betterGroup_13 : decode cX0_betterGroup 13 = .ok (.iload_n 2, 1) := by decide +kernel
theorem dX0_betterGroup_14 : decode cX0_betterGroup 14 = .ok (.iload_n 3, 1) := by decide +kernel
theorem dX0_betterGroup_15 : decode cX0_betterGroup 15 = .ok (.invokevirtual 155, 3) := by decide +kernel
theorem dX0_betterGroup_18 : decode cX0_betterGroup 18 = .ok (.isub, 1) := by decide +kernel
theorem dX0_betterGroup_19 : decode cX0_betterGroup 19 = .ok (.istore 4, 2) := by decide +kernel
theorem dX0_betterGroup_21 : decode cX0_betterGroup 21 = .ok (.iload 4, 2) := by decide +kernel
theorem dX0_betterGroup_23 : decode cX0_betterGroup 23 = .ok (.ifCond .ne 22, 3) := by decide +kernel
theorem dX0_betterGroup_26 : decode cX0_betterGroup 26 = .ok (.aload_n 0, 1) := by decide +kernel
theorem dX0_betterGroup_27 : decode cX0_betterGroup 27 = .ok (.getfield 39, 3) := by decide +kernel
theorem dX0_betterGroup_30 : decode cX0_betterGroup 30 = .ok (.iload_n 1, 1) := by decide +kernel
theorem dX0_betterGroup_31 : decode cX0_betterGroup 31 = .ok (.invokevirtual 83, 3) := by decide +kernel
theorem dX0_betterGroup_34 : decode cX0_betterGroup 34 = .ok (.aload_n 0, 1) := by decide +kernel
theorem dX0_betterGroup_35 : decode cX0_betterGroup 35 = .ok (.getfield 39, 3) := by decide +kernel
theorem dX0_betterGroup_38 : decode cX0_betterGroup 38 = .ok (.iload_n 2, 1) := by decide +kernel
theorem dX0_betterGroup_39 : decode cX0_betterGroup 39 = .ok (.invokevirtual 83, 3) := by decide +kernel
theorem dX0_betterGroup_42 : decode cX0_betterGroup 42 = .ok (.isub, 1) := by decide +kernel
theorem dX0_betterGroup_43 : decode cX0_betterGroup 43 = .ok (.istore 4, 2) := by decide +kernel
theorem dX0_betterGroup_45 : decode cX0_betterGroup 45 = .ok (.iload 4, 2) := by decide +kernel
theorem dX0_betterGroup_47 : decode cX0_betterGroup 47 = .ok (.ifCond .ne 22, 3) := by decide +kernel
theorem dX0_betterGroup_50 : decode cX0_betterGroup 50 = .ok (.aload_n 0, 1) := by decide +kernel
theorem dX0_betterGroup_51 : decode cX0_betterGroup 51 = .ok (.getfield 39, 3) := by decide +kernel
theorem dX0_betterGroup_54 : decode cX0_betterGroup 54 = .ok (.iload_n 1, 1) := by decide +kernel
theorem dX0_betterGroup_55 : decode cX0_betterGroup 55 = .ok (.invokevirtual 47, 3) := by decide +kernel
theorem dX0_betterGroup_58 : decode cX0_betterGroup 58 = .ok (.aload_n 0, 1) := by decide +kernel
theorem dX0_betterGroup_59 : decode cX0_betterGroup 59 = .ok (.getfield 39, 3) := by decide +kernel
theorem dX0_betterGroup_62 : decode cX0_betterGroup 62 = .ok (.iload_n 2, 1) := by decide +kernel
theorem dX0_betterGroup_63 : decode cX0_betterGroup 63 = .ok (.invokevirtual 47, 3) := by decide +kernel
theorem dX0_betterGroup_66 : decode cX0_betterGroup 66 = .ok (.isub, 1) := by decide +kernel
theorem dX0_betterGroup_67 : decode cX0_betterGroup 67 = .ok (.istore 4, 2) := by decide +kernel
theorem dX0_betterGroup_69 : decode cX0_betterGroup 69 = .ok (.iload 4, 2) := by decide +kernel
theorem dX0_betterGroup_71 : decode cX0_betterGroup 71 = .ok (.ifCond .gt 7, 3) := by decide +kernel
theorem dX0_betterGroup_74 : decode cX0_betterGroup 74 = .ok (.iload_n 1, 1) := by decide +kernel
theorem dX0_betterGroup_75 : decode cX0_betterGroup 75 = .ok (.goto 4, 3) := by decide +kernel
theorem dX0_betterGroup_78 : decode cX0_betterGroup 78 = .ok (.iload_n 2, 1) := by decide +kernel
theorem dX0_betterGroup_79 : decode cX0_betterGroup 79 = .ok (.ireturn, 1) := by decide +kernel
theorem dX0_giveTo_0 : decode cX0_giveTo 0 = .ok (.aload_n 0, 1) := by decide +kernel
theorem dX0_giveTo_1 : decode cX0_giveTo 1 = .ok (.getfield 39, 3) := by decide +kernel
theorem dX0_giveTo_4 : decode cX0_giveTo 4 = .ok (.iload_n 1, 1) := by decide +kernel
theorem dX0_giveTo_5 : decode cX0_giveTo 5 = .ok (.aload_n 0, 1) := by decide +kernel
theorem dX0_giveTo_6 : decode cX0_giveTo 6 = .ok (.getfield 39, 3) := by decide +kernel
theorem dX0_giveTo_9 : decode cX0_giveTo 9 = .ok (.iload_n 1, 1) := by decide +kernel
theorem dX0_giveTo_10 : decode cX0_giveTo 10 = .ok (.invokevirtual 47, 3) := by decide +kernel
theorem dX0_giveTo_13 : decode cX0_giveTo 13 = .ok (.aload_n 0, 1) := by decide +kernel
theorem dX0_giveTo_14 : decode cX0_giveTo 14 = .ok (.getfield 19, 3) := by decide +kernel
theorem dX0_giveTo_17 : decode cX0_giveTo 17 = .ok (.iload_n 2, 1) := by decide +kernel
theorem dX0_giveTo_18 : decode cX0_giveTo 18 = .ok (.invokestatic 140, 3) := by decide +kernel
theorem dX0_giveTo_21 : decode cX0_giveTo 21 = .ok (.invokevirtual 52, 3) := by decide +kernel
theorem dX0_giveTo_24 : decode cX0_giveTo 24 = .ok (.aload_n 0, 1) := by decide +kernel
theorem dX0_giveTo_25 : decode cX0_giveTo 25 = .ok (.dup, 1) := by decide +kernel
theorem dX0_giveTo_26 : decode cX0_giveTo 26 = .ok (.getfield 22, 3) := by decide +kernel
theorem dX0_giveTo_29 : decode cX0_giveTo 29 = .ok (.iconst 1, 1) := by decide +kernel
theorem dX0_giveTo_30 : decode cX0_giveTo 30 = .ok (.isub, 1) := by decide +kernel
theorem dX0_giveTo_31 : decode cX0_giveTo 31 = .ok (.putfield 22, 3) := by decide +kernel
theorem dX0_giveTo_34 : decode cX0_giveTo 34 = .ok (.iload_n 2, 1) := by decide +kernel
theorem dX0_giveTo_35 : decode cX0_giveTo 35 = .ok (.iconst 0, 1) := by decide +kernel
theorem dX0_giveTo_36 : decode cX0_giveTo 36 = .ok (.invokestatic 163, 3) := by decide +kernel
theorem dX0_giveTo_39 : decode cX0_giveTo 39 = .ok (.istore_n 3, 1) := by decide +kernel
theorem dX0_giveTo_40 : decode cX0_giveTo 40 = .ok (.iload_n 3, 1) := by decide +kernel
theorem dX0_giveTo_41 : decode cX0_giveTo 41 = .ok (.aload_n 0, 1) := by decide +kernel
theorem dX0_giveTo_42 : decode cX0_giveTo 42 = .ok (.getfield 22, 3) := by decide +kernel
theorem dX0_giveTo_45 : decode cX0_giveTo 45 = .ok (.if_icmp .ge 27, 3) := by decide +kernel
theorem dX0_giveTo_48 : decode cX0_giveTo 48 = .ok (.aload_n 0, 1) := by decide +kernel
theorem dX0_giveTo_49 : decode cX0_giveTo 49 = .ok (.getfield 19, 3) := by decide +kernel
theorem dX0_giveTo_52 : decode cX0_giveTo 52 = .ok (.iload_n 3, 1) := by decide +kernel
theorem dX0_giveTo_53 : decode cX0_giveTo 53 = .ok (.aload_n 0, 1) := by decide +kernel
theorem dX0_giveTo_54 : decode cX0_giveTo 54 = .ok (.getfield 19, 3) := by decide +kernel
theorem dX0_giveTo_57 : decode cX0_giveTo 57 = .ok (.iload_n 3, 1) := by decide +kernel
theorem dX0_giveTo_58 : decode cX0_giveTo 58 = .ok (.iconst 1, 1) := by decide +kernel
theorem dX0_giveTo_59 : decode cX0_giveTo 59 = .ok (.iadd, 1) := by decide +kernel
theorem dX0_giveTo_60 : decode cX0_giveTo 60 = .ok (.invokestatic 140, 3) := by decide +kernel
theorem dX0_giveTo_63 : decode cX0_giveTo 63 = .ok (.invokestatic 151, 3) := by decide +kernel
theorem dX0_giveTo_66 : decode cX0_giveTo 66 = .ok (.iinc 3 1, 3) := by decide +kernel
theorem dX0_giveTo_69 : decode cX0_giveTo 69 = .ok (.goto (-29), 3) := by decide +kernel
theorem dX0_giveTo_72 : decode cX0_giveTo 72 = .ok (.return_, 1) := by decide +kernel
theorem dX0_giveAllTo_0 : decode cX0_giveAllTo 0 = .ok (.iconst 0, 1) := by decide +kernel
theorem dX0_giveAllTo_1 : decode cX0_giveAllTo 1 = .ok (.istore_n 2, 1) := by decide +kernel
theorem dX0_giveAllTo_2 : decode cX0_giveAllTo 2 = .ok (.iload_n 2, 1) := by decide +kernel
theorem dX0_giveAllTo_3 : decode cX0_giveAllTo 3 = .ok (.aload_n 0, 1) := by decide +kernel
theorem dX0_giveAllTo_4 : decode cX0_giveAllTo 4 = .ok (.getfield 22, 3) := by decide +kernel
theorem dX0_giveAllTo_7 : decode cX0_giveAllTo 7 = .ok (.if_icmp .ge 33, 3) := by decide +kernel
theorem dX0_giveAllTo_10 : decode cX0_giveAllTo 10 = .ok (.aload_n 0, 1) := by decide +kernel
theorem dX0_giveAllTo_11 : decode cX0_giveAllTo 11 = .ok (.getfield 39, 3) := by decide +kernel
theorem dX0_giveAllTo_14 : decode cX0_giveAllTo 14 = .ok (.iload_n 1, 1) := by decide +kernel
theorem dX0_giveAllTo_15 : decode cX0_giveAllTo 15 = .ok (.aload_n 0, 1) := by decide +kernel
theorem dX0_giveAllTo_16 : decode cX0_giveAllTo 16 = .ok (.getfield 39, 3) := by decide +kernel
theorem dX0_giveAllTo_19 : decode cX0_giveAllTo 19 = .ok (.iload_n 1, 1) := by decide +kernel
theorem dX0_giveAllTo_20 : decode cX0_giveAllTo 20 = .ok (.invokevirtual 47, 3) := by decide +kernel
theorem dX0_giveAllTo_23 : decode cX0_giveAllTo 23 = .ok (.aload_n 0, 1) := by decide +kernel
theorem dX0_giveAllTo_24 : decode cX0_giveAllTo 24 = .ok (.getfield 19, 3) := by decide +kernel
theorem dX0_giveAllTo_27 : decode cX0_giveAllTo 27 = .ok (.iload_n 2, 1) := by decide +kernel
theorem dX0_giveAllTo_28 : decode cX0_giveAllTo 28 = .ok (.invokestatic 140, 3) := by decide +kernel
theorem dX0_giveAllTo_31 : decode cX0_giveAllTo 31 = .ok (.invokevirtual 52, 3) := by decide +kernel
theorem dX0_giveAllTo_34 : decode cX0_giveAllTo 34 = .ok (.iinc 2 1, 3) := by decide +kernel
theorem dX0_giveAllTo_37 : decode cX0_giveAllTo 37 = .ok (.goto (-35), 3) := by decide +kernel
theorem dX0_giveAllTo_40 : decode cX0_giveAllTo 40 = .ok (.aload_n 0, 1) := by decide +kernel
theorem dX0_giveAllTo_41 : decode cX0_giveAllTo 41 = .ok (.iconst 0, 1) := by decide +kernel
theorem dX0_giveAllTo_42 : decode cX0_giveAllTo 42 = .ok (.putfield 22, 3) := by decide +kernel
theorem dX0_giveAllTo_45 : decode cX0_giveAllTo 45 = .ok (.return_, 1) := by decide +kernel
theorem dX0_takeOutBox_0 : decode cX0_takeOutBox 0 = .ok (.aload_n 0, 1) := by decide +kernel
theorem dX0_takeOutBox_1 : decode cX0_takeOutBox 1 = .ok (.getfield 39, 3) := by decide +kernel
theorem dX0_takeOutBox_4 : decode cX0_takeOutBox 4 = .ok (.iload_n 1, 1) := by decide +kernel
theorem dX0_takeOutBox_5 : decode cX0_takeOutBox 5 = .ok (.invokevirtual 109, 3) := by decide +kernel
theorem dX0_takeOutBox_8 : decode cX0_takeOutBox 8 = .ok (.istore_n 2, 1) := by decide +kernel
theorem dX0_takeOutBox_9 : decode cX0_takeOutBox 9 = .ok (.aload_n 0, 1) := by decide +kernel
theorem dX0_takeOutBox_10 : decode cX0_takeOutBox 10 = .ok (.getfield 39, 3) := by decide +kernel
theorem dX0_takeOutBox_13 : decode cX0_takeOutBox 13 = .ok (.iload_n 1, 1) := by decide +kernel
theorem dX0_takeOutBox_14 : decode cX0_takeOutBox 14 = .ok (.invokevirtual 98, 3) := by decide +kernel
theorem dX0_takeOutBox_17 : decode cX0_takeOutBox 17 = .ok (.aload_n 0, 1) := by decide +kernel
theorem dX0_takeOutBox_18 : decode cX0_takeOutBox 18 = .ok (.getfield 39, 3) := by decide +kernel
theorem dX0_takeOutBox_21 : decode cX0_takeOutBox 21 = .ok (.iload_n 1, 1) := by decide +kernel
theorem dX0_takeOutBox_22 : decode cX0_takeOutBox 22 = .ok (.invokevirtual 166, 3) := by decide +kernel
theorem dX0_takeOutBox_25 : decode cX0_takeOutBox 25 = .ok (.aload_n 0, 1) := by decide +kernel
theorem dX0_takeOutBox_26 : decode cX0_takeOutBox 26 = .ok (.iconst 0, 1) := by decide +kernel
theorem dX0_takeOutBox_27 : decode cX0_takeOutBox 27 = .ok (.putfield 15, 3) := by decide +kernel
theorem dX0_takeOutBox_30 : decode cX0_takeOutBox 30 = .ok (.iconst 0, 1) := by decide +kernel
theorem dX0_takeOutBox_31 : decode cX0_takeOutBox 31 = .ok (.istore_n 3, 1) := by decide +kernel
theorem dX0_takeOutBox_32 : decode cX0_takeOutBox 32 = .ok (.aload_n 0, 1) := by decide +kernel
theorem dX0_takeOutBox_33 : decode cX0_takeOutBox 33 = .ok (.getfield 39, 3) := by decide +kernel
theorem dX0_takeOutBox_36 : decode cX0_takeOutBox 36 = .ok (.iload_n 2, 1) := by decide +kernel
theorem dX0_takeOutBox_37 : decode cX0_takeOutBox 37 = .ok (.invokevirtual 169, 3) := by decide +kernel
theorem dX0_takeOutBox_40 : decode cX0_takeOutBox 40 = .ok (.ifCond .eq 62, 3) := by decide +kernel
theorem dX0_takeOutBox_43 : decode cX0_takeOutBox 43 = .ok (.iload_n 2, 1) := by decide +kernel
theorem dX0_takeOutBox_44 : decode cX0_takeOutBox 44 = .ok (.aload_n 0, 1) := by decide +kernel
theorem dX0_takeOutBox_45 : decode cX0_takeOutBox 45 = .ok (.getfield 39, 3) := by decide +kernel
theorem dX0_takeOutBox_48 : decode cX0_takeOutBox 48 = .ok (.getfield 73, 3) := by decide +kernel
theorem dX0_takeOutBox_51 : decode cX0_takeOutBox 51 = .ok (.if_icmp .eq 51, 3) := by decide +kernel
theorem dX0_takeOutBox_54 : decode cX0_takeOutBox 54 = .ok (.iload_n 3, 1) := by decide +kernel
theorem dX0_takeOutBox_55 : decode cX0_takeOutBox 55 = .ok (.ldc 59, 2) := by decide +kernel
theorem dX0_takeOutBox_57 : decode cX0_takeOutBox 57 = .ok (.if_icmp .ge 45, 3) := by decide +kernel
theorem dX0_takeOutBox_60 : decode cX0_takeOutBox 60 = .ok (.aload_n 0, 1) := by decide +kernel
theorem dX0_takeOutBox_61 : decode cX0_takeOutBox 61 = .ok (.getfield 39, 3) := by decide +kernel
theorem dX0_takeOutBox_64 : decode cX0_takeOutBox 64 = .ok (.iload_n 2, 1) := by decide +kernel
theorem dX0_takeOutBox_65 : decode cX0_takeOutBox 65 = .ok (.invokevirtual 109, 3) := by decide +kernel
theorem dX0_takeOutBox_68 : decode cX0_takeOutBox 68 = .ok (.istore 4, 2) := by decide +kernel
theorem dX0_takeOutBox_70 : decode cX0_takeOutBox 70 = .ok (.aload_n 0, 1) := by decide +kernel
theorem dX0_takeOutBox_71 : decode cX0_takeOutBox 71 = .ok (.getfield 39, 3) := by decide +kernel
theorem dX0_takeOutBox_74 : decode cX0_takeOutBox 74 = .ok (.iload_n 2, 1) := by decide +kernel
theorem dX0_takeOutBox_75 : decode cX0_takeOutBox 75 = .ok (.invokevirtual 47, 3) := by decide +kernel
theorem dX0_takeOutBox_78 : decode cX0_takeOutBox 78 = .ok (.aload_n 0, 1) := by decide +kernel
theorem dX0_takeOutBox_79 : decode cX0_takeOutBox 79 = .ok (.getfield 39, 3) := by decide +kernel
theorem dX0_takeOutBox_82 : decode cX0_takeOutBox 82 = .ok (.invokevirtual 131, 3) := by decide +kernel
theorem dX0_takeOutBox_85 : decode cX0_takeOutBox 85 = .ok (.if_icmp .ge 8, 3) := by decide +kernel
theorem dX0_takeOutBox_88 : decode cX0_takeOutBox 88 = .ok (.aload_n 0, 1) := by decide +kernel
theorem dX0_takeOutBox_89 : decode cX0_takeOutBox 89 = .ok (.iload_n 2, 1) := by decide +kernel
theorem dX0_takeOutBox_90 : decode cX0_takeOutBox 90 = .ok (.invokevirtual 172, 3) := by decide +kernel
theorem dX0_takeOutBox_93 : decode cX0_takeOutBox 93 = .ok (.iload 4, 2) := by decide +kernel
theorem dX0_takeOutBox_95 : decode cX0_takeOutBox 95 = .ok (.istore_n 2, 1) := by decide +kernel
theorem dX0_takeOutBox_96 : decode cX0_takeOutBox 96 = .ok (.iinc 3 1, 3) := by decide +kernel
theorem dX0_takeOutBox_99 : decode cX0_takeOutBox 99 = .ok (.goto (-67), 3) := by decide +kernel
theorem dX0_takeOutBox_102 : decode cX0_takeOutBox 102 = .ok (.aload_n 0, 1) := by decide +kernel
theorem dX0_takeOutBox_103 : decode cX0_takeOutBox 103 = .ok (.getfield 39, 3) := by decide +kernel
theorem dX0_takeOutBox_106 : decode cX0_takeOutBox 106 = .ok (.invokevirtual 175, 3) := by decide +kernel
theorem dX0_takeOutBox_109 : decode cX0_takeOutBox 109 = .ok (.return_, 1) := by decide +kernel
theorem dX0_keepEntriesOf_0 : decode cX0_keepEntriesOf 0 = .ok (.aload_n 0, 1) := by decide +kernel
theorem dX0_keepEntriesOf_1 : decode cX0_keepEntriesOf 1 = .ok (.getfield 39, 3) := by decide +kernel
theorem dX0_keepEntriesOf_4 : decode cX0_keepEntriesOf 4 = .ok (.iload_n 1, 1) := by decide +kernel
theorem dX0_keepEntriesOf_5 : decode cX0_keepEntriesOf 5 = .ok (.invokevirtual 98, 3) := by decide +kernel
theorem dX0_keepEntriesOf_8 : decode cX0_keepEntriesOf 8 = .ok (.aload_n 0, 1) := by decide +kernel
theorem dX0_keepEntriesOf_9 : decode cX0_keepEntriesOf 9 = .ok (.getfield 39, 3) := by decide +kernel
theorem dX0_keepEntriesOf_12 : decode cX0_keepEntriesOf 12 = .ok (.iload_n 1, 1) := by decide +kernel
theorem dX0_keepEntriesOf_13 : decode cX0_keepEntriesOf 13 = .ok (.invokevirtual 47, 3) := by decide +kernel
theorem dX0_keepEntriesOf_16 : decode cX0_keepEntriesOf 16 = .ok (.istore_n 2, 1) := by decide +kernel
theorem dX0_keepEntriesOf_17 : decode cX0_keepEntriesOf 17 = .ok (.iconst 0, 1) := by decide +kernel
theorem dX0_keepEntriesOf_18 : decode cX0_keepEntriesOf 18 = .ok (.istore_n 3, 1) := by decide +kernel
theorem dX0_keepEntriesOf_19 : decode cX0_keepEntriesOf 19 = .ok (.iload_n 3, 1) := by decide +kernel
theorem dX0_keepEntriesOf_20 : decode cX0_keepEntriesOf 20 = .ok (.iload_n 2, 1) := by decide +kernel
theorem dX0_keepEntriesOf_21 : decode cX0_keepEntriesOf 21 = .ok (.if_icmp .ge 52, 3) := by decide +kernel
theorem dX0_keepEntriesOf_24 : decode cX0_keepEntriesOf 24 = .ok (.aload_n 0, 1) := by decide +kernel
theorem dX0_keepEntriesOf_25 : decode cX0_keepEntriesOf 25 = .ok (.getfield 39, 3) := by decide +kernel
theorem dX0_keepEntriesOf_28 : decode cX0_keepEntriesOf 28 = .ok (.iload_n 1, 1) := by decide +kernel
theorem dX0_keepEntriesOf_29 : decode cX0_keepEntriesOf 29 = .ok (.iload_n 3, 1) := by decide +kernel
theorem dX0_keepEntriesOf_30 : decode cX0_keepEntriesOf 30 = .ok (.invokevirtual 80, 3) := by decide +kernel
theorem dX0_keepEntriesOf_33 : decode cX0_keepEntriesOf 33 = .ok (.istore 4, 2) := by decide +kernel
theorem dX0_keepEntriesOf_35 : decode cX0_keepEntriesOf 35 = .ok (.aload_n 0, 1) := by decide +kernel
theorem dX0_keepEntriesOf_36 : decode cX0_keepEntriesOf 36 = .ok (.getfield 39, 3) := by decide +kernel
theorem dX0_keepEntriesOf_39 : decode cX0_keepEntriesOf 39 = .ok (.iload 4, 2) := by decide +kernel
theorem dX0_keepEntriesOf_41 : decode cX0_keepEntriesOf 41 = .ok (.invokevirtual 178, 3) := by decide +kernel
theorem dX0_keepEntriesOf_44 : decode cX0_keepEntriesOf 44 = .ok (.aload_n 0, 1) := by decide +kernel
theorem dX0_keepEntriesOf_45 : decode cX0_keepEntriesOf 45 = .ok (.getfield 9, 3) := by decide +kernel
theorem dX0_keepEntriesOf_48 : decode cX0_keepEntriesOf 48 = .ok (.aload_n 0, 1) := by decide +kernel
theorem dX0_keepEntriesOf_49 : decode cX0_keepEntriesOf 49 = .ok (.getfield 15, 3) := by decide +kernel
theorem dX0_keepEntriesOf_52 : decode cX0_keepEntriesOf 52 = .ok (.iload 4, 2) := by decide +kernel
theorem dX0_keepEntriesOf_54 : decode cX0_keepEntriesOf 54 = .ok (.invokestatic 151, 3) := by decide +kernel
theorem dX0_keepEntriesOf_57 : decode cX0_keepEntriesOf 57 = .ok (.aload_n 0, 1) := by decide +kernel
theorem dX0_keepEntriesOf_58 : decode cX0_keepEntriesOf 58 = .ok (.dup, 1) := by decide +kernel
theorem dX0_keepEntriesOf_59 : decode cX0_keepEntriesOf 59 = .ok (.getfield 15, 3) := by decide +kernel
theorem dX0_keepEntriesOf_62 : decode cX0_keepEntriesOf 62 = .ok (.iconst 1, 1) := by decide +kernel
theorem dX0_keepEntriesOf_63 : decode cX0_keepEntriesOf 63 = .ok (.iadd, 1) := by decide +kernel
theorem dX0_keepEntriesOf_64 : decode cX0_keepEntriesOf 64 = .ok (.putfield 15, 3) := by decide +kernel
theorem dX0_keepEntriesOf_67 : decode cX0_keepEntriesOf 67 = .ok (.iinc 3 1, 3) := by decide +kernel
theorem dX0_keepEntriesOf_70 : decode cX0_keepEntriesOf 70 = .ok (.goto (-51), 3) := by decide +kernel
theorem dX0_keepEntriesOf_73 : decode cX0_keepEntriesOf 73 = .ok (.aload_n 0, 1) := by decide +kernel
theorem dX0_keepEntriesOf_74 : decode cX0_keepEntriesOf 74 = .ok (.getfield 39, 3) := by decide +kernel
theorem dX0_keepEntriesOf_77 : decode cX0_keepEntriesOf 77 = .ok (.iload_n 1, 1) := by decide +kernel
theorem dX0_keepEntriesOf_78 : decode cX0_keepEntriesOf 78 = .ok (.invokevirtual 166, 3) := by decide +kernel
theorem dX0_keepEntriesOf_81 : decode cX0_keepEntriesOf 81 = .ok (.return_, 1) := by decide +kernel
theorem dX0_putBackKept_0 : decode cX0_putBackKept 0 = .ok (.iconst 0, 1) := by decide +kernel
theorem dX0_putBackKept_1 : decode cX0_putBackKept 1 = .ok (.istore_n 1, 1) := by decide +kernel
theorem dX0_putBackKept_2 : decode cX0_putBackKept 2 = .ok (.iload_n 1, 1) := by decide +kernel
theorem dX0_putBackKept_3 : decode cX0_putBackKept 3 = .ok (.aload_n 0, 1) := by decide +kernel
theorem dX0_putBackKept_4 : decode cX0_putBackKept 4 = .ok (.getfield 15, 3) := by decide +kernel
theorem dX0_putBackKept_7 : decode cX0_putBackKept 7 = .ok (.if_icmp .ge 92, 3) := by decide +kernel
theorem dX0_putBackKept_10 : decode cX0_putBackKept 10 = .ok (.aload_n 0, 1) := by decide +kernel
theorem dX0_putBackKept_11 : decode cX0_putBackKept 11 = .ok (.getfield 9, 3) := by decide +kernel
theorem dX0_putBackKept_14 : decode cX0_putBackKept 14 = .ok (.iload_n 1, 1) := by decide +kernel
theorem dX0_putBackKept_15 : decode cX0_putBackKept 15 = .ok (.invokestatic 140, 3) := by decide +kernel
theorem dX0_putBackKept_18 : decode cX0_putBackKept 18 = .ok (.istore_n 2, 1) := by decide +kernel
theorem dX0_putBackKept_19 : decode cX0_putBackKept 19 = .ok (.aload_n 0, 1) := by decide +kernel
theorem dX0_putBackKept_20 : decode cX0_putBackKept 20 = .ok (.getfield 39, 3) := by decide +kernel
theorem dX0_putBackKept_23 : decode cX0_putBackKept 23 = .ok (.iload_n 2, 1) := by decide +kernel
theorem dX0_putBackKept_24 : decode cX0_putBackKept 24 = .ok (.invokevirtual 70, 3) := by decide +kernel
theorem dX0_putBackKept_27 : decode cX0_putBackKept 27 = .ok (.iconst 1, 1) := by decide +kernel
theorem dX0_putBackKept_28 : decode cX0_putBackKept 28 = .ok (.iadd, 1) := by decide +kernel
theorem dX0_putBackKept_29 : decode cX0_putBackKept 29 = .ok (.aload_n 0, 1) := by decide +kernel
theorem dX0_putBackKept_30 : decode cX0_putBackKept 30 = .ok (.getfield 39, 3) := by decide +kernel
theorem dX0_putBackKept_33 : decode cX0_putBackKept 33 = .ok (.aload_n 0, 1) := by decide +kernel
theorem dX0_putBackKept_34 : decode cX0_putBackKept 34 = .ok (.getfield 39, 3) := by decide +kernel
theorem dX0_putBackKept_37 : decode cX0_putBackKept 37 = .ok (.getfield 73, 3) := by decide +kernel
theorem dX0_putBackKept_40 : decode cX0_putBackKept 40 = .ok (.invokevirtual 70, 3) := by decide +kernel
theorem dX0_putBackKept_43 : decode cX0_putBackKept 43 = .ok (.if_icmp .gt 11, 3) := by decide +kernel
theorem dX0_putBackKept_46 : decode cX0_putBackKept 46 = .ok (.aload_n 0, 1) := by decide +kernel
theorem dX0_putBackKept_47 : decode cX0_putBackKept 47 = .ok (.iload_n 2, 1) := by decide +kernel
theorem dX0_putBackKept_48 : decode cX0_putBackKept 48 = .ok (.invokevirtual 181, 3) := by decide +kernel
theorem dX0_putBackKept_51 : decode cX0_putBackKept 51 = .ok (.goto 42, 3) := by decide +kernel
theorem dX0_putBackKept_54 : decode cX0_putBackKept 54 = .ok (.aload_n 0, 1) := by decide +kernel
theorem dX0_putBackKept_55 : decode cX0_putBackKept 55 = .ok (.iload_n 2, 1) := by decide +kernel
theorem dX0_putBackKept_56 : decode cX0_putBackKept 56 = .ok (.invokevirtual 184, 3) := by decide +kernel
theorem dX0_putBackKept_59 : decode cX0_putBackKept 59 = .ok (.iconst 0, 1) := by decide +kernel
theorem dX0_putBackKept_60 : decode cX0_putBackKept 60 = .ok (.istore_n 3, 1) := by decide +kernel
theorem dX0_putBackKept_61 : decode cX0_putBackKept 61 = .ok (.iload_n 3, 1) := by decide +kernel
theorem dX0_putBackKept_62 : decode cX0_putBackKept 62 = .ok (.aload_n 0, 1) := by decide +kernel
theorem dX0_putBackKept_63 : decode cX0_putBackKept 63 = .ok (.getfield 32, 3) := by decide +kernel
theorem dX0_putBackKept_66 : decode cX0_putBackKept 66 = .ok (.getfield 187, 3) := by decide +kernel
theorem dX0_putBackKept_69 : decode cX0_putBackKept 69 = .ok (.if_icmp .ge 24, 3) := by decide +kernel
theorem dX0_putBackKept_72 : decode cX0_putBackKept 72 = .ok (.aload_n 0, 1) := by decide +kernel
theorem dX0_putBackKept_73 : decode cX0_putBackKept 73 = .ok (.aload_n 0, 1) := by decide +kernel
theorem dX0_putBackKept_74 : decode cX0_putBackKept 74 = .ok (.getfield 32, 3) := by decide +kernel
theorem dX0_putBackKept_77 : decode cX0_putBackKept 77 = .ok (.getfield 190, 3) := by decide +kernel
theorem dX0_putBackKept_80 : decode cX0_putBackKept 80 = .ok (.iload_n 3, 1) := by decide +kernel
theorem dX0_putBackKept_81 : decode cX0_putBackKept 81 = .ok (.invokestatic 140, 3) := by decide +kernel
theorem dX0_putBackKept_84 : decode cX0_putBackKept 84 = .ok (.invokevirtual 181, 3) := by decide +kernel
theorem dX0_putBackKept_87 : decode cX0_putBackKept 87 = .ok (.iinc 3 1, 3) := by decide +kernel
theorem dX0_putBackKept_90 : decode cX0_putBackKept 90 = .ok (.goto (-29), 3) := by decide +kernel
theorem dX0_putBackKept_93 : decode cX0_putBackKept 93 = .ok (.iinc 1 1, 3) := by decide +kernel
theorem dX0_putBackKept_96 : decode cX0_putBackKept 96 = .ok (.goto (-94), 3) := by decide +kernel
theorem dX0_putBackKept_99 : decode cX0_putBackKept 99 = .ok (.return_, 1) := by decide +kernel
theorem dX0_dissolve_0 : decode cX0_dissolve 0 = .ok (.aload_n 0, 1) := by decide +kernel
theorem dX0_dissolve_1 : decode cX0_dissolve 1 = .ok (.getfield 32, 3) := by decide +kernel
theorem dX0_dissolve_4 : decode cX0_dissolve 4 = .ok (.aload_n 0, 1) := by decide +kernel
theorem dX0_dissolve_5 : decode cX0_dissolve 5 = .ok (.getfield 39, 3) := by decide +kernel
theorem dX0_dissolve_8 : decode cX0_dissolve 8 = .ok (.iload_n 1, 1) := by decide +kernel
theorem dX0_dissolve_9 : decode cX0_dissolve 9 = .ok (.iconst 0, 1) := by decide +kernel
theorem dX0_dissolve_10 : decode cX0_dissolve 10 = .ok (.invokevirtual 193, 3) := by decide +kernel
theorem dX0_dissolve_13 : decode cX0_dissolve 13 = .ok (.aload_n 0, 1) := by decide +kernel
theorem dX0_dissolve_14 : decode cX0_dissolve 14 = .ok (.getfield 36, 3) := by decide +kernel
theorem dX0_dissolve_17 : decode cX0_dissolve 17 = .ok (.aload_n 0, 1) := by decide +kernel
theorem dX0_dissolve_18 : decode cX0_dissolve 18 = .ok (.getfield 39, 3) := by decide +kernel
theorem dX0_dissolve_21 : decode cX0_dissolve 21 = .ok (.iload_n 1, 1) := by decide +kernel
theorem dX0_dissolve_22 : decode cX0_dissolve 22 = .ok (.iconst 1, 1) := by decide +kernel
theorem dX0_dissolve_23 : decode cX0_dissolve 23 = .ok (.invokevirtual 193, 3) := by decide +kernel
theorem dX0_dissolve_26 : decode cX0_dissolve 26 = .ok (.iconst 0, 1) := by decide +kernel
theorem dX0_dissolve_27 : decode cX0_dissolve 27 = .ok (.istore_n 2, 1) := by decide +kernel
theorem dX0_dissolve_28 : decode cX0_dissolve 28 = .ok (.iload_n 2, 1) := by decide +kernel
theorem dX0_dissolve_29 : decode cX0_dissolve 29 = .ok (.aload_n 0, 1) := by decide +kernel
theorem dX0_dissolve_30 : decode cX0_dissolve 30 = .ok (.getfield 32, 3) := by decide +kernel
theorem dX0_dissolve_33 : decode cX0_dissolve 33 = .ok (.getfield 187, 3) := by decide +kernel
theorem dX0_dissolve_36 : decode cX0_dissolve 36 = .ok (.if_icmp .ge 27, 3) := by decide +kernel
theorem dX0_dissolve_39 : decode cX0_dissolve 39 = .ok (.aload_n 0, 1) := by decide +kernel
theorem dX0_dissolve_40 : decode cX0_dissolve 40 = .ok (.getfield 39, 3) := by decide +kernel
theorem dX0_dissolve_43 : decode cX0_dissolve 43 = .ok (.aload_n 0, 1) := by decide +kernel
theorem dX0_dissolve_44 : decode cX0_dissolve 44 = .ok (.getfield 32, 3) := by decide +kernel
theorem dX0_dissolve_47 : decode cX0_dissolve 47 = .ok (.getfield 190, 3) := by decide +kernel
theorem dX0_dissolve_50 : decode cX0_dissolve 50 = .ok (.iload_n 2, 1) := by decide +kernel
theorem dX0_dissolve_51 : decode cX0_dissolve 51 = .ok (.invokestatic 140, 3) := by decide +kernel
theorem dX0_dissolve_54 : decode cX0_dissolve 54 = .ok (.invokevirtual 178, 3) := by decide +kernel
theorem dX0_dissolve_57 : decode cX0_dissolve 57 = .ok (.iinc 2 1, 3) := by decide +kernel
theorem dX0_dissolve_60 : decode cX0_dissolve 60 = .ok (.goto (-32), 3) := by decide +kernel
theorem dX0_dissolve_63 : decode cX0_dissolve 63 = .ok (.iconst 0, 1) := by decide +kernel
theorem dX0_dissolve_64 : decode cX0_dissolve 64 = .ok (.istore_n 2, 1) := by decide +kernel
theorem dX0_dissolve_65 : decode cX0_dissolve 65 = .ok (.iload_n 2, 1) := by decide +kernel
theorem dX0_dissolve_66 : decode cX0_dissolve 66 = .ok (.aload_n 0, 1) := by decide +kernel
theorem dX0_dissolve_67 : decode cX0_dissolve 67 = .ok (.getfield 36, 3) := by decide +kernel
theorem dX0_dissolve_70 : decode cX0_dissolve 70 = .ok (.getfield 187, 3) := by decide +kernel
theorem dX0_dissolve_73 : decode cX0_dissolve 73 = .ok (.if_icmp .ge 27, 3) := by decide +kernel
theorem dX0_dissolve_76 : decode cX0_dissolve 76 = .ok (.aload_n 0, 1) := by decide +kernel
theorem dX0_dissolve_77 : decode cX0_dissolve 77 = .ok (.getfield 39, 3) := by decide +kernel
theorem dX0_dissolve_80 : decode cX0_dissolve 80 = .ok (.aload_n 0, 1) := by decide +kernel
theorem dX0_dissolve_81 : decode cX0_dissolve 81 = .ok (.getfield 36, 3) := by decide +kernel
theorem dX0_dissolve_84 : decode cX0_dissolve 84 = .ok (.getfield 190, 3) := by decide +kernel
theorem dX0_dissolve_87 : decode cX0_dissolve 87 = .ok (.iload_n 2, 1) := by decide +kernel
theorem dX0_dissolve_88 : decode cX0_dissolve 88 = .ok (.invokestatic 140, 3) := by decide +kernel
theorem dX0_dissolve_91 : decode cX0_dissolve 91 = .ok (.invokevirtual 166, 3) := by decide +kernel
theorem dX0_dissolve_94 : decode cX0_dissolve 94 = .ok (.iinc 2 1, 3) := by decide +kernel
theorem dX0_dissolve_97 : decode cX0_dissolve 97 = .ok (.goto (-32), 3) := by decide +kernel
theorem dX0_dissolve_100 : decode cX0_dissolve 100 = .ok (.return_, 1) := by decide +kernel
theorem dX1_init_0 : decode cX1_init 0 = .ok (.aload_n 0, 1) := by decide +kernel
theorem dX1_init_1 : decode cX1_init 1 = .ok (.invokespecial 1, 3) := by decide +kernel
theorem dX1_init_4 : decode cX1_init 4 = .ok (.aload_n 0, 1) := by decide +kernel
theorem dX1_init_5 : decode cX1_init 5 = .ok (.iconst 4, 1) := by decide +kernel
theorem dX1_init_6 : decode cX1_init 6 = .ok (.anewarray 9, 3) := by decide +kernel
theorem dX1_init_9 : decode cX1_init 9 = .ok (.putfield 11, 3) := by decide +kernel
theorem dX1_init_12 : decode cX1_init 12 = .ok (.aload_n 0, 1) := by decide +kernel
theorem dX1_init_13 : decode cX1_init 13 = .ok (.iconst 0, 1) := by decide +kernel
theorem dX1_init_14 : decode cX1_init 14 = .ok (.putfield 15, 3) := by decide +kernel
theorem dX1_init_17 : decode cX1_init 17 = .ok (.iconst 0, 1) := by decide +kernel
theorem dX1_init_18 : decode cX1_init 18 = .ok (.istore_n 1, 1) := by decide +kernel
theorem dX1_init_19 : decode cX1_init 19 = .ok (.iload_n 1, 1) := by decide +kernel
theorem dX1_init_20 : decode cX1_init 20 = .ok (.aload_n 0, 1) := by decide +kernel
theorem dX1_init_21 : decode cX1_init 21 = .ok (.getfield 11, 3) := by decide +kernel
theorem dX1_init_24 : decode cX1_init 24 = .ok (.arraylength, 1) := by decide +kernel
theorem dX1_init_25 : decode cX1_init 25 = .ok (.if_icmp .ge 22, 3) := by decide +kernel
theorem dX1_init_28 : decode cX1_init 28 = .ok (.aload_n 0, 1) := by decide +kernel
theorem dX1_init_29 : decode cX1_init 29 = .ok (.getfield 11, 3) := by decide +kernel
theorem dX1_init_32 : decode cX1_init 32 = .ok (.iload_n 1, 1) := by decide +kernel
theorem dX1_init_33 : decode cX1_init 33 = .ok (.new 9, 3) := by decide +kernel
theorem dX1_init_36 : decode cX1_init 36 = .ok (.dup, 1) := by decide +kernel
theorem dX1_init_37 : decode cX1_init 37 = .ok (.invokespecial 19, 3) := by decide +kernel
theorem dX1_init_40 : decode cX1_init 40 = .ok (.aastore, 1) := by decide +kernel
theorem dX1_init_41 : decode cX1_init 41 = .ok (.iinc 1 1, 3) := by decide +kernel
theorem dX1_init_44 : decode cX1_init 44 = .ok (.goto (-25), 3) := by decide +kernel
theorem dX1_init_47 : decode cX1_init 47 = .ok (.return_, 1) := by decide +kernel
theorem dX1_record_0 : decode cX1_record 0 = .ok (.aload_n 0, 1) := by decide +kernel
theorem dX1_record_1 : decode cX1_record 1 = .ok (.getfield 15, 3) := by decide +kernel
theorem dX1_record_4 : decode cX1_record 4 = .ok (.iconst 4, 1) := by decide +kernel
theorem dX1_record_5 : decode cX1_record 5 = .ok (.if_icmp .lt 7, 3) := by decide +kernel
theorem dX1_record_8 : decode cX1_record 8 = .ok (.aload_n 0, 1) := by decide +kernel
theorem dX1_record_9 : decode cX1_record 9 = .ok (.invokevirtual 20, 3) := by decide +kernel
theorem dX1_record_12 : decode cX1_record 12 = .ok (.aload_n 0, 1) := by decide +kernel
theorem dX1_record_13 : decode cX1_record 13 = .ok (.getfield 15, 3) := by decide +kernel
theorem dX1_record_16 : decode cX1_record 16 = .ok (.ifCond .lt 27, 3) := by decide +kernel
theorem dX1_record_19 : decode cX1_record 19 = .ok (.aload_n 0, 1) := by decide +kernel
theorem dX1_record_20 : decode cX1_record 20 = .ok (.getfield 15, 3) := by decide +kernel
theorem dX1_record_23 : decode cX1_record 23 = .ok (.aload_n 0, 1) := by decide +kernel
theorem dX1_record_24 : decode cX1_record 24 = .ok (.getfield 11, 3) := by decide +kernel
theorem dX1_record_27 : decode cX1_record 27 = .ok (.arraylength, 1) := by decide +kernel
theorem dX1_record_28 : decode cX1_record 28 = .ok (.if_icmp .ge 15, 3) := by decide +kernel
theorem dX1_record_31 : decode cX1_record 31 = .ok (.aload_n 0, 1) := by decide +kernel
theorem dX1_record_32 : decode cX1_record 32 = .ok (.getfield 11, 3) := by decide +kernel
theorem dX1_record_35 : decode cX1_record 35 = .ok (.aload_n 0, 1) := by decide +kernel
theorem dX1_record_36 : decode cX1_record 36 = .ok (.getfield 15, 3) := by decide +kernel
theorem dX1_record_39 : decode cX1_record 39 = .ok (.aaload, 1) := by decide +kernel
theorem dX1_record_40 : decode cX1_record 40 = .ok (.goto 4, 3) := by decide +kernel
theorem dX1_record_43 : decode cX1_record 43 = .ok (.aconst_null, 1) := by decide +kernel
theorem dX1_record_44 : decode cX1_record 44 = .ok (.astore_n 2, 1) := by decide +kernel
theorem dX1_record_45 : decode cX1_record 45 = .ok (.aload_n 2, 1) := by decide +kernel
theorem dX1_record_46 : decode cX1_record 46 = .ok (.ifnull 18, 3) := by decide +kernel
theorem dX1_record_49 : decode cX1_record 49 = .ok (.aload_n 2, 1) := by decide +kernel
theorem dX1_record_50 : decode cX1_record 50 = .ok (.aload_n 1, 1) := by decide +kernel
theorem dX1_record_51 : decode cX1_record 51 = .ok (.invokevirtual 23, 3) := by decide +kernel
theorem dX1_record_54 : decode cX1_record 54 = .ok (.aload_n 0, 1) := by decide +kernel
theorem dX1_record_55 : decode cX1_record 55 = .ok (.dup, 1) := by decide +kernel
theorem dX1_record_56 : decode cX1_record 56 = .ok (.getfield 15, 3) := by decide +kernel
theorem dX1_record_59 : decode cX1_record 59 = .ok (.iconst 1, 1) := by decide +kernel
theorem dX1_record_60 : decode cX1_record 60 = .ok (.iadd, 1) := by decide +kernel
theorem dX1_record_61 : decode cX1_record 61 = .ok (.putfield 15, 3) := by decide +kernel
theorem dX1_record_64 : decode cX1_record 64 = .ok (.return_, 1) := by decide +kernel
theorem dX1_dropOldest_0 : decode cX1_dropOldest 0 = .ok (.iconst 1, 1) := by decide +kernel
theorem dX1_dropOldest_1 : decode cX1_dropOldest 1 = .ok (.istore_n 1, 1) := by decide +kernel
theorem dX1_dropOldest_2 : decode cX1_dropOldest 2 = .ok (.iload_n 1, 1) := by decide +kernel
theorem dX1_dropOldest_3 : decode cX1_dropOldest 3 = .ok (.aload_n 0, 1) := by decide +kernel
theorem dX1_dropOldest_4 : decode cX1_dropOldest 4 = .ok (.getfield 11, 3) := by decide +kernel
theorem dX1_dropOldest_7 : decode cX1_dropOldest 7 = .ok (.arraylength, 1) := by decide +kernel
theorem dX1_dropOldest_8 : decode cX1_dropOldest 8 = .ok (.if_icmp .ge 39, 3) := by decide +kernel
theorem dX1_dropOldest_11 : decode cX1_dropOldest 11 = .ok (.aload_n 0, 1) := by decide +kernel
theorem dX1_dropOldest_12 : decode cX1_dropOldest 12 = .ok (.getfield 11, 3) := by decide +kernel
theorem dX1_dropOldest_15 : decode cX1_dropOldest 15 = .ok (.iload_n 1, 1) := by decide +kernel
theorem dX1_dropOldest_16 : decode cX1_dropOldest 16 = .ok (.iconst 1, 1) := by decide +kernel
theorem dX1_dropOldest_17 : decode cX1_dropOldest 17 = .ok (.isub, 1) := by decide +kernel
theorem dX1_dropOldest_18 : decode cX1_dropOldest 18 = .ok (.aaload, 1) := by decide +kernel
theorem dX1_dropOldest_19 : decode cX1_dropOldest 19 = .ok (.astore_n 2, 1) := by decide +kernel
theorem dX1_dropOldest_20 : decode cX1_dropOldest 20 = .ok (.aload_n 0, 1) := by decide +kernel
theorem dX1_dropOldest_21 : decode cX1_dropOldest 21 = .ok (.getfield 11, 3) := by decide +kernel
theorem dX1_dropOldest_24 : decode cX1_dropOldest 24 = .ok (.iload_n 1, 1) := by decide +kernel
theorem dX1_dropOldest_25 : decode cX1_dropOldest 25 = .ok (.iconst 1, 1) := by decide +kernel
theorem dX1_dropOldest_26 : decode cX1_dropOldest 26 = .ok (.isub, 1) := by decide +kernel
theorem dX1_dropOldest_27 : decode cX1_dropOldest 27 = .ok (.aload_n 0, 1) := by decide +kernel
theorem dX1_dropOldest_28 : decode cX1_dropOldest 28 = .ok (.getfield 11, 3) := by decide +kernel
theorem dX1_dropOldest_31 : decode cX1_dropOldest 31 = .ok (.iload_n 1, 1) := by decide +kernel
theorem dX1_dropOldest_32 : decode cX1_dropOldest 32 = .ok (.aaload, 1) := by decide +kernel
theorem dX1_dropOldest_33 : decode cX1_dropOldest 33 = .ok (.aastore, 1) := by decide +kernel
theorem dX1_dropOldest_34 : decode cX1_dropOldest 34 = .ok (.aload_n 0, 1) := by decide +kernel
theorem dX1_dropOldest_35 : decode cX1_dropOldest 35 = .ok (.getfield 11, 3) := by decide +kernel
theorem dX1_dropOldest_38 : decode cX1_dropOldest 38 = .ok (.iload_n 1, 1) := by decide +kernel
theorem dX1_dropOldest_39 : decode cX1_dropOldest 39 = .ok (.aload_n 2, 1) := by decide +kernel
theorem dX1_dropOldest_40 : decode cX1_dropOldest 40 = .ok (.aastore, 1) := by decide +kernel
theorem dX1_dropOldest_41 : decode cX1_dropOldest 41 = .ok (.iinc 1 1, 3) := by decide +kernel
theorem dX1_dropOldest_44 : decode cX1_dropOldest 44 = .ok (.goto (-42), 3) := by decide +kernel
theorem dX1_dropOldest_47 : decode cX1_dropOldest 47 = .ok (.aload_n 0, 1) := by decide +kernel
theorem dX1_dropOldest_48 : decode cX1_dropOldest 48 = .ok (.iconst 3, 1) := by decide +kernel
theorem dX1_dropOldest_49 : decode cX1_dropOldest 49 = .ok (.putfield 15, 3) := by decide +kernel
theorem dX1_dropOldest_52 : decode cX1_dropOldest 52 = .ok (.return_, 1) := by decide +kernel
theorem dX1_takeBack_0 : decode cX1_takeBack 0 = .ok (.aload_n 0, 1) := by decide +kernel
theorem dX1_takeBack_1 : decode cX1_takeBack 1 = .ok (.dup, 1) := by decide +kernel
theorem dX1_takeBack_2 : decode cX1_takeBack 2 = .ok (.getfield 15, 3) := by decide +kernel
theorem dX1_takeBack_5 : decode cX1_takeBack 5 = .ok (.iconst 1, 1) := by decide +kernel
theorem dX1_takeBack_6 : decode cX1_takeBack 6 = .ok (.isub, 1) := by decide +kernel
theorem dX1_takeBack_7 : decode cX1_takeBack 7 = .ok (.putfield 15, 3) := by decide +kernel
theorem dX1_takeBack_10 : decode cX1_takeBack 10 = .ok (.aload_n 0, 1) := by decide +kernel
theorem dX1_takeBack_11 : decode cX1_takeBack 11 = .ok (.getfield 15, 3) := by decide +kernel
theorem dX1_takeBack_14 : decode cX1_takeBack 14 = .ok (.ifCond .lt 27, 3) := by decide +kernel
theorem dX1_takeBack_17 : decode cX1_takeBack 17 = .ok (.aload_n 0, 1) := by decide +kernel
theorem dX1_takeBack_18 : decode cX1_takeBack 18 = .ok (.getfield 15, 3) := by decide +kernel
theorem dX1_takeBack_21 : decode cX1_takeBack 21 = .ok (.aload_n 0, 1) := by decide +kernel
theorem dX1_takeBack_22 : decode cX1_takeBack 22 = .ok (.getfield 11, 3) := by decide +kernel
theorem dX1_takeBack_25 : decode cX1_takeBack 25 = .ok (.arraylength, 1) := by decide +kernel
theorem dX1_takeBack_26 : decode cX1_takeBack 26 = .ok (.if_icmp .ge 15, 3) := by decide +kernel
theorem dX1_takeBack_29 : decode cX1_takeBack 29 = .ok (.aload_n 0, 1) := by decide +kernel
theorem dX1_takeBack_30 : decode cX1_takeBack 30 = .ok (.getfield 11, 3) := by decide +kernel
theorem dX1_takeBack_33 : decode cX1_takeBack 33 = .ok (.aload_n 0, 1) := by decide +kernel
theorem dX1_takeBack_34 : decode cX1_takeBack 34 = .ok (.getfield 15, 3) := by decide +kernel
theorem dX1_takeBack_37 : decode cX1_takeBack 37 = .ok (.aaload, 1) := by decide +kernel
theorem dX1_takeBack_38 : decode cX1_takeBack 38 = .ok (.goto 4, 3) := by decide +kernel
theorem dX1_takeBack_41 : decode cX1_takeBack 41 = .ok (.aconst_null, 1) := by decide +kernel
theorem dX1_takeBack_42 : decode cX1_takeBack 42 = .ok (.astore_n 2, 1) := by decide +kernel
theorem dX1_takeBack_43 : decode cX1_takeBack 43 = .ok (.aload_n 2, 1) := by decide +kernel
theorem dX1_takeBack_44 : decode cX1_takeBack 44 = .ok (.ifnull 8, 3) := by decide +kernel
theorem dX1_takeBack_47 : decode cX1_takeBack 47 = .ok (.aload_n 1, 1) := by decide +kernel
theorem dX1_takeBack_48 : decode cX1_takeBack 48 = .ok (.aload_n 2, 1) := by decide +kernel
theorem dX1_takeBack_49 : decode cX1_takeBack 49 = .ok (.invokevirtual 23, 3) := by decide +kernel
theorem dX1_takeBack_52 : decode cX1_takeBack 52 = .ok (.return_, 1) := by decide +kernel
theorem dX2_init_0 : decode cX2_init 0 = .ok (.aload_n 0, 1) := by decide +kernel
theorem dX2_init_1 : decode cX2_init 1 = .ok (.invokespecial 3, 3) := by decide +kernel
theorem dX2_init_4 : decode cX2_init 4 = .ok (.aload_n 0, 1) := by decide +kernel
theorem dX2_init_5 : decode cX2_init 5 = .ok (.bipush 24, 2) := by decide +kernel
theorem dX2_init_7 : decode cX2_init 7 = .ok (.newarray .int, 2) := by decide +kernel
theorem dX2_init_9 : decode cX2_init 9 = .ok (.putfield 9, 3) := by decide +kernel
theorem dX2_init_12 : decode cX2_init 12 = .ok (.aload_n 0, 1) := by decide +kernel
theorem dX2_init_13 : decode cX2_init 13 = .ok (.aload_n 1, 1) := by decide +kernel
theorem dX2_init_14 : decode cX2_init 14 = .ok (.putfield 15, 3) := by decide +kernel
theorem dX2_init_17 : decode cX2_init 17 = .ok (.return_, 1) := by decide +kernel
theorem dX2_rebuild_0 : decode cX2_rebuild 0 = .ok (.aload_n 0, 1) := by decide +kernel
theorem dX2_rebuild_1 : decode cX2_rebuild 1 = .ok (.invokevirtual 19, 3) := by decide +kernel
theorem dX2_rebuild_4 : decode cX2_rebuild 4 = .ok (.istore_n 1, 1) := by decide +kernel
theorem dX2_rebuild_5 : decode cX2_rebuild 5 = .ok (.aload_n 0, 1) := by decide +kernel
theorem dX2_rebuild_6 : decode cX2_rebuild 6 = .ok (.getfield 15, 3) := by decide +kernel
theorem dX2_rebuild_9 : decode cX2_rebuild 9 = .ok (.invokevirtual 23, 3) := by decide +kernel
theorem dX2_rebuild_12 : decode cX2_rebuild 12 = .ok (.iload_n 1, 1) := by decide +kernel
theorem dX2_rebuild_13 : decode cX2_rebuild 13 = .ok (.ifCond .ne 19, 3) := by decide +kernel
theorem dX2_rebuild_16 : decode cX2_rebuild 16 = .ok (.aload_n 0, 1) := by decide +kernel
theorem dX2_rebuild_17 : decode cX2_rebuild 17 = .ok (.getfield 15, 3) := by decide +kernel
theorem dX2_rebuild_20 : decode cX2_rebuild 20 = .ok (.aload_n 0, 1) := by decide +kernel
theorem dX2_rebuild_21 : decode cX2_rebuild 21 = .ok (.getfield 15, 3) := by decide +kernel
theorem dX2_rebuild_24 : decode cX2_rebuild 24 = .ok (.iconst 0, 1) := by decide +kernel
theorem dX2_rebuild_25 : decode cX2_rebuild 25 = .ok (.invokevirtual 28, 3) := by decide +kernel
theorem dX2_rebuild_28 : decode cX2_rebuild 28 = .ok (.putfield 32, 3) := by decide +kernel
theorem dX2_rebuild_31 : decode cX2_rebuild 31 = .ok (.return_, 1) := by decide +kernel
theorem dX2_rebuild_32 : decode cX2_rebuild 32 = .ok (.iload_n 1, 1) := by decide +kernel
theorem dX2_rebuild_33 : decode cX2_rebuild 33 = .ok (.aload_n 0, 1) := by decide +kernel
theorem dX2_rebuild_34 : decode cX2_rebuild 34 = .ok (.getfield 15, 3) := by decide +kernel
theorem dX2_rebuild_37 : decode cX2_rebuild 37 = .ok (.getfield 36, 3) := by decide +kernel
theorem dX2_rebuild_40 : decode cX2_rebuild 40 = .ok (.iadd, 1) := by decide +kernel
theorem dX2_rebuild_41 : decode cX2_rebuild 41 = .ok (.iconst 1, 1) := by decide +kernel
theorem dX2_rebuild_42 : decode cX2_rebuild 42 = .ok (.isub, 1) := by decide +kernel
theorem dX2_rebuild_43 : decode cX2_rebuild 43 = .ok (.aload_n 0, 1) := by decide +kernel
theorem dX2_rebuild_44 : decode cX2_rebuild 44 = .ok (.getfield 15, 3) := by decide +kernel
theorem dX2_rebuild_47 : decode cX2_rebuild 47 = .ok (.getfield 36, 3) := by decide +kernel
theorem dX2_rebuild_50 : decode cX2_rebuild 50 = .ok (.iconst 1, 1) := by decide +kernel
theorem dX2_rebuild_51 : decode cX2_rebuild 51 = .ok (.invokestatic 39, 3) := by decide +kernel
theorem dX2_rebuild_54 : decode cX2_rebuild 54 = .ok (.idiv, 1) := by decide +kernel
theorem dX2_rebuild_55 : decode cX2_rebuild 55 = .ok (.invokestatic 45, 3) := by decide +kernel
theorem dX2_rebuild_58 : decode cX2_rebuild 58 = .ok (.aload_n 0, 1) := by decide +kernel
theorem dX2_rebuild_59 : decode cX2_rebuild 59 = .ok (.getfield 15, 3) := by decide +kernel
theorem dX2_rebuild_62 : decode cX2_rebuild 62 = .ok (.getfield 36, 3) := by decide +kernel
theorem dX2_rebuild_65 : decode cX2_rebuild 65 = .ok (.imul, 1) := by decide +kernel
theorem dX2_rebuild_66 : decode cX2_rebuild 66 = .ok (.istore_n 2, 1) := by decide +kernel
theorem dX2_rebuild_67 : decode cX2_rebuild 67 = .ok (.aload_n 0, 1) := by decide +kernel
theorem dX2_rebuild_68 : decode cX2_rebuild 68 = .ok (.iconst 0, 1) := by decide +kernel
theorem dX2_rebuild_69 : decode cX2_rebuild 69 = .ok (.iload_n 1, 1) := by decide +kernel
theorem dX2_rebuild_70 : decode cX2_rebuild 70 = .ok (.iconst 0, 1) := by decide +kernel
theorem dX2_rebuild_71 : decode cX2_rebuild 71 = .ok (.invokevirtual 48, 3) := by decide +kernel
theorem dX2_rebuild_74 : decode cX2_rebuild 74 = .ok (.iconst 0, 1) := by decide +kernel
theorem dX2_rebuild_75 : decode cX2_rebuild 75 = .ok (.istore_n 3, 1) := by decide +kernel
theorem dX2_rebuild_76 : decode cX2_rebuild 76 = .ok (.iload_n 3, 1) := by decide +kernel
theorem dX2_rebuild_77 : decode cX2_rebuild 77 = .ok (.iload_n 1, 1) := by decide +kernel
theorem dX2_rebuild_78 : decode cX2_rebuild 78 = .ok (.if_icmp .ge 27, 3) := by decide +kernel
theorem dX2_rebuild_81 : decode cX2_rebuild 81 = .ok (.iload_n 2, 1) := by decide +kernel
theorem dX2_rebuild_82 : decode cX2_rebuild 82 = .ok (.ifCond .le 23, 3) := by decide +kernel
theorem dX2_rebuild_85 : decode cX2_rebuild 85 = .ok (.aload_n 0, 1) := by decide +kernel
theorem dX2_rebuild_86 : decode cX2_rebuild 86 = .ok (.iload_n 3, 1) := by decide +kernel
theorem dX2_rebuild_87 : decode cX2_rebuild 87 = .ok (.iload_n 3, 1) := by decide +kernel
theorem dX2_rebuild_88 : decode cX2_rebuild 88 = .ok (.iload_n 2, 1) := by decide +kernel
theorem dX2_rebuild_89 : decode cX2_rebuild 89 = .ok (.iadd, 1) := by decide +kernel
theorem dX2_rebuild_90 : decode cX2_rebuild 90 = .ok (.iload_n 1, 1) := by decide +kernel
theorem dX2_rebuild_91 : decode cX2_rebuild 91 = .ok (.invokestatic 52, 3) := by decide +kernel
theorem dX2_rebuild_94 : decode cX2_rebuild 94 = .ok (.iconst 1, 1) := by decide +kernel
theorem dX2_rebuild_95 : decode cX2_rebuild 95 = .ok (.invokevirtual 48, 3) := by decide +kernel
theorem dX2_rebuild_98 : decode cX2_rebuild 98 = .ok (.iload_n 3, 1) := by decide +kernel
theorem dX2_rebuild_99 : decode cX2_rebuild 99 = .ok (.iload_n 2, 1) := by decide +kernel
theorem dX2_rebuild_100 : decode cX2_rebuild 100 = .ok (.iadd, 1) := by decide +kernel
theorem dX2_rebuild_101 : decode cX2_rebuild 101 = .ok (.istore_n 3, 1) := by decide +kernel
theorem dX2_rebuild_102 : decode cX2_rebuild 102 = .ok (.goto (-26), 3) := by decide +kernel
theorem dX2_rebuild_105 : decode cX2_rebuild 105 = .ok (.iconst 0, 1) := by decide +kernel
theorem dX2_rebuild_106 : decode cX2_rebuild 106 = .ok (.istore_n 3, 1) := by decide +kernel
theorem dX2_rebuild_107 : decode cX2_rebuild 107 = .ok (.iload_n 3, 1) := by decide +kernel
theorem dX2_rebuild_108 : decode cX2_rebuild 108 = .ok (.bipush 24, 2) := by decide +kernel
theorem dX2_rebuild_110 : decode cX2_rebuild 110 = .ok (.if_icmp .ge 25, 3) := by decide +kernel
theorem dX2_rebuild_113 : decode cX2_rebuild 113 = .ok (.iload_n 3, 1) := by decide +kernel
theorem dX2_rebuild_114 : decode cX2_rebuild 114 = .ok (.ifCond .eq 8, 3) := by decide +kernel
theorem dX2_rebuild_117 : decode cX2_rebuild 117 = .ok (.iload_n 1, 1) := by decide +kernel
theorem dX2_rebuild_118 : decode cX2_rebuild 118 = .ok (.iconst 1, 1) := by decide +kernel
theorem dX2_rebuild_119 : decode cX2_rebuild 119 = .ok (.if_icmp .le 16, 3) := by decide +kernel
theorem dX2_rebuild_122 : decode cX2_rebuild 122 = .ok (.aload_n 0, 1) := by decide +kernel
theorem dX2_rebuild_123 : decode cX2_rebuild 123 = .ok (.iload_n 1, 1) := by decide +kernel
theorem dX2_rebuild_124 : decode cX2_rebuild 124 = .ok (.iload_n 3, 1) := by decide +kernel
theorem dX2_rebuild_125 : decode cX2_rebuild 125 = .ok (.invokevirtual 55, 3) := by decide +kernel
theorem dX2_rebuild_128 : decode cX2_rebuild 128 = .ok (.istore_n 1, 1) := by decide +kernel
theorem dX2_rebuild_129 : decode cX2_rebuild 129 = .ok (.iinc 3 1, 3) := by decide +kernel
theorem dX2_rebuild_132 : decode cX2_rebuild 132 = .ok (.goto (-25), 3) := by decide +kernel
theorem dX2_rebuild_135 : decode cX2_rebuild 135 = .ok (.aload_n 0, 1) := by decide +kernel
theorem dX2_rebuild_136 : decode cX2_rebuild 136 = .ok (.getfield 15, 3) := by decide +kernel
theorem dX2_rebuild_139 : decode cX2_rebuild 139 = .ok (.aload_n 0, 1) := by decide +kernel
theorem dX2_rebuild_140 : decode cX2_rebuild 140 = .ok (.getfield 9, 3) := by decide +kernel
theorem dX2_rebuild_143 : decode cX2_rebuild 143 = .ok (.iconst 0, 1) := by decide +kernel
theorem dX2_rebuild_144 : decode cX2_rebuild 144 = .ok (.invokestatic 58, 3) := by decide +kernel
theorem dX2_rebuild_147 : decode cX2_rebuild 147 = .ok (.putfield 32, 3) := by decide +kernel
theorem dX2_rebuild_150 : decode cX2_rebuild 150 = .ok (.return_, 1) := by decide +kernel
theorem dX2_listBoxes_0 : decode cX2_listBoxes 0 = .ok (.iconst 0, 1) := by decide +kernel
theorem dX2_listBoxes_1 : decode cX2_listBoxes 1 = .ok (.istore_n 1, 1) := by decide +kernel
theorem dX2_listBoxes_2 : decode cX2_listBoxes 2 = .ok (.iconst 0, 1) := by decide +kernel
theorem dX2_listBoxes_3 : decode cX2_listBoxes 3 = .ok (.istore_n 2, 1) := by decide +kernel
theorem dX2_listBoxes_4 : decode cX2_listBoxes 4 = .ok (.iload_n 2, 1) := by decide +kernel
theorem dX2_listBoxes_5 : decode cX2_listBoxes 5 = .ok (.bipush 24, 2) := by decide +kernel
theorem dX2_listBoxes_7 : decode cX2_listBoxes 7 = .ok (.if_icmp .ge 32, 3) := by decide +kernel
theorem dX2_listBoxes_10 : decode cX2_listBoxes 10 = .ok (.aload_n 0, 1) := by decide +kernel
theorem dX2_listBoxes_11 : decode cX2_listBoxes 11 = .ok (.getfield 15, 3) := by decide +kernel
theorem dX2_listBoxes_14 : decode cX2_listBoxes 14 = .ok (.iload_n 2, 1) := by decide +kernel
theorem dX2_listBoxes_15 : decode cX2_listBoxes 15 = .ok (.invokevirtual 62, 3) := by decide +kernel
theorem dX2_listBoxes_18 : decode cX2_listBoxes 18 = .ok (.ifCond .eq 15, 3) := by decide +kernel
theorem dX2_listBoxes_21 : decode cX2_listBoxes 21 = .ok (.aload_n 0, 1) := by decide +kernel
theorem dX2_listBoxes_22 : decode cX2_listBoxes 22 = .ok (.getfield 9, 3) := by decide +kernel
theorem dX2_listBoxes_25 : decode cX2_listBoxes 25 = .ok (.iload_n 1, 1) := by decide +kernel
theorem dX2_listBoxes_26 : decode cX2_listBoxes 26 = .ok (.iload_n 2, 1) := by decide +kernel
theorem dX2_listBoxes_27 : decode cX2_listBoxes 27 = .ok (.invokestatic 66, 3) := by decide +kernel
theorem dX2_listBoxes_30 : decode cX2_listBoxes 30 = .ok (.iinc 1 1, 3) := by decide +kernel
theorem dX2_listBoxes_33 : decode cX2_listBoxes 33 = .ok (.iinc 2 1, 3) := by decide +kernel
theorem dX2_listBoxes_36 : decode cX2_listBoxes 36 = .ok (.goto (-32), 3) := by decide +kernel
theorem dX2_listBoxes_39 : decode cX2_listBoxes 39 = .ok (.iload_n 1, 1) := by decide +kernel
theorem dX2_listBoxes_40 : decode cX2_listBoxes 40 = .ok (.ireturn, 1) := by decide +kernel
theorem dX2_leastRoot_0 : decode cX2_leastRoot 0 = .ok (.iconst 1, 1) := by decide +kernel
theorem dX2_leastRoot_1 : decode cX2_leastRoot 1 = .ok (.istore_n 1, 1) := by decide +kernel
theorem dX2_leastRoot_2 : decode cX2_leastRoot 2 = .ok (.iload_n 1, 1) := by decide +kernel
theorem dX2_leastRoot_3 : decode cX2_leastRoot 3 = .ok (.iload_n 1, 1) := by decide +kernel
theorem dX2_leastRoot_4 : decode cX2_leastRoot 4 = .ok (.imul, 1) := by decide +kernel
theorem dX2_leastRoot_5 : decode cX2_leastRoot 5 = .ok (.iload_n 0, 1) := by decide +kernel
theorem dX2_leastRoot_6 : decode cX2_leastRoot 6 = .ok (.if_icmp .ge 15, 3) := by decide +kernel
theorem dX2_leastRoot_9 : decode cX2_leastRoot 9 = .ok (.iload_n 1, 1) := by decide +kernel
theorem dX2_leastRoot_10 : decode cX2_leastRoot 10 = .ok (.bipush 24, 2) := by decide +kernel
theorem dX2_leastRoot_12 : decode cX2_leastRoot 12 = .ok (.if_icmp .ge 9, 3) := by decide +kernel
theorem dX2_leastRoot_15 : decode cX2_leastRoot 15 = .ok (.iinc 1 1, 3) := by decide +kernel
theorem dX2_leastRoot_18 : decode cX2_leastRoot 18 = .ok (.goto (-16), 3) := by decide +kernel
theorem dX2_leastRoot_21 : decode cX2_leastRoot 21 = .ok (.iload_n 1, 1) := by decide +kernel
theorem dX2_leastRoot_22 : decode cX2_leastRoot 22 = .ok (.ireturn, 1) := by decide +kernel
theorem dX2_sortPart_0 : decode cX2_sortPart 0 = .ok (.iload_n 1, 1) := by decide +kernel
theorem dX2_sortPart_1 : decode cX2_sortPart 1 = .ok (.iconst 1, 1) := by decide +kernel
theorem dX2_sortPart_2 : decode cX2_sortPart 2 = .ok (.iadd, 1) := by decide +kernel
theorem dX2_sortPart_3 : decode cX2_sortPart 3 = .ok (.istore 4, 2) := by decide +kernel
theorem dX2_sortPart_5 : decode cX2_sortPart 5 = .ok (.iload 4, 2) := by decide +kernel
theorem dX2_sortPart_7 : decode cX2_sortPart 7 = .ok (.iload_n 2, 1) := by decide +kernel
theorem dX2_sortPart_8 : decode cX2_sortPart 8 = .ok (.if_icmp .ge 88, 3) := by decide +kernel
theorem dX2_sortPart_11 : decode cX2_sortPart 11 = .ok (.aload_n 0, 1) := by decide +kernel
theorem dX2_sortPart_12 : decode cX2_sortPart 12 = .ok (.getfield 9, 3) := by decide +kernel
theorem dX2_sortPart_15 : decode cX2_sortPart 15 = .ok (.iload 4, 2) := by decide +kernel
theorem dX2_sortPart_17 : decode cX2_sortPart 17 = .ok (.invokestatic 58, 3) := by decide +kernel
theorem dX2_sortPart_20 : decode cX2_sortPart 20 = .ok (.istore 5, 2) := by decide +kernel
theorem dX2_sortPart_22 : decode cX2_sortPart 22 = .ok (.iload 4, 2) := by decide +kernel
theorem dX2_sortPart_24 : decode cX2_sortPart 24 = .ok (.istore 6, 2) := by decide +kernel
theorem dX2_sortPart_26 : decode cX2_sortPart 26 = .ok (.iload 6, 2) := by decide +kernel
theorem dX2_sortPart_28 : decode cX2_sortPart 28 = .ok (.iload_n 1, 1) := by decide +kernel
theorem dX2_sortPart_29 : decode cX2_sortPart 29 = .ok (.if_icmp .le 50, 3) := by decide +kernel
theorem dX2_sortPart_32 : decode cX2_sortPart 32 = .ok (.aload_n 0, 1) := by decide +kernel
theorem dX2_sortPart_33 : decode cX2_sortPart 33 = .ok (.iload 5, 2) := by decide +kernel
theorem dX2_sortPart_35 : decode cX2_sortPart 35 = .ok (.aload_n 0, 1) := by decide +kernel
theorem dX2_sortPart_36 : decode cX2_sortPart 36 = .ok (.getfield 9, 3) := by decide +kernel
theorem dX2_sortPart_39 : decode cX2_sortPart 39 = .ok (.iload 6, 2) := by decide +kernel
theorem dX2_sortPart_41 : decode cX2_sortPart 41 = .ok (.iconst 1, 1) := by decide +kernel
theorem dX2_sortPart_42 : decode cX2_sortPart 42 = .ok (.isub, 1) := by decide +kernel
theorem dX2_sortPart_43 : decode cX2_sortPart 43 = .ok (.invokestatic 58, 3) := by decide +kernel
theorem dX2_sortPart_46 : decode cX2_sortPart 46 = .ok (.iload_n 3, 1) := by decide +kernel
theorem dX2_sortPart_47 : decode cX2_sortPart 47 = .ok (.invokevirtual 70, 3) := by decide +kernel
theorem dX2_sortPart_50 : decode cX2_sortPart 50 = .ok (.ifCond .eq 29, 3) := by decide +kernel
theorem dX2_sortPart_53 : decode cX2_sortPart 53 = .ok (.aload_n 0, 1) := by decide +kernel
theorem dX2_sortPart_54 : decode cX2_sortPart 54 = .ok (.getfield 9, 3) := by decide +kernel
theorem dX2_sortPart_57 : decode cX2_sortPart 57 = .ok (.iload 6, 2) := by decide +kernel
theorem dX2_sortPart_59 : decode cX2_sortPart 59 = .ok (.aload_n 0, 1) := by decide +kernel
theorem dX2_sortPart_60 : decode cX2_sortPart 60 = .ok (.getfield 9, 3) := by decide +kernel
theorem dX2_sortPart_63 : decode cX2_sortPart 63 = .ok (.iload 6, 2) := by decide +kernel
theorem dX2_sortPart_65 : decode cX2_sortPart 65 = .ok (.iconst 1, 1) := by decide +kernel
theorem dX2_sortPart_66 : decode cX2_sortPart 66 = .ok (.isub, 1) := by decide +kernel
theorem dX2_sortPart_67 : decode cX2_sortPart 67 = .ok (.invokestatic 58, 3) := by decide +kernel
theorem dX2_sortPart_70 : decode cX2_sortPart 70 = .ok (.invokestatic 66, 3) := by decide +kernel
theorem dX2_sortPart_73 : decode cX2_sortPart 73 = .ok (.iinc 6 (-1), 3) := by decide +kernel
theorem dX2_sortPart_76 : decode cX2_sortPart 76 = .ok (.goto (-50), 3) := by decide +kernel
theorem dX2_sortPart_79 : decode cX2_sortPart 79 = .ok (.aload_n 0, 1) := by decide +kernel
theorem dX2_sortPart_80 : decode cX2_sortPart 80 = .ok (.getfield 9, 3) := by decide +kernel
theorem dX2_sortPart_83 : decode cX2_sortPart 83 = .ok (.iload 6, 2) := by decide +kernel
theorem dX2_sortPart_85 : decode cX2_sortPart 85 = .ok (.iload 5, 2) := by decide +kernel
theorem dX2_sortPart_87 : decode cX2_sortPart 87 = .ok (.invokestatic 66, 3) := by decide +kernel
theorem dX2_sortPart_90 : decode cX2_sortPart 90 = .ok (.iinc 4 1, 3) := by decide +kernel
theorem dX2_sortPart_93 : decode cX2_sortPart 93 = .ok (.goto (-88), 3) := by decide +kernel
theorem dX2_sortPart_96 : decode cX2_sortPart 96 = .ok (.return_, 1) := by decide +kernel
theorem dX2_comesAhead_0 : decode cX2_comesAhead 0 = .ok (.aload_n 0, 1) := by decide +kernel
theorem dX2_comesAhead_1 : decode cX2_comesAhead 1 = .ok (.getfield 15, 3) := by decide +kernel
theorem dX2_comesAhead_4 : decode cX2_comesAhead 4 = .ok (.iload_n 1, 1) := by decide +kernel
theorem dX2_comesAhead_5 : decode cX2_comesAhead 5 = .ok (.iload_n 3, 1) := by decide +kernel
theorem dX2_comesAhead_6 : decode cX2_comesAhead 6 = .ok (.invokevirtual 74, 3) := by decide +kernel
theorem dX2_comesAhead_9 : decode cX2_comesAhead 9 = .ok (.aload_n 0, 1) := by decide +kernel
theorem dX2_comesAhead_10 : decode cX2_comesAhead 10 = .ok (.getfield 15, 3) := by decide +kernel
theorem dX2_comesAhead_13 : decode cX2_comesAhead 13 = .ok (.iload_n 2, 1) := by decide +kernel
theorem dX2_comesAhead_14 : decode cX2_comesAhead 14 = .ok (.iload_n 3, 1) := by decide +kernel
theorem dX2_comesAhead_15 : decode cX2_comesAhead 15 = .ok (.invokevirtual 74, 3) := by decide +kernel
theorem dX2_comesAhead_18 : decode cX2_comesAhead 18 = .ok (.isub, 1) := by decide +kernel
theorem dX2_comesAhead_19 : decode cX2_comesAhead 19 = .ok (.istore 4, 2) := by decide +kernel
theorem dX2_comesAhead_21 : decode cX2_comesAhead 21 = .ok (.iload 4, 2) := by decide +kernel
theorem dX2_comesAhead_23 : decode cX2_comesAhead 23 = .ok (.ifCond .lt 13, 3) := by decide +kernel
theorem dX2_comesAhead_26 : decode cX2_comesAhead 26 = .ok (.iload 4, 2) := by decide +kernel
theorem dX2_comesAhead_28 : decode cX2_comesAhead 28 = .ok (.ifCond .ne 12, 3) := by decide +kernel
theorem dX2_comesAhead_31 : decode cX2_comesAhead 31 = .ok (.iload_n 1, 1) := by decide +kernel
theorem dX2_comesAhead_32 : decode cX2_comesAhead 32 = .ok (.iload_n 2, 1) := by decide +kernel
theorem dX2_comesAhead_33 : decode cX2_comesAhead 33 = .ok (.if_icmp .ge 7, 3) := by decide +kernel
theorem dX2_comesAhead_36 : decode cX2_comesAhead 36 = .ok (.iconst 1, 1) := by decide +kernel
theorem dX2_comesAhead_37 : decode cX2_comesAhead 37 = .ok (.goto 4, 3) := by decide +kernel
theorem dX2_comesAhead_40 : decode cX2_comesAhead 40 = .ok (.iconst 0, 1) := by decide +kernel
theorem dX2_comesAhead_41 : decode cX2_comesAhead 41 = .ok (.ireturn, 1) := by decide +kernel
theorem dX2_groupRow_0 : decode cX2_groupRow 0 = .ok (.iconst 0, 1) := by decide +kernel
theorem dX2_groupRow_1 : decode cX2_groupRow 1 = .ok (.istore_n 3, 1) := by decide +kernel
theorem dX2_groupRow_2 : decode cX2_groupRow 2 = .ok (.iconst (-1), 1) := by decide +kernel
theorem dX2_groupRow_3 : decode cX2_groupRow 3 = .ok (.istore 4, 2) := by decide +kernel
theorem dX2_groupRow_5 : decode cX2_groupRow 5 = .ok (.iconst 0, 1) := by decide +kernel
theorem dX2_groupRow_6 : decode cX2_groupRow 6 = .ok (.istore 5, 2) := by decide +kernel
theorem dX2_groupRow_8 : decode cX2_groupRow 8 = .ok (.iload 5, 2) := by decide +kernel
theorem dX2_groupRow_10 : decode cX2_groupRow 10 = .ok (.iload_n 1, 1) := by decide +kernel
theorem dX2_groupRow_11 : decode cX2_groupRow 11 = .ok (.if_icmp .ge 88, 3) := by decide +kernel
theorem dX2_groupRow_14 : decode cX2_groupRow 14 = .ok (.aload_n 0, 1) := by decide +kernel
theorem dX2_groupRow_15 : decode cX2_groupRow 15 = .ok (.getfield 9, 3) := by decide +kernel
theorem dX2_groupRow_18 : decode cX2_groupRow 18 = .ok (.iload 5, 2) := by decide +kernel
theorem dX2_groupRow_20 : decode cX2_groupRow 20 = .ok (.invokestatic 58, 3) := by decide +kernel
theorem dX2_groupRow_23 : decode cX2_groupRow 23 = .ok (.istore 6, 2) := by decide +kernel
theorem dX2_groupRow_25 : decode cX2_groupRow 25 = .ok (.iload 4, 2) := by decide +kernel
theorem dX2_groupRow_27 : decode cX2_groupRow 27 = .ok (.iconst (-1), 1) := by decide +kernel
theorem dX2_groupRow_28 : decode cX2_groupRow 28 = .ok (.if_icmp .eq 22, 3) := by decide +kernel
theorem dX2_groupRow_31 : decode cX2_groupRow 31 = .ok (.aload_n 0, 1) := by decide +kernel
theorem dX2_groupRow_32 : decode cX2_groupRow 32 = .ok (.getfield 15, 3) := by decide +kernel
theorem dX2_groupRow_35 : decode cX2_groupRow 35 = .ok (.iload 4, 2) := by decide +kernel
theorem dX2_groupRow_37 : decode cX2_groupRow 37 = .ok (.invokevirtual 77, 3) := by decide +kernel
theorem dX2_groupRow_40 : decode cX2_groupRow 40 = .ok (.aload_n 0, 1) := by decide +kernel
theorem dX2_groupRow_41 : decode cX2_groupRow 41 = .ok (.getfield 15, 3) := by decide +kernel
theorem dX2_groupRow_44 : decode cX2_groupRow 44 = .ok (.getfield 36, 3) := by decide +kernel
theorem dX2_groupRow_47 : decode cX2_groupRow 47 = .ok (.if_icmp .lt 26, 3) := by decide +kernel
theorem dX2_groupRow_50 : decode cX2_groupRow 50 = .ok (.aload_n 0, 1) := by decide +kernel
theorem dX2_groupRow_51 : decode cX2_groupRow 51 = .ok (.getfield 15, 3) := by decide +kernel
theorem dX2_groupRow_54 : decode cX2_groupRow 54 = .ok (.iload_n 2, 1) := by decide +kernel
theorem dX2_groupRow_55 : decode cX2_groupRow 55 = .ok (.invokevirtual 28, 3) := by decide +kernel
theorem dX2_groupRow_58 : decode cX2_groupRow 58 = .ok (.istore 4, 2) := by decide +kernel
theorem dX2_groupRow_60 : decode cX2_groupRow 60 = .ok (.aload_n 0, 1) := by decide +kernel
theorem dX2_groupRow_61 : decode cX2_groupRow 61 = .ok (.getfield 9, 3) := by decide +kernel
theorem dX2_groupRow_64 : decode cX2_groupRow 64 = .ok (.iload_n 3, 1) := by decide +kernel
theorem dX2_groupRow_65 : decode cX2_groupRow 65 = .ok (.iload 4, 2) := by decide +kernel
theorem dX2_groupRow_67 : decode cX2_groupRow 67 = .ok (.invokestatic 66, 3) := by decide +kernel
theorem dX2_groupRow_70 : decode cX2_groupRow 70 = .ok (.iinc 3 1, 3) := by decide +kernel
theorem dX2_groupRow_73 : decode cX2_groupRow 73 = .ok (.aload_n 0, 1) := by decide +kernel
theorem dX2_groupRow_74 : decode cX2_groupRow 74 = .ok (.getfield 15, 3) := by decide +kernel
theorem dX2_groupRow_77 : decode cX2_groupRow 77 = .ok (.iload 4, 2) := by decide +kernel
theorem dX2_groupRow_79 : decode cX2_groupRow 79 = .ok (.aload_n 0, 1) := by decide +kernel
theorem dX2_groupRow_80 : decode cX2_groupRow 80 = .ok (.getfield 15, 3) := by decide +kernel
theorem dX2_groupRow_83 : decode cX2_groupRow 83 = .ok (.iload 4, 2) := by decide +kernel
theorem dX2_groupRow_85 : decode cX2_groupRow 85 = .ok (.invokevirtual 77, 3) := by decide +kernel
theorem dX2_groupRow_88 : decode cX2_groupRow 88 = .ok (.iload 6, 2) := by decide +kernel
theorem dX2_groupRow_90 : decode cX2_groupRow 90 = .ok (.invokevirtual 80, 3) := by decide +kernel
theorem dX2_groupRow_93 : decode cX2_groupRow 93 = .ok (.iinc 5 1, 3) := by decide +kernel
theorem dX2_groupRow_96 : decode cX2_groupRow 96 = .ok (.goto (-88), 3) := by decide +kernel
theorem dX2_groupRow_99 : decode cX2_groupRow 99 = .ok (.iload_n 3, 1) := by decide +kernel
theorem dX2_groupRow_100 : decode cX2_groupRow 100 = .ok (.ireturn, 1) := by decide +kernel
theorem dX3_init_0 : decode cX3_init 0 = .ok (.aload_n 0, 1) := by decide +kernel
theorem dX3_init_1 : decode cX3_init 1 = .ok (.invokespecial 3, 3) := by decide +kernel
theorem dX3_init_4 : decode cX3_init 4 = .ok (.aload_n 0, 1) := by decide +kernel
theorem dX3_init_5 : decode cX3_init 5 = .ok (.bipush 80, 2) := by decide +kernel
theorem dX3_init_7 : decode cX3_init 7 = .ok (.newarray .int, 2) := by decide +kernel
theorem dX3_init_9 : decode cX3_init 9 = .ok (.putfield 11, 3) := by decide +kernel
theorem dX3_init_12 : decode cX3_init 12 = .ok (.aload_n 0, 1) := by decide +kernel
theorem dX3_init_13 : decode cX3_init 13 = .ok (.iconst 0, 1) := by decide +kernel
theorem dX3_init_14 : decode cX3_init 14 = .ok (.putfield 15, 3) := by decide +kernel
theorem dX3_init_17 : decode cX3_init 17 = .ok (.aload_n 0, 1) := by decide +kernel
theorem dX3_init_18 : decode cX3_init 18 = .ok (.bipush 80, 2) := by decide +kernel
theorem dX3_init_20 : decode cX3_init 20 = .ok (.newarray .int, 2) := by decide +kernel
theorem dX3_init_22 : decode cX3_init 22 = .ok (.putfield 19, 3) := by decide +kernel
theorem dX3_init_25 : decode cX3_init 25 = .ok (.aload_n 0, 1) := by decide +kernel
theorem dX3_init_26 : decode cX3_init 26 = .ok (.iconst 0, 1) := by decide +kernel
theorem dX3_init_27 : decode cX3_init 27 = .ok (.putfield 22, 3) := by decide +kernel
theorem dX3_init_30 : decode cX3_init 30 = .ok (.aload_n 0, 1) := by decide +kernel
theorem dX3_init_31 : decode cX3_init 31 = .ok (.iconst 0, 1) := by decide +kernel
theorem dX3_init_32 : decode cX3_init 32 = .ok (.putfield 25, 3) := by decide +kernel
theorem dX3_init_35 : decode cX3_init 35 = .ok (.aload_n 0, 1) := by decide +kernel
theorem dX3_init_36 : decode cX3_init 36 = .ok (.iconst 0, 1) := by decide +kernel
theorem dX3_init_37 : decode cX3_init 37 = .ok (.putfield 28, 3) := by decide +kernel
theorem dX3_init_40 : decode cX3_init 40 = .ok (.aload_n 0, 1) := by decide +kernel
theorem dX3_init_41 : decode cX3_init 41 = .ok (.iconst 0, 1) := by decide +kernel
theorem dX3_init_42 : decode cX3_init 42 = .ok (.putfield 31, 3) := by decide +kernel
theorem dX3_init_45 : decode cX3_init 45 = .ok (.return_, 1) := by decide +kernel
theorem dX3_isFull_0 : decode cX3_isFull 0 = .ok (.aload_n 0, 1) := by decide +kernel
theorem dX3_isFull_1 : decode cX3_isFull 1 = .ok (.getfield 15, 3) := by decide +kernel
theorem dX3_isFull_4 : decode cX3_isFull 4 = .ok (.bipush 80, 2) := by decide +kernel
theorem dX3_isFull_6 : decode cX3_isFull 6 = .ok (.if_icmp .lt 7, 3) := by decide +kernel
theorem dX3_isFull_9 : decode cX3_isFull 9 = .ok (.iconst 1, 1) := by decide +kernel
theorem dX3_isFull_10 : decode cX3_isFull 10 = .ok (.goto 4, 3) := by decide +kernel
theorem dX3_isFull_13 : decode cX3_isFull 13 = .ok (.iconst 0, 1) := by decide +kernel
theorem dX3_isFull_14 : decode cX3_isFull 14 = .ok (.ireturn, 1) := by decide +kernel
theorem dX3_addLast_0 : decode cX3_addLast 0 = .ok (.aload_n 0, 1) := by decide +kernel
theorem dX3_addLast_1 : decode cX3_addLast 1 = .ok (.getfield 11, 3) := by decide +kernel
theorem dX3_addLast_4 : decode cX3_addLast 4 = .ok (.aload_n 0, 1) := by decide +kernel
theorem dX3_addLast_5 : decode cX3_addLast 5 = .ok (.getfield 15, 3) := by decide +kernel
theorem dX3_addLast_8 : decode cX3_addLast 8 = .ok (.iload_n 1, 1) := by decide +kernel
theorem dX3_addLast_9 : decode cX3_addLast 9 = .ok (.invokestatic 34, 3) := by decide +kernel
theorem dX3_addLast_12 : decode cX3_addLast 12 = .ok (.aload_n 0, 1) := by decide +kernel
theorem dX3_addLast_13 : decode cX3_addLast 13 = .ok (.dup, 1) := by decide +kernel
theorem dX3_addLast_14 : decode cX3_addLast 14 = .ok (.getfield 15, 3) := by decide +kernel
theorem dX3_addLast_17 : decode cX3_addLast 17 = .ok (.iconst 1, 1) := by decide +kernel
theorem dX3_addLast_18 : decode cX3_addLast 18 = .ok (.iadd, 1) := by decide +kernel
theorem dX3_addLast_19 : decode cX3_addLast 19 = .ok (.putfield 15, 3) := by decide +kernel
theorem dX3_addLast_22 : decode cX3_addLast 22 = .ok (.aload_n 0, 1) := by decide +kernel
theorem dX3_addLast_23 : decode cX3_addLast 23 = .ok (.getfield 15, 3) := by decide +kernel
theorem dX3_addLast_26 : decode cX3_addLast 26 = .ok (.ireturn, 1) := by decide +kernel
theorem dX3_makeEmpty_0 : decode cX3_makeEmpty 0 = .ok (.aload_n 0, 1) := by decide +kernel
theorem dX3_makeEmpty_1 : decode cX3_makeEmpty 1 = .ok (.getfield 15, 3) := by decide +kernel
theorem dX3_makeEmpty_4 : decode cX3_makeEmpty 4 = .ok (.istore_n 1, 1) := by decide +kernel
theorem dX3_makeEmpty_5 : decode cX3_makeEmpty 5 = .ok (.aload_n 0, 1) := by decide +kernel
theorem dX3_makeEmpty_6 : decode cX3_makeEmpty 6 = .ok (.iconst 0, 1) := by decide +kernel
theorem dX3_makeEmpty_7 : decode cX3_makeEmpty 7 = .ok (.putfield 15, 3) := by decide +kernel
theorem dX3_makeEmpty_10 : decode cX3_makeEmpty 10 = .ok (.iload_n 1, 1) := by decide +kernel
theorem dX3_makeEmpty_11 : decode cX3_makeEmpty 11 = .ok (.ireturn, 1) := by decide +kernel
theorem dX3_partOf_0 : decode cX3_partOf 0 = .ok (.aload_n 0, 1) := by decide +kernel
theorem dX3_partOf_1 : decode cX3_partOf 1 = .ok (.getfield 19, 3) := by decide +kernel
theorem dX3_partOf_4 : decode cX3_partOf 4 = .ok (.iload_n 1, 1) := by decide +kernel
theorem dX3_partOf_5 : decode cX3_partOf 5 = .ok (.iconst 4, 1) := by decide +kernel
theorem dX3_partOf_6 : decode cX3_partOf 6 = .ok (.imul, 1) := by decide +kernel
theorem dX3_partOf_7 : decode cX3_partOf 7 = .ok (.iload_n 2, 1) := by decide +kernel
theorem dX3_partOf_8 : decode cX3_partOf 8 = .ok (.iadd, 1) := by decide +kernel
theorem dX3_partOf_9 : decode cX3_partOf 9 = .ok (.invokestatic 38, 3) := by decide +kernel
theorem dX3_partOf_12 : decode cX3_partOf 12 = .ok (.ireturn, 1) := by decide +kernel
theorem dX3_findFault_0 : decode cX3_findFault 0 = .ok (.aload_n 0, 1) := by decide +kernel
theorem dX3_findFault_1 : decode cX3_findFault 1 = .ok (.iconst 0, 1) := by decide +kernel
theorem dX3_findFault_2 : decode cX3_findFault 2 = .ok (.putfield 22, 3) := by decide +kernel
theorem dX3_findFault_5 : decode cX3_findFault 5 = .ok (.aload_n 0, 1) := by decide +kernel
theorem dX3_findFault_6 : decode cX3_findFault 6 = .ok (.iconst 0, 1) := by decide +kernel
theorem dX3_findFault_7 : decode cX3_findFault 7 = .ok (.putfield 25, 3) := by decide +kernel
theorem dX3_findFault_10 : decode cX3_findFault 10 = .ok (.aload_n 0, 1) := by decide +kernel
theorem dX3_findFault_11 : decode cX3_findFault 11 = .ok (.iconst 0, 1) := by decide +kernel
theorem dX3_findFault_12 : decode cX3_findFault 12 = .ok (.putfield 28, 3) := by decide +kernel
theorem dX3_findFault_15 : decode cX3_findFault 15 = .ok (.aload_n 0, 1) := by decide +kernel
theorem dX3_findFault_16 : decode cX3_findFault 16 = .ok (.iconst 0, 1) := by decide +kernel
theorem dX3_findFault_17 : decode cX3_findFault 17 = .ok (.putfield 31, 3) := by decide +kernel
theorem dX3_findFault_20 : decode cX3_findFault 20 = .ok (.iconst 0, 1) := by decide +kernel
theorem dX3_findFault_21 : decode cX3_findFault 21 = .ok (.istore_n 1, 1) := by decide +kernel
theorem dX3_findFault_22 : decode cX3_findFault 22 = .ok (.iload_n 1, 1) := by decide +kernel
theorem dX3_findFault_23 : decode cX3_findFault 23 = .ok (.aload_n 0, 1) := by decide +kernel
theorem dX3_findFault_24 : decode cX3_findFault 24 = .ok (.getfield 15, 3) := by decide +kernel
theorem dX3_findFault_27 : decode cX3_findFault 27 = .ok (.if_icmp .ge 53, 3) := by decide +kernel
theorem dX3_findFault_30 : decode cX3_findFault 30 = .ok (.aload_n 0, 1) := by decide +kernel
theorem dX3_findFault_31 : decode cX3_findFault 31 = .ok (.getfield 11, 3) := by decide +kernel
theorem dX3_findFault_34 : decode cX3_findFault 34 = .ok (.iload_n 1, 1) := by decide +kernel
theorem dX3_findFault_35 : decode cX3_findFault 35 = .ok (.invokestatic 38, 3) := by decide +kernel
theorem dX3_findFault_38 : decode cX3_findFault 38 = .ok (.istore_n 2, 1) := by decide +kernel
theorem dX3_findFault_39 : decode cX3_findFault 39 = .ok (.iload_n 2, 1) := by decide +kernel
theorem dX3_findFault_40 : decode cX3_findFault 40 = .ok (.bipush 48, 2) := by decide +kernel
theorem dX3_findFault_42 : decode cX3_findFault 42 = .ok (.if_icmp .lt 20, 3) := by decide +kernel
theorem dX3_findFault_45 : decode cX3_findFault 45 = .ok (.iload_n 2, 1) := by decide +kernel
theorem dX3_findFault_46 : decode cX3_findFault 46 = .ok (.bipush 57, 2) := by decide +kernel
theorem dX3_findFault_48 : decode cX3_findFault 48 = .ok (.if_icmp .gt 14, 3) := by decide +kernel
theorem dX3_findFault_51 : decode cX3_findFault 51 = .ok (.aload_n 0, 1) := by decide +kernel
theorem dX3_findFault_52 : decode cX3_findFault 52 = .ok (.iload_n 2, 1) := by decide +kernel
theorem dX3_findFault_53 : decode cX3_findFault 53 = .ok (.bipush 48, 2) := by decide +kernel
theorem dX3_findFault_55 : decode cX3_findFault 55 = .ok (.isub, 1) := by decide +kernel
theorem dX3_findFault_56 : decode cX3_findFault 56 = .ok (.invokevirtual 42, 3) := by decide +kernel
theorem dX3_findFault_59 : decode cX3_findFault 59 = .ok (.goto 8, 3) := by decide +kernel
theorem dX3_findFault_62 : decode cX3_findFault 62 = .ok (.aload_n 0, 1) := by decide +kernel
theorem dX3_findFault_63 : decode cX3_findFault 63 = .ok (.iload_n 2, 1) := by decide +kernel
theorem dX3_findFault_64 : decode cX3_findFault 64 = .ok (.invokevirtual 46, 3) := by decide +kernel
theorem dX3_findFault_67 : decode cX3_findFault 67 = .ok (.istore_n 3, 1) := by decide +kernel
theorem dX3_findFault_68 : decode cX3_findFault 68 = .ok (.iload_n 3, 1) := by decide +kernel
theorem dX3_findFault_69 : decode cX3_findFault 69 = .ok (.ifCond .ne 5, 3) := by decide +kernel
theorem dX3_findFault_72 : decode cX3_findFault 72 = .ok (.iload_n 1, 1) := by decide +kernel
theorem dX3_findFault_73 : decode cX3_findFault 73 = .ok (.ireturn, 1) := by decide +kernel
theorem dX3_findFault_74 : decode cX3_findFault 74 = .ok (.iinc 1 1, 3) := by decide +kernel
theorem dX3_findFault_77 : decode cX3_findFault 77 = .ok (.goto (-55), 3) := by decide +kernel
theorem dX3_findFault_80 : decode cX3_findFault 80 = .ok (.aload_n 0, 1) := by decide +kernel
theorem dX3_findFault_81 : decode cX3_findFault 81 = .ok (.getfield 25, 3) := by decide +kernel
theorem dX3_findFault_84 : decode cX3_findFault 84 = .ok (.iconst 3, 1) := by decide +kernel
theorem dX3_findFault_85 : decode cX3_findFault 85 = .ok (.if_icmp .ne 16, 3) := by decide +kernel
theorem dX3_findFault_88 : decode cX3_findFault 88 = .ok (.aload_n 0, 1) := by decide +kernel
theorem dX3_findFault_89 : decode cX3_findFault 89 = .ok (.bipush 59, 2) := by decide +kernel
theorem dX3_findFault_91 : decode cX3_findFault 91 = .ok (.invokevirtual 46, 3) := by decide +kernel
theorem dX3_findFault_94 : decode cX3_findFault 94 = .ok (.ifCond .eq 7, 3) := by decide +kernel
theorem dX3_findFault_97 : decode cX3_findFault 97 = .ok (.iconst 1, 1) := by decide +kernel
theorem dX3_findFault_98 : decode cX3_findFault 98 = .ok (.goto 4, 3) := by decide +kernel
theorem dX3_findFault_101 : decode cX3_findFault 101 = .ok (.iconst 0, 1) := by decide +kernel
theorem dX3_findFault_102 : decode cX3_findFault 102 = .ok (.istore_n 1, 1) := by decide +kernel
theorem dX3_findFault_103 : decode cX3_findFault 103 = .ok (.iload_n 1, 1) := by decide +kernel
theorem dX3_findFault_104 : decode cX3_findFault 104 = .ok (.ifCond .eq 8, 3) := by decide +kernel
theorem dX3_findFault_107 : decode cX3_findFault 107 = .ok (.bipush (-5), 2) := by decide +kernel
theorem dX3_findFault_109 : decode cX3_findFault 109 = .ok (.goto 7, 3) := by decide +kernel
theorem dX3_findFault_112 : decode cX3_findFault 112 = .ok (.aload_n 0, 1) := by decide +kernel
theorem dX3_findFault_113 : decode cX3_findFault 113 = .ok (.getfield 15, 3) := by decide +kernel
theorem dX3_findFault_116 : decode cX3_findFault 116 = .ok (.ireturn, 1) := by decide +kernel
theorem dX3_takeDigit_0 : decode cX3_takeDigit 0 = .ok (.aload_n 0, 1) := by decide +kernel
theorem dX3_takeDigit_1 : decode cX3_takeDigit 1 = .ok (.getfield 28, 3) := by decide +kernel
theorem dX3_takeDigit_4 : decode cX3_takeDigit 4 = .ok (.iconst 2, 1) := by decide +kernel
theorem dX3_takeDigit_5 : decode cX3_takeDigit 5 = .ok (.if_icmp .eq 18, 3) := by decide +kernel
theorem dX3_takeDigit_8 : decode cX3_takeDigit 8 = .ok (.aload_n 0, 1) := by decide +kernel
theorem dX3_takeDigit_9 : decode cX3_takeDigit 9 = .ok (.getfield 28, 3) := by decide +kernel
theorem dX3_takeDigit_12 : decode cX3_takeDigit 12 = .ok (.iconst 1, 1) := by decide +kernel
theorem dX3_takeDigit_13 : decode cX3_takeDigit 13 = .ok (.if_icmp .ne 12, 3) := by decide +kernel
theorem dX3_takeDigit_16 : decode cX3_takeDigit 16 = .ok (.aload_n 0, 1) := by decide +kernel
theorem dX3_takeDigit_17 : decode cX3_takeDigit 17 = .ok (.getfield 31, 3) := by decide +kernel
theorem dX3_takeDigit_20 : decode cX3_takeDigit 20 = .ok (.ifCond .ne 5, 3) := by decide +kernel
theorem dX3_takeDigit_23 : decode cX3_takeDigit 23 = .ok (.iconst 0, 1) := by decide +kernel
theorem dX3_takeDigit_24 : decode cX3_takeDigit 24 = .ok (.ireturn, 1) := by decide +kernel
theorem dX3_takeDigit_25 : decode cX3_takeDigit 25 = .ok (.aload_n 0, 1) := by decide +kernel
theorem dX3_takeDigit_26 : decode cX3_takeDigit 26 = .ok (.getfield 31, 3) := by decide +kernel
theorem dX3_takeDigit_29 : decode cX3_takeDigit 29 = .ok (.bipush 10, 2) := by decide +kernel
theorem dX3_takeDigit_31 : decode cX3_takeDigit 31 = .ok (.imul, 1) := by decide +kernel
theorem dX3_takeDigit_32 : decode cX3_takeDigit 32 = .ok (.iload_n 1, 1) := by decide +kernel
theorem dX3_takeDigit_33 : decode cX3_takeDigit 33 = .ok (.iadd, 1) := by decide +kernel
theorem dX3_takeDigit_34 : decode cX3_takeDigit 34 = .ok (.istore_n 2, 1) := by decide +kernel
theorem dX3_takeDigit_35 : decode cX3_takeDigit 35 = .ok (.aload_n 0, 1) := by decide +kernel
theorem dX3_takeDigit_36 : decode cX3_takeDigit 36 = .ok (.getfield 28, 3) := by decide +kernel
theorem dX3_takeDigit_39 : decode cX3_takeDigit 39 = .ok (.ifCond .ne 17, 3) := by decide +kernel
theorem dX3_takeDigit_42 : decode cX3_takeDigit 42 = .ok (.iload_n 1, 1) := by decide +kernel
theorem dX3_takeDigit_43 : decode cX3_takeDigit 43 = .ok (.ifCond .le 13, 3) := by decide +kernel
theorem dX3_takeDigit_46 : decode cX3_takeDigit 46 = .ok (.iload_n 2, 1) := by decide +kernel
theorem dX3_takeDigit_47 : decode cX3_takeDigit 47 = .ok (.bipush 10, 2) := by decide +kernel
theorem dX3_takeDigit_49 : decode cX3_takeDigit 49 = .ok (.imul, 1) := by decide +kernel
theorem dX3_takeDigit_50 : decode cX3_takeDigit 50 = .ok (.bipush 9, 2) := by decide +kernel
theorem dX3_takeDigit_52 : decode cX3_takeDigit 52 = .ok (.iadd, 1) := by decide +kernel
theorem dX3_takeDigit_53 : decode cX3_takeDigit 53 = .ok (.goto 4, 3) := by decide +kernel
theorem dX3_takeDigit_56 : decode cX3_takeDigit 56 = .ok (.iload_n 2, 1) := by decide +kernel
theorem dX3_takeDigit_57 : decode cX3_takeDigit 57 = .ok (.istore_n 3, 1) := by decide +kernel
theorem dX3_takeDigit_58 : decode cX3_takeDigit 58 = .ok (.iload_n 3, 1) := by decide +kernel
theorem dX3_takeDigit_59 : decode cX3_takeDigit 59 = .ok (.aload_n 0, 1) := by decide +kernel
theorem dX3_takeDigit_60 : decode cX3_takeDigit 60 = .ok (.invokevirtual 49, 3) := by decide +kernel
theorem dX3_takeDigit_63 : decode cX3_takeDigit 63 = .ok (.if_icmp .ge 5, 3) := by decide +kernel
theorem dX3_takeDigit_66 : decode cX3_takeDigit 66 = .ok (.iconst 0, 1) := by decide +kernel
theorem dX3_takeDigit_67 : decode cX3_takeDigit 67 = .ok (.ireturn, 1) := by decide +kernel
theorem dX3_takeDigit_68 : decode cX3_takeDigit 68 = .ok (.aload_n 0, 1) := by decide +kernel
theorem dX3_takeDigit_69 : decode cX3_takeDigit 69 = .ok (.iload_n 2, 1) := by decide +kernel
theorem dX3_takeDigit_70 : decode cX3_takeDigit 70 = .ok (.putfield 31, 3) := by decide +kernel
theorem dX3_takeDigit_73 : decode cX3_takeDigit 73 = .ok (.aload_n 0, 1) := by decide +kernel
theorem dX3_takeDigit_74 : decode cX3_takeDigit 74 = .ok (.dup, 1) := by decide +kernel
theorem dX3_takeDigit_75 : decode cX3_takeDigit 75 = .ok (.getfield 28, 3) := by decide +kernel
theorem dX3_takeDigit_78 : decode cX3_takeDigit 78 = .ok (.iconst 1, 1) := by decide +kernel
theorem dX3_takeDigit_79 : decode cX3_takeDigit 79 = .ok (.iadd, 1) := by decide +kernel
theorem dX3_takeDigit_80 : decode cX3_takeDigit 80 = .ok (.putfield 28, 3) := by decide +kernel
theorem dX3_takeDigit_83 : decode cX3_takeDigit 83 = .ok (.iconst 1, 1) := by decide +kernel
theorem dX3_takeDigit_84 : decode cX3_takeDigit 84 = .ok (.ireturn, 1) := by decide +kernel
theorem dX3_takeSign_0 : decode cX3_takeSign 0 = .ok (.aload_n 0, 1) := by decide +kernel
theorem dX3_takeSign_1 : decode cX3_takeSign 1 = .ok (.getfield 25, 3) := by decide +kernel
theorem dX3_takeSign_4 : decode cX3_takeSign 4 = .ok (.iconst 3, 1) := by decide +kernel
theorem dX3_takeSign_5 : decode cX3_takeSign 5 = .ok (.if_icmp .ne 8, 3) := by decide +kernel
theorem dX3_takeSign_8 : decode cX3_takeSign 8 = .ok (.bipush 59, 2) := by decide +kernel
theorem dX3_takeSign_10 : decode cX3_takeSign 10 = .ok (.goto 5, 3) := by decide +kernel
theorem dX3_takeSign_13 : decode cX3_takeSign 13 = .ok (.bipush 44, 2) := by decide +kernel
theorem dX3_takeSign_15 : decode cX3_takeSign 15 = .ok (.istore_n 2, 1) := by decide +kernel
theorem dX3_takeSign_16 : decode cX3_takeSign 16 = .ok (.iload_n 1, 1) := by decide +kernel
theorem dX3_takeSign_17 : decode cX3_takeSign 17 = .ok (.iload_n 2, 1) := by decide +kernel
theorem dX3_takeSign_18 : decode cX3_takeSign 18 = .ok (.if_icmp .ne 21, 3) := by decide +kernel
theorem dX3_takeSign_21 : decode cX3_takeSign 21 = .ok (.aload_n 0, 1) := by decide +kernel
theorem dX3_takeSign_22 : decode cX3_takeSign 22 = .ok (.getfield 28, 3) := by decide +kernel
theorem dX3_takeSign_25 : decode cX3_takeSign 25 = .ok (.ifCond .eq 14, 3) := by decide +kernel
theorem dX3_takeSign_28 : decode cX3_takeSign 28 = .ok (.aload_n 0, 1) := by decide +kernel
theorem dX3_takeSign_29 : decode cX3_takeSign 29 = .ok (.getfield 31, 3) := by decide +kernel
theorem dX3_takeSign_32 : decode cX3_takeSign 32 = .ok (.aload_n 0, 1) := by decide +kernel
theorem dX3_takeSign_33 : decode cX3_takeSign 33 = .ok (.invokevirtual 49, 3) := by decide +kernel
theorem dX3_takeSign_36 : decode cX3_takeSign 36 = .ok (.if_icmp .ge 5, 3) := by decide +kernel
theorem dX3_takeSign_39 : decode cX3_takeSign 39 = .ok (.iconst 0, 1) := by decide +kernel
theorem dX3_takeSign_40 : decode cX3_takeSign 40 = .ok (.ireturn, 1) := by decide +kernel
theorem dX3_takeSign_41 : decode cX3_takeSign 41 = .ok (.aload_n 0, 1) := by decide +kernel
theorem dX3_takeSign_42 : decode cX3_takeSign 42 = .ok (.getfield 19, 3) := by decide +kernel
theorem dX3_takeSign_45 : decode cX3_takeSign 45 = .ok (.aload_n 0, 1) := by decide +kernel
theorem dX3_takeSign_46 : decode cX3_takeSign 46 = .ok (.getfield 22, 3) := by decide +kernel
theorem dX3_takeSign_49 : decode cX3_takeSign 49 = .ok (.iconst 4, 1) := by decide +kernel
theorem dX3_takeSign_50 : decode cX3_takeSign 50 = .ok (.imul, 1) := by decide +kernel
theorem dX3_takeSign_51 : decode cX3_takeSign 51 = .ok (.aload_n 0, 1) := by decide +kernel
theorem dX3_takeSign_52 : decode cX3_takeSign 52 = .ok (.getfield 25, 3) := by decide +kernel
theorem dX3_takeSign_55 : decode cX3_takeSign 55 = .ok (.iadd, 1) := by decide +kernel
theorem dX3_takeSign_56 : decode cX3_takeSign 56 = .ok (.aload_n 0, 1) := by decide +kernel
theorem dX3_takeSign_57 : decode cX3_takeSign 57 = .ok (.getfield 31, 3) := by decide +kernel
theorem dX3_takeSign_60 : decode cX3_takeSign 60 = .ok (.invokestatic 34, 3) := by decide +kernel
theorem dX3_takeSign_63 : decode cX3_takeSign 63 = .ok (.aload_n 0, 1) := by decide +kernel
theorem dX3_takeSign_64 : decode cX3_takeSign 64 = .ok (.dup, 1) := by decide +kernel
theorem dX3_takeSign_65 : decode cX3_takeSign 65 = .ok (.getfield 25, 3) := by decide +kernel
theorem dX3_takeSign_68 : decode cX3_takeSign 68 = .ok (.iconst 1, 1) := by decide +kernel
theorem dX3_takeSign_69 : decode cX3_takeSign 69 = .ok (.iadd, 1) := by decide +kernel
theorem dX3_takeSign_70 : decode cX3_takeSign 70 = .ok (.putfield 25, 3) := by decide +kernel
theorem dX3_takeSign_73 : decode cX3_takeSign 73 = .ok (.aload_n 0, 1) := by decide +kernel
theorem dX3_takeSign_74 : decode cX3_takeSign 74 = .ok (.getfield 25, 3) := by decide +kernel
theorem dX3_takeSign_77 : decode cX3_takeSign 77 = .ok (.iconst 4, 1) := by decide +kernel
theorem dX3_takeSign_78 : decode cX3_takeSign 78 = .ok (.if_icmp .ne 18, 3) := by decide +kernel
theorem dX3_takeSign_81 : decode cX3_takeSign 81 = .ok (.aload_n 0, 1) := by decide +kernel
theorem dX3_takeSign_82 : decode cX3_takeSign 82 = .ok (.iconst 0, 1) := by decide +kernel
theorem dX3_takeSign_83 : decode cX3_takeSign 83 = .ok (.putfield 25, 3) := by decide +kernel
theorem dX3_takeSign_86 : decode cX3_takeSign 86 = .ok (.aload_n 0, 1) := by decide +kernel
theorem dX3_takeSign_87 : decode cX3_takeSign 87 = .ok (.dup, 1) := by decide +kernel
theorem dX3_takeSign_88 : decode cX3_takeSign 88 = .ok (.getfield 22, 3) := by decide +kernel
theorem dX3_takeSign_91 : decode cX3_takeSign 91 = .ok (.iconst 1, 1) := by decide +kernel
theorem dX3_takeSign_92 : decode cX3_takeSign 92 = .ok (.iadd, 1) := by decide +kernel
theorem dX3_takeSign_93 : decode cX3_takeSign 93 = .ok (.putfield 22, 3) := by decide +kernel
theorem dX3_takeSign_96 : decode cX3_takeSign 96 = .ok (.aload_n 0, 1) := by decide +kernel
theorem dX3_takeSign_97 : decode cX3_takeSign 97 = .ok (.iconst 0, 1) := by decide +kernel
theorem dX3_takeSign_98 : decode cX3_takeSign 98 = .ok (.putfield 28, 3) := by decide +kernel
theorem dX3_takeSign_101 : decode cX3_takeSign 101 = .ok (.aload_n 0, 1) := by decide +kernel
theorem dX3_takeSign_102 : decode cX3_takeSign 102 = .ok (.iconst 0, 1) := by decide +kernel
theorem dX3_takeSign_103 : decode cX3_takeSign 103 = .ok (.putfield 31, 3) := by decide +kernel
theorem dX3_takeSign_106 : decode cX3_takeSign 106 = .ok (.iconst 1, 1) := by decide +kernel
theorem dX3_takeSign_107 : decode cX3_takeSign 107 = .ok (.ireturn, 1) := by decide +kernel
theorem dX3_leastNumber_0 : decode cX3_leastNumber 0 = .ok (.aload_n 0, 1) := by decide +kernel
theorem dX3_leastNumber_1 : decode cX3_leastNumber 1 = .ok (.getfield 25, 3) := by decide +kernel
theorem dX3_leastNumber_4 : decode cX3_leastNumber 4 = .ok (.iconst 2, 1) := by decide +kernel
theorem dX3_leastNumber_5 : decode cX3_leastNumber 5 = .ok (.if_icmp .ge 7, 3) := by decide +kernel
theorem dX3_leastNumber_8 : decode cX3_leastNumber 8 = .ok (.iconst 0, 1) := by decide +kernel
theorem dX3_leastNumber_9 : decode cX3_leastNumber 9 = .ok (.goto 23, 3) := by decide +kernel
theorem dX3_leastNumber_12 : decode cX3_leastNumber 12 = .ok (.aload_n 0, 1) := by decide +kernel
theorem dX3_leastNumber_13 : decode cX3_leastNumber 13 = .ok (.getfield 19, 3) := by decide +kernel
theorem dX3_leastNumber_16 : decode cX3_leastNumber 16 = .ok (.aload_n 0, 1) := by decide +kernel
theorem dX3_leastNumber_17 : decode cX3_leastNumber 17 = .ok (.getfield 22, 3) := by decide +kernel
theorem dX3_leastNumber_20 : decode cX3_leastNumber 20 = .ok (.iconst 4, 1) := by decide +kernel
theorem dX3_leastNumber_21 : decode cX3_leastNumber 21 = .ok (.imul, 1) := by decide +kernel
theorem dX3_leastNumber_22 : decode cX3_leastNumber 22 = .ok (.aload_n 0, 1) := by decide +kernel
theorem dX3_leastNumber_23 : decode cX3_leastNumber 23 = .ok (.getfield 25, 3) := by decide +kernel
theorem dX3_leastNumber_26 : decode cX3_leastNumber 26 = .ok (.iadd, 1) := by decide +kernel
theorem dX3_leastNumber_27 : decode cX3_leastNumber 27 = .ok (.iconst 2, 1) := by decide +kernel
theorem dX3_leastNumber_28 : decode cX3_leastNumber 28 = .ok (.isub, 1) := by decide +kernel
theorem dX3_leastNumber_29 : decode cX3_leastNumber 29 = .ok (.invokestatic 38, 3) := by decide +kernel
theorem dX3_leastNumber_32 : decode cX3_leastNumber 32 = .ok (.ireturn, 1) := by decide +kernel
theorem dX4_init_0 : decode cX4_init 0 = .ok (.aload_n 0, 1) := by decide +kernel
theorem dX4_init_1 : decode cX4_init 1 = .ok (.invokespecial 3, 3) := by decide +kernel
theorem dX4_init_4 : decode cX4_init 4 = .ok (.aload_n 0, 1) := by decide +kernel
theorem dX4_init_5 : decode cX4_init 5 = .ok (.bipush 72, 2) := by decide +kernel
theorem dX4_init_7 : decode cX4_init 7 = .ok (.newarray .int, 2) := by decide +kernel
theorem dX4_init_9 : decode cX4_init 9 = .ok (.putfield 9, 3) := by decide +kernel
theorem dX4_init_12 : decode cX4_init 12 = .ok (.aload_n 0, 1) := by decide +kernel
theorem dX4_init_13 : decode cX4_init 13 = .ok (.bipush 72, 2) := by decide +kernel
theorem dX4_init_15 : decode cX4_init 15 = .ok (.newarray .int, 2) := by decide +kernel
theorem dX4_init_17 : decode cX4_init 17 = .ok (.putfield 15, 3) := by decide +kernel
theorem dX4_init_20 : decode cX4_init 20 = .ok (.aload_n 0, 1) := by decide +kernel
theorem dX4_init_21 : decode cX4_init 21 = .ok (.bipush 72, 2) := by decide +kernel
theorem dX4_init_23 : decode cX4_init 23 = .ok (.newarray .int, 2) := by decide +kernel
theorem dX4_init_25 : decode cX4_init 25 = .ok (.putfield 18, 3) := by decide +kernel
theorem dX4_init_28 : decode cX4_init 28 = .ok (.aload_n 0, 1) := by decide +kernel
theorem dX4_init_29 : decode cX4_init 29 = .ok (.sipush 288, 3) := by decide +kernel
theorem dX4_init_32 : decode cX4_init 32 = .ok (.newarray .int, 2) := by decide +kernel
theorem dX4_init_34 : decode cX4_init 34 = .ok (.putfield 21, 3) := by decide +kernel
theorem dX4_init_37 : decode cX4_init 37 = .ok (.aload_n 0, 1) := by decide +kernel
theorem dX4_init_38 : decode cX4_init 38 = .ok (.sipush 432, 3) := by decide +kernel
theorem dX4_init_41 : decode cX4_init 41 = .ok (.newarray .int, 2) := by decide +kernel
theorem dX4_init_43 : decode cX4_init 43 = .ok (.putfield 24, 3) := by decide +kernel
theorem dX4_init_46 : decode cX4_init 46 = .ok (.aload_n 0, 1) := by decide +kernel
theorem dX4_init_47 : decode cX4_init 47 = .ok (.bipush 24, 2) := by decide +kernel
theorem dX4_init_49 : decode cX4_init 49 = .ok (.putfield 27, 3) := by decide +kernel
theorem dX4_init_52 : decode cX4_init 52 = .ok (.aload_n 0, 1) := by decide +kernel
theorem dX4_init_53 : decode cX4_init 53 = .ok (.iconst 4, 1) := by decide +kernel
theorem dX4_init_54 : decode cX4_init 54 = .ok (.putfield 31, 3) := by decide +kernel
theorem dX4_init_57 : decode cX4_init 57 = .ok (.aload_n 0, 1) := by decide +kernel
theorem dX4_init_58 : decode cX4_init 58 = .ok (.iconst 1, 1) := by decide +kernel
theorem dX4_init_59 : decode cX4_init 59 = .ok (.putfield 34, 3) := by decide +kernel
theorem dX4_init_62 : decode cX4_init 62 = .ok (.aload_n 0, 1) := by decide +kernel
theorem dX4_init_63 : decode cX4_init 63 = .ok (.iconst 0, 1) := by decide +kernel
theorem dX4_init_64 : decode cX4_init 64 = .ok (.putfield 37, 3) := by decide +kernel
theorem dX4_init_67 : decode cX4_init 67 = .ok (.aload_n 0, 1) := by decide +kernel
theorem dX4_init_68 : decode cX4_init 68 = .ok (.iconst 0, 1) := by decide +kernel
theorem dX4_init_69 : decode cX4_init 69 = .ok (.putfield 40, 3) := by decide +kernel
theorem dX4_init_72 : decode cX4_init 72 = .ok (.aload_n 0, 1) := by decide +kernel
theorem dX4_init_73 : decode cX4_init 73 = .ok (.getfield 9, 3) := by decide +kernel
theorem dX4_init_76 : decode cX4_init 76 = .ok (.bipush (-2), 2) := by decide +kernel
theorem dX4_init_78 : decode cX4_init 78 = .ok (.invokestatic 43, 3) := by decide +kernel
theorem dX4_init_81 : decode cX4_init 81 = .ok (.aload_n 0, 1) := by decide +kernel
theorem dX4_init_82 : decode cX4_init 82 = .ok (.getfield 9, 3) := by decide +kernel
theorem dX4_init_85 : decode cX4_init 85 = .ok (.aload_n 0, 1) := by decide +kernel
theorem dX4_init_86 : decode cX4_init 86 = .ok (.getfield 27, 3) := by decide +kernel
theorem dX4_init_89 : decode cX4_init 89 = .ok (.iconst 0, 1) := by decide +kernel
theorem dX4_init_90 : decode cX4_init 90 = .ok (.invokestatic 49, 3) := by decide +kernel
theorem dX4_init_93 : decode cX4_init 93 = .ok (.aload_n 0, 1) := by decide +kernel
theorem dX4_init_94 : decode cX4_init 94 = .ok (.getfield 15, 3) := by decide +kernel
theorem dX4_init_97 : decode cX4_init 97 = .ok (.aload_n 0, 1) := by decide +kernel
theorem dX4_init_98 : decode cX4_init 98 = .ok (.getfield 27, 3) := by decide +kernel
theorem dX4_init_101 : decode cX4_init 101 = .ok (.iconst (-1), 1) := by decide +kernel
theorem dX4_init_102 : decode cX4_init 102 = .ok (.invokestatic 49, 3) := by decide +kernel
theorem dX4_init_105 : decode cX4_init 105 = .ok (.return_, 1) := by decide +kernel
theorem dX4_copyFrom_0 : decode cX4_copyFrom 0 = .ok (.aload_n 0, 1) := by decide +kernel
theorem dX4_copyFrom_1 : decode cX4_copyFrom 1 = .ok (.aload_n 1, 1) := by decide +kernel
theorem dX4_copyFrom_2 : decode cX4_copyFrom 2 = .ok (.invokevirtual 53, 3) := by decide +kernel
theorem dX4_copyFrom_5 : decode cX4_copyFrom 5 = .ok (.invokevirtual 57, 3) := by decide +kernel
theorem dX4_copyFrom_8 : decode cX4_copyFrom 8 = .ok (.aload_n 1, 1) := by decide +kernel
theorem dX4_copyFrom_9 : decode cX4_copyFrom 9 = .ok (.invokevirtual 53, 3) := by decide +kernel
theorem dX4_copyFrom_12 : decode cX4_copyFrom 12 = .ok (.istore_n 2, 1) := by decide +kernel
theorem dX4_copyFrom_13 : decode cX4_copyFrom 13 = .ok (.iload_n 2, 1) := by decide +kernel
theorem dX4_copyFrom_14 : decode cX4_copyFrom 14 = .ok (.aload_n 0, 1) := by decide +kernel
theorem dX4_copyFrom_15 : decode cX4_copyFrom 15 = .ok (.invokevirtual 53, 3) := by decide +kernel
theorem dX4_copyFrom_18 : decode cX4_copyFrom 18 = .ok (.if_icmp .ge 19, 3) := by decide +kernel
theorem dX4_copyFrom_21 : decode cX4_copyFrom 21 = .ok (.aload_n 0, 1) := by decide +kernel
theorem dX4_copyFrom_22 : decode cX4_copyFrom 22 = .ok (.getfield 9, 3) := by decide +kernel
theorem dX4_copyFrom_25 : decode cX4_copyFrom 25 = .ok (.iload_n 2, 1) := by decide +kernel
theorem dX4_copyFrom_26 : decode cX4_copyFrom 26 = .ok (.bipush (-2), 2) := by decide +kernel
theorem dX4_copyFrom_28 : decode cX4_copyFrom 28 = .ok (.invokestatic 49, 3) := by decide +kernel
theorem dX4_copyFrom_31 : decode cX4_copyFrom 31 = .ok (.iinc 2 1, 3) := by decide +kernel
theorem dX4_copyFrom_34 : decode cX4_copyFrom 34 = .ok (.goto (-21), 3) := by decide +kernel
theorem dX4_copyFrom_37 : decode cX4_copyFrom 37 = .ok (.aload_n 1, 1) := by decide +kernel
theorem dX4_copyFrom_38 : decode cX4_copyFrom 38 = .ok (.getfield 9, 3) := by decide +kernel
theorem dX4_copyFrom_41 : decode cX4_copyFrom 41 = .ok (.aload_n 0, 1) := by decide +kernel
theorem dX4_copyFrom_42 : decode cX4_copyFrom 42 = .ok (.getfield 9, 3) := by decide +kernel
theorem dX4_copyFrom_45 : decode cX4_copyFrom 45 = .ok (.invokestatic 61, 3) := by decide +kernel
theorem dX4_copyFrom_48 : decode cX4_copyFrom 48 = .ok (.aload_n 1, 1) := by decide +kernel
theorem dX4_copyFrom_49 : decode cX4_copyFrom 49 = .ok (.getfield 15, 3) := by decide +kernel
theorem dX4_copyFrom_52 : decode cX4_copyFrom 52 = .ok (.aload_n 0, 1) := by decide +kernel
theorem dX4_copyFrom_53 : decode cX4_copyFrom 53 = .ok (.getfield 15, 3) := by decide +kernel
theorem dX4_copyFrom_56 : decode cX4_copyFrom 56 = .ok (.invokestatic 61, 3) := by decide +kernel
theorem dX4_copyFrom_59 : decode cX4_copyFrom 59 = .ok (.aload_n 1, 1) := by decide +kernel
theorem dX4_copyFrom_60 : decode cX4_copyFrom 60 = .ok (.getfield 18, 3) := by decide +kernel
theorem dX4_copyFrom_63 : decode cX4_copyFrom 63 = .ok (.aload_n 0, 1) := by decide +kernel
theorem dX4_copyFrom_64 : decode cX4_copyFrom 64 = .ok (.getfield 18, 3) := by decide +kernel
theorem dX4_copyFrom_67 : decode cX4_copyFrom 67 = .ok (.invokestatic 61, 3) := by decide +kernel
theorem dX4_copyFrom_70 : decode cX4_copyFrom 70 = .ok (.aload_n 1, 1) := by decide +kernel
theorem dX4_copyFrom_71 : decode cX4_copyFrom 71 = .ok (.getfield 21, 3) := by decide +kernel
theorem dX4_copyFrom_74 : decode cX4_copyFrom 74 = .ok (.aload_n 0, 1) := by decide +kernel
theorem dX4_copyFrom_75 : decode cX4_copyFrom 75 = .ok (.getfield 21, 3) := by decide +kernel
theorem dX4_copyFrom_78 : decode cX4_copyFrom 78 = .ok (.invokestatic 61, 3) := by decide +kernel
theorem dX4_copyFrom_81 : decode cX4_copyFrom 81 = .ok (.aload_n 1, 1) := by decide +kernel
theorem dX4_copyFrom_82 : decode cX4_copyFrom 82 = .ok (.getfield 24, 3) := by decide +kernel
theorem dX4_copyFrom_85 : decode cX4_copyFrom 85 = .ok (.aload_n 0, 1) := by decide +kernel
theorem dX4_copyFrom_86 : decode cX4_copyFrom 86 = .ok (.getfield 24, 3) := by decide +kernel
theorem dX4_copyFrom_89 : decode cX4_copyFrom 89 = .ok (.invokestatic 61, 3) := by decide +kernel
theorem dX4_copyFrom_92 : decode cX4_copyFrom 92 = .ok (.aload_n 0, 1) := by decide +kernel
theorem dX4_copyFrom_93 : decode cX4_copyFrom 93 = .ok (.aload_n 1, 1) := by decide +kernel
theorem dX4_copyFrom_94 : decode cX4_copyFrom 94 = .ok (.getfield 27, 3) := by decide +kernel
theorem dX4_copyFrom_97 : decode cX4_copyFrom 97 = .ok (.putfield 27, 3) := by decide +kernel
theorem dX4_copyFrom_100 : decode cX4_copyFrom 100 = .ok (.aload_n 0, 1) := by decide +kernel
theorem dX4_copyFrom_101 : decode cX4_copyFrom 101 = .ok (.aload_n 1, 1) := by decide +kernel
theorem dX4_copyFrom_102 : decode cX4_copyFrom 102 = .ok (.getfield 31, 3) := by decide +kernel
theorem dX4_copyFrom_105 : decode cX4_copyFrom 105 = .ok (.putfield 31, 3) := by decide +kernel
theorem dX4_copyFrom_108 : decode cX4_copyFrom 108 = .ok (.aload_n 0, 1) := by decide +kernel
theorem dX4_copyFrom_109 : decode cX4_copyFrom 109 = .ok (.aload_n 1, 1) := by decide +kernel
theorem dX4_copyFrom_110 : decode cX4_copyFrom 110 = .ok (.getfield 34, 3) := by decide +kernel
theorem dX4_copyFrom_113 : decode cX4_copyFrom 113 = .ok (.putfield 34, 3) := by decide +kernel
theorem dX4_copyFrom_116 : decode cX4_copyFrom 116 = .ok (.aload_n 0, 1) := by decide +kernel
theorem dX4_copyFrom_117 : decode cX4_copyFrom 117 = .ok (.aload_n 1, 1) := by decide +kernel
theorem dX4_copyFrom_118 : decode cX4_copyFrom 118 = .ok (.getfield 37, 3) := by decide +kernel
theorem dX4_copyFrom_121 : decode cX4_copyFrom 121 = .ok (.putfield 37, 3) := by decide +kernel
theorem dX4_copyFrom_124 : decode cX4_copyFrom 124 = .ok (.aload_n 0, 1) := by decide +kernel
theorem dX4_copyFrom_125 : decode cX4_copyFrom 125 = .ok (.aload_n 1, 1) := by decide +kernel
theorem dX4_copyFrom_126 : decode cX4_copyFrom 126 = .ok (.getfield 40, 3) := by decide +kernel
theorem dX4_copyFrom_129 : decode cX4_copyFrom 129 = .ok (.putfield 40, 3) := by decide +kernel
theorem dX4_copyFrom_132 : decode cX4_copyFrom 132 = .ok (.return_, 1) := by decide +kernel
theorem dX4_copyRow_0 : decode cX4_copyRow 0 = .ok (.aload_n 0, 1) := by decide +kernel
theorem dX4_copyRow_1 : decode cX4_copyRow 1 = .ok (.iconst 0, 1) := by decide +kernel
theorem dX4_copyRow_2 : decode cX4_copyRow 2 = .ok (.aload_n 1, 1) := by decide +kernel
theorem dX4_copyRow_3 : decode cX4_copyRow 3 = .ok (.iconst 0, 1) := by decide +kernel
theorem dX4_copyRow_4 : decode cX4_copyRow 4 = .ok (.aload_n 0, 1) := by decide +kernel
theorem dX4_copyRow_5 : decode cX4_copyRow 5 = .ok (.arraylength, 1) := by decide +kernel
theorem dX4_copyRow_6 : decode cX4_copyRow 6 = .ok (.aload_n 1, 1) := by decide +kernel
theorem dX4_copyRow_7 : decode cX4_copyRow 7 = .ok (.arraylength, 1) := by decide +kernel
theorem dX4_copyRow_8 : decode cX4_copyRow 8 = .ok (.invokestatic 65, 3) := by decide +kernel
theorem dX4_copyRow_11 : decode cX4_copyRow 11 = .ok (.invokestatic 71, 3) := by decide +kernel
theorem dX4_copyRow_14 : decode cX4_copyRow 14 = .ok (.return_, 1) := by decide +kernel
theorem dX4_room_0 : decode cX4_room 0 = .ok (.aload_n 0, 1) := by decide +kernel
theorem dX4_room_1 : decode cX4_room 1 = .ok (.getfield 9, 3) := by decide +kernel
theorem dX4_room_4 : decode cX4_room 4 = .ok (.arraylength, 1) := by decide +kernel
theorem dX4_room_5 : decode cX4_room 5 = .ok (.ireturn, 1) := by decide +kernel
theorem dX4_makeRoom_0 : decode cX4_makeRoom 0 = .ok (.aload_n 0, 1) := by decide +kernel
theorem dX4_makeRoom_1 : decode cX4_makeRoom 1 = .ok (.invokevirtual 53, 3) := by decide +kernel
theorem dX4_makeRoom_4 : decode cX4_makeRoom 4 = .ok (.istore_n 2, 1) := by decide +kernel
theorem dX4_makeRoom_5 : decode cX4_makeRoom 5 = .ok (.iload_n 1, 1) := by decide +kernel
theorem dX4_makeRoom_6 : decode cX4_makeRoom 6 = .ok (.iload_n 2, 1) := by decide +kernel
theorem dX4_makeRoom_7 : decode cX4_makeRoom 7 = .ok (.if_icmp .le 10, 3) := by decide +kernel
theorem dX4_makeRoom_10 : decode cX4_makeRoom 10 = .ok (.iload_n 1, 1) := by decide +kernel
theorem dX4_makeRoom_11 : decode cX4_makeRoom 11 = .ok (.sipush 8192, 3) := by decide +kernel
theorem dX4_makeRoom_14 : decode cX4_makeRoom 14 = .ok (.if_icmp .le 4, 3) := by decide +kernel
theorem dX4_makeRoom_17 : decode cX4_makeRoom 17 = .ok (.return_, 1) := by decide +kernel
theorem dX4_makeRoom_18 : decode cX4_makeRoom 18 = .ok (.aload_n 0, 1) := by decide +kernel
theorem dX4_makeRoom_19 : decode cX4_makeRoom 19 = .ok (.aload_n 0, 1) := by decide +kernel
theorem dX4_makeRoom_20 : decode cX4_makeRoom 20 = .ok (.getfield 9, 3) := by decide +kernel
theorem dX4_makeRoom_23 : decode cX4_makeRoom 23 = .ok (.iload_n 1, 1) := by decide +kernel
theorem dX4_makeRoom_24 : decode cX4_makeRoom 24 = .ok (.invokestatic 77, 3) := by decide +kernel
theorem dX4_makeRoom_27 : decode cX4_makeRoom 27 = .ok (.putfield 9, 3) := by decide +kernel
theorem dX4_makeRoom_30 : decode cX4_makeRoom 30 = .ok (.aload_n 0, 1) := by decide +kernel
theorem dX4_makeRoom_31 : decode cX4_makeRoom 31 = .ok (.aload_n 0, 1) := by decide +kernel
theorem dX4_makeRoom_32 : decode cX4_makeRoom 32 = .ok (.getfield 15, 3) := by decide +kernel
theorem dX4_makeRoom_35 : decode cX4_makeRoom 35 = .ok (.iload_n 1, 1) := by decide +kernel
theorem dX4_makeRoom_36 : decode cX4_makeRoom 36 = .ok (.invokestatic 77, 3) := by decide +kernel
theorem dX4_makeRoom_39 : decode cX4_makeRoom 39 = .ok (.putfield 15, 3) := by decide +kernel
theorem dX4_makeRoom_42 : decode cX4_makeRoom 42 = .ok (.aload_n 0, 1) := by decide +kernel
theorem dX4_makeRoom_43 : decode cX4_makeRoom 43 = .ok (.aload_n 0, 1) := by decide +kernel
theorem dX4_makeRoom_44 : decode cX4_makeRoom 44 = .ok (.getfield 18, 3) := by decide +kernel
theorem dX4_makeRoom_47 : decode cX4_makeRoom 47 = .ok (.iload_n 1, 1) := by decide +kernel
theorem dX4_makeRoom_48 : decode cX4_makeRoom 48 = .ok (.invokestatic 77, 3) := by decide +kernel
theorem dX4_makeRoom_51 : decode cX4_makeRoom 51 = .ok (.putfield 18, 3) := by decide +kernel
theorem dX4_makeRoom_54 : decode cX4_makeRoom 54 = .ok (.aload_n 0, 1) := by decide +kernel
theorem dX4_makeRoom_55 : decode cX4_makeRoom 55 = .ok (.aload_n 0, 1) := by decide +kernel
theorem dX4_makeRoom_56 : decode cX4_makeRoom 56 = .ok (.getfield 21, 3) := by decide +kernel
theorem dX4_makeRoom_59 : decode cX4_makeRoom 59 = .ok (.iload_n 1, 1) := by decide +kernel
theorem dX4_makeRoom_60 : decode cX4_makeRoom 60 = .ok (.iconst 4, 1) := by decide +kernel
theorem dX4_makeRoom_61 : decode cX4_makeRoom 61 = .ok (.imul, 1) := by decide +kernel
theorem dX4_makeRoom_62 : decode cX4_makeRoom 62 = .ok (.invokestatic 77, 3) := by decide +kernel
theorem dX4_makeRoom_65 : decode cX4_makeRoom 65 = .ok (.putfield 21, 3) := by decide +kernel
theorem dX4_makeRoom_68 : decode cX4_makeRoom 68 = .ok (.aload_n 0, 1) := by decide +kernel
theorem dX4_makeRoom_69 : decode cX4_makeRoom 69 = .ok (.aload_n 0, 1) := by decide +kernel
theorem dX4_makeRoom_70 : decode cX4_makeRoom 70 = .ok (.getfield 24, 3) := by decide +kernel
theorem dX4_makeRoom_73 : decode cX4_makeRoom 73 = .ok (.iload_n 1, 1) := by decide +kernel
theorem dX4_makeRoom_74 : decode cX4_makeRoom 74 = .ok (.bipush 6, 2) := by decide +kernel
theorem dX4_makeRoom_76 : decode cX4_makeRoom 76 = .ok (.imul, 1) := by decide +kernel
theorem dX4_makeRoom_77 : decode cX4_makeRoom 77 = .ok (.invokestatic 77, 3) := by decide +kernel
theorem dX4_makeRoom_80 : decode cX4_makeRoom 80 = .ok (.putfield 24, 3) := by decide +kernel
theorem dX4_makeRoom_83 : decode cX4_makeRoom 83 = .ok (.iload_n 2, 1) := by decide +kernel
theorem dX4_makeRoom_84 : decode cX4_makeRoom 84 = .ok (.istore_n 3, 1) := by decide +kernel
theorem dX4_makeRoom_85 : decode cX4_makeRoom 85 = .ok (.iload_n 3, 1) := by decide +kernel
theorem dX4_makeRoom_86 : decode cX4_makeRoom 86 = .ok (.iload_n 1, 1) := by decide +kernel
theorem dX4_makeRoom_87 : decode cX4_makeRoom 87 = .ok (.if_icmp .ge 19, 3) := by decide +kernel
theorem dX4_makeRoom_90 : decode cX4_makeRoom 90 = .ok (.aload_n 0, 1) := by decide +kernel
theorem dX4_makeRoom_91 : decode cX4_makeRoom 91 = .ok (.getfield 9, 3) := by decide +kernel
theorem dX4_makeRoom_94 : decode cX4_makeRoom 94 = .ok (.iload_n 3, 1) := by decide +kernel
theorem dX4_makeRoom_95 : decode cX4_makeRoom 95 = .ok (.bipush (-2), 2) := by decide +kernel
theorem dX4_makeRoom_97 : decode cX4_makeRoom 97 = .ok (.invokestatic 49, 3) := by decide +kernel
theorem dX4_makeRoom_100 : decode cX4_makeRoom 100 = .ok (.iinc 3 1, 3) := by decide +kernel
theorem dX4_makeRoom_103 : decode cX4_makeRoom 103 = .ok (.goto (-18), 3) := by decide +kernel
theorem dX4_makeRoom_106 : decode cX4_makeRoom 106 = .ok (.return_, 1) := by decide +kernel
theorem dX4_levelOf_0 : decode cX4_levelOf 0 = .ok (.iload_n 1, 1) := by decide +kernel
theorem dX4_levelOf_1 : decode cX4_levelOf 1 = .ok (.ifCond .lt 21, 3) := by decide +kernel
theorem dX4_levelOf_4 : decode cX4_levelOf 4 = .ok (.iload_n 1, 1) := by decide +kernel
theorem dX4_levelOf_5 : decode cX4_levelOf 5 = .ok (.aload_n 0, 1) := by decide +kernel
theorem dX4_levelOf_6 : decode cX4_levelOf 6 = .ok (.getfield 9, 3) := by decide +kernel
theorem dX4_levelOf_9 : decode cX4_levelOf 9 = .ok (.arraylength, 1) := by decide +kernel
theorem dX4_levelOf_10 : decode cX4_levelOf 10 = .ok (.if_icmp .ge 12, 3) := by decide +kernel
theorem dX4_levelOf_13 : decode cX4_levelOf 13 = .ok (.aload_n 0, 1) := by decide +kernel
theorem dX4_levelOf_14 : decode cX4_levelOf 14 = .ok (.getfield 9, 3) := by decide +kernel
theorem dX4_levelOf_17 : decode cX4_levelOf 17 = .ok (.iload_n 1, 1) := by decide +kernel
theorem dX4_levelOf_18 : decode cX4_levelOf 18 = .ok (.iaload, 1) := by decide +kernel
theorem dX4_levelOf_19 : decode cX4_levelOf 19 = .ok (.goto 5, 3) := by decide +kernel
theorem dX4_levelOf_22 : decode cX4_levelOf 22 = .ok (.bipush (-2), 2) := by decide +kernel
theorem dX4_levelOf_24 : decode cX4_levelOf 24 = .ok (.ireturn, 1) := by decide +kernel
theorem dX4_holderOf_0 : decode cX4_holderOf 0 = .ok (.aload_n 0, 1) := by decide +kernel
theorem dX4_holderOf_1 : decode cX4_holderOf 1 = .ok (.getfield 15, 3) := by decide +kernel
theorem dX4_holderOf_4 : decode cX4_holderOf 4 = .ok (.iload_n 1, 1) := by decide +kernel
theorem dX4_holderOf_5 : decode cX4_holderOf 5 = .ok (.invokestatic 81, 3) := by decide +kernel
theorem dX4_holderOf_8 : decode cX4_holderOf 8 = .ok (.ireturn, 1) := by decide +kernel
theorem dX4_sizeOf_0 : decode cX4_sizeOf 0 = .ok (.iload_n 1, 1) := by decide +kernel
theorem dX4_sizeOf_1 : decode cX4_sizeOf 1 = .ok (.ifCond .lt 21, 3) := by decide +kernel
theorem dX4_sizeOf_4 : decode cX4_sizeOf 4 = .ok (.iload_n 1, 1) := by decide +kernel
theorem dX4_sizeOf_5 : decode cX4_sizeOf 5 = .ok (.aload_n 0, 1) := by decide +kernel
theorem dX4_sizeOf_6 : decode cX4_sizeOf 6 = .ok (.getfield 18, 3) := by decide +kernel
theorem dX4_sizeOf_9 : decode cX4_sizeOf 9 = .ok (.arraylength, 1) := by decide +kernel
theorem dX4_sizeOf_10 : decode cX4_sizeOf 10 = .ok (.if_icmp .ge 12, 3) := by decide +kernel
theorem dX4_sizeOf_13 : decode cX4_sizeOf 13 = .ok (.aload_n 0, 1) := by decide +kernel
theorem dX4_sizeOf_14 : decode cX4_sizeOf 14 = .ok (.getfield 18, 3) := by decide +kernel
theorem dX4_sizeOf_17 : decode cX4_sizeOf 17 = .ok (.iload_n 1, 1) := by decide +kernel
theorem dX4_sizeOf_18 : decode cX4_sizeOf 18 = .ok (.iaload, 1) := by decide +kernel
theorem dX4_sizeOf_19 : decode cX4_sizeOf 19 = .ok (.goto 4, 3) := by decide +kernel
theorem dX4_sizeOf_22 : decode cX4_sizeOf 22 = .ok (.iconst 0, 1) := by decide +kernel
theorem dX4_sizeOf_23 : decode cX4_sizeOf 23 = .ok (.ireturn, 1) := by decide +kernel
theorem dX4_entryAt_0 : decode cX4_entryAt 0 = .ok (.iload_n 2, 1) := by decide +kernel
theorem dX4_entryAt_1 : decode cX4_entryAt 1 = .ok (.ifCond .lt 28, 3) := by decide +kernel
theorem dX4_entryAt_4 : decode cX4_entryAt 4 = .ok (.iload_n 2, 1) := by decide +kernel
theorem dX4_entryAt_5 : decode cX4_entryAt 5 = .ok (.aload_n 0, 1) := by decide +kernel
theorem dX4_entryAt_6 : decode cX4_entryAt 6 = .ok (.iload_n 1, 1) := by decide +kernel
theorem dX4_entryAt_7 : decode cX4_entryAt 7 = .ok (.invokevirtual 85, 3) := by decide +kernel
theorem dX4_entryAt_10 : decode cX4_entryAt 10 = .ok (.if_icmp .ge 19, 3) := by decide +kernel
theorem dX4_entryAt_13 : decode cX4_entryAt 13 = .ok (.aload_n 0, 1) := by decide +kernel
theorem dX4_entryAt_14 : decode cX4_entryAt 14 = .ok (.getfield 24, 3) := by decide +kernel
theorem dX4_entryAt_17 : decode cX4_entryAt 17 = .ok (.iload_n 1, 1) := by decide +kernel
theorem dX4_entryAt_18 : decode cX4_entryAt 18 = .ok (.bipush 6, 2) := by decide +kernel
theorem dX4_entryAt_20 : decode cX4_entryAt 20 = .ok (.imul, 1) := by decide +kernel
theorem dX4_entryAt_21 : decode cX4_entryAt 21 = .ok (.iload_n 2, 1) := by decide +kernel
theorem dX4_entryAt_22 : decode cX4_entryAt 22 = .ok (.iadd, 1) := by decide +kernel
theorem dX4_entryAt_23 : decode cX4_entryAt 23 = .ok (.invokestatic 81, 3) := by decide +kernel
theorem dX4_entryAt_26 : decode cX4_entryAt 26 = .ok (.goto 4, 3) := by decide +kernel
theorem dX4_entryAt_29 : decode cX4_entryAt 29 = .ok (.iconst (-1), 1) := by decide +kernel
theorem dX4_entryAt_30 : decode cX4_entryAt 30 = .ok (.ireturn, 1) := by decide +kernel
theorem dX4_corner_0 : decode cX4_corner 0 = .ok (.iload_n 1, 1) := by decide +kernel
theorem dX4_corner_1 : decode cX4_corner 1 = .ok (.iconst 4, 1) := by decide +kernel
theorem dX4_corner_2 : decode cX4_corner 2 = .ok (.imul, 1) := by decide +kernel
theorem dX4_corner_3 : decode cX4_corner 3 = .ok (.iload_n 2, 1) := by decide +kernel
theorem dX4_corner_4 : decode cX4_corner 4 = .ok (.iadd, 1) := by decide +kernel
theorem dX4_corner_5 : decode cX4_corner 5 = .ok (.istore_n 3, 1) := by decide +kernel
theorem dX4_corner_6 : decode cX4_corner 6 = .ok (.iload_n 3, 1) := by decide +kernel
theorem dX4_corner_7 : decode cX4_corner 7 = .ok (.ifCond .lt 21, 3) := by decide +kernel
theorem dX4_corner_10 : decode cX4_corner 10 = .ok (.iload_n 3, 1) := by decide +kernel
theorem dX4_corner_11 : decode cX4_corner 11 = .ok (.aload_n 0, 1) := by decide +kernel
theorem dX4_corner_12 : decode cX4_corner 12 = .ok (.getfield 21, 3) := by decide +kernel
theorem dX4_corner_15 : decode cX4_corner 15 = .ok (.arraylength, 1) := by decide +kernel
theorem dX4_corner_16 : decode cX4_corner 16 = .ok (.if_icmp .ge 12, 3) := by decide +kernel
theorem dX4_corner_19 : decode cX4_corner 19 = .ok (.aload_n 0, 1) := by decide +kernel
theorem dX4_corner_20 : decode cX4_corner 20 = .ok (.getfield 21, 3) := by decide +kernel
theorem dX4_corner_23 : decode cX4_corner 23 = .ok (.iload_n 3, 1) := by decide +kernel
theorem dX4_corner_24 : decode cX4_corner 24 = .ok (.iaload, 1) := by decide +kernel
theorem dX4_corner_25 : decode cX4_corner 25 = .ok (.goto 4, 3) := by decide +kernel
theorem dX4_corner_28 : decode cX4_corner 28 = .ok (.iconst (-1), 1) := by decide +kernel
theorem dX4_corner_29 : decode cX4_corner 29 = .ok (.ireturn, 1) := by decide +kernel
theorem dX4_least_0 : decode cX4_least 0 = .ok (.aload_n 0, 1) := by decide +kernel
theorem dX4_least_1 : decode cX4_least 1 = .ok (.getfield 31, 3) := by decide +kernel
theorem dX4_least_4 : decode cX4_least 4 = .ok (.iconst 2, 1) := by decide +kernel
theorem dX4_least_5 : decode cX4_least 5 = .ok (.idiv, 1) := by decide +kernel
theorem dX4_least_6 : decode cX4_least 6 = .ok (.ireturn, 1) := by decide +kernel
theorem dX4_isNode_0 : decode cX4_isNode 0 = .ok (.iload_n 1, 1) := by decide +kernel
theorem dX4_isNode_1 : decode cX4_isNode 1 = .ok (.bipush 24, 2) := by decide +kernel
theorem dX4_isNode_3 : decode cX4_isNode 3 = .ok (.if_icmp .lt 25, 3) := by decide +kernel
theorem dX4_isNode_6 : decode cX4_isNode 6 = .ok (.iload_n 1, 1) := by decide +kernel
theorem dX4_isNode_7 : decode cX4_isNode 7 = .ok (.aload_n 0, 1) := by decide +kernel
theorem dX4_isNode_8 : decode cX4_isNode 8 = .ok (.getfield 9, 3) := by decide +kernel
theorem dX4_isNode_11 : decode cX4_isNode 11 = .ok (.arraylength, 1) := by decide +kernel
theorem dX4_isNode_12 : decode cX4_isNode 12 = .ok (.if_icmp .ge 16, 3) := by decide +kernel
theorem dX4_isNode_15 : decode cX4_isNode 15 = .ok (.aload_n 0, 1) := by decide +kernel
theorem dX4_isNode_16 : decode cX4_isNode 16 = .ok (.getfield 9, 3) := by decide +kernel
theorem dX4_isNode_19 : decode cX4_isNode 19 = .ok (.iload_n 1, 1) := by decide +kernel
theorem dX4_isNode_20 : decode cX4_isNode 20 = .ok (.iaload, 1) := by decide +kernel
theorem dX4_isNode_21 : decode cX4_isNode 21 = .ok (.ifCond .lt 7, 3) := by decide +kernel
theorem dX4_isNode_24 : decode cX4_isNode 24 = .ok (.iconst 1, 1) := by decide +kernel
theorem dX4_isNode_25 : decode cX4_isNode 25 = .ok (.goto 4, 3) := by decide +kernel
theorem dX4_isNode_28 : decode cX4_isNode 28 = .ok (.iconst 0, 1) := by decide +kernel
theorem dX4_isNode_29 : decode cX4_isNode 29 = .ok (.ireturn, 1) := by decide +kernel
theorem dX4_hasBox_0 : decode cX4_hasBox 0 = .ok (.iload_n 1, 1) := by decide +kernel
theorem dX4_hasBox_1 : decode cX4_hasBox 1 = .ok (.ifCond .lt 22, 3) := by decide +kernel
theorem dX4_hasBox_4 : decode cX4_hasBox 4 = .ok (.iload_n 1, 1) := by decide +kernel
theorem dX4_hasBox_5 : decode cX4_hasBox 5 = .ok (.bipush 24, 2) := by decide +kernel
theorem dX4_hasBox_7 : decode cX4_hasBox 7 = .ok (.if_icmp .ge 16, 3) := by decide +kernel
theorem dX4_hasBox_10 : decode cX4_hasBox 10 = .ok (.aload_n 0, 1) := by decide +kernel
theorem dX4_hasBox_11 : decode cX4_hasBox 11 = .ok (.iload_n 1, 1) := by decide +kernel
theorem dX4_hasBox_12 : decode cX4_hasBox 12 = .ok (.invokevirtual 89, 3) := by decide +kernel
theorem dX4_hasBox_15 : decode cX4_hasBox 15 = .ok (.iconst (-1), 1) := by decide +kernel
theorem dX4_hasBox_16 : decode cX4_hasBox 16 = .ok (.if_icmp .ne 7, 3) := by decide +kernel
theorem dX4_hasBox_19 : decode cX4_hasBox 19 = .ok (.iconst 1, 1) := by decide +kernel
theorem dX4_hasBox_20 : decode cX4_hasBox 20 = .ok (.goto 4, 3) := by decide +kernel
theorem dX4_hasBox_23 : decode cX4_hasBox 23 = .ok (.iconst 0, 1) := by decide +kernel
theorem dX4_hasBox_24 : decode cX4_hasBox 24 = .ok (.ireturn, 1) := by decide +kernel
theorem dX4_countBoxes_0 : decode cX4_countBoxes 0 = .ok (.iconst 0, 1) := by decide +kernel
theorem dX4_countBoxes_1 : decode cX4_countBoxes 1 = .ok (.istore_n 1, 1) := by decide +kernel
theorem dX4_countBoxes_2 : decode cX4_countBoxes 2 = .ok (.iconst 0, 1) := by decide +kernel
theorem dX4_countBoxes_3 : decode cX4_countBoxes 3 = .ok (.istore_n 2, 1) := by decide +kernel
theorem dX4_countBoxes_4 : decode cX4_countBoxes 4 = .ok (.iload_n 2, 1) := by decide +kernel
theorem dX4_countBoxes_5 : decode cX4_countBoxes 5 = .ok (.bipush 24, 2) := by decide +kernel
theorem dX4_countBoxes_7 : decode cX4_countBoxes 7 = .ok (.if_icmp .ge 20, 3) := by decide +kernel
theorem dX4_countBoxes_10 : decode cX4_countBoxes 10 = .ok (.aload_n 0, 1) := by decide +kernel
theorem dX4_countBoxes_11 : decode cX4_countBoxes 11 = .ok (.iload_n 2, 1) := by decide +kernel
theorem dX4_countBoxes_12 : decode cX4_countBoxes 12 = .ok (.invokevirtual 92, 3) := by decide +kernel
theorem dX4_countBoxes_15 : decode cX4_countBoxes 15 = .ok (.ifCond .eq 6, 3) := by decide +kernel
theorem dX4_countBoxes_18 : decode cX4_countBoxes 18 = .ok (.iinc 1 1, 3) := by decide +kernel
theorem dX4_countBoxes_21 : decode cX4_countBoxes 21 = .ok (.iinc 2 1, 3) := by decide +kernel
theorem dX4_countBoxes_24 : decode cX4_countBoxes 24 = .ok (.goto (-20), 3) := by decide +kernel
theorem dX4_countBoxes_27 : decode cX4_countBoxes 27 = .ok (.iload_n 1, 1) := by decide +kernel
theorem dX4_countBoxes_28 : decode cX4_countBoxes 28 = .ok (.ireturn, 1) := by decide +kernel
theorem dX4_newBox_0 : decode cX4_newBox 0 = .ok (.aload_n 0, 1) := by decide +kernel
theorem dX4_newBox_1 : decode cX4_newBox 1 = .ok (.iconst 0, 1) := by decide +kernel
theorem dX4_newBox_2 : decode cX4_newBox 2 = .ok (.bipush 24, 2) := by decide +kernel
theorem dX4_newBox_4 : decode cX4_newBox 4 = .ok (.invokevirtual 96, 3) := by decide +kernel
theorem dX4_newBox_7 : decode cX4_newBox 7 = .ok (.istore 5, 2) := by decide +kernel
theorem dX4_newBox_9 : decode cX4_newBox 9 = .ok (.iload 5, 2) := by decide +kernel
theorem dX4_newBox_11 : decode cX4_newBox 11 = .ok (.iconst (-1), 1) := by decide +kernel
theorem dX4_newBox_12 : decode cX4_newBox 12 = .ok (.if_icmp .eq 21, 3) := by decide +kernel
theorem dX4_newBox_15 : decode cX4_newBox 15 = .ok (.aload_n 0, 1) := by decide +kernel
theorem dX4_newBox_16 : decode cX4_newBox 16 = .ok (.iload 5, 2) := by decide +kernel
theorem dX4_newBox_18 : decode cX4_newBox 18 = .ok (.iconst (-1), 1) := by decide +kernel
theorem dX4_newBox_19 : decode cX4_newBox 19 = .ok (.invokevirtual 99, 3) := by decide +kernel
theorem dX4_newBox_22 : decode cX4_newBox 22 = .ok (.aload_n 0, 1) := by decide +kernel
theorem dX4_newBox_23 : decode cX4_newBox 23 = .ok (.iload 5, 2) := by decide +kernel
theorem dX4_newBox_25 : decode cX4_newBox 25 = .ok (.iload_n 1, 1) := by decide +kernel
theorem dX4_newBox_26 : decode cX4_newBox 26 = .ok (.iload_n 2, 1) := by decide +kernel
theorem dX4_newBox_27 : decode cX4_newBox 27 = .ok (.iload_n 3, 1) := by decide +kernel
theorem dX4_newBox_28 : decode cX4_newBox 28 = .ok (.iload 4, 2) := by decide +kernel
theorem dX4_newBox_30 : decode cX4_newBox 30 = .ok (.invokevirtual 103, 3) := by decide +kernel
theorem dX4_newBox_33 : decode cX4_newBox 33 = .ok (.iload 5, 2) := by decide +kernel
theorem dX4_newBox_35 : decode cX4_newBox 35 = .ok (.ireturn, 1) := by decide +kernel
theorem dX4_newNode_0 : decode cX4_newNode 0 = .ok (.aload_n 0, 1) := by decide +kernel
theorem dX4_newNode_1 : decode cX4_newNode 1 = .ok (.bipush 24, 2) := by decide +kernel
theorem dX4_newNode_3 : decode cX4_newNode 3 = .ok (.aload_n 0, 1) := by decide +kernel
theorem dX4_newNode_4 : decode cX4_newNode 4 = .ok (.invokevirtual 53, 3) := by decide +kernel
theorem dX4_newNode_7 : decode cX4_newNode 7 = .ok (.invokevirtual 96, 3) := by decide +kernel
theorem dX4_newNode_10 : decode cX4_newNode 10 = .ok (.istore_n 2, 1) := by decide +kernel
theorem dX4_newNode_11 : decode cX4_newNode 11 = .ok (.iload_n 2, 1) := by decide +kernel
theorem dX4_newNode_12 : decode cX4_newNode 12 = .ok (.iconst (-1), 1) := by decide +kernel
theorem dX4_newNode_13 : decode cX4_newNode 13 = .ok (.if_icmp .ne 18, 3) := by decide +kernel
theorem dX4_newNode_16 : decode cX4_newNode 16 = .ok (.aload_n 0, 1) := by decide +kernel
theorem dX4_newNode_17 : decode cX4_newNode 17 = .ok (.invokevirtual 53, 3) := by decide +kernel
theorem dX4_newNode_20 : decode cX4_newNode 20 = .ok (.istore_n 2, 1) := by decide +kernel
theorem dX4_newNode_21 : decode cX4_newNode 21 = .ok (.aload_n 0, 1) := by decide +kernel
theorem dX4_newNode_22 : decode cX4_newNode 22 = .ok (.iconst 2, 1) := by decide +kernel
theorem dX4_newNode_23 : decode cX4_newNode 23 = .ok (.aload_n 0, 1) := by decide +kernel
theorem dX4_newNode_24 : decode cX4_newNode 24 = .ok (.invokevirtual 53, 3) := by decide +kernel
theorem dX4_newNode_27 : decode cX4_newNode 27 = .ok (.imul, 1) := by decide +kernel
theorem dX4_newNode_28 : decode cX4_newNode 28 = .ok (.invokevirtual 57, 3) := by decide +kernel
theorem dX4_newNode_31 : decode cX4_newNode 31 = .ok (.aload_n 0, 1) := by decide +kernel
theorem dX4_newNode_32 : decode cX4_newNode 32 = .ok (.iload_n 2, 1) := by decide +kernel
theorem dX4_newNode_33 : decode cX4_newNode 33 = .ok (.iload_n 1, 1) := by decide +kernel
theorem dX4_newNode_34 : decode cX4_newNode 34 = .ok (.invokevirtual 99, 3) := by decide +kernel
theorem dX4_newNode_37 : decode cX4_newNode 37 = .ok (.iload_n 2, 1) := by decide +kernel
theorem dX4_newNode_38 : decode cX4_newNode 38 = .ok (.aload_n 0, 1) := by decide +kernel
theorem dX4_newNode_39 : decode cX4_newNode 39 = .ok (.invokevirtual 53, 3) := by decide +kernel
theorem dX4_newNode_42 : decode cX4_newNode 42 = .ok (.if_icmp .ge 7, 3) := by decide +kernel
theorem dX4_newNode_45 : decode cX4_newNode 45 = .ok (.iload_n 2, 1) := by decide +kernel
theorem dX4_newNode_46 : decode cX4_newNode 46 = .ok (.goto 4, 3) := by decide +kernel
theorem dX4_newNode_49 : decode cX4_newNode 49 = .ok (.iconst (-1), 1) := by decide +kernel
theorem dX4_newNode_50 : decode cX4_newNode 50 = .ok (.ireturn, 1) := by decide +kernel
theorem dX4_firstFree_0 : decode cX4_firstFree 0 = .ok (.iload_n 1, 1) := by decide +kernel
theorem dX4_firstFree_1 : decode cX4_firstFree 1 = .ok (.istore_n 3, 1) := by decide +kernel
theorem dX4_firstFree_2 : decode cX4_firstFree 2 = .ok (.iload_n 3, 1) := by decide +kernel
theorem dX4_firstFree_3 : decode cX4_firstFree 3 = .ok (.iload_n 2, 1) := by decide +kernel
theorem dX4_firstFree_4 : decode cX4_firstFree 4 = .ok (.if_icmp .ge 21, 3) := by decide +kernel
theorem dX4_firstFree_7 : decode cX4_firstFree 7 = .ok (.aload_n 0, 1) := by decide +kernel
theorem dX4_firstFree_8 : decode cX4_firstFree 8 = .ok (.iload_n 3, 1) := by decide +kernel
theorem dX4_firstFree_9 : decode cX4_firstFree 9 = .ok (.invokevirtual 89, 3) := by decide +kernel
theorem dX4_firstFree_12 : decode cX4_firstFree 12 = .ok (.bipush (-2), 2) := by decide +kernel
theorem dX4_firstFree_14 : decode cX4_firstFree 14 = .ok (.if_icmp .ne 5, 3) := by decide +kernel
theorem dX4_firstFree_17 : decode cX4_firstFree 17 = .ok (.iload_n 3, 1) := by decide +kernel
theorem dX4_firstFree_18 : decode cX4_firstFree 18 = .ok (.ireturn, 1) := by decide +kernel
theorem dX4_firstFree_19 : decode cX4_firstFree 19 = .ok (.iinc 3 1, 3) := by decide +kernel
theorem dX4_firstFree_22 : decode cX4_firstFree 22 = .ok (.goto (-20), 3) := by decide +kernel
end
section
theorem dX4_firstFree_25 : decode cX4_firstFree 25 = .ok (.iconst (-1), 1) := by decide +kernel
theorem dX4_firstFree_26 : decode cX4_firstFree 26 = .ok (.ireturn, 1) := by decide +kernel
theorem dX4_take_0 : decode cX4_take 0 = .ok (.aload_n 0, 1) := by decide +kernel
theorem dX4_take_1 : decode cX4_take 1 = .ok (.getfield 9, 3) := by decide +kernel
theorem dX4_take_4 : decode cX4_take 4 = .ok (.iload_n 1, 1) := by decide +kernel
theorem dX4_take_5 : decode cX4_take 5 = .ok (.iload_n 2, 1) := by decide +kernel
theorem dX4_take_6 : decode cX4_take 6 = .ok (.invokestatic 49, 3) := by decide +kernel
theorem dX4_take_9 : decode cX4_take 9 = .ok (.aload_n 0, 1) := by decide +kernel
theorem dX4_take_10 : decode cX4_take 10 = .ok (.getfield 18, 3) := by decide +kernel
theorem dX4_take_13 : decode cX4_take 13 = .ok (.iload_n 1, 1) := by decide +kernel
theorem dX4_take_14 : decode cX4_take 14 = .ok (.iconst 0, 1) := by decide +kernel
theorem dX4_take_15 : decode cX4_take 15 = .ok (.invokestatic 49, 3) := by decide +kernel
theorem dX4_take_18 : decode cX4_take 18 = .ok (.aload_n 0, 1) := by decide +kernel
theorem dX4_take_19 : decode cX4_take 19 = .ok (.getfield 15, 3) := by decide +kernel
theorem dX4_take_22 : decode cX4_take 22 = .ok (.iload_n 1, 1) := by decide +kernel
theorem dX4_take_23 : decode cX4_take 23 = .ok (.iconst (-1), 1) := by decide +kernel
theorem dX4_take_24 : decode cX4_take 24 = .ok (.invokestatic 49, 3) := by decide +kernel
theorem dX4_take_27 : decode cX4_take 27 = .ok (.return_, 1) := by decide +kernel
theorem dX4_release_0 : decode cX4_release 0 = .ok (.aload_n 0, 1) := by decide +kernel
theorem dX4_release_1 : decode cX4_release 1 = .ok (.iload_n 1, 1) := by decide +kernel
theorem dX4_release_2 : decode cX4_release 2 = .ok (.bipush (-2), 2) := by decide +kernel
theorem dX4_release_4 : decode cX4_release 4 = .ok (.invokevirtual 99, 3) := by decide +kernel
theorem dX4_release_7 : decode cX4_release 7 = .ok (.return_, 1) := by decide +kernel
theorem dX4_setLoose_0 : decode cX4_setLoose 0 = .ok (.aload_n 0, 1) := by decide +kernel
theorem dX4_setLoose_1 : decode cX4_setLoose 1 = .ok (.getfield 15, 3) := by decide +kernel
theorem dX4_setLoose_4 : decode cX4_setLoose 4 = .ok (.iload_n 1, 1) := by decide +kernel
theorem dX4_setLoose_5 : decode cX4_setLoose 5 = .ok (.iconst (-1), 1) := by decide +kernel
theorem dX4_setLoose_6 : decode cX4_setLoose 6 = .ok (.invokestatic 49, 3) := by decide +kernel
theorem dX4_setLoose_9 : decode cX4_setLoose 9 = .ok (.return_, 1) := by decide +kernel
theorem dX4_makeListEmpty_0 : decode cX4_makeListEmpty 0 = .ok (.aload_n 0, 1) := by decide +kernel
theorem dX4_makeListEmpty_1 : decode cX4_makeListEmpty 1 = .ok (.getfield 18, 3) := by decide +kernel
theorem dX4_makeListEmpty_4 : decode cX4_makeListEmpty 4 = .ok (.iload_n 1, 1) := by decide +kernel
theorem dX4_makeListEmpty_5 : decode cX4_makeListEmpty 5 = .ok (.iconst 0, 1) := by decide +kernel
theorem dX4_makeListEmpty_6 : decode cX4_makeListEmpty 6 = .ok (.invokestatic 49, 3) := by decide +kernel
theorem dX4_makeListEmpty_9 : decode cX4_makeListEmpty 9 = .ok (.return_, 1) := by decide +kernel
theorem dX4_releaseNodes_0 : decode cX4_releaseNodes 0 = .ok (.bipush 24, 2) := by decide +kernel
theorem dX4_releaseNodes_2 : decode cX4_releaseNodes 2 = .ok (.istore_n 1, 1) := by decide +kernel
theorem dX4_releaseNodes_3 : decode cX4_releaseNodes 3 = .ok (.iload_n 1, 1) := by decide +kernel
theorem dX4_releaseNodes_4 : decode cX4_releaseNodes 4 = .ok (.aload_n 0, 1) := by decide +kernel
theorem dX4_releaseNodes_5 : decode cX4_releaseNodes 5 = .ok (.invokevirtual 53, 3) := by decide +kernel
theorem dX4_releaseNodes_8 : decode cX4_releaseNodes 8 = .ok (.if_icmp .ge 14, 3) := by decide +kernel
theorem dX4_releaseNodes_11 : decode cX4_releaseNodes 11 = .ok (.aload_n 0, 1) := by decide +kernel
theorem dX4_releaseNodes_12 : decode cX4_releaseNodes 12 = .ok (.iload_n 1, 1) := by decide +kernel
theorem dX4_releaseNodes_13 : decode cX4_releaseNodes 13 = .ok (.invokevirtual 107, 3) := by decide +kernel
theorem dX4_releaseNodes_16 : decode cX4_releaseNodes 16 = .ok (.iinc 1 1, 3) := by decide +kernel
theorem dX4_releaseNodes_19 : decode cX4_releaseNodes 19 = .ok (.goto (-16), 3) := by decide +kernel
theorem dX4_releaseNodes_22 : decode cX4_releaseNodes 22 = .ok (.return_, 1) := by decide +kernel
theorem dX4_addBehind_0 : decode cX4_addBehind 0 = .ok (.aload_n 0, 1) := by decide +kernel
theorem dX4_addBehind_1 : decode cX4_addBehind 1 = .ok (.iload_n 1, 1) := by decide +kernel
theorem dX4_addBehind_2 : decode cX4_addBehind 2 = .ok (.aload_n 0, 1) := by decide +kernel
theorem dX4_addBehind_3 : decode cX4_addBehind 3 = .ok (.iload_n 1, 1) := by decide +kernel
theorem dX4_addBehind_4 : decode cX4_addBehind 4 = .ok (.iload_n 2, 1) := by decide +kernel
theorem dX4_addBehind_5 : decode cX4_addBehind 5 = .ok (.invokevirtual 110, 3) := by decide +kernel
theorem dX4_addBehind_8 : decode cX4_addBehind 8 = .ok (.iconst 1, 1) := by decide +kernel
theorem dX4_addBehind_9 : decode cX4_addBehind 9 = .ok (.iadd, 1) := by decide +kernel
theorem dX4_addBehind_10 : decode cX4_addBehind 10 = .ok (.iload_n 3, 1) := by decide +kernel
theorem dX4_addBehind_11 : decode cX4_addBehind 11 = .ok (.invokevirtual 113, 3) := by decide +kernel
theorem dX4_addBehind_14 : decode cX4_addBehind 14 = .ok (.return_, 1) := by decide +kernel
theorem dX4_addAt_0 : decode cX4_addAt 0 = .ok (.aload_n 0, 1) := by decide +kernel
theorem dX4_addAt_1 : decode cX4_addAt 1 = .ok (.iload_n 1, 1) := by decide +kernel
theorem dX4_addAt_2 : decode cX4_addAt 2 = .ok (.invokevirtual 85, 3) := by decide +kernel
theorem dX4_addAt_5 : decode cX4_addAt 5 = .ok (.istore 4, 2) := by decide +kernel
theorem dX4_addAt_7 : decode cX4_addAt 7 = .ok (.iload 4, 2) := by decide +kernel
theorem dX4_addAt_9 : decode cX4_addAt 9 = .ok (.bipush 6, 2) := by decide +kernel
theorem dX4_addAt_11 : decode cX4_addAt 11 = .ok (.if_icmp .ge 13, 3) := by decide +kernel
theorem dX4_addAt_14 : decode cX4_addAt 14 = .ok (.iload_n 2, 1) := by decide +kernel
theorem dX4_addAt_15 : decode cX4_addAt 15 = .ok (.ifCond .lt 9, 3) := by decide +kernel
theorem dX4_addAt_18 : decode cX4_addAt 18 = .ok (.iload_n 2, 1) := by decide +kernel
theorem dX4_addAt_19 : decode cX4_addAt 19 = .ok (.iload 4, 2) := by decide +kernel
theorem dX4_addAt_21 : decode cX4_addAt 21 = .ok (.if_icmp .le 4, 3) := by decide +kernel
theorem dX4_addAt_24 : decode cX4_addAt 24 = .ok (.return_, 1) := by decide +kernel
theorem dX4_addAt_25 : decode cX4_addAt 25 = .ok (.iload_n 1, 1) := by decide +kernel
theorem dX4_addAt_26 : decode cX4_addAt 26 = .ok (.bipush 6, 2) := by decide +kernel
theorem dX4_addAt_28 : decode cX4_addAt 28 = .ok (.imul, 1) := by decide +kernel
theorem dX4_addAt_29 : decode cX4_addAt 29 = .ok (.istore 5, 2) := by decide +kernel
theorem dX4_addAt_31 : decode cX4_addAt 31 = .ok (.iload 4, 2) := by decide +kernel
theorem dX4_addAt_33 : decode cX4_addAt 33 = .ok (.istore 6, 2) := by decide +kernel
theorem dX4_addAt_35 : decode cX4_addAt 35 = .ok (.iload 6, 2) := by decide +kernel
theorem dX4_addAt_37 : decode cX4_addAt 37 = .ok (.iload_n 2, 1) := by decide +kernel
theorem dX4_addAt_38 : decode cX4_addAt 38 = .ok (.if_icmp .le 35, 3) := by decide +kernel
theorem dX4_addAt_41 : decode cX4_addAt 41 = .ok (.aload_n 0, 1) := by decide +kernel
theorem dX4_addAt_42 : decode cX4_addAt 42 = .ok (.getfield 24, 3) := by decide +kernel
theorem dX4_addAt_45 : decode cX4_addAt 45 = .ok (.iload 5, 2) := by decide +kernel
theorem dX4_addAt_47 : decode cX4_addAt 47 = .ok (.iload 6, 2) := by decide +kernel
theorem dX4_addAt_49 : decode cX4_addAt 49 = .ok (.iadd, 1) := by decide +kernel
theorem dX4_addAt_50 : decode cX4_addAt 50 = .ok (.aload_n 0, 1) := by decide +kernel
theorem dX4_addAt_51 : decode cX4_addAt 51 = .ok (.getfield 24, 3) := by decide +kernel
theorem dX4_addAt_54 : decode cX4_addAt 54 = .ok (.iload 5, 2) := by decide +kernel
theorem dX4_addAt_56 : decode cX4_addAt 56 = .ok (.iload 6, 2) := by decide +kernel
theorem dX4_addAt_58 : decode cX4_addAt 58 = .ok (.iadd, 1) := by decide +kernel
theorem dX4_addAt_59 : decode cX4_addAt 59 = .ok (.iconst 1, 1) := by decide +kernel
theorem dX4_addAt_60 : decode cX4_addAt 60 = .ok (.isub, 1) := by decide +kernel
theorem dX4_addAt_61 : decode cX4_addAt 61 = .ok (.invokestatic 81, 3) := by decide +kernel
theorem dX4_addAt_64 : decode cX4_addAt 64 = .ok (.invokestatic 49, 3) := by decide +kernel
theorem dX4_addAt_67 : decode cX4_addAt 67 = .ok (.iinc 6 (-1), 3) := by decide +kernel
theorem dX4_addAt_70 : decode cX4_addAt 70 = .ok (.goto (-35), 3) := by decide +kernel
theorem dX4_addAt_73 : decode cX4_addAt 73 = .ok (.aload_n 0, 1) := by decide +kernel
theorem dX4_addAt_74 : decode cX4_addAt 74 = .ok (.getfield 24, 3) := by decide +kernel
theorem dX4_addAt_77 : decode cX4_addAt 77 = .ok (.iload 5, 2) := by decide +kernel
theorem dX4_addAt_79 : decode cX4_addAt 79 = .ok (.iload_n 2, 1) := by decide +kernel
theorem dX4_addAt_80 : decode cX4_addAt 80 = .ok (.iadd, 1) := by decide +kernel
theorem dX4_addAt_81 : decode cX4_addAt 81 = .ok (.iload_n 3, 1) := by decide +kernel
theorem dX4_addAt_82 : decode cX4_addAt 82 = .ok (.invokestatic 49, 3) := by decide +kernel
theorem dX4_addAt_85 : decode cX4_addAt 85 = .ok (.aload_n 0, 1) := by decide +kernel
theorem dX4_addAt_86 : decode cX4_addAt 86 = .ok (.getfield 18, 3) := by decide +kernel
theorem dX4_addAt_89 : decode cX4_addAt 89 = .ok (.iload_n 1, 1) := by decide +kernel
theorem dX4_addAt_90 : decode cX4_addAt 90 = .ok (.iload 4, 2) := by decide +kernel
theorem dX4_addAt_92 : decode cX4_addAt 92 = .ok (.iconst 1, 1) := by decide +kernel
theorem dX4_addAt_93 : decode cX4_addAt 93 = .ok (.iadd, 1) := by decide +kernel
theorem dX4_addAt_94 : decode cX4_addAt 94 = .ok (.invokestatic 49, 3) := by decide +kernel
theorem dX4_addAt_97 : decode cX4_addAt 97 = .ok (.aload_n 0, 1) := by decide +kernel
theorem dX4_addAt_98 : decode cX4_addAt 98 = .ok (.getfield 15, 3) := by decide +kernel
theorem dX4_addAt_101 : decode cX4_addAt 101 = .ok (.iload_n 3, 1) := by decide +kernel
theorem dX4_addAt_102 : decode cX4_addAt 102 = .ok (.iload_n 1, 1) := by decide +kernel
theorem dX4_addAt_103 : decode cX4_addAt 103 = .ok (.invokestatic 49, 3) := by decide +kernel
theorem dX4_addAt_106 : decode cX4_addAt 106 = .ok (.aload_n 0, 1) := by decide +kernel
theorem dX4_addAt_107 : decode cX4_addAt 107 = .ok (.iload_n 1, 1) := by decide +kernel
theorem dX4_addAt_108 : decode cX4_addAt 108 = .ok (.invokevirtual 117, 3) := by decide +kernel
theorem dX4_addAt_111 : decode cX4_addAt 111 = .ok (.return_, 1) := by decide +kernel
theorem dX4_placeOf_0 : decode cX4_placeOf 0 = .ok (.aload_n 0, 1) := by decide +kernel
theorem dX4_placeOf_1 : decode cX4_placeOf 1 = .ok (.iload_n 1, 1) := by decide +kernel
theorem dX4_placeOf_2 : decode cX4_placeOf 2 = .ok (.invokevirtual 85, 3) := by decide +kernel
theorem dX4_placeOf_5 : decode cX4_placeOf 5 = .ok (.istore_n 3, 1) := by decide +kernel
theorem dX4_placeOf_6 : decode cX4_placeOf 6 = .ok (.iconst 0, 1) := by decide +kernel
theorem dX4_placeOf_7 : decode cX4_placeOf 7 = .ok (.istore 4, 2) := by decide +kernel
theorem dX4_placeOf_9 : decode cX4_placeOf 9 = .ok (.iload 4, 2) := by decide +kernel
theorem dX4_placeOf_11 : decode cX4_placeOf 11 = .ok (.iload_n 3, 1) := by decide +kernel
theorem dX4_placeOf_12 : decode cX4_placeOf 12 = .ok (.if_icmp .ge 23, 3) := by decide +kernel
theorem dX4_placeOf_15 : decode cX4_placeOf 15 = .ok (.aload_n 0, 1) := by decide +kernel
theorem dX4_placeOf_16 : decode cX4_placeOf 16 = .ok (.iload_n 1, 1) := by decide +kernel
theorem dX4_placeOf_17 : decode cX4_placeOf 17 = .ok (.iload 4, 2) := by decide +kernel
theorem dX4_placeOf_19 : decode cX4_placeOf 19 = .ok (.invokevirtual 120, 3) := by decide +kernel
theorem dX4_placeOf_22 : decode cX4_placeOf 22 = .ok (.iload_n 2, 1) := by decide +kernel
theorem dX4_placeOf_23 : decode cX4_placeOf 23 = .ok (.if_icmp .ne 6, 3) := by decide +kernel
theorem dX4_placeOf_26 : decode cX4_placeOf 26 = .ok (.iload 4, 2) := by decide +kernel
theorem dX4_placeOf_28 : decode cX4_placeOf 28 = .ok (.ireturn, 1) := by decide +kernel
theorem dX4_placeOf_29 : decode cX4_placeOf 29 = .ok (.iinc 4 1, 3) := by decide +kernel
theorem dX4_placeOf_32 : decode cX4_placeOf 32 = .ok (.goto (-23), 3) := by decide +kernel
theorem dX4_placeOf_35 : decode cX4_placeOf 35 = .ok (.iconst (-1), 1) := by decide +kernel
theorem dX4_placeOf_36 : decode cX4_placeOf 36 = .ok (.ireturn, 1) := by decide +kernel
theorem dX4_takeOut_0 : decode cX4_takeOut 0 = .ok (.aload_n 0, 1) := by decide +kernel
theorem dX4_takeOut_1 : decode cX4_takeOut 1 = .ok (.iload_n 1, 1) := by decide +kernel
theorem dX4_takeOut_2 : decode cX4_takeOut 2 = .ok (.invokevirtual 123, 3) := by decide +kernel
theorem dX4_takeOut_5 : decode cX4_takeOut 5 = .ok (.istore_n 2, 1) := by decide +kernel
theorem dX4_takeOut_6 : decode cX4_takeOut 6 = .ok (.aload_n 0, 1) := by decide +kernel
theorem dX4_takeOut_7 : decode cX4_takeOut 7 = .ok (.iload_n 2, 1) := by decide +kernel
theorem dX4_takeOut_8 : decode cX4_takeOut 8 = .ok (.iload_n 1, 1) := by decide +kernel
theorem dX4_takeOut_9 : decode cX4_takeOut 9 = .ok (.invokevirtual 110, 3) := by decide +kernel
theorem dX4_takeOut_12 : decode cX4_takeOut 12 = .ok (.istore_n 3, 1) := by decide +kernel
theorem dX4_takeOut_13 : decode cX4_takeOut 13 = .ok (.iload_n 3, 1) := by decide +kernel
theorem dX4_takeOut_14 : decode cX4_takeOut 14 = .ok (.iconst (-1), 1) := by decide +kernel
theorem dX4_takeOut_15 : decode cX4_takeOut 15 = .ok (.if_icmp .ne 4, 3) := by decide +kernel
theorem dX4_takeOut_18 : decode cX4_takeOut 18 = .ok (.return_, 1) := by decide +kernel
theorem dX4_takeOut_19 : decode cX4_takeOut 19 = .ok (.iload_n 2, 1) := by decide +kernel
theorem dX4_takeOut_20 : decode cX4_takeOut 20 = .ok (.bipush 6, 2) := by decide +kernel
theorem dX4_takeOut_22 : decode cX4_takeOut 22 = .ok (.imul, 1) := by decide +kernel
theorem dX4_takeOut_23 : decode cX4_takeOut 23 = .ok (.istore 4, 2) := by decide +kernel
theorem dX4_takeOut_25 : decode cX4_takeOut 25 = .ok (.aload_n 0, 1) := by decide +kernel
theorem dX4_takeOut_26 : decode cX4_takeOut 26 = .ok (.iload_n 2, 1) := by decide +kernel
theorem dX4_takeOut_27 : decode cX4_takeOut 27 = .ok (.invokevirtual 85, 3) := by decide +kernel
theorem dX4_takeOut_30 : decode cX4_takeOut 30 = .ok (.iconst 1, 1) := by decide +kernel
theorem dX4_takeOut_31 : decode cX4_takeOut 31 = .ok (.isub, 1) := by decide +kernel
theorem dX4_takeOut_32 : decode cX4_takeOut 32 = .ok (.istore 5, 2) := by decide +kernel
theorem dX4_takeOut_34 : decode cX4_takeOut 34 = .ok (.iload_n 3, 1) := by decide +kernel
theorem dX4_takeOut_35 : decode cX4_takeOut 35 = .ok (.istore 6, 2) := by decide +kernel
theorem dX4_takeOut_37 : decode cX4_takeOut 37 = .ok (.iload 6, 2) := by decide +kernel
theorem dX4_takeOut_39 : decode cX4_takeOut 39 = .ok (.iload 5, 2) := by decide +kernel
theorem dX4_takeOut_41 : decode cX4_takeOut 41 = .ok (.if_icmp .ge 35, 3) := by decide +kernel
theorem dX4_takeOut_44 : decode cX4_takeOut 44 = .ok (.aload_n 0, 1) := by decide +kernel
theorem dX4_takeOut_45 : decode cX4_takeOut 45 = .ok (.getfield 24, 3) := by decide +kernel
theorem dX4_takeOut_48 : decode cX4_takeOut 48 = .ok (.iload 4, 2) := by decide +kernel
theorem dX4_takeOut_50 : decode cX4_takeOut 50 = .ok (.iload 6, 2) := by decide +kernel
theorem dX4_takeOut_52 : decode cX4_takeOut 52 = .ok (.iadd, 1) := by decide +kernel
theorem dX4_takeOut_53 : decode cX4_takeOut 53 = .ok (.aload_n 0, 1) := by decide +kernel
theorem dX4_takeOut_54 : decode cX4_takeOut 54 = .ok (.getfield 24, 3) := by decide +kernel
theorem dX4_takeOut_57 : decode cX4_takeOut 57 = .ok (.iload 4, 2) := by decide +kernel
theorem dX4_takeOut_59 : decode cX4_takeOut 59 = .ok (.iload 6, 2) := by decide +kernel
theorem dX4_takeOut_61 : decode cX4_takeOut 61 = .ok (.iadd, 1) := by decide +kernel
theorem dX4_takeOut_62 : decode cX4_takeOut 62 = .ok (.iconst 1, 1) := by decide +kernel
theorem dX4_takeOut_63 : decode cX4_takeOut 63 = .ok (.iadd, 1) := by decide +kernel
theorem dX4_takeOut_64 : decode cX4_takeOut 64 = .ok (.invokestatic 81, 3) := by decide +kernel
theorem dX4_takeOut_67 : decode cX4_takeOut 67 = .ok (.invokestatic 49, 3) := by decide +kernel
theorem dX4_takeOut_70 : decode cX4_takeOut 70 = .ok (.iinc 6 1, 3) := by decide +kernel
theorem dX4_takeOut_73 : decode cX4_takeOut 73 = .ok (.goto (-36), 3) := by decide +kernel
theorem dX4_takeOut_76 : decode cX4_takeOut 76 = .ok (.aload_n 0, 1) := by decide +kernel
theorem dX4_takeOut_77 : decode cX4_takeOut 77 = .ok (.getfield 18, 3) := by decide +kernel
theorem dX4_takeOut_80 : decode cX4_takeOut 80 = .ok (.iload_n 2, 1) := by decide +kernel
theorem dX4_takeOut_81 : decode cX4_takeOut 81 = .ok (.iload 5, 2) := by decide +kernel
theorem dX4_takeOut_83 : decode cX4_takeOut 83 = .ok (.invokestatic 49, 3) := by decide +kernel
theorem dX4_takeOut_86 : decode cX4_takeOut 86 = .ok (.aload_n 0, 1) := by decide +kernel
theorem dX4_takeOut_87 : decode cX4_takeOut 87 = .ok (.getfield 15, 3) := by decide +kernel
theorem dX4_takeOut_90 : decode cX4_takeOut 90 = .ok (.iload_n 1, 1) := by decide +kernel
theorem dX4_takeOut_91 : decode cX4_takeOut 91 = .ok (.iconst (-1), 1) := by decide +kernel
theorem dX4_takeOut_92 : decode cX4_takeOut 92 = .ok (.invokestatic 49, 3) := by decide +kernel
theorem dX4_takeOut_95 : decode cX4_takeOut 95 = .ok (.aload_n 0, 1) := by decide +kernel
theorem dX4_takeOut_96 : decode cX4_takeOut 96 = .ok (.iload_n 2, 1) := by decide +kernel
theorem dX4_takeOut_97 : decode cX4_takeOut 97 = .ok (.invokevirtual 117, 3) := by decide +kernel
theorem dX4_takeOut_100 : decode cX4_takeOut 100 = .ok (.return_, 1) := by decide +kernel
theorem dX4_refreshUp_0 : decode cX4_refreshUp 0 = .ok (.iload_n 1, 1) := by decide +kernel
theorem dX4_refreshUp_1 : decode cX4_refreshUp 1 = .ok (.istore_n 2, 1) := by decide +kernel
theorem dX4_refreshUp_2 : decode cX4_refreshUp 2 = .ok (.iconst 0, 1) := by decide +kernel
theorem dX4_refreshUp_3 : decode cX4_refreshUp 3 = .ok (.istore_n 3, 1) := by decide +kernel
theorem dX4_refreshUp_4 : decode cX4_refreshUp 4 = .ok (.aload_n 0, 1) := by decide +kernel
theorem dX4_refreshUp_5 : decode cX4_refreshUp 5 = .ok (.iload_n 2, 1) := by decide +kernel
theorem dX4_refreshUp_6 : decode cX4_refreshUp 6 = .ok (.invokevirtual 126, 3) := by decide +kernel
theorem dX4_refreshUp_9 : decode cX4_refreshUp 9 = .ok (.ifCond .eq 146, 3) := by decide +kernel
theorem dX4_refreshUp_12 : decode cX4_refreshUp 12 = .ok (.iload_n 3, 1) := by decide +kernel
theorem dX4_refreshUp_13 : decode cX4_refreshUp 13 = .ok (.ldc 129, 2) := by decide +kernel
theorem dX4_refreshUp_15 : decode cX4_refreshUp 15 = .ok (.if_icmp .ge 140, 3) := by decide +kernel
theorem dX4_refreshUp_18 : decode cX4_refreshUp 18 = .ok (.bipush 99, 2) := by decide +kernel
theorem dX4_refreshUp_20 : decode cX4_refreshUp 20 = .ok (.istore 4, 2) := by decide +kernel
theorem dX4_refreshUp_22 : decode cX4_refreshUp 22 = .ok (.bipush 99, 2) := by decide +kernel
theorem dX4_refreshUp_24 : decode cX4_refreshUp 24 = .ok (.istore 5, 2) := by decide +kernel
theorem dX4_refreshUp_26 : decode cX4_refreshUp 26 = .ok (.iconst 0, 1) := by decide +kernel
theorem dX4_refreshUp_27 : decode cX4_refreshUp 27 = .ok (.istore 6, 2) := by decide +kernel
theorem dX4_refreshUp_29 : decode cX4_refreshUp 29 = .ok (.iconst 0, 1) := by decide +kernel
theorem dX4_refreshUp_30 : decode cX4_refreshUp 30 = .ok (.istore 7, 2) := by decide +kernel
theorem dX4_refreshUp_32 : decode cX4_refreshUp 32 = .ok (.aload_n 0, 1) := by decide +kernel
theorem dX4_refreshUp_33 : decode cX4_refreshUp 33 = .ok (.iload_n 2, 1) := by decide +kernel
theorem dX4_refreshUp_34 : decode cX4_refreshUp 34 = .ok (.invokevirtual 85, 3) := by decide +kernel
theorem dX4_refreshUp_37 : decode cX4_refreshUp 37 = .ok (.istore 8, 2) := by decide +kernel
theorem dX4_refreshUp_39 : decode cX4_refreshUp 39 = .ok (.iconst 0, 1) := by decide +kernel
theorem dX4_refreshUp_40 : decode cX4_refreshUp 40 = .ok (.istore 9, 2) := by decide +kernel
theorem dX4_refreshUp_42 : decode cX4_refreshUp 42 = .ok (.iload 9, 2) := by decide +kernel
theorem dX4_refreshUp_44 : decode cX4_refreshUp 44 = .ok (.iload 8, 2) := by decide +kernel
theorem dX4_refreshUp_46 : decode cX4_refreshUp 46 = .ok (.if_icmp .ge 81, 3) := by decide +kernel
theorem dX4_refreshUp_49 : decode cX4_refreshUp 49 = .ok (.aload_n 0, 1) := by decide +kernel
theorem dX4_refreshUp_50 : decode cX4_refreshUp 50 = .ok (.getfield 24, 3) := by decide +kernel
theorem dX4_refreshUp_53 : decode cX4_refreshUp 53 = .ok (.iload_n 2, 1) := by decide +kernel
theorem dX4_refreshUp_54 : decode cX4_refreshUp 54 = .ok (.bipush 6, 2) := by decide +kernel
theorem dX4_refreshUp_56 : decode cX4_refreshUp 56 = .ok (.imul, 1) := by decide +kernel
theorem dX4_refreshUp_57 : decode cX4_refreshUp 57 = .ok (.iload 9, 2) := by decide +kernel
theorem dX4_refreshUp_59 : decode cX4_refreshUp 59 = .ok (.iadd, 1) := by decide +kernel
theorem dX4_refreshUp_60 : decode cX4_refreshUp 60 = .ok (.invokestatic 81, 3) := by decide +kernel
theorem dX4_refreshUp_63 : decode cX4_refreshUp 63 = .ok (.istore 10, 2) := by decide +kernel
theorem dX4_refreshUp_65 : decode cX4_refreshUp 65 = .ok (.iload 4, 2) := by decide +kernel
theorem dX4_refreshUp_67 : decode cX4_refreshUp 67 = .ok (.aload_n 0, 1) := by decide +kernel
theorem dX4_refreshUp_68 : decode cX4_refreshUp 68 = .ok (.iload 10, 2) := by decide +kernel
theorem dX4_refreshUp_70 : decode cX4_refreshUp 70 = .ok (.iconst 0, 1) := by decide +kernel
theorem dX4_refreshUp_71 : decode cX4_refreshUp 71 = .ok (.invokevirtual 130, 3) := by decide +kernel
theorem dX4_refreshUp_74 : decode cX4_refreshUp 74 = .ok (.invokestatic 65, 3) := by decide +kernel
theorem dX4_refreshUp_77 : decode cX4_refreshUp 77 = .ok (.istore 4, 2) := by decide +kernel
theorem dX4_refreshUp_79 : decode cX4_refreshUp 79 = .ok (.iload 5, 2) := by decide +kernel
theorem dX4_refreshUp_81 : decode cX4_refreshUp 81 = .ok (.aload_n 0, 1) := by decide +kernel
theorem dX4_refreshUp_82 : decode cX4_refreshUp 82 = .ok (.iload 10, 2) := by decide +kernel
theorem dX4_refreshUp_84 : decode cX4_refreshUp 84 = .ok (.iconst 1, 1) := by decide +kernel
theorem dX4_refreshUp_85 : decode cX4_refreshUp 85 = .ok (.invokevirtual 130, 3) := by decide +kernel
theorem dX4_refreshUp_88 : decode cX4_refreshUp 88 = .ok (.invokestatic 65, 3) := by decide +kernel
theorem dX4_refreshUp_91 : decode cX4_refreshUp 91 = .ok (.istore 5, 2) := by decide +kernel
theorem dX4_refreshUp_93 : decode cX4_refreshUp 93 = .ok (.iload 6, 2) := by decide +kernel
theorem dX4_refreshUp_95 : decode cX4_refreshUp 95 = .ok (.aload_n 0, 1) := by decide +kernel
theorem dX4_refreshUp_96 : decode cX4_refreshUp 96 = .ok (.iload 10, 2) := by decide +kernel
theorem dX4_refreshUp_98 : decode cX4_refreshUp 98 = .ok (.iconst 2, 1) := by decide +kernel
theorem dX4_refreshUp_99 : decode cX4_refreshUp 99 = .ok (.invokevirtual 130, 3) := by decide +kernel
theorem dX4_refreshUp_102 : decode cX4_refreshUp 102 = .ok (.invokestatic 133, 3) := by decide +kernel
theorem dX4_refreshUp_105 : decode cX4_refreshUp 105 = .ok (.istore 6, 2) := by decide +kernel
theorem dX4_refreshUp_107 : decode cX4_refreshUp 107 = .ok (.iload 7, 2) := by decide +kernel
theorem dX4_refreshUp_109 : decode cX4_refreshUp 109 = .ok (.aload_n 0, 1) := by decide +kernel
theorem dX4_refreshUp_110 : decode cX4_refreshUp 110 = .ok (.iload 10, 2) := by decide +kernel
theorem dX4_refreshUp_112 : decode cX4_refreshUp 112 = .ok (.iconst 3, 1) := by decide +kernel
theorem dX4_refreshUp_113 : decode cX4_refreshUp 113 = .ok (.invokevirtual 130, 3) := by decide +kernel
theorem dX4_refreshUp_116 : decode cX4_refreshUp 116 = .ok (.invokestatic 133, 3) := by decide +kernel
theorem dX4_refreshUp_119 : decode cX4_refreshUp 119 = .ok (.istore 7, 2) := by decide +kernel
theorem dX4_refreshUp_121 : decode cX4_refreshUp 121 = .ok (.iinc 9 1, 3) := by decide +kernel
theorem dX4_refreshUp_124 : decode cX4_refreshUp 124 = .ok (.goto (-82), 3) := by decide +kernel
theorem dX4_refreshUp_127 : decode cX4_refreshUp 127 = .ok (.aload_n 0, 1) := by decide +kernel
theorem dX4_refreshUp_128 : decode cX4_refreshUp 128 = .ok (.iload_n 2, 1) := by decide +kernel
theorem dX4_refreshUp_129 : decode cX4_refreshUp 129 = .ok (.iload 4, 2) := by decide +kernel
theorem dX4_refreshUp_131 : decode cX4_refreshUp 131 = .ok (.iload 5, 2) := by decide +kernel
theorem dX4_refreshUp_133 : decode cX4_refreshUp 133 = .ok (.iload 6, 2) := by decide +kernel
theorem dX4_refreshUp_135 : decode cX4_refreshUp 135 = .ok (.iload 7, 2) := by decide +kernel
theorem dX4_refreshUp_137 : decode cX4_refreshUp 137 = .ok (.invokevirtual 103, 3) := by decide +kernel
theorem dX4_refreshUp_140 : decode cX4_refreshUp 140 = .ok (.aload_n 0, 1) := by decide +kernel
theorem dX4_refreshUp_141 : decode cX4_refreshUp 141 = .ok (.getfield 15, 3) := by decide +kernel
theorem dX4_refreshUp_144 : decode cX4_refreshUp 144 = .ok (.iload_n 2, 1) := by decide +kernel
theorem dX4_refreshUp_145 : decode cX4_refreshUp 145 = .ok (.invokestatic 81, 3) := by decide +kernel
theorem dX4_refreshUp_148 : decode cX4_refreshUp 148 = .ok (.istore_n 2, 1) := by decide +kernel
theorem dX4_refreshUp_149 : decode cX4_refreshUp 149 = .ok (.iinc 3 1, 3) := by decide +kernel
theorem dX4_refreshUp_152 : decode cX4_refreshUp 152 = .ok (.goto (-148), 3) := by decide +kernel
theorem dX4_refreshUp_155 : decode cX4_refreshUp 155 = .ok (.return_, 1) := by decide +kernel
theorem dX4_setCorners_0 : decode cX4_setCorners 0 = .ok (.iload_n 1, 1) := by decide +kernel
theorem dX4_setCorners_1 : decode cX4_setCorners 1 = .ok (.iconst 4, 1) := by decide +kernel
theorem dX4_setCorners_2 : decode cX4_setCorners 2 = .ok (.imul, 1) := by decide +kernel
theorem dX4_setCorners_3 : decode cX4_setCorners 3 = .ok (.istore 6, 2) := by decide +kernel
theorem dX4_setCorners_5 : decode cX4_setCorners 5 = .ok (.iload 6, 2) := by decide +kernel
theorem dX4_setCorners_7 : decode cX4_setCorners 7 = .ok (.ifCond .lt 55, 3) := by decide +kernel
theorem dX4_setCorners_10 : decode cX4_setCorners 10 = .ok (.iload 6, 2) := by decide +kernel
theorem dX4_setCorners_12 : decode cX4_setCorners 12 = .ok (.aload_n 0, 1) := by decide +kernel
theorem dX4_setCorners_13 : decode cX4_setCorners 13 = .ok (.getfield 21, 3) := by decide +kernel
theorem dX4_setCorners_16 : decode cX4_setCorners 16 = .ok (.arraylength, 1) := by decide +kernel
theorem dX4_setCorners_17 : decode cX4_setCorners 17 = .ok (.iconst 4, 1) := by decide +kernel
theorem dX4_setCorners_18 : decode cX4_setCorners 18 = .ok (.isub, 1) := by decide +kernel
theorem dX4_setCorners_19 : decode cX4_setCorners 19 = .ok (.if_icmp .gt 43, 3) := by decide +kernel
theorem dX4_setCorners_22 : decode cX4_setCorners 22 = .ok (.aload_n 0, 1) := by decide +kernel
theorem dX4_setCorners_23 : decode cX4_setCorners 23 = .ok (.getfield 21, 3) := by decide +kernel
theorem dX4_setCorners_26 : decode cX4_setCorners 26 = .ok (.iload 6, 2) := by decide +kernel
theorem dX4_setCorners_28 : decode cX4_setCorners 28 = .ok (.iload_n 2, 1) := by decide +kernel
theorem dX4_setCorners_29 : decode cX4_setCorners 29 = .ok (.iastore, 1) := by decide +kernel
theorem dX4_setCorners_30 : decode cX4_setCorners 30 = .ok (.aload_n 0, 1) := by decide +kernel
theorem dX4_setCorners_31 : decode cX4_setCorners 31 = .ok (.getfield 21, 3) := by decide +kernel
theorem dX4_setCorners_34 : decode cX4_setCorners 34 = .ok (.iload 6, 2) := by decide +kernel
theorem dX4_setCorners_36 : decode cX4_setCorners 36 = .ok (.iconst 1, 1) := by decide +kernel
theorem dX4_setCorners_37 : decode cX4_setCorners 37 = .ok (.iadd, 1) := by decide +kernel
theorem dX4_setCorners_38 : decode cX4_setCorners 38 = .ok (.iload_n 3, 1) := by decide +kernel
theorem dX4_setCorners_39 : decode cX4_setCorners 39 = .ok (.iastore, 1) := by decide +kernel
theorem dX4_setCorners_40 : decode cX4_setCorners 40 = .ok (.aload_n 0, 1) := by decide +kernel
theorem dX4_setCorners_41 : decode cX4_setCorners 41 = .ok (.getfield 21, 3) := by decide +kernel
theorem dX4_setCorners_44 : decode cX4_setCorners 44 = .ok (.iload 6, 2) := by decide +kernel
theorem dX4_setCorners_46 : decode cX4_setCorners 46 = .ok (.iconst 2, 1) := by decide +kernel
theorem dX4_setCorners_47 : decode cX4_setCorners 47 = .ok (.iadd, 1) := by decide +kernel
theorem dX4_setCorners_48 : decode cX4_setCorners 48 = .ok (.iload 4, 2) := by decide +kernel
theorem dX4_setCorners_50 : decode cX4_setCorners 50 = .ok (.iastore, 1) := by decide +kernel
theorem dX4_setCorners_51 : decode cX4_setCorners 51 = .ok (.aload_n 0, 1) := by decide +kernel
theorem dX4_setCorners_52 : decode cX4_setCorners 52 = .ok (.getfield 21, 3) := by decide +kernel
theorem dX4_setCorners_55 : decode cX4_setCorners 55 = .ok (.iload 6, 2) := by decide +kernel
theorem dX4_setCorners_57 : decode cX4_setCorners 57 = .ok (.iconst 3, 1) := by decide +kernel
theorem dX4_setCorners_58 : decode cX4_setCorners 58 = .ok (.iadd, 1) := by decide +kernel
theorem dX4_setCorners_59 : decode cX4_setCorners 59 = .ok (.iload 5, 2) := by decide +kernel
theorem dX4_setCorners_61 : decode cX4_setCorners 61 = .ok (.iastore, 1) := by decide +kernel
theorem dX4_setCorners_62 : decode cX4_setCorners 62 = .ok (.return_, 1) := by decide +kernel
theorem dX4_raiseRoot_0 : decode cX4_raiseRoot 0 = .ok (.aload_n 0, 1) := by decide +kernel
theorem dX4_raiseRoot_1 : decode cX4_raiseRoot 1 = .ok (.getfield 27, 3) := by decide +kernel
theorem dX4_raiseRoot_4 : decode cX4_raiseRoot 4 = .ok (.istore_n 1, 1) := by decide +kernel
theorem dX4_raiseRoot_5 : decode cX4_raiseRoot 5 = .ok (.aload_n 0, 1) := by decide +kernel
theorem dX4_raiseRoot_6 : decode cX4_raiseRoot 6 = .ok (.aload_n 0, 1) := by decide +kernel
theorem dX4_raiseRoot_7 : decode cX4_raiseRoot 7 = .ok (.iload_n 1, 1) := by decide +kernel
theorem dX4_raiseRoot_8 : decode cX4_raiseRoot 8 = .ok (.invokevirtual 89, 3) := by decide +kernel
theorem dX4_raiseRoot_11 : decode cX4_raiseRoot 11 = .ok (.iconst 1, 1) := by decide +kernel
theorem dX4_raiseRoot_12 : decode cX4_raiseRoot 12 = .ok (.iadd, 1) := by decide +kernel
theorem dX4_raiseRoot_13 : decode cX4_raiseRoot 13 = .ok (.invokevirtual 136, 3) := by decide +kernel
theorem dX4_raiseRoot_16 : decode cX4_raiseRoot 16 = .ok (.istore_n 2, 1) := by decide +kernel
theorem dX4_raiseRoot_17 : decode cX4_raiseRoot 17 = .ok (.iload_n 2, 1) := by decide +kernel
theorem dX4_raiseRoot_18 : decode cX4_raiseRoot 18 = .ok (.iconst (-1), 1) := by decide +kernel
theorem dX4_raiseRoot_19 : decode cX4_raiseRoot 19 = .ok (.if_icmp .eq 15, 3) := by decide +kernel
theorem dX4_raiseRoot_22 : decode cX4_raiseRoot 22 = .ok (.aload_n 0, 1) := by decide +kernel
theorem dX4_raiseRoot_23 : decode cX4_raiseRoot 23 = .ok (.iload_n 2, 1) := by decide +kernel
theorem dX4_raiseRoot_24 : decode cX4_raiseRoot 24 = .ok (.putfield 27, 3) := by decide +kernel
theorem dX4_raiseRoot_27 : decode cX4_raiseRoot 27 = .ok (.aload_n 0, 1) := by decide +kernel
theorem dX4_raiseRoot_28 : decode cX4_raiseRoot 28 = .ok (.iload_n 2, 1) := by decide +kernel
theorem dX4_raiseRoot_29 : decode cX4_raiseRoot 29 = .ok (.iconst 0, 1) := by decide +kernel
theorem dX4_raiseRoot_30 : decode cX4_raiseRoot 30 = .ok (.iload_n 1, 1) := by decide +kernel
theorem dX4_raiseRoot_31 : decode cX4_raiseRoot 31 = .ok (.invokevirtual 113, 3) := by decide +kernel
theorem dX4_raiseRoot_34 : decode cX4_raiseRoot 34 = .ok (.iload_n 2, 1) := by decide +kernel
theorem dX4_raiseRoot_35 : decode cX4_raiseRoot 35 = .ok (.ireturn, 1) := by decide +kernel
theorem dX4_lowerRoot_0 : decode cX4_lowerRoot 0 = .ok (.iconst 0, 1) := by decide +kernel
theorem dX4_lowerRoot_1 : decode cX4_lowerRoot 1 = .ok (.istore_n 1, 1) := by decide +kernel
theorem dX4_lowerRoot_2 : decode cX4_lowerRoot 2 = .ok (.aload_n 0, 1) := by decide +kernel
theorem dX4_lowerRoot_3 : decode cX4_lowerRoot 3 = .ok (.aload_n 0, 1) := by decide +kernel
theorem dX4_lowerRoot_4 : decode cX4_lowerRoot 4 = .ok (.getfield 27, 3) := by decide +kernel
theorem dX4_lowerRoot_7 : decode cX4_lowerRoot 7 = .ok (.invokevirtual 89, 3) := by decide +kernel
theorem dX4_lowerRoot_10 : decode cX4_lowerRoot 10 = .ok (.ifCond .le 55, 3) := by decide +kernel
theorem dX4_lowerRoot_13 : decode cX4_lowerRoot 13 = .ok (.aload_n 0, 1) := by decide +kernel
theorem dX4_lowerRoot_14 : decode cX4_lowerRoot 14 = .ok (.aload_n 0, 1) := by decide +kernel
theorem dX4_lowerRoot_15 : decode cX4_lowerRoot 15 = .ok (.getfield 27, 3) := by decide +kernel
theorem dX4_lowerRoot_18 : decode cX4_lowerRoot 18 = .ok (.invokevirtual 85, 3) := by decide +kernel
theorem dX4_lowerRoot_21 : decode cX4_lowerRoot 21 = .ok (.iconst 1, 1) := by decide +kernel
theorem dX4_lowerRoot_22 : decode cX4_lowerRoot 22 = .ok (.if_icmp .ne 43, 3) := by decide +kernel
theorem dX4_lowerRoot_25 : decode cX4_lowerRoot 25 = .ok (.iload_n 1, 1) := by decide +kernel
theorem dX4_lowerRoot_26 : decode cX4_lowerRoot 26 = .ok (.ldc 129, 2) := by decide +kernel
theorem dX4_lowerRoot_28 : decode cX4_lowerRoot 28 = .ok (.if_icmp .ge 37, 3) := by decide +kernel
theorem dX4_lowerRoot_31 : decode cX4_lowerRoot 31 = .ok (.aload_n 0, 1) := by decide +kernel
theorem dX4_lowerRoot_32 : decode cX4_lowerRoot 32 = .ok (.aload_n 0, 1) := by decide +kernel
theorem dX4_lowerRoot_33 : decode cX4_lowerRoot 33 = .ok (.getfield 27, 3) := by decide +kernel
theorem dX4_lowerRoot_36 : decode cX4_lowerRoot 36 = .ok (.iconst 0, 1) := by decide +kernel
theorem dX4_lowerRoot_37 : decode cX4_lowerRoot 37 = .ok (.invokevirtual 120, 3) := by decide +kernel
theorem dX4_lowerRoot_40 : decode cX4_lowerRoot 40 = .ok (.istore_n 2, 1) := by decide +kernel
theorem dX4_lowerRoot_41 : decode cX4_lowerRoot 41 = .ok (.aload_n 0, 1) := by decide +kernel
theorem dX4_lowerRoot_42 : decode cX4_lowerRoot 42 = .ok (.aload_n 0, 1) := by decide +kernel
theorem dX4_lowerRoot_43 : decode cX4_lowerRoot 43 = .ok (.getfield 27, 3) := by decide +kernel
theorem dX4_lowerRoot_46 : decode cX4_lowerRoot 46 = .ok (.invokevirtual 107, 3) := by decide +kernel
theorem dX4_lowerRoot_49 : decode cX4_lowerRoot 49 = .ok (.aload_n 0, 1) := by decide +kernel
theorem dX4_lowerRoot_50 : decode cX4_lowerRoot 50 = .ok (.iload_n 2, 1) := by decide +kernel
theorem dX4_lowerRoot_51 : decode cX4_lowerRoot 51 = .ok (.invokevirtual 139, 3) := by decide +kernel
theorem dX4_lowerRoot_54 : decode cX4_lowerRoot 54 = .ok (.aload_n 0, 1) := by decide +kernel
theorem dX4_lowerRoot_55 : decode cX4_lowerRoot 55 = .ok (.iload_n 2, 1) := by decide +kernel
theorem dX4_lowerRoot_56 : decode cX4_lowerRoot 56 = .ok (.putfield 27, 3) := by decide +kernel
theorem dX4_lowerRoot_59 : decode cX4_lowerRoot 59 = .ok (.iinc 1 1, 3) := by decide +kernel
theorem dX4_lowerRoot_62 : decode cX4_lowerRoot 62 = .ok (.goto (-60), 3) := by decide +kernel
theorem dX4_lowerRoot_65 : decode cX4_lowerRoot 65 = .ok (.aload_n 0, 1) := by decide +kernel
theorem dX4_lowerRoot_66 : decode cX4_lowerRoot 66 = .ok (.aload_n 0, 1) := by decide +kernel
theorem dX4_lowerRoot_67 : decode cX4_lowerRoot 67 = .ok (.getfield 27, 3) := by decide +kernel
theorem dX4_lowerRoot_70 : decode cX4_lowerRoot 70 = .ok (.invokevirtual 89, 3) := by decide +kernel
theorem dX4_lowerRoot_73 : decode cX4_lowerRoot 73 = .ok (.ifCond .le 26, 3) := by decide +kernel
theorem dX4_lowerRoot_76 : decode cX4_lowerRoot 76 = .ok (.aload_n 0, 1) := by decide +kernel
theorem dX4_lowerRoot_77 : decode cX4_lowerRoot 77 = .ok (.aload_n 0, 1) := by decide +kernel
theorem dX4_lowerRoot_78 : decode cX4_lowerRoot 78 = .ok (.getfield 27, 3) := by decide +kernel
theorem dX4_lowerRoot_81 : decode cX4_lowerRoot 81 = .ok (.invokevirtual 85, 3) := by decide +kernel
theorem dX4_lowerRoot_84 : decode cX4_lowerRoot 84 = .ok (.ifCond .ne 15, 3) := by decide +kernel
theorem dX4_lowerRoot_87 : decode cX4_lowerRoot 87 = .ok (.aload_n 0, 1) := by decide +kernel
theorem dX4_lowerRoot_88 : decode cX4_lowerRoot 88 = .ok (.getfield 9, 3) := by decide +kernel
theorem dX4_lowerRoot_91 : decode cX4_lowerRoot 91 = .ok (.aload_n 0, 1) := by decide +kernel
theorem dX4_lowerRoot_92 : decode cX4_lowerRoot 92 = .ok (.getfield 27, 3) := by decide +kernel
theorem dX4_lowerRoot_95 : decode cX4_lowerRoot 95 = .ok (.iconst 0, 1) := by decide +kernel
theorem dX4_lowerRoot_96 : decode cX4_lowerRoot 96 = .ok (.invokestatic 49, 3) := by decide +kernel
theorem dX4_lowerRoot_99 : decode cX4_lowerRoot 99 = .ok (.return_, 1) := by decide +kernel
theorem dX4_areaOf_0 : decode cX4_areaOf 0 = .ok (.aload_n 0, 1) := by decide +kernel
theorem dX4_areaOf_1 : decode cX4_areaOf 1 = .ok (.iload_n 1, 1) := by decide +kernel
theorem dX4_areaOf_2 : decode cX4_areaOf 2 = .ok (.iconst 2, 1) := by decide +kernel
theorem dX4_areaOf_3 : decode cX4_areaOf 3 = .ok (.invokevirtual 130, 3) := by decide +kernel
theorem dX4_areaOf_6 : decode cX4_areaOf 6 = .ok (.aload_n 0, 1) := by decide +kernel
theorem dX4_areaOf_7 : decode cX4_areaOf 7 = .ok (.iload_n 1, 1) := by decide +kernel
theorem dX4_areaOf_8 : decode cX4_areaOf 8 = .ok (.iconst 0, 1) := by decide +kernel
theorem dX4_areaOf_9 : decode cX4_areaOf 9 = .ok (.invokevirtual 130, 3) := by decide +kernel
theorem dX4_areaOf_12 : decode cX4_areaOf 12 = .ok (.isub, 1) := by decide +kernel
theorem dX4_areaOf_13 : decode cX4_areaOf 13 = .ok (.iconst 1, 1) := by decide +kernel
theorem dX4_areaOf_14 : decode cX4_areaOf 14 = .ok (.iadd, 1) := by decide +kernel
theorem dX4_areaOf_15 : decode cX4_areaOf 15 = .ok (.aload_n 0, 1) := by decide +kernel
theorem dX4_areaOf_16 : decode cX4_areaOf 16 = .ok (.iload_n 1, 1) := by decide +kernel
theorem dX4_areaOf_17 : decode cX4_areaOf 17 = .ok (.iconst 3, 1) := by decide +kernel
theorem dX4_areaOf_18 : decode cX4_areaOf 18 = .ok (.invokevirtual 130, 3) := by decide +kernel
theorem dX4_areaOf_21 : decode cX4_areaOf 21 = .ok (.aload_n 0, 1) := by decide +kernel
theorem dX4_areaOf_22 : decode cX4_areaOf 22 = .ok (.iload_n 1, 1) := by decide +kernel
theorem dX4_areaOf_23 : decode cX4_areaOf 23 = .ok (.iconst 1, 1) := by decide +kernel
theorem dX4_areaOf_24 : decode cX4_areaOf 24 = .ok (.invokevirtual 130, 3) := by decide +kernel
theorem dX4_areaOf_27 : decode cX4_areaOf 27 = .ok (.isub, 1) := by decide +kernel
theorem dX4_areaOf_28 : decode cX4_areaOf 28 = .ok (.iconst 1, 1) := by decide +kernel
theorem dX4_areaOf_29 : decode cX4_areaOf 29 = .ok (.iadd, 1) := by decide +kernel
theorem dX4_areaOf_30 : decode cX4_areaOf 30 = .ok (.imul, 1) := by decide +kernel
theorem dX4_areaOf_31 : decode cX4_areaOf 31 = .ok (.ireturn, 1) := by decide +kernel
theorem dX4_unionArea_0 : decode cX4_unionArea 0 = .ok (.aload_n 0, 1) := by decide +kernel
theorem dX4_unionArea_1 : decode cX4_unionArea 1 = .ok (.iload_n 1, 1) := by decide +kernel
theorem dX4_unionArea_2 : decode cX4_unionArea 2 = .ok (.iconst 2, 1) := by decide +kernel
theorem dX4_unionArea_3 : decode cX4_unionArea 3 = .ok (.invokevirtual 130, 3) := by decide +kernel
theorem dX4_unionArea_6 : decode cX4_unionArea 6 = .ok (.aload_n 0, 1) := by decide +kernel
theorem dX4_unionArea_7 : decode cX4_unionArea 7 = .ok (.iload_n 2, 1) := by decide +kernel
theorem dX4_unionArea_8 : decode cX4_unionArea 8 = .ok (.iconst 2, 1) := by decide +kernel
theorem dX4_unionArea_9 : decode cX4_unionArea 9 = .ok (.invokevirtual 130, 3) := by decide +kernel
theorem dX4_unionArea_12 : decode cX4_unionArea 12 = .ok (.invokestatic 133, 3) := by decide +kernel
theorem dX4_unionArea_15 : decode cX4_unionArea 15 = .ok (.aload_n 0, 1) := by decide +kernel
theorem dX4_unionArea_16 : decode cX4_unionArea 16 = .ok (.iload_n 1, 1) := by decide +kernel
theorem dX4_unionArea_17 : decode cX4_unionArea 17 = .ok (.iconst 0, 1) := by decide +kernel
theorem dX4_unionArea_18 : decode cX4_unionArea 18 = .ok (.invokevirtual 130, 3) := by decide +kernel
theorem dX4_unionArea_21 : decode cX4_unionArea 21 = .ok (.aload_n 0, 1) := by decide +kernel
theorem dX4_unionArea_22 : decode cX4_unionArea 22 = .ok (.iload_n 2, 1) := by decide +kernel
theorem dX4_unionArea_23 : decode cX4_unionArea 23 = .ok (.iconst 0, 1) := by decide +kernel
theorem dX4_unionArea_24 : decode cX4_unionArea 24 = .ok (.invokevirtual 130, 3) := by decide +kernel
theorem dX4_unionArea_27 : decode cX4_unionArea 27 = .ok (.invokestatic 65, 3) := by decide +kernel
theorem dX4_unionArea_30 : decode cX4_unionArea 30 = .ok (.isub, 1) := by decide +kernel
theorem dX4_unionArea_31 : decode cX4_unionArea 31 = .ok (.iconst 1, 1) := by decide +kernel
theorem dX4_unionArea_32 : decode cX4_unionArea 32 = .ok (.iadd, 1) := by decide +kernel
theorem dX4_unionArea_33 : decode cX4_unionArea 33 = .ok (.istore_n 3, 1) := by decide +kernel
theorem dX4_unionArea_34 : decode cX4_unionArea 34 = .ok (.aload_n 0, 1) := by decide +kernel
theorem dX4_unionArea_35 : decode cX4_unionArea 35 = .ok (.iload_n 1, 1) := by decide +kernel
theorem dX4_unionArea_36 : decode cX4_unionArea 36 = .ok (.iconst 3, 1) := by decide +kernel
theorem dX4_unionArea_37 : decode cX4_unionArea 37 = .ok (.invokevirtual 130, 3) := by decide +kernel
theorem dX4_unionArea_40 : decode cX4_unionArea 40 = .ok (.aload_n 0, 1) := by decide +kernel
theorem dX4_unionArea_41 : decode cX4_unionArea 41 = .ok (.iload_n 2, 1) := by decide +kernel
theorem dX4_unionArea_42 : decode cX4_unionArea 42 = .ok (.iconst 3, 1) := by decide +kernel
theorem dX4_unionArea_43 : decode cX4_unionArea 43 = .ok (.invokevirtual 130, 3) := by decide +kernel
theorem dX4_unionArea_46 : decode cX4_unionArea 46 = .ok (.invokestatic 133, 3) := by decide +kernel
theorem dX4_unionArea_49 : decode cX4_unionArea 49 = .ok (.aload_n 0, 1) := by decide +kernel
theorem dX4_unionArea_50 : decode cX4_unionArea 50 = .ok (.iload_n 1, 1) := by decide +kernel
theorem dX4_unionArea_51 : decode cX4_unionArea 51 = .ok (.iconst 1, 1) := by decide +kernel
theorem dX4_unionArea_52 : decode cX4_unionArea 52 = .ok (.invokevirtual 130, 3) := by decide +kernel
theorem dX4_unionArea_55 : decode cX4_unionArea 55 = .ok (.aload_n 0, 1) := by decide +kernel
theorem dX4_unionArea_56 : decode cX4_unionArea 56 = .ok (.iload_n 2, 1) := by decide +kernel
theorem dX4_unionArea_57 : decode cX4_unionArea 57 = .ok (.iconst 1, 1) := by decide +kernel
theorem dX4_unionArea_58 : decode cX4_unionArea 58 = .ok (.invokevirtual 130, 3) := by decide +kernel
theorem dX4_unionArea_61 : decode cX4_unionArea 61 = .ok (.invokestatic 65, 3) := by decide +kernel
theorem dX4_unionArea_64 : decode cX4_unionArea 64 = .ok (.isub, 1) := by decide +kernel
theorem dX4_unionArea_65 : decode cX4_unionArea 65 = .ok (.iconst 1, 1) := by decide +kernel
theorem dX4_unionArea_66 : decode cX4_unionArea 66 = .ok (.iadd, 1) := by decide +kernel
theorem dX4_unionArea_67 : decode cX4_unionArea 67 = .ok (.istore 4, 2) := by decide +kernel
theorem dX4_unionArea_69 : decode cX4_unionArea 69 = .ok (.iload_n 3, 1) := by decide +kernel
theorem dX4_unionArea_70 : decode cX4_unionArea 70 = .ok (.iload 4, 2) := by decide +kernel
theorem dX4_unionArea_72 : decode cX4_unionArea 72 = .ok (.imul, 1) := by decide +kernel
theorem dX4_unionArea_73 : decode cX4_unionArea 73 = .ok (.ireturn, 1) := by decide +kernel
theorem dX4_commonArea_0 : decode cX4_commonArea 0 = .ok (.aload_n 0, 1) := by decide +kernel
theorem dX4_commonArea_1 : decode cX4_commonArea 1 = .ok (.iload_n 1, 1) := by decide +kernel
theorem dX4_commonArea_2 : decode cX4_commonArea 2 = .ok (.iconst 2, 1) := by decide +kernel
theorem dX4_commonArea_3 : decode cX4_commonArea 3 = .ok (.invokevirtual 130, 3) := by decide +kernel
theorem dX4_commonArea_6 : decode cX4_commonArea 6 = .ok (.aload_n 0, 1) := by decide +kernel
theorem dX4_commonArea_7 : decode cX4_commonArea 7 = .ok (.iload_n 2, 1) := by decide +kernel
theorem dX4_commonArea_8 : decode cX4_commonArea 8 = .ok (.iconst 2, 1) := by decide +kernel
theorem dX4_commonArea_9 : decode cX4_commonArea 9 = .ok (.invokevirtual 130, 3) := by decide +kernel
theorem dX4_commonArea_12 : decode cX4_commonArea 12 = .ok (.invokestatic 65, 3) := by decide +kernel
theorem dX4_commonArea_15 : decode cX4_commonArea 15 = .ok (.aload_n 0, 1) := by decide +kernel
theorem dX4_commonArea_16 : decode cX4_commonArea 16 = .ok (.iload_n 1, 1) := by decide +kernel
theorem dX4_commonArea_17 : decode cX4_commonArea 17 = .ok (.iconst 0, 1) := by decide +kernel
theorem dX4_commonArea_18 : decode cX4_commonArea 18 = .ok (.invokevirtual 130, 3) := by decide +kernel
theorem dX4_commonArea_21 : decode cX4_commonArea 21 = .ok (.aload_n 0, 1) := by decide +kernel
theorem dX4_commonArea_22 : decode cX4_commonArea 22 = .ok (.iload_n 2, 1) := by decide +kernel
theorem dX4_commonArea_23 : decode cX4_commonArea 23 = .ok (.iconst 0, 1) := by decide +kernel
theorem dX4_commonArea_24 : decode cX4_commonArea 24 = .ok (.invokevirtual 130, 3) := by decide +kernel
theorem dX4_commonArea_27 : decode cX4_commonArea 27 = .ok (.invokestatic 133, 3) := by decide +kernel
theorem dX4_commonArea_30 : decode cX4_commonArea 30 = .ok (.isub, 1) := by decide +kernel
theorem dX4_commonArea_31 : decode cX4_commonArea 31 = .ok (.iconst 1, 1) := by decide +kernel
theorem dX4_commonArea_32 : decode cX4_commonArea 32 = .ok (.iadd, 1) := by decide +kernel
theorem dX4_commonArea_33 : decode cX4_commonArea 33 = .ok (.istore_n 3, 1) := by decide +kernel
theorem dX4_commonArea_34 : decode cX4_commonArea 34 = .ok (.aload_n 0, 1) := by decide +kernel
theorem dX4_commonArea_35 : decode cX4_commonArea 35 = .ok (.iload_n 1, 1) := by decide +kernel
theorem dX4_commonArea_36 : decode cX4_commonArea 36 = .ok (.iconst 3, 1) := by decide +kernel
theorem dX4_commonArea_37 : decode cX4_commonArea 37 = .ok (.invokevirtual 130, 3) := by decide +kernel
theorem dX4_commonArea_40 : decode cX4_commonArea 40 = .ok (.aload_n 0, 1) := by decide +kernel
theorem dX4_commonArea_41 : decode cX4_commonArea 41 = .ok (.iload_n 2, 1) := by decide +kernel
theorem dX4_commonArea_42 : decode cX4_commonArea 42 = .ok (.iconst 3, 1) := by decide +kernel
theorem dX4_commonArea_43 : decode cX4_commonArea 43 = .ok (.invokevirtual 130, 3) := by decide +kernel
theorem dX4_commonArea_46 : decode cX4_commonArea 46 = .ok (.invokestatic 65, 3) := by decide +kernel
theorem dX4_commonArea_49 : decode cX4_commonArea 49 = .ok (.aload_n 0, 1) := by decide +kernel
theorem dX4_commonArea_50 : decode cX4_commonArea 50 = .ok (.iload_n 1, 1) := by decide +kernel
theorem dX4_commonArea_51 : decode cX4_commonArea 51 = .ok (.iconst 1, 1) := by decide +kernel
theorem dX4_commonArea_52 : decode cX4_commonArea 52 = .ok (.invokevirtual 130, 3) := by decide +kernel
theorem dX4_commonArea_55 : decode cX4_commonArea 55 = .ok (.aload_n 0, 1) := by decide +kernel
theorem dX4_commonArea_56 : decode cX4_commonArea 56 = .ok (.iload_n 2, 1) := by decide +kernel
theorem dX4_commonArea_57 : decode cX4_commonArea 57 = .ok (.iconst 1, 1) := by decide +kernel
theorem dX4_commonArea_58 : decode cX4_commonArea 58 = .ok (.invokevirtual 130, 3) := by decide +kernel
theorem dX4_commonArea_61 : decode cX4_commonArea 61 = .ok (.invokestatic 133, 3) := by decide +kernel
theorem dX4_commonArea_64 : decode cX4_commonArea 64 = .ok (.isub, 1) := by decide +kernel
theorem dX4_commonArea_65 : decode cX4_commonArea 65 = .ok (.iconst 1, 1) := by decide +kernel
theorem dX4_commonArea_66 : decode cX4_commonArea 66 = .ok (.iadd, 1) := by decide +kernel
theorem dX4_commonArea_67 : decode cX4_commonArea 67 = .ok (.istore 4, 2) := by decide +kernel
theorem dX4_commonArea_69 : decode cX4_commonArea 69 = .ok (.iload_n 3, 1) := by decide +kernel
theorem dX4_commonArea_70 : decode cX4_commonArea 70 = .ok (.ifCond .le 15, 3) := by decide +kernel
theorem dX4_commonArea_73 : decode cX4_commonArea 73 = .ok (.iload 4, 2) := by decide +kernel
theorem dX4_commonArea_75 : decode cX4_commonArea 75 = .ok (.ifCond .le 10, 3) := by decide +kernel
theorem dX4_commonArea_78 : decode cX4_commonArea 78 = .ok (.iload_n 3, 1) := by decide +kernel
theorem dX4_commonArea_79 : decode cX4_commonArea 79 = .ok (.iload 4, 2) := by decide +kernel
theorem dX4_commonArea_81 : decode cX4_commonArea 81 = .ok (.imul, 1) := by decide +kernel
theorem dX4_commonArea_82 : decode cX4_commonArea 82 = .ok (.goto 4, 3) := by decide +kernel
theorem dX4_commonArea_85 : decode cX4_commonArea 85 = .ok (.iconst 0, 1) := by decide +kernel
theorem dX4_commonArea_86 : decode cX4_commonArea 86 = .ok (.ireturn, 1) := by decide +kernel
theorem dX4_enlargement_0 : decode cX4_enlargement 0 = .ok (.aload_n 0, 1) := by decide +kernel
theorem dX4_enlargement_1 : decode cX4_enlargement 1 = .ok (.iload_n 1, 1) := by decide +kernel
theorem dX4_enlargement_2 : decode cX4_enlargement 2 = .ok (.iload_n 2, 1) := by decide +kernel
theorem dX4_enlargement_3 : decode cX4_enlargement 3 = .ok (.invokevirtual 142, 3) := by decide +kernel
theorem dX4_enlargement_6 : decode cX4_enlargement 6 = .ok (.aload_n 0, 1) := by decide +kernel
theorem dX4_enlargement_7 : decode cX4_enlargement 7 = .ok (.iload_n 1, 1) := by decide +kernel
theorem dX4_enlargement_8 : decode cX4_enlargement 8 = .ok (.invokevirtual 145, 3) := by decide +kernel
theorem dX4_enlargement_11 : decode cX4_enlargement 11 = .ok (.isub, 1) := by decide +kernel
theorem dX4_enlargement_12 : decode cX4_enlargement 12 = .ok (.ireturn, 1) := by decide +kernel
theorem dX4_doubleCenter_0 : decode cX4_doubleCenter 0 = .ok (.aload_n 0, 1) := by decide +kernel
theorem dX4_doubleCenter_1 : decode cX4_doubleCenter 1 = .ok (.iload_n 1, 1) := by decide +kernel
theorem dX4_doubleCenter_2 : decode cX4_doubleCenter 2 = .ok (.iload_n 2, 1) := by decide +kernel
theorem dX4_doubleCenter_3 : decode cX4_doubleCenter 3 = .ok (.invokevirtual 130, 3) := by decide +kernel
theorem dX4_doubleCenter_6 : decode cX4_doubleCenter 6 = .ok (.aload_n 0, 1) := by decide +kernel
theorem dX4_doubleCenter_7 : decode cX4_doubleCenter 7 = .ok (.iload_n 1, 1) := by decide +kernel
theorem dX4_doubleCenter_8 : decode cX4_doubleCenter 8 = .ok (.iload_n 2, 1) := by decide +kernel
theorem dX4_doubleCenter_9 : decode cX4_doubleCenter 9 = .ok (.iconst 2, 1) := by decide +kernel
theorem dX4_doubleCenter_10 : decode cX4_doubleCenter 10 = .ok (.iadd, 1) := by decide +kernel
theorem dX4_doubleCenter_11 : decode cX4_doubleCenter 11 = .ok (.invokevirtual 130, 3) := by decide +kernel
theorem dX4_doubleCenter_14 : decode cX4_doubleCenter 14 = .ok (.iadd, 1) := by decide +kernel
theorem dX4_doubleCenter_15 : decode cX4_doubleCenter 15 = .ok (.ireturn, 1) := by decide +kernel
theorem dX4_centerDistance_0 : decode cX4_centerDistance 0 = .ok (.aload_n 0, 1) := by decide +kernel
theorem dX4_centerDistance_1 : decode cX4_centerDistance 1 = .ok (.iload_n 1, 1) := by decide +kernel
theorem dX4_centerDistance_2 : decode cX4_centerDistance 2 = .ok (.iconst 0, 1) := by decide +kernel
theorem dX4_centerDistance_3 : decode cX4_centerDistance 3 = .ok (.invokevirtual 148, 3) := by decide +kernel
theorem dX4_centerDistance_6 : decode cX4_centerDistance 6 = .ok (.aload_n 0, 1) := by decide +kernel
theorem dX4_centerDistance_7 : decode cX4_centerDistance 7 = .ok (.iload_n 2, 1) := by decide +kernel
theorem dX4_centerDistance_8 : decode cX4_centerDistance 8 = .ok (.iconst 0, 1) := by decide +kernel
theorem dX4_centerDistance_9 : decode cX4_centerDistance 9 = .ok (.invokevirtual 148, 3) := by decide +kernel
theorem dX4_centerDistance_12 : decode cX4_centerDistance 12 = .ok (.isub, 1) := by decide +kernel
theorem dX4_centerDistance_13 : decode cX4_centerDistance 13 = .ok (.istore_n 3, 1) := by decide +kernel
theorem dX4_centerDistance_14 : decode cX4_centerDistance 14 = .ok (.aload_n 0, 1) := by decide +kernel
theorem dX4_centerDistance_15 : decode cX4_centerDistance 15 = .ok (.iload_n 1, 1) := by decide +kernel
theorem dX4_centerDistance_16 : decode cX4_centerDistance 16 = .ok (.iconst 1, 1) := by decide +kernel
theorem dX4_centerDistance_17 : decode cX4_centerDistance 17 = .ok (.invokevirtual 148, 3) := by decide +kernel
theorem dX4_centerDistance_20 : decode cX4_centerDistance 20 = .ok (.aload_n 0, 1) := by decide +kernel
theorem dX4_centerDistance_21 : decode cX4_centerDistance 21 = .ok (.iload_n 2, 1) := by decide +kernel
theorem dX4_centerDistance_22 : decode cX4_centerDistance 22 = .ok (.iconst 1, 1) := by decide +kernel
theorem dX4_centerDistance_23 : decode cX4_centerDistance 23 = .ok (.invokevirtual 148, 3) := by decide +kernel
theorem dX4_centerDistance_26 : decode cX4_centerDistance 26 = .ok (.isub, 1) := by decide +kernel
theorem dX4_centerDistance_27 : decode cX4_centerDistance 27 = .ok (.istore 4, 2) := by decide +kernel
theorem dX4_centerDistance_29 : decode cX4_centerDistance 29 = .ok (.iload_n 3, 1) := by decide +kernel
theorem dX4_centerDistance_30 : decode cX4_centerDistance 30 = .ok (.iload_n 3, 1) := by decide +kernel
theorem dX4_centerDistance_31 : decode cX4_centerDistance 31 = .ok (.imul, 1) := by decide +kernel
theorem dX4_centerDistance_32 : decode cX4_centerDistance 32 = .ok (.iload 4, 2) := by decide +kernel
theorem dX4_centerDistance_34 : decode cX4_centerDistance 34 = .ok (.iload 4, 2) := by decide +kernel
theorem dX4_centerDistance_36 : decode cX4_centerDistance 36 = .ok (.imul, 1) := by decide +kernel
theorem dX4_centerDistance_37 : decode cX4_centerDistance 37 = .ok (.iadd, 1) := by decide +kernel
theorem dX4_centerDistance_38 : decode cX4_centerDistance 38 = .ok (.ireturn, 1) := by decide +kernel
theorem dX4_meetsWindow_0 : decode cX4_meetsWindow 0 = .ok (.aload_n 0, 1) := by decide +kernel
theorem dX4_meetsWindow_1 : decode cX4_meetsWindow 1 = .ok (.iload_n 1, 1) := by decide +kernel
theorem dX4_meetsWindow_2 : decode cX4_meetsWindow 2 = .ok (.iconst 0, 1) := by decide +kernel
theorem dX4_meetsWindow_3 : decode cX4_meetsWindow 3 = .ok (.invokevirtual 130, 3) := by decide +kernel
theorem dX4_meetsWindow_6 : decode cX4_meetsWindow 6 = .ok (.iload 4, 2) := by decide +kernel
theorem dX4_meetsWindow_8 : decode cX4_meetsWindow 8 = .ok (.if_icmp .gt 38, 3) := by decide +kernel
theorem dX4_meetsWindow_11 : decode cX4_meetsWindow 11 = .ok (.aload_n 0, 1) := by decide +kernel
theorem dX4_meetsWindow_12 : decode cX4_meetsWindow 12 = .ok (.iload_n 1, 1) := by decide +kernel
theorem dX4_meetsWindow_13 : decode cX4_meetsWindow 13 = .ok (.iconst 2, 1) := by decide +kernel
theorem dX4_meetsWindow_14 : decode cX4_meetsWindow 14 = .ok (.invokevirtual 130, 3) := by decide +kernel
theorem dX4_meetsWindow_17 : decode cX4_meetsWindow 17 = .ok (.iload_n 2, 1) := by decide +kernel
theorem dX4_meetsWindow_18 : decode cX4_meetsWindow 18 = .ok (.if_icmp .lt 28, 3) := by decide +kernel
theorem dX4_meetsWindow_21 : decode cX4_meetsWindow 21 = .ok (.aload_n 0, 1) := by decide +kernel
theorem dX4_meetsWindow_22 : decode cX4_meetsWindow 22 = .ok (.iload_n 1, 1) := by decide +kernel
theorem dX4_meetsWindow_23 : decode cX4_meetsWindow 23 = .ok (.iconst 1, 1) := by decide +kernel
theorem dX4_meetsWindow_24 : decode cX4_meetsWindow 24 = .ok (.invokevirtual 130, 3) := by decide +kernel
theorem dX4_meetsWindow_27 : decode cX4_meetsWindow 27 = .ok (.iload 5, 2) := by decide +kernel
theorem dX4_meetsWindow_29 : decode cX4_meetsWindow 29 = .ok (.if_icmp .gt 17, 3) := by decide +kernel
theorem dX4_meetsWindow_32 : decode cX4_meetsWindow 32 = .ok (.aload_n 0, 1) := by decide +kernel
theorem dX4_meetsWindow_33 : decode cX4_meetsWindow 33 = .ok (.iload_n 1, 1) := by decide +kernel
theorem dX4_meetsWindow_34 : decode cX4_meetsWindow 34 = .ok (.iconst 3, 1) := by decide +kernel
theorem dX4_meetsWindow_35 : decode cX4_meetsWindow 35 = .ok (.invokevirtual 130, 3) := by decide +kernel
theorem dX4_meetsWindow_38 : decode cX4_meetsWindow 38 = .ok (.iload_n 3, 1) := by decide +kernel
theorem dX4_meetsWindow_39 : decode cX4_meetsWindow 39 = .ok (.if_icmp .lt 7, 3) := by decide +kernel
theorem dX4_meetsWindow_42 : decode cX4_meetsWindow 42 = .ok (.iconst 1, 1) := by decide +kernel
theorem dX4_meetsWindow_43 : decode cX4_meetsWindow 43 = .ok (.goto 4, 3) := by decide +kernel
theorem dX4_meetsWindow_46 : decode cX4_meetsWindow 46 = .ok (.iconst 0, 1) := by decide +kernel
theorem dX4_meetsWindow_47 : decode cX4_meetsWindow 47 = .ok (.ireturn, 1) := by decide +kernel
theorem dX4_liesInWindow_0 : decode cX4_liesInWindow 0 = .ok (.aload_n 0, 1) := by decide +kernel
theorem dX4_liesInWindow_1 : decode cX4_liesInWindow 1 = .ok (.iload_n 1, 1) := by decide +kernel
theorem dX4_liesInWindow_2 : decode cX4_liesInWindow 2 = .ok (.iconst 0, 1) := by decide +kernel
theorem dX4_liesInWindow_3 : decode cX4_liesInWindow 3 = .ok (.invokevirtual 130, 3) := by decide +kernel
theorem dX4_liesInWindow_6 : decode cX4_liesInWindow 6 = .ok (.iload_n 2, 1) := by decide +kernel
theorem dX4_liesInWindow_7 : decode cX4_liesInWindow 7 = .ok (.if_icmp .lt 39, 3) := by decide +kernel
theorem dX4_liesInWindow_10 : decode cX4_liesInWindow 10 = .ok (.aload_n 0, 1) := by decide +kernel
theorem dX4_liesInWindow_11 : decode cX4_liesInWindow 11 = .ok (.iload_n 1, 1) := by decide +kernel
theorem dX4_liesInWindow_12 : decode cX4_liesInWindow 12 = .ok (.iconst 2, 1) := by decide +kernel
theorem dX4_liesInWindow_13 : decode cX4_liesInWindow 13 = .ok (.invokevirtual 130, 3) := by decide +kernel
theorem dX4_liesInWindow_16 : decode cX4_liesInWindow 16 = .ok (.iload 4, 2) := by decide +kernel
theorem dX4_liesInWindow_18 : decode cX4_liesInWindow 18 = .ok (.if_icmp .gt 28, 3) := by decide +kernel
theorem dX4_liesInWindow_21 : decode cX4_liesInWindow 21 = .ok (.aload_n 0, 1) := by decide +kernel
theorem dX4_liesInWindow_22 : decode cX4_liesInWindow 22 = .ok (.iload_n 1, 1) := by decide +kernel
theorem dX4_liesInWindow_23 : decode cX4_liesInWindow 23 = .ok (.iconst 1, 1) := by decide +kernel
theorem dX4_liesInWindow_24 : decode cX4_liesInWindow 24 = .ok (.invokevirtual 130, 3) := by decide +kernel
theorem dX4_liesInWindow_27 : decode cX4_liesInWindow 27 = .ok (.iload_n 3, 1) := by decide +kernel
theorem dX4_liesInWindow_28 : decode cX4_liesInWindow 28 = .ok (.if_icmp .lt 18, 3) := by decide +kernel
theorem dX4_liesInWindow_31 : decode cX4_liesInWindow 31 = .ok (.aload_n 0, 1) := by decide +kernel
theorem dX4_liesInWindow_32 : decode cX4_liesInWindow 32 = .ok (.iload_n 1, 1) := by decide +kernel
theorem dX4_liesInWindow_33 : decode cX4_liesInWindow 33 = .ok (.iconst 3, 1) := by decide +kernel
theorem dX4_liesInWindow_34 : decode cX4_liesInWindow 34 = .ok (.invokevirtual 130, 3) := by decide +kernel
theorem dX4_liesInWindow_37 : decode cX4_liesInWindow 37 = .ok (.iload 5, 2) := by decide +kernel
theorem dX4_liesInWindow_39 : decode cX4_liesInWindow 39 = .ok (.if_icmp .gt 7, 3) := by decide +kernel
theorem dX4_liesInWindow_42 : decode cX4_liesInWindow 42 = .ok (.iconst 1, 1) := by decide +kernel
theorem dX4_liesInWindow_43 : decode cX4_liesInWindow 43 = .ok (.goto 4, 3) := by decide +kernel
theorem dX4_liesInWindow_46 : decode cX4_liesInWindow 46 = .ok (.iconst 0, 1) := by decide +kernel
theorem dX4_liesInWindow_47 : decode cX4_liesInWindow 47 = .ok (.ireturn, 1) := by decide +kernel
theorem dX4_squareDistance_0 : decode cX4_squareDistance 0 = .ok (.iconst 0, 1) := by decide +kernel
theorem dX4_squareDistance_1 : decode cX4_squareDistance 1 = .ok (.aload_n 0, 1) := by decide +kernel
theorem dX4_squareDistance_2 : decode cX4_squareDistance 2 = .ok (.iload_n 1, 1) := by decide +kernel
theorem dX4_squareDistance_3 : decode cX4_squareDistance 3 = .ok (.iconst 0, 1) := by decide +kernel
theorem dX4_squareDistance_4 : decode cX4_squareDistance 4 = .ok (.invokevirtual 130, 3) := by decide +kernel
theorem dX4_squareDistance_7 : decode cX4_squareDistance 7 = .ok (.iload_n 2, 1) := by decide +kernel
theorem dX4_squareDistance_8 : decode cX4_squareDistance 8 = .ok (.isub, 1) := by decide +kernel
theorem dX4_squareDistance_9 : decode cX4_squareDistance 9 = .ok (.iload_n 2, 1) := by decide +kernel
theorem dX4_squareDistance_10 : decode cX4_squareDistance 10 = .ok (.aload_n 0, 1) := by decide +kernel
theorem dX4_squareDistance_11 : decode cX4_squareDistance 11 = .ok (.iload_n 1, 1) := by decide +kernel
theorem dX4_squareDistance_12 : decode cX4_squareDistance 12 = .ok (.iconst 2, 1) := by decide +kernel
theorem dX4_squareDistance_13 : decode cX4_squareDistance 13 = .ok (.invokevirtual 130, 3) := by decide +kernel
theorem dX4_squareDistance_16 : decode cX4_squareDistance 16 = .ok (.isub, 1) := by decide +kernel
theorem dX4_squareDistance_17 : decode cX4_squareDistance 17 = .ok (.invokestatic 133, 3) := by decide +kernel
theorem dX4_squareDistance_20 : decode cX4_squareDistance 20 = .ok (.invokestatic 133, 3) := by decide +kernel
theorem dX4_squareDistance_23 : decode cX4_squareDistance 23 = .ok (.istore 4, 2) := by decide +kernel
theorem dX4_squareDistance_25 : decode cX4_squareDistance 25 = .ok (.iconst 0, 1) := by decide +kernel
theorem dX4_squareDistance_26 : decode cX4_squareDistance 26 = .ok (.aload_n 0, 1) := by decide +kernel
theorem dX4_squareDistance_27 : decode cX4_squareDistance 27 = .ok (.iload_n 1, 1) := by decide +kernel
theorem dX4_squareDistance_28 : decode cX4_squareDistance 28 = .ok (.iconst 1, 1) := by decide +kernel
theorem dX4_squareDistance_29 : decode cX4_squareDistance 29 = .ok (.invokevirtual 130, 3) := by decide +kernel
theorem dX4_squareDistance_32 : decode cX4_squareDistance 32 = .ok (.iload_n 3, 1) := by decide +kernel
theorem dX4_squareDistance_33 : decode cX4_squareDistance 33 = .ok (.isub, 1) := by decide +kernel
theorem dX4_squareDistance_34 : decode cX4_squareDistance 34 = .ok (.iload_n 3, 1) := by decide +kernel
theorem dX4_squareDistance_35 : decode cX4_squareDistance 35 = .ok (.aload_n 0, 1) := by decide +kernel
theorem dX4_squareDistance_36 : decode cX4_squareDistance 36 = .ok (.iload_n 1, 1) := by decide +kernel
theorem dX4_squareDistance_37 : decode cX4_squareDistance 37 = .ok (.iconst 3, 1) := by decide +kernel
theorem dX4_squareDistance_38 : decode cX4_squareDistance 38 = .ok (.invokevirtual 130, 3) := by decide +kernel
theorem dX4_squareDistance_41 : decode cX4_squareDistance 41 = .ok (.isub, 1) := by decide +kernel
theorem dX4_squareDistance_42 : decode cX4_squareDistance 42 = .ok (.invokestatic 133, 3) := by decide +kernel
theorem dX4_squareDistance_45 : decode cX4_squareDistance 45 = .ok (.invokestatic 133, 3) := by decide +kernel
theorem dX4_squareDistance_48 : decode cX4_squareDistance 48 = .ok (.istore 5, 2) := by decide +kernel
theorem dX4_squareDistance_50 : decode cX4_squareDistance 50 = .ok (.iload 4, 2) := by decide +kernel
theorem dX4_squareDistance_52 : decode cX4_squareDistance 52 = .ok (.iload 4, 2) := by decide +kernel
theorem dX4_squareDistance_54 : decode cX4_squareDistance 54 = .ok (.imul, 1) := by decide +kernel
theorem dX4_squareDistance_55 : decode cX4_squareDistance 55 = .ok (.iload 5, 2) := by decide +kernel
theorem dX4_squareDistance_57 : decode cX4_squareDistance 57 = .ok (.iload 5, 2) := by decide +kernel
theorem dX4_squareDistance_59 : decode cX4_squareDistance 59 = .ok (.imul, 1) := by decide +kernel
theorem dX4_squareDistance_60 : decode cX4_squareDistance 60 = .ok (.iadd, 1) := by decide +kernel
theorem dX4_squareDistance_61 : decode cX4_squareDistance 61 = .ok (.ireturn, 1) := by decide +kernel
theorem dX5_init_0 : decode cX5_init 0 = .ok (.aload_n 0, 1) := by decide +kernel
theorem dX5_init_1 : decode cX5_init 1 = .ok (.invokespecial 3, 3) := by decide +kernel
theorem dX5_init_4 : decode cX5_init 4 = .ok (.aload_n 0, 1) := by decide +kernel
theorem dX5_init_5 : decode cX5_init 5 = .ok (.bipush 72, 2) := by decide +kernel
theorem dX5_init_7 : decode cX5_init 7 = .ok (.newarray .int, 2) := by decide +kernel
theorem dX5_init_9 : decode cX5_init 9 = .ok (.putfield 9, 3) := by decide +kernel
theorem dX5_init_12 : decode cX5_init 12 = .ok (.aload_n 0, 1) := by decide +kernel
theorem dX5_init_13 : decode cX5_init 13 = .ok (.iconst 0, 1) := by decide +kernel
theorem dX5_init_14 : decode cX5_init 14 = .ok (.putfield 15, 3) := by decide +kernel
theorem dX5_init_17 : decode cX5_init 17 = .ok (.aload_n 0, 1) := by decide +kernel
theorem dX5_init_18 : decode cX5_init 18 = .ok (.bipush 72, 2) := by decide +kernel
theorem dX5_init_20 : decode cX5_init 20 = .ok (.newarray .int, 2) := by decide +kernel
theorem dX5_init_22 : decode cX5_init 22 = .ok (.putfield 19, 3) := by decide +kernel
theorem dX5_init_25 : decode cX5_init 25 = .ok (.return_, 1) := by decide +kernel
theorem dX5_gather_0 : decode cX5_gather 0 = .ok (.aload_n 0, 1) := by decide +kernel
theorem dX5_gather_1 : decode cX5_gather 1 = .ok (.aload_n 1, 1) := by decide +kernel
theorem dX5_gather_2 : decode cX5_gather 2 = .ok (.invokevirtual 22, 3) := by decide +kernel
theorem dX5_gather_5 : decode cX5_gather 5 = .ok (.invokevirtual 28, 3) := by decide +kernel
theorem dX5_gather_8 : decode cX5_gather 8 = .ok (.aload_n 0, 1) := by decide +kernel
theorem dX5_gather_9 : decode cX5_gather 9 = .ok (.iconst 0, 1) := by decide +kernel
theorem dX5_gather_10 : decode cX5_gather 10 = .ok (.putfield 15, 3) := by decide +kernel
theorem dX5_gather_13 : decode cX5_gather 13 = .ok (.aload_n 0, 1) := by decide +kernel
theorem dX5_gather_14 : decode cX5_gather 14 = .ok (.getfield 19, 3) := by decide +kernel
theorem dX5_gather_17 : decode cX5_gather 17 = .ok (.iconst 0, 1) := by decide +kernel
theorem dX5_gather_18 : decode cX5_gather 18 = .ok (.iload_n 2, 1) := by decide +kernel
theorem dX5_gather_19 : decode cX5_gather 19 = .ok (.invokestatic 32, 3) := by decide +kernel
theorem dX5_gather_22 : decode cX5_gather 22 = .ok (.iconst 1, 1) := by decide +kernel
theorem dX5_gather_23 : decode cX5_gather 23 = .ok (.istore 4, 2) := by decide +kernel
theorem dX5_gather_25 : decode cX5_gather 25 = .ok (.iconst 0, 1) := by decide +kernel
theorem dX5_gather_26 : decode cX5_gather 26 = .ok (.istore 5, 2) := by decide +kernel
theorem dX5_gather_28 : decode cX5_gather 28 = .ok (.iload 4, 2) := by decide +kernel
theorem dX5_gather_30 : decode cX5_gather 30 = .ok (.ifCond .le 110, 3) := by decide +kernel
theorem dX5_gather_33 : decode cX5_gather 33 = .ok (.iload 5, 2) := by decide +kernel
theorem dX5_gather_35 : decode cX5_gather 35 = .ok (.ldc 36, 2) := by decide +kernel
theorem dX5_gather_37 : decode cX5_gather 37 = .ok (.if_icmp .ge 103, 3) := by decide +kernel
theorem dX5_gather_40 : decode cX5_gather 40 = .ok (.iinc 4 (-1), 3) := by decide +kernel
theorem dX5_gather_43 : decode cX5_gather 43 = .ok (.aload_n 0, 1) := by decide +kernel
theorem dX5_gather_44 : decode cX5_gather 44 = .ok (.getfield 19, 3) := by decide +kernel
theorem dX5_gather_47 : decode cX5_gather 47 = .ok (.iload 4, 2) := by decide +kernel
theorem dX5_gather_49 : decode cX5_gather 49 = .ok (.invokestatic 37, 3) := by decide +kernel
theorem dX5_gather_52 : decode cX5_gather 52 = .ok (.istore 6, 2) := by decide +kernel
theorem dX5_gather_54 : decode cX5_gather 54 = .ok (.iload 6, 2) := by decide +kernel
theorem dX5_gather_56 : decode cX5_gather 56 = .ok (.bipush 24, 2) := by decide +kernel
theorem dX5_gather_58 : decode cX5_gather 58 = .ok (.if_icmp .lt 7, 3) := by decide +kernel
theorem dX5_gather_61 : decode cX5_gather 61 = .ok (.iconst 1, 1) := by decide +kernel
theorem dX5_gather_62 : decode cX5_gather 62 = .ok (.goto 4, 3) := by decide +kernel
theorem dX5_gather_65 : decode cX5_gather 65 = .ok (.iconst 0, 1) := by decide +kernel
theorem dX5_gather_66 : decode cX5_gather 66 = .ok (.iload_n 3, 1) := by decide +kernel
theorem dX5_gather_67 : decode cX5_gather 67 = .ok (.if_icmp .ne 26, 3) := by decide +kernel
theorem dX5_gather_70 : decode cX5_gather 70 = .ok (.aload_n 0, 1) := by decide +kernel
theorem dX5_gather_71 : decode cX5_gather 71 = .ok (.getfield 9, 3) := by decide +kernel
theorem dX5_gather_74 : decode cX5_gather 74 = .ok (.aload_n 0, 1) := by decide +kernel
theorem dX5_gather_75 : decode cX5_gather 75 = .ok (.getfield 15, 3) := by decide +kernel
theorem dX5_gather_78 : decode cX5_gather 78 = .ok (.iload 6, 2) := by decide +kernel
theorem dX5_gather_80 : decode cX5_gather 80 = .ok (.invokestatic 32, 3) := by decide +kernel
theorem dX5_gather_83 : decode cX5_gather 83 = .ok (.aload_n 0, 1) := by decide +kernel
theorem dX5_gather_84 : decode cX5_gather 84 = .ok (.dup, 1) := by decide +kernel
theorem dX5_gather_85 : decode cX5_gather 85 = .ok (.getfield 15, 3) := by decide +kernel
theorem dX5_gather_88 : decode cX5_gather 88 = .ok (.iconst 1, 1) := by decide +kernel
theorem dX5_gather_89 : decode cX5_gather 89 = .ok (.iadd, 1) := by decide +kernel
theorem dX5_gather_90 : decode cX5_gather 90 = .ok (.putfield 15, 3) := by decide +kernel
theorem dX5_gather_93 : decode cX5_gather 93 = .ok (.aload_n 1, 1) := by decide +kernel
theorem dX5_gather_94 : decode cX5_gather 94 = .ok (.iload 6, 2) := by decide +kernel
theorem dX5_gather_96 : decode cX5_gather 96 = .ok (.invokevirtual 41, 3) := by decide +kernel
theorem dX5_gather_99 : decode cX5_gather 99 = .ok (.iconst 1, 1) := by decide +kernel
theorem dX5_gather_100 : decode cX5_gather 100 = .ok (.isub, 1) := by decide +kernel
theorem dX5_gather_101 : decode cX5_gather 101 = .ok (.istore 7, 2) := by decide +kernel
theorem dX5_gather_103 : decode cX5_gather 103 = .ok (.iload 7, 2) := by decide +kernel
theorem dX5_gather_105 : decode cX5_gather 105 = .ok (.ifCond .lt 29, 3) := by decide +kernel
theorem dX5_gather_108 : decode cX5_gather 108 = .ok (.aload_n 0, 1) := by decide +kernel
theorem dX5_gather_109 : decode cX5_gather 109 = .ok (.getfield 19, 3) := by decide +kernel
theorem dX5_gather_112 : decode cX5_gather 112 = .ok (.iload 4, 2) := by decide +kernel
theorem dX5_gather_114 : decode cX5_gather 114 = .ok (.aload_n 1, 1) := by decide +kernel
theorem dX5_gather_115 : decode cX5_gather 115 = .ok (.iload 6, 2) := by decide +kernel
theorem dX5_gather_117 : decode cX5_gather 117 = .ok (.iload 7, 2) := by decide +kernel
theorem dX5_gather_119 : decode cX5_gather 119 = .ok (.invokevirtual 45, 3) := by decide +kernel
theorem dX5_gather_122 : decode cX5_gather 122 = .ok (.invokestatic 32, 3) := by decide +kernel
theorem dX5_gather_125 : decode cX5_gather 125 = .ok (.iinc 4 1, 3) := by decide +kernel
theorem dX5_gather_128 : decode cX5_gather 128 = .ok (.iinc 7 (-1), 3) := by decide +kernel
theorem dX5_gather_131 : decode cX5_gather 131 = .ok (.goto (-28), 3) := by decide +kernel
theorem dX5_gather_134 : decode cX5_gather 134 = .ok (.iinc 5 1, 3) := by decide +kernel
theorem dX5_gather_137 : decode cX5_gather 137 = .ok (.goto (-109), 3) := by decide +kernel
theorem dX5_gather_140 : decode cX5_gather 140 = .ok (.return_, 1) := by decide +kernel
theorem dX5_placeOf_0 : decode cX5_placeOf 0 = .ok (.iconst 0, 1) := by decide +kernel
theorem dX5_placeOf_1 : decode cX5_placeOf 1 = .ok (.istore_n 2, 1) := by decide +kernel
theorem dX5_placeOf_2 : decode cX5_placeOf 2 = .ok (.iload_n 2, 1) := by decide +kernel
theorem dX5_placeOf_3 : decode cX5_placeOf 3 = .ok (.aload_n 0, 1) := by decide +kernel
theorem dX5_placeOf_4 : decode cX5_placeOf 4 = .ok (.getfield 15, 3) := by decide +kernel
theorem dX5_placeOf_7 : decode cX5_placeOf 7 = .ok (.if_icmp .ge 23, 3) := by decide +kernel
theorem dX5_placeOf_10 : decode cX5_placeOf 10 = .ok (.aload_n 0, 1) := by decide +kernel
theorem dX5_placeOf_11 : decode cX5_placeOf 11 = .ok (.getfield 9, 3) := by decide +kernel
theorem dX5_placeOf_14 : decode cX5_placeOf 14 = .ok (.iload_n 2, 1) := by decide +kernel
theorem dX5_placeOf_15 : decode cX5_placeOf 15 = .ok (.invokestatic 37, 3) := by decide +kernel
theorem dX5_placeOf_18 : decode cX5_placeOf 18 = .ok (.iload_n 1, 1) := by decide +kernel
theorem dX5_placeOf_19 : decode cX5_placeOf 19 = .ok (.if_icmp .ne 5, 3) := by decide +kernel
theorem dX5_placeOf_22 : decode cX5_placeOf 22 = .ok (.iload_n 2, 1) := by decide +kernel
theorem dX5_placeOf_23 : decode cX5_placeOf 23 = .ok (.ireturn, 1) := by decide +kernel
theorem dX5_placeOf_24 : decode cX5_placeOf 24 = .ok (.iinc 2 1, 3) := by decide +kernel
theorem dX5_placeOf_27 : decode cX5_placeOf 27 = .ok (.goto (-25), 3) := by decide +kernel
theorem dX5_placeOf_30 : decode cX5_placeOf 30 = .ok (.iconst (-1), 1) := by decide +kernel
theorem dX5_placeOf_31 : decode cX5_placeOf 31 = .ok (.ireturn, 1) := by decide +kernel
theorem dX5_makeRoom_0 : decode cX5_makeRoom 0 = .ok (.iload_n 1, 1) := by decide +kernel
theorem dX5_makeRoom_1 : decode cX5_makeRoom 1 = .ok (.aload_n 0, 1) := by decide +kernel
theorem dX5_makeRoom_2 : decode cX5_makeRoom 2 = .ok (.getfield 9, 3) := by decide +kernel
theorem dX5_makeRoom_5 : decode cX5_makeRoom 5 = .ok (.arraylength, 1) := by decide +kernel
theorem dX5_makeRoom_6 : decode cX5_makeRoom 6 = .ok (.if_icmp .le 24, 3) := by decide +kernel
theorem dX5_makeRoom_9 : decode cX5_makeRoom 9 = .ok (.iload_n 1, 1) := by decide +kernel
theorem dX5_makeRoom_10 : decode cX5_makeRoom 10 = .ok (.sipush 8192, 3) := by decide +kernel
theorem dX5_makeRoom_13 : decode cX5_makeRoom 13 = .ok (.if_icmp .gt 17, 3) := by decide +kernel
theorem dX5_makeRoom_16 : decode cX5_makeRoom 16 = .ok (.aload_n 0, 1) := by decide +kernel
theorem dX5_makeRoom_17 : decode cX5_makeRoom 17 = .ok (.iload_n 1, 1) := by decide +kernel
theorem dX5_makeRoom_18 : decode cX5_makeRoom 18 = .ok (.newarray .int, 2) := by decide +kernel
theorem dX5_makeRoom_20 : decode cX5_makeRoom 20 = .ok (.putfield 9, 3) := by decide +kernel
theorem dX5_makeRoom_23 : decode cX5_makeRoom 23 = .ok (.aload_n 0, 1) := by decide +kernel
theorem dX5_makeRoom_24 : decode cX5_makeRoom 24 = .ok (.iload_n 1, 1) := by decide +kernel
theorem dX5_makeRoom_25 : decode cX5_makeRoom 25 = .ok (.newarray .int, 2) := by decide +kernel
theorem dX5_makeRoom_27 : decode cX5_makeRoom 27 = .ok (.putfield 19, 3) := by decide +kernel
theorem dX5_makeRoom_30 : decode cX5_makeRoom 30 = .ok (.return_, 1) := by decide +kernel
theorem dX6_init_0 : decode cX6_init 0 = .ok (.aload_n 0, 1) := by decide +kernel
theorem dX6_init_1 : decode cX6_init 1 = .ok (.invokespecial 3, 3) := by decide +kernel
theorem dX6_init_4 : decode cX6_init 4 = .ok (.aload_n 0, 1) := by decide +kernel
theorem dX6_init_5 : decode cX6_init 5 = .ok (.new 9, 3) := by decide +kernel
theorem dX6_init_8 : decode cX6_init 8 = .ok (.dup, 1) := by decide +kernel
theorem dX6_init_9 : decode cX6_init 9 = .ok (.invokespecial 11, 3) := by decide +kernel
theorem dX6_init_12 : decode cX6_init 12 = .ok (.putfield 12, 3) := by decide +kernel
theorem dX6_init_15 : decode cX6_init 15 = .ok (.aload_n 0, 1) := by decide +kernel
theorem dX6_init_16 : decode cX6_init 16 = .ok (.new 16, 3) := by decide +kernel
theorem dX6_init_19 : decode cX6_init 19 = .ok (.dup, 1) := by decide +kernel
theorem dX6_init_20 : decode cX6_init 20 = .ok (.aload_n 0, 1) := by decide +kernel
theorem dX6_init_21 : decode cX6_init 21 = .ok (.getfield 12, 3) := by decide +kernel
theorem dX6_init_24 : decode cX6_init 24 = .ok (.invokespecial 18, 3) := by decide +kernel
theorem dX6_init_27 : decode cX6_init 27 = .ok (.putfield 21, 3) := by decide +kernel
theorem dX6_init_30 : decode cX6_init 30 = .ok (.aload_n 0, 1) := by decide +kernel
theorem dX6_init_31 : decode cX6_init 31 = .ok (.new 25, 3) := by decide +kernel
theorem dX6_init_34 : decode cX6_init 34 = .ok (.dup, 1) := by decide +kernel
theorem dX6_init_35 : decode cX6_init 35 = .ok (.aload_n 0, 1) := by decide +kernel
theorem dX6_init_36 : decode cX6_init 36 = .ok (.getfield 12, 3) := by decide +kernel
theorem dX6_init_39 : decode cX6_init 39 = .ok (.invokespecial 27, 3) := by decide +kernel
theorem dX6_init_42 : decode cX6_init 42 = .ok (.putfield 28, 3) := by decide +kernel
theorem dX6_init_45 : decode cX6_init 45 = .ok (.aload_n 0, 1) := by decide +kernel
theorem dX6_init_46 : decode cX6_init 46 = .ok (.new 32, 3) := by decide +kernel
theorem dX6_init_49 : decode cX6_init 49 = .ok (.dup, 1) := by decide +kernel
theorem dX6_init_50 : decode cX6_init 50 = .ok (.invokespecial 34, 3) := by decide +kernel
theorem dX6_init_53 : decode cX6_init 53 = .ok (.putfield 35, 3) := by decide +kernel
theorem dX6_init_56 : decode cX6_init 56 = .ok (.aload_n 0, 1) := by decide +kernel
theorem dX6_init_57 : decode cX6_init 57 = .ok (.new 39, 3) := by decide +kernel
theorem dX6_init_60 : decode cX6_init 60 = .ok (.dup, 1) := by decide +kernel
theorem dX6_init_61 : decode cX6_init 61 = .ok (.invokespecial 41, 3) := by decide +kernel
theorem dX6_init_64 : decode cX6_init 64 = .ok (.putfield 42, 3) := by decide +kernel
theorem dX6_init_67 : decode cX6_init 67 = .ok (.aload_n 0, 1) := by decide +kernel
theorem dX6_init_68 : decode cX6_init 68 = .ok (.new 46, 3) := by decide +kernel
theorem dX6_init_71 : decode cX6_init 71 = .ok (.dup, 1) := by decide +kernel
theorem dX6_init_72 : decode cX6_init 72 = .ok (.invokespecial 48, 3) := by decide +kernel
theorem dX6_init_75 : decode cX6_init 75 = .ok (.putfield 49, 3) := by decide +kernel
theorem dX6_init_78 : decode cX6_init 78 = .ok (.aload_n 0, 1) := by decide +kernel
theorem dX6_init_79 : decode cX6_init 79 = .ok (.new 9, 3) := by decide +kernel
theorem dX6_init_82 : decode cX6_init 82 = .ok (.dup, 1) := by decide +kernel
theorem dX6_init_83 : decode cX6_init 83 = .ok (.invokespecial 11, 3) := by decide +kernel
theorem dX6_init_86 : decode cX6_init 86 = .ok (.putfield 53, 3) := by decide +kernel
theorem dX6_init_89 : decode cX6_init 89 = .ok (.aload_n 0, 1) := by decide +kernel
theorem dX6_init_90 : decode cX6_init 90 = .ok (.iconst 0, 1) := by decide +kernel
theorem dX6_init_91 : decode cX6_init 91 = .ok (.putfield 56, 3) := by decide +kernel
theorem dX6_init_94 : decode cX6_init 94 = .ok (.aload_n 0, 1) := by decide +kernel
theorem dX6_init_95 : decode cX6_init 95 = .ok (.invokevirtual 60, 3) := by decide +kernel
theorem dX6_init_98 : decode cX6_init 98 = .ok (.return_, 1) := by decide +kernel
theorem dX6_insert_0 : decode cX6_insert 0 = .ok (.iload_n 1, 1) := by decide +kernel
theorem dX6_insert_1 : decode cX6_insert 1 = .ok (.iload_n 2, 1) := by decide +kernel
theorem dX6_insert_2 : decode cX6_insert 2 = .ok (.iload_n 3, 1) := by decide +kernel
theorem dX6_insert_3 : decode cX6_insert 3 = .ok (.iload 4, 2) := by decide +kernel
theorem dX6_insert_5 : decode cX6_insert 5 = .ok (.invokestatic 63, 3) := by decide +kernel
theorem dX6_insert_8 : decode cX6_insert 8 = .ok (.ifCond .ne 6, 3) := by decide +kernel
theorem dX6_insert_11 : decode cX6_insert 11 = .ok (.bipush (-2), 2) := by decide +kernel
theorem dX6_insert_13 : decode cX6_insert 13 = .ok (.ireturn, 1) := by decide +kernel
theorem dX6_insert_14 : decode cX6_insert 14 = .ok (.aload_n 0, 1) := by decide +kernel
theorem dX6_insert_15 : decode cX6_insert 15 = .ok (.getfield 12, 3) := by decide +kernel
theorem dX6_insert_18 : decode cX6_insert 18 = .ok (.invokevirtual 67, 3) := by decide +kernel
theorem dX6_insert_21 : decode cX6_insert 21 = .ok (.bipush 24, 2) := by decide +kernel
theorem dX6_insert_23 : decode cX6_insert 23 = .ok (.if_icmp .lt 6, 3) := by decide +kernel
theorem dX6_insert_26 : decode cX6_insert 26 = .ok (.bipush (-3), 2) := by decide +kernel
theorem dX6_insert_28 : decode cX6_insert 28 = .ok (.ireturn, 1) := by decide +kernel
theorem dX6_insert_29 : decode cX6_insert 29 = .ok (.aload_n 0, 1) := by decide +kernel
theorem dX6_insert_30 : decode cX6_insert 30 = .ok (.getfield 49, 3) := by decide +kernel
theorem dX6_insert_33 : decode cX6_insert 33 = .ok (.aload_n 0, 1) := by decide +kernel
theorem dX6_insert_34 : decode cX6_insert 34 = .ok (.getfield 12, 3) := by decide +kernel
theorem dX6_insert_37 : decode cX6_insert 37 = .ok (.invokevirtual 71, 3) := by decide +kernel
theorem dX6_insert_40 : decode cX6_insert 40 = .ok (.aload_n 0, 1) := by decide +kernel
theorem dX6_insert_41 : decode cX6_insert 41 = .ok (.getfield 12, 3) := by decide +kernel
theorem dX6_insert_44 : decode cX6_insert 44 = .ok (.iload_n 1, 1) := by decide +kernel
theorem dX6_insert_45 : decode cX6_insert 45 = .ok (.iload_n 2, 1) := by decide +kernel
theorem dX6_insert_46 : decode cX6_insert 46 = .ok (.iload_n 3, 1) := by decide +kernel
theorem dX6_insert_47 : decode cX6_insert 47 = .ok (.iload 4, 2) := by decide +kernel
theorem dX6_insert_49 : decode cX6_insert 49 = .ok (.invokevirtual 74, 3) := by decide +kernel
theorem dX6_insert_52 : decode cX6_insert 52 = .ok (.istore 5, 2) := by decide +kernel
theorem dX6_insert_54 : decode cX6_insert 54 = .ok (.aload_n 0, 1) := by decide +kernel
theorem dX6_insert_55 : decode cX6_insert 55 = .ok (.getfield 21, 3) := by decide +kernel
theorem dX6_insert_58 : decode cX6_insert 58 = .ok (.iload 5, 2) := by decide +kernel
theorem dX6_insert_60 : decode cX6_insert 60 = .ok (.invokevirtual 78, 3) := by decide +kernel
theorem dX6_insert_63 : decode cX6_insert 63 = .ok (.aload_n 0, 1) := by decide +kernel
theorem dX6_insert_64 : decode cX6_insert 64 = .ok (.invokevirtual 60, 3) := by decide +kernel
theorem dX6_insert_67 : decode cX6_insert 67 = .ok (.iload 5, 2) := by decide +kernel
theorem dX6_insert_69 : decode cX6_insert 69 = .ok (.ireturn, 1) := by decide +kernel
theorem dX6_remove_0 : decode cX6_remove 0 = .ok (.aload_n 0, 1) := by decide +kernel
theorem dX6_remove_1 : decode cX6_remove 1 = .ok (.getfield 12, 3) := by decide +kernel
theorem dX6_remove_4 : decode cX6_remove 4 = .ok (.iload_n 1, 1) := by decide +kernel
theorem dX6_remove_5 : decode cX6_remove 5 = .ok (.invokevirtual 82, 3) := by decide +kernel
theorem dX6_remove_8 : decode cX6_remove 8 = .ok (.ifCond .ne 5, 3) := by decide +kernel
theorem dX6_remove_11 : decode cX6_remove 11 = .ok (.iconst (-1), 1) := by decide +kernel
theorem dX6_remove_12 : decode cX6_remove 12 = .ok (.ireturn, 1) := by decide +kernel
theorem dX6_remove_13 : decode cX6_remove 13 = .ok (.aload_n 0, 1) := by decide +kernel
theorem dX6_remove_14 : decode cX6_remove 14 = .ok (.getfield 49, 3) := by decide +kernel
theorem dX6_remove_17 : decode cX6_remove 17 = .ok (.aload_n 0, 1) := by decide +kernel
theorem dX6_remove_18 : decode cX6_remove 18 = .ok (.getfield 12, 3) := by decide +kernel
theorem dX6_remove_21 : decode cX6_remove 21 = .ok (.invokevirtual 71, 3) := by decide +kernel
theorem dX6_remove_24 : decode cX6_remove 24 = .ok (.aload_n 0, 1) := by decide +kernel
theorem dX6_remove_25 : decode cX6_remove 25 = .ok (.getfield 21, 3) := by decide +kernel
theorem dX6_remove_28 : decode cX6_remove 28 = .ok (.iload_n 1, 1) := by decide +kernel
theorem dX6_remove_29 : decode cX6_remove 29 = .ok (.invokevirtual 86, 3) := by decide +kernel
theorem dX6_remove_32 : decode cX6_remove 32 = .ok (.aload_n 0, 1) := by decide +kernel
theorem dX6_remove_33 : decode cX6_remove 33 = .ok (.getfield 21, 3) := by decide +kernel
theorem dX6_remove_36 : decode cX6_remove 36 = .ok (.invokevirtual 89, 3) := by decide +kernel
theorem dX6_remove_39 : decode cX6_remove 39 = .ok (.aload_n 0, 1) := by decide +kernel
theorem dX6_remove_40 : decode cX6_remove 40 = .ok (.invokevirtual 60, 3) := by decide +kernel
theorem dX6_remove_43 : decode cX6_remove 43 = .ok (.aload_n 0, 1) := by decide +kernel
theorem dX6_remove_44 : decode cX6_remove 44 = .ok (.getfield 12, 3) := by decide +kernel
theorem dX6_remove_47 : decode cX6_remove 47 = .ok (.invokevirtual 67, 3) := by decide +kernel
theorem dX6_remove_50 : decode cX6_remove 50 = .ok (.ireturn, 1) := by decide +kernel
theorem dX6_pack_0 : decode cX6_pack 0 = .ok (.aload_n 0, 1) := by decide +kernel
theorem dX6_pack_1 : decode cX6_pack 1 = .ok (.getfield 49, 3) := by decide +kernel
theorem dX6_pack_4 : decode cX6_pack 4 = .ok (.aload_n 0, 1) := by decide +kernel
theorem dX6_pack_5 : decode cX6_pack 5 = .ok (.getfield 12, 3) := by decide +kernel
theorem dX6_pack_8 : decode cX6_pack 8 = .ok (.invokevirtual 71, 3) := by decide +kernel
theorem dX6_pack_11 : decode cX6_pack 11 = .ok (.aload_n 0, 1) := by decide +kernel
theorem dX6_pack_12 : decode cX6_pack 12 = .ok (.getfield 28, 3) := by decide +kernel
theorem dX6_pack_15 : decode cX6_pack 15 = .ok (.invokevirtual 92, 3) := by decide +kernel
theorem dX6_pack_18 : decode cX6_pack 18 = .ok (.aload_n 0, 1) := by decide +kernel
theorem dX6_pack_19 : decode cX6_pack 19 = .ok (.invokevirtual 60, 3) := by decide +kernel
theorem dX6_pack_22 : decode cX6_pack 22 = .ok (.aload_n 0, 1) := by decide +kernel
theorem dX6_pack_23 : decode cX6_pack 23 = .ok (.getfield 35, 3) := by decide +kernel
theorem dX6_pack_26 : decode cX6_pack 26 = .ok (.getfield 95, 3) := by decide +kernel
theorem dX6_pack_29 : decode cX6_pack 29 = .ok (.ireturn, 1) := by decide +kernel
theorem dX6_setSetting_0 : decode cX6_setSetting 0 = .ok (.aload_n 0, 1) := by decide +kernel
theorem dX6_setSetting_1 : decode cX6_setSetting 1 = .ok (.iload_n 1, 1) := by decide +kernel
theorem dX6_setSetting_2 : decode cX6_setSetting 2 = .ok (.invokevirtual 99, 3) := by decide +kernel
theorem dX6_setSetting_5 : decode cX6_setSetting 5 = .ok (.istore_n 3, 1) := by decide +kernel
theorem dX6_setSetting_6 : decode cX6_setSetting 6 = .ok (.iload_n 3, 1) := by decide +kernel
theorem dX6_setSetting_7 : decode cX6_setSetting 7 = .ok (.iconst (-1), 1) := by decide +kernel
theorem dX6_setSetting_8 : decode cX6_setSetting 8 = .ok (.if_icmp .ne 5, 3) := by decide +kernel
theorem dX6_setSetting_11 : decode cX6_setSetting 11 = .ok (.iconst (-1), 1) := by decide +kernel
theorem dX6_setSetting_12 : decode cX6_setSetting 12 = .ok (.ireturn, 1) := by decide +kernel
theorem dX6_setSetting_13 : decode cX6_setSetting 13 = .ok (.iload_n 1, 1) := by decide +kernel
theorem dX6_setSetting_14 : decode cX6_setSetting 14 = .ok (.ifCond .ne 7, 3) := by decide +kernel
theorem dX6_setSetting_17 : decode cX6_setSetting 17 = .ok (.iconst 3, 1) := by decide +kernel
theorem dX6_setSetting_18 : decode cX6_setSetting 18 = .ok (.goto 4, 3) := by decide +kernel
theorem dX6_setSetting_21 : decode cX6_setSetting 21 = .ok (.iconst 0, 1) := by decide +kernel
theorem dX6_setSetting_22 : decode cX6_setSetting 22 = .ok (.istore 4, 2) := by decide +kernel
theorem dX6_setSetting_24 : decode cX6_setSetting 24 = .ok (.iload_n 1, 1) := by decide +kernel
theorem dX6_setSetting_25 : decode cX6_setSetting 25 = .ok (.ifCond .ne 7, 3) := by decide +kernel
theorem dX6_setSetting_28 : decode cX6_setSetting 28 = .ok (.iconst 5, 1) := by decide +kernel
theorem dX6_setSetting_29 : decode cX6_setSetting 29 = .ok (.goto 4, 3) := by decide +kernel
theorem dX6_setSetting_32 : decode cX6_setSetting 32 = .ok (.iconst 1, 1) := by decide +kernel
theorem dX6_setSetting_33 : decode cX6_setSetting 33 = .ok (.istore 5, 2) := by decide +kernel
theorem dX6_setSetting_35 : decode cX6_setSetting 35 = .ok (.iload_n 2, 1) := by decide +kernel
theorem dX6_setSetting_36 : decode cX6_setSetting 36 = .ok (.iload 4, 2) := by decide +kernel
theorem dX6_setSetting_38 : decode cX6_setSetting 38 = .ok (.if_icmp .lt 9, 3) := by decide +kernel
theorem dX6_setSetting_41 : decode cX6_setSetting 41 = .ok (.iload_n 2, 1) := by decide +kernel
theorem dX6_setSetting_42 : decode cX6_setSetting 42 = .ok (.iload 5, 2) := by decide +kernel
theorem dX6_setSetting_44 : decode cX6_setSetting 44 = .ok (.if_icmp .le 6, 3) := by decide +kernel
theorem dX6_setSetting_47 : decode cX6_setSetting 47 = .ok (.bipush (-2), 2) := by decide +kernel
theorem dX6_setSetting_49 : decode cX6_setSetting 49 = .ok (.ireturn, 1) := by decide +kernel
theorem dX6_setSetting_50 : decode cX6_setSetting 50 = .ok (.aload_n 0, 1) := by decide +kernel
theorem dX6_setSetting_51 : decode cX6_setSetting 51 = .ok (.getfield 49, 3) := by decide +kernel
theorem dX6_setSetting_54 : decode cX6_setSetting 54 = .ok (.aload_n 0, 1) := by decide +kernel
theorem dX6_setSetting_55 : decode cX6_setSetting 55 = .ok (.getfield 12, 3) := by decide +kernel
theorem dX6_setSetting_58 : decode cX6_setSetting 58 = .ok (.invokevirtual 71, 3) := by decide +kernel
theorem dX6_setSetting_61 : decode cX6_setSetting 61 = .ok (.iload_n 1, 1) := by decide +kernel
theorem dX6_setSetting_62 : decode cX6_setSetting 62 = .ok (.ifCond .ne 14, 3) := by decide +kernel
theorem dX6_setSetting_65 : decode cX6_setSetting 65 = .ok (.aload_n 0, 1) := by decide +kernel
theorem dX6_setSetting_66 : decode cX6_setSetting 66 = .ok (.getfield 12, 3) := by decide +kernel
theorem dX6_setSetting_69 : decode cX6_setSetting 69 = .ok (.iload_n 2, 1) := by decide +kernel
theorem dX6_setSetting_70 : decode cX6_setSetting 70 = .ok (.putfield 103, 3) := by decide +kernel
theorem dX6_setSetting_73 : decode cX6_setSetting 73 = .ok (.goto 11, 3) := by decide +kernel
theorem dX6_setSetting_76 : decode cX6_setSetting 76 = .ok (.aload_n 0, 1) := by decide +kernel
theorem dX6_setSetting_77 : decode cX6_setSetting 77 = .ok (.getfield 12, 3) := by decide +kernel
theorem dX6_setSetting_80 : decode cX6_setSetting 80 = .ok (.iload_n 2, 1) := by decide +kernel
theorem dX6_setSetting_81 : decode cX6_setSetting 81 = .ok (.putfield 106, 3) := by decide +kernel
theorem dX6_setSetting_84 : decode cX6_setSetting 84 = .ok (.iload_n 3, 1) := by decide +kernel
theorem dX6_setSetting_85 : decode cX6_setSetting 85 = .ok (.ireturn, 1) := by decide +kernel
theorem dX6_append_0 : decode cX6_append 0 = .ok (.iload_n 1, 1) := by decide +kernel
theorem dX6_append_1 : decode cX6_append 1 = .ok (.bipush 32, 2) := by decide +kernel
theorem dX6_append_3 : decode cX6_append 3 = .ok (.if_icmp .lt 9, 3) := by decide +kernel
theorem dX6_append_6 : decode cX6_append 6 = .ok (.iload_n 1, 1) := by decide +kernel
theorem dX6_append_7 : decode cX6_append 7 = .ok (.bipush 126, 2) := by decide +kernel
theorem dX6_append_9 : decode cX6_append 9 = .ok (.if_icmp .le 6, 3) := by decide +kernel
theorem dX6_append_12 : decode cX6_append 12 = .ok (.bipush (-2), 2) := by decide +kernel
theorem dX6_append_14 : decode cX6_append 14 = .ok (.ireturn, 1) := by decide +kernel
theorem dX6_append_15 : decode cX6_append 15 = .ok (.aload_n 0, 1) := by decide +kernel
theorem dX6_append_16 : decode cX6_append 16 = .ok (.getfield 42, 3) := by decide +kernel
theorem dX6_append_19 : decode cX6_append 19 = .ok (.invokevirtual 109, 3) := by decide +kernel
theorem dX6_append_22 : decode cX6_append 22 = .ok (.ifCond .eq 6, 3) := by decide +kernel
theorem dX6_append_25 : decode cX6_append 25 = .ok (.bipush (-3), 2) := by decide +kernel
theorem dX6_append_27 : decode cX6_append 27 = .ok (.ireturn, 1) := by decide +kernel
theorem dX6_append_28 : decode cX6_append 28 = .ok (.aload_n 0, 1) := by decide +kernel
theorem dX6_append_29 : decode cX6_append 29 = .ok (.getfield 42, 3) := by decide +kernel
theorem dX6_append_32 : decode cX6_append 32 = .ok (.iload_n 1, 1) := by decide +kernel
theorem dX6_append_33 : decode cX6_append 33 = .ok (.invokevirtual 113, 3) := by decide +kernel
theorem dX6_append_36 : decode cX6_append 36 = .ok (.ireturn, 1) := by decide +kernel
theorem dX6_clearText_0 : decode cX6_clearText 0 = .ok (.aload_n 0, 1) := by decide +kernel
theorem dX6_clearText_1 : decode cX6_clearText 1 = .ok (.getfield 42, 3) := by decide +kernel
theorem dX6_clearText_4 : decode cX6_clearText 4 = .ok (.invokevirtual 116, 3) := by decide +kernel
theorem dX6_clearText_7 : decode cX6_clearText 7 = .ok (.ireturn, 1) := by decide +kernel
theorem dX6_fault_0 : decode cX6_fault 0 = .ok (.aload_n 0, 1) := by decide +kernel
theorem dX6_fault_1 : decode cX6_fault 1 = .ok (.getfield 42, 3) := by decide +kernel
theorem dX6_fault_4 : decode cX6_fault 4 = .ok (.invokevirtual 119, 3) := by decide +kernel
theorem dX6_fault_7 : decode cX6_fault 7 = .ok (.ireturn, 1) := by decide +kernel
theorem dX6_read_0 : decode cX6_read 0 = .ok (.aload_n 0, 1) := by decide +kernel
theorem dX6_read_1 : decode cX6_read 1 = .ok (.getfield 42, 3) := by decide +kernel
theorem dX6_read_4 : decode cX6_read 4 = .ok (.invokevirtual 119, 3) := by decide +kernel
theorem dX6_read_7 : decode cX6_read 7 = .ok (.istore_n 1, 1) := by decide +kernel
theorem dX6_read_8 : decode cX6_read 8 = .ok (.iload_n 1, 1) := by decide +kernel
theorem dX6_read_9 : decode cX6_read 9 = .ok (.bipush (-5), 2) := by decide +kernel
theorem dX6_read_11 : decode cX6_read 11 = .ok (.if_icmp .eq 8, 3) := by decide +kernel
theorem dX6_read_14 : decode cX6_read 14 = .ok (.bipush (-100), 2) := by decide +kernel
theorem dX6_read_16 : decode cX6_read 16 = .ok (.iload_n 1, 1) := by decide +kernel
theorem dX6_read_17 : decode cX6_read 17 = .ok (.isub, 1) := by decide +kernel
theorem dX6_read_18 : decode cX6_read 18 = .ok (.ireturn, 1) := by decide +kernel
theorem dX6_read_19 : decode cX6_read 19 = .ok (.aload_n 0, 1) := by decide +kernel
theorem dX6_read_20 : decode cX6_read 20 = .ok (.getfield 42, 3) := by decide +kernel
theorem dX6_read_23 : decode cX6_read 23 = .ok (.getfield 122, 3) := by decide +kernel
theorem dX6_read_26 : decode cX6_read 26 = .ok (.istore_n 2, 1) := by decide +kernel
theorem dX6_read_27 : decode cX6_read 27 = .ok (.aload_n 0, 1) := by decide +kernel
theorem dX6_read_28 : decode cX6_read 28 = .ok (.getfield 12, 3) := by decide +kernel
theorem dX6_read_31 : decode cX6_read 31 = .ok (.invokevirtual 67, 3) := by decide +kernel
theorem dX6_read_34 : decode cX6_read 34 = .ok (.iload_n 2, 1) := by decide +kernel
theorem dX6_read_35 : decode cX6_read 35 = .ok (.iadd, 1) := by decide +kernel
theorem dX6_read_36 : decode cX6_read 36 = .ok (.bipush 24, 2) := by decide +kernel
theorem dX6_read_38 : decode cX6_read 38 = .ok (.if_icmp .le 6, 3) := by decide +kernel
theorem dX6_read_41 : decode cX6_read 41 = .ok (.bipush (-3), 2) := by decide +kernel
theorem dX6_read_43 : decode cX6_read 43 = .ok (.ireturn, 1) := by decide +kernel
theorem dX6_read_44 : decode cX6_read 44 = .ok (.aload_n 0, 1) := by decide +kernel
theorem dX6_read_45 : decode cX6_read 45 = .ok (.getfield 49, 3) := by decide +kernel
theorem dX6_read_48 : decode cX6_read 48 = .ok (.aload_n 0, 1) := by decide +kernel
theorem dX6_read_49 : decode cX6_read 49 = .ok (.getfield 12, 3) := by decide +kernel
theorem dX6_read_52 : decode cX6_read 52 = .ok (.invokevirtual 71, 3) := by decide +kernel
theorem dX6_read_55 : decode cX6_read 55 = .ok (.iconst 0, 1) := by decide +kernel
theorem dX6_read_56 : decode cX6_read 56 = .ok (.istore_n 3, 1) := by decide +kernel
theorem dX6_read_57 : decode cX6_read 57 = .ok (.iload_n 3, 1) := by decide +kernel
theorem dX6_read_58 : decode cX6_read 58 = .ok (.iload_n 2, 1) := by decide +kernel
theorem dX6_read_59 : decode cX6_read 59 = .ok (.if_icmp .ge 63, 3) := by decide +kernel
theorem dX6_read_62 : decode cX6_read 62 = .ok (.aload_n 0, 1) := by decide +kernel
theorem dX6_read_63 : decode cX6_read 63 = .ok (.getfield 12, 3) := by decide +kernel
theorem dX6_read_66 : decode cX6_read 66 = .ok (.aload_n 0, 1) := by decide +kernel
theorem dX6_read_67 : decode cX6_read 67 = .ok (.getfield 42, 3) := by decide +kernel
theorem dX6_read_70 : decode cX6_read 70 = .ok (.iload_n 3, 1) := by decide +kernel
theorem dX6_read_71 : decode cX6_read 71 = .ok (.iconst 0, 1) := by decide +kernel
theorem dX6_read_72 : decode cX6_read 72 = .ok (.invokevirtual 125, 3) := by decide +kernel
theorem dX6_read_75 : decode cX6_read 75 = .ok (.aload_n 0, 1) := by decide +kernel
theorem dX6_read_76 : decode cX6_read 76 = .ok (.getfield 42, 3) := by decide +kernel
theorem dX6_read_79 : decode cX6_read 79 = .ok (.iload_n 3, 1) := by decide +kernel
theorem dX6_read_80 : decode cX6_read 80 = .ok (.iconst 1, 1) := by decide +kernel
theorem dX6_read_81 : decode cX6_read 81 = .ok (.invokevirtual 125, 3) := by decide +kernel
theorem dX6_read_84 : decode cX6_read 84 = .ok (.aload_n 0, 1) := by decide +kernel
theorem dX6_read_85 : decode cX6_read 85 = .ok (.getfield 42, 3) := by decide +kernel
theorem dX6_read_88 : decode cX6_read 88 = .ok (.iload_n 3, 1) := by decide +kernel
theorem dX6_read_89 : decode cX6_read 89 = .ok (.iconst 2, 1) := by decide +kernel
theorem dX6_read_90 : decode cX6_read 90 = .ok (.invokevirtual 125, 3) := by decide +kernel
theorem dX6_read_93 : decode cX6_read 93 = .ok (.aload_n 0, 1) := by decide +kernel
theorem dX6_read_94 : decode cX6_read 94 = .ok (.getfield 42, 3) := by decide +kernel
theorem dX6_read_97 : decode cX6_read 97 = .ok (.iload_n 3, 1) := by decide +kernel
theorem dX6_read_98 : decode cX6_read 98 = .ok (.iconst 3, 1) := by decide +kernel
theorem dX6_read_99 : decode cX6_read 99 = .ok (.invokevirtual 125, 3) := by decide +kernel
theorem dX6_read_102 : decode cX6_read 102 = .ok (.invokevirtual 74, 3) := by decide +kernel
theorem dX6_read_105 : decode cX6_read 105 = .ok (.istore 4, 2) := by decide +kernel
theorem dX6_read_107 : decode cX6_read 107 = .ok (.aload_n 0, 1) := by decide +kernel
theorem dX6_read_108 : decode cX6_read 108 = .ok (.getfield 21, 3) := by decide +kernel
theorem dX6_read_111 : decode cX6_read 111 = .ok (.iload 4, 2) := by decide +kernel
theorem dX6_read_113 : decode cX6_read 113 = .ok (.invokevirtual 78, 3) := by decide +kernel
theorem dX6_read_116 : decode cX6_read 116 = .ok (.iinc 3 1, 3) := by decide +kernel
theorem dX6_read_119 : decode cX6_read 119 = .ok (.goto (-62), 3) := by decide +kernel
theorem dX6_read_122 : decode cX6_read 122 = .ok (.aload_n 0, 1) := by decide +kernel
theorem dX6_read_123 : decode cX6_read 123 = .ok (.invokevirtual 60, 3) := by decide +kernel
theorem dX6_read_126 : decode cX6_read 126 = .ok (.iload_n 2, 1) := by decide +kernel
theorem dX6_read_127 : decode cX6_read 127 = .ok (.ireturn, 1) := by decide +kernel
theorem dX6_undo_0 : decode cX6_undo 0 = .ok (.aload_n 0, 1) := by decide +kernel
theorem dX6_undo_1 : decode cX6_undo 1 = .ok (.getfield 49, 3) := by decide +kernel
theorem dX6_undo_4 : decode cX6_undo 4 = .ok (.getfield 129, 3) := by decide +kernel
theorem dX6_undo_7 : decode cX6_undo 7 = .ok (.ifCond .ne 6, 3) := by decide +kernel
theorem dX6_undo_10 : decode cX6_undo 10 = .ok (.bipush (-5), 2) := by decide +kernel
theorem dX6_undo_12 : decode cX6_undo 12 = .ok (.ireturn, 1) := by decide +kernel
theorem dX6_undo_13 : decode cX6_undo 13 = .ok (.aload_n 0, 1) := by decide +kernel
theorem dX6_undo_14 : decode cX6_undo 14 = .ok (.getfield 49, 3) := by decide +kernel
theorem dX6_undo_17 : decode cX6_undo 17 = .ok (.aload_n 0, 1) := by decide +kernel
theorem dX6_undo_18 : decode cX6_undo 18 = .ok (.getfield 12, 3) := by decide +kernel
theorem dX6_undo_21 : decode cX6_undo 21 = .ok (.invokevirtual 130, 3) := by decide +kernel
theorem dX6_undo_24 : decode cX6_undo 24 = .ok (.aload_n 0, 1) := by decide +kernel
theorem dX6_undo_25 : decode cX6_undo 25 = .ok (.invokevirtual 60, 3) := by decide +kernel
theorem dX6_undo_28 : decode cX6_undo 28 = .ok (.aload_n 0, 1) := by decide +kernel
theorem dX6_undo_29 : decode cX6_undo 29 = .ok (.getfield 49, 3) := by decide +kernel
theorem dX6_undo_32 : decode cX6_undo 32 = .ok (.getfield 129, 3) := by decide +kernel
theorem dX6_undo_35 : decode cX6_undo 35 = .ok (.ireturn, 1) := by decide +kernel
theorem dX6_save_0 : decode cX6_save 0 = .ok (.aload_n 0, 1) := by decide +kernel
theorem dX6_save_1 : decode cX6_save 1 = .ok (.getfield 53, 3) := by decide +kernel
theorem dX6_save_4 : decode cX6_save 4 = .ok (.aload_n 0, 1) := by decide +kernel
theorem dX6_save_5 : decode cX6_save 5 = .ok (.getfield 12, 3) := by decide +kernel
theorem dX6_save_8 : decode cX6_save 8 = .ok (.invokevirtual 133, 3) := by decide +kernel
theorem dX6_save_11 : decode cX6_save 11 = .ok (.aload_n 0, 1) := by decide +kernel
theorem dX6_save_12 : decode cX6_save 12 = .ok (.iconst 1, 1) := by decide +kernel
theorem dX6_save_13 : decode cX6_save 13 = .ok (.putfield 56, 3) := by decide +kernel
theorem dX6_save_16 : decode cX6_save 16 = .ok (.aload_n 0, 1) := by decide +kernel
theorem dX6_save_17 : decode cX6_save 17 = .ok (.getfield 12, 3) := by decide +kernel
theorem dX6_save_20 : decode cX6_save 20 = .ok (.invokevirtual 67, 3) := by decide +kernel
theorem dX6_save_23 : decode cX6_save 23 = .ok (.ireturn, 1) := by decide +kernel
theorem dX6_restore_0 : decode cX6_restore 0 = .ok (.aload_n 0, 1) := by decide +kernel
theorem dX6_restore_1 : decode cX6_restore 1 = .ok (.getfield 56, 3) := by decide +kernel
theorem dX6_restore_4 : decode cX6_restore 4 = .ok (.ifCond .ne 6, 3) := by decide +kernel
theorem dX6_restore_7 : decode cX6_restore 7 = .ok (.bipush (-4), 2) := by decide +kernel
theorem dX6_restore_9 : decode cX6_restore 9 = .ok (.ireturn, 1) := by decide +kernel
theorem dX6_restore_10 : decode cX6_restore 10 = .ok (.aload_n 0, 1) := by decide +kernel
theorem dX6_restore_11 : decode cX6_restore 11 = .ok (.getfield 49, 3) := by decide +kernel
theorem dX6_restore_14 : decode cX6_restore 14 = .ok (.aload_n 0, 1) := by decide +kernel
theorem dX6_restore_15 : decode cX6_restore 15 = .ok (.getfield 12, 3) := by decide +kernel
theorem dX6_restore_18 : decode cX6_restore 18 = .ok (.invokevirtual 71, 3) := by decide +kernel
theorem dX6_restore_21 : decode cX6_restore 21 = .ok (.aload_n 0, 1) := by decide +kernel
theorem dX6_restore_22 : decode cX6_restore 22 = .ok (.getfield 12, 3) := by decide +kernel
theorem dX6_restore_25 : decode cX6_restore 25 = .ok (.aload_n 0, 1) := by decide +kernel
theorem dX6_restore_26 : decode cX6_restore 26 = .ok (.getfield 53, 3) := by decide +kernel
theorem dX6_restore_29 : decode cX6_restore 29 = .ok (.invokevirtual 133, 3) := by decide +kernel
theorem dX6_restore_32 : decode cX6_restore 32 = .ok (.aload_n 0, 1) := by decide +kernel
theorem dX6_restore_33 : decode cX6_restore 33 = .ok (.invokevirtual 60, 3) := by decide +kernel
theorem dX6_restore_36 : decode cX6_restore 36 = .ok (.aload_n 0, 1) := by decide +kernel
theorem dX6_restore_37 : decode cX6_restore 37 = .ok (.getfield 12, 3) := by decide +kernel
theorem dX6_restore_40 : decode cX6_restore 40 = .ok (.invokevirtual 67, 3) := by decide +kernel
theorem dX6_restore_43 : decode cX6_restore 43 = .ok (.ireturn, 1) := by decide +kernel
theorem dX6_boxes_0 : decode cX6_boxes 0 = .ok (.iconst 0, 1) := by decide +kernel
theorem dX6_boxes_1 : decode cX6_boxes 1 = .ok (.istore_n 1, 1) := by decide +kernel
theorem dX6_boxes_2 : decode cX6_boxes 2 = .ok (.iconst 0, 1) := by decide +kernel
theorem dX6_boxes_3 : decode cX6_boxes 3 = .ok (.istore_n 2, 1) := by decide +kernel
theorem dX6_boxes_4 : decode cX6_boxes 4 = .ok (.iload_n 2, 1) := by decide +kernel
theorem dX6_boxes_5 : decode cX6_boxes 5 = .ok (.bipush 24, 2) := by decide +kernel
theorem dX6_boxes_7 : decode cX6_boxes 7 = .ok (.if_icmp .ge 26, 3) := by decide +kernel
theorem dX6_boxes_10 : decode cX6_boxes 10 = .ok (.aload_n 0, 1) := by decide +kernel
theorem dX6_boxes_11 : decode cX6_boxes 11 = .ok (.getfield 12, 3) := by decide +kernel
theorem dX6_boxes_14 : decode cX6_boxes 14 = .ok (.iload_n 2, 1) := by decide +kernel
theorem dX6_boxes_15 : decode cX6_boxes 15 = .ok (.invokevirtual 82, 3) := by decide +kernel
theorem dX6_boxes_18 : decode cX6_boxes 18 = .ok (.ifCond .eq 9, 3) := by decide +kernel
theorem dX6_boxes_21 : decode cX6_boxes 21 = .ok (.iload_n 1, 1) := by decide +kernel
theorem dX6_boxes_22 : decode cX6_boxes 22 = .ok (.iconst 1, 1) := by decide +kernel
theorem dX6_boxes_23 : decode cX6_boxes 23 = .ok (.iload_n 2, 1) := by decide +kernel
theorem dX6_boxes_24 : decode cX6_boxes 24 = .ok (.ishl, 1) := by decide +kernel
theorem dX6_boxes_25 : decode cX6_boxes 25 = .ok (.ior, 1) := by decide +kernel
theorem dX6_boxes_26 : decode cX6_boxes 26 = .ok (.istore_n 1, 1) := by decide +kernel
theorem dX6_boxes_27 : decode cX6_boxes 27 = .ok (.iinc 2 1, 3) := by decide +kernel
theorem dX6_boxes_30 : decode cX6_boxes 30 = .ok (.goto (-26), 3) := by decide +kernel
theorem dX6_boxes_33 : decode cX6_boxes 33 = .ok (.iload_n 1, 1) := by decide +kernel
theorem dX6_boxes_34 : decode cX6_boxes 34 = .ok (.ireturn, 1) := by decide +kernel
theorem dX6_side_0 : decode cX6_side 0 = .ok (.aload_n 0, 1) := by decide +kernel
theorem dX6_side_1 : decode cX6_side 1 = .ok (.getfield 12, 3) := by decide +kernel
theorem dX6_side_4 : decode cX6_side 4 = .ok (.iload_n 1, 1) := by decide +kernel
theorem dX6_side_5 : decode cX6_side 5 = .ok (.invokevirtual 82, 3) := by decide +kernel
theorem dX6_side_8 : decode cX6_side 8 = .ok (.ifCond .ne 5, 3) := by decide +kernel
theorem dX6_side_11 : decode cX6_side 11 = .ok (.iconst (-1), 1) := by decide +kernel
theorem dX6_side_12 : decode cX6_side 12 = .ok (.ireturn, 1) := by decide +kernel
theorem dX6_side_13 : decode cX6_side 13 = .ok (.iload_n 2, 1) := by decide +kernel
theorem dX6_side_14 : decode cX6_side 14 = .ok (.ifCond .lt 8, 3) := by decide +kernel
theorem dX6_side_17 : decode cX6_side 17 = .ok (.iload_n 2, 1) := by decide +kernel
theorem dX6_side_18 : decode cX6_side 18 = .ok (.iconst 4, 1) := by decide +kernel
theorem dX6_side_19 : decode cX6_side 19 = .ok (.if_icmp .lt 6, 3) := by decide +kernel
theorem dX6_side_22 : decode cX6_side 22 = .ok (.bipush (-2), 2) := by decide +kernel
theorem dX6_side_24 : decode cX6_side 24 = .ok (.ireturn, 1) := by decide +kernel
theorem dX6_side_25 : decode cX6_side 25 = .ok (.aload_n 0, 1) := by decide +kernel
theorem dX6_side_26 : decode cX6_side 26 = .ok (.getfield 12, 3) := by decide +kernel
theorem dX6_side_29 : decode cX6_side 29 = .ok (.iload_n 1, 1) := by decide +kernel
theorem dX6_side_30 : decode cX6_side 30 = .ok (.iload_n 2, 1) := by decide +kernel
theorem dX6_side_31 : decode cX6_side 31 = .ok (.invokevirtual 136, 3) := by decide +kernel
theorem dX6_side_34 : decode cX6_side 34 = .ok (.ireturn, 1) := by decide +kernel
theorem dX6_nodes_0 : decode cX6_nodes 0 = .ok (.aload_n 0, 1) := by decide +kernel
theorem dX6_nodes_1 : decode cX6_nodes 1 = .ok (.getfield 35, 3) := by decide +kernel
theorem dX6_nodes_4 : decode cX6_nodes 4 = .ok (.getfield 95, 3) := by decide +kernel
theorem dX6_nodes_7 : decode cX6_nodes 7 = .ok (.ireturn, 1) := by decide +kernel
theorem dX6_height_0 : decode cX6_height 0 = .ok (.aload_n 0, 1) := by decide +kernel
theorem dX6_height_1 : decode cX6_height 1 = .ok (.getfield 12, 3) := by decide +kernel
theorem dX6_height_4 : decode cX6_height 4 = .ok (.aload_n 0, 1) := by decide +kernel
theorem dX6_height_5 : decode cX6_height 5 = .ok (.getfield 12, 3) := by decide +kernel
theorem dX6_height_8 : decode cX6_height 8 = .ok (.getfield 139, 3) := by decide +kernel
theorem dX6_height_11 : decode cX6_height 11 = .ok (.invokevirtual 142, 3) := by decide +kernel
theorem dX6_height_14 : decode cX6_height 14 = .ok (.ireturn, 1) := by decide +kernel
theorem dX6_level_0 : decode cX6_level 0 = .ok (.aload_n 0, 1) := by decide +kernel
theorem dX6_level_1 : decode cX6_level 1 = .ok (.iload_n 1, 1) := by decide +kernel
theorem dX6_level_2 : decode cX6_level 2 = .ok (.invokevirtual 145, 3) := by decide +kernel
theorem dX6_level_5 : decode cX6_level 5 = .ok (.ifCond .eq 18, 3) := by decide +kernel
theorem dX6_level_8 : decode cX6_level 8 = .ok (.aload_n 0, 1) := by decide +kernel
theorem dX6_level_9 : decode cX6_level 9 = .ok (.getfield 12, 3) := by decide +kernel
theorem dX6_level_12 : decode cX6_level 12 = .ok (.aload_n 0, 1) := by decide +kernel
theorem dX6_level_13 : decode cX6_level 13 = .ok (.iload_n 1, 1) := by decide +kernel
theorem dX6_level_14 : decode cX6_level 14 = .ok (.invokevirtual 148, 3) := by decide +kernel
theorem dX6_level_17 : decode cX6_level 17 = .ok (.invokevirtual 142, 3) := by decide +kernel
theorem dX6_level_20 : decode cX6_level 20 = .ok (.goto 4, 3) := by decide +kernel
theorem dX6_level_23 : decode cX6_level 23 = .ok (.iconst (-1), 1) := by decide +kernel
theorem dX6_level_24 : decode cX6_level 24 = .ok (.ireturn, 1) := by decide +kernel
theorem dX6_entries_0 : decode cX6_entries 0 = .ok (.aload_n 0, 1) := by decide +kernel
theorem dX6_entries_1 : decode cX6_entries 1 = .ok (.iload_n 1, 1) := by decide +kernel
theorem dX6_entries_2 : decode cX6_entries 2 = .ok (.invokevirtual 145, 3) := by decide +kernel
theorem dX6_entries_5 : decode cX6_entries 5 = .ok (.ifCond .eq 18, 3) := by decide +kernel
theorem dX6_entries_8 : decode cX6_entries 8 = .ok (.aload_n 0, 1) := by decide +kernel
theorem dX6_entries_9 : decode cX6_entries 9 = .ok (.getfield 12, 3) := by decide +kernel
theorem dX6_entries_12 : decode cX6_entries 12 = .ok (.aload_n 0, 1) := by decide +kernel
theorem dX6_entries_13 : decode cX6_entries 13 = .ok (.iload_n 1, 1) := by decide +kernel
theorem dX6_entries_14 : decode cX6_entries 14 = .ok (.invokevirtual 148, 3) := by decide +kernel
theorem dX6_entries_17 : decode cX6_entries 17 = .ok (.invokevirtual 151, 3) := by decide +kernel
theorem dX6_entries_20 : decode cX6_entries 20 = .ok (.goto 4, 3) := by decide +kernel
theorem dX6_entries_23 : decode cX6_entries 23 = .ok (.iconst (-1), 1) := by decide +kernel
theorem dX6_entries_24 : decode cX6_entries 24 = .ok (.ireturn, 1) := by decide +kernel
theorem dX6_entry_0 : decode cX6_entry 0 = .ok (.aload_n 0, 1) := by decide +kernel
theorem dX6_entry_1 : decode cX6_entry 1 = .ok (.iload_n 1, 1) := by decide +kernel
theorem dX6_entry_2 : decode cX6_entry 2 = .ok (.invokevirtual 145, 3) := by decide +kernel
theorem dX6_entry_5 : decode cX6_entry 5 = .ok (.ifCond .ne 5, 3) := by decide +kernel
theorem dX6_entry_8 : decode cX6_entry 8 = .ok (.iconst (-1), 1) := by decide +kernel
theorem dX6_entry_9 : decode cX6_entry 9 = .ok (.ireturn, 1) := by decide +kernel
theorem dX6_entry_10 : decode cX6_entry 10 = .ok (.aload_n 0, 1) := by decide +kernel
theorem dX6_entry_11 : decode cX6_entry 11 = .ok (.iload_n 1, 1) := by decide +kernel
theorem dX6_entry_12 : decode cX6_entry 12 = .ok (.invokevirtual 148, 3) := by decide +kernel
theorem dX6_entry_15 : decode cX6_entry 15 = .ok (.istore_n 3, 1) := by decide +kernel
theorem dX6_entry_16 : decode cX6_entry 16 = .ok (.iload_n 2, 1) := by decide +kernel
theorem dX6_entry_17 : decode cX6_entry 17 = .ok (.ifCond .lt 15, 3) := by decide +kernel
theorem dX6_entry_20 : decode cX6_entry 20 = .ok (.iload_n 2, 1) := by decide +kernel
theorem dX6_entry_21 : decode cX6_entry 21 = .ok (.aload_n 0, 1) := by decide +kernel
theorem dX6_entry_22 : decode cX6_entry 22 = .ok (.getfield 12, 3) := by decide +kernel
theorem dX6_entry_25 : decode cX6_entry 25 = .ok (.iload_n 3, 1) := by decide +kernel
theorem dX6_entry_26 : decode cX6_entry 26 = .ok (.invokevirtual 151, 3) := by decide +kernel
theorem dX6_entry_29 : decode cX6_entry 29 = .ok (.if_icmp .lt 5, 3) := by decide +kernel
theorem dX6_entry_32 : decode cX6_entry 32 = .ok (.iconst (-1), 1) := by decide +kernel
theorem dX6_entry_33 : decode cX6_entry 33 = .ok (.ireturn, 1) := by decide +kernel
theorem dX6_entry_34 : decode cX6_entry 34 = .ok (.aload_n 0, 1) := by decide +kernel
theorem dX6_entry_35 : decode cX6_entry 35 = .ok (.getfield 12, 3) := by decide +kernel
theorem dX6_entry_38 : decode cX6_entry 38 = .ok (.iload_n 3, 1) := by decide +kernel
theorem dX6_entry_39 : decode cX6_entry 39 = .ok (.iload_n 2, 1) := by decide +kernel
theorem dX6_entry_40 : decode cX6_entry 40 = .ok (.invokevirtual 154, 3) := by decide +kernel
theorem dX6_entry_43 : decode cX6_entry 43 = .ok (.istore 4, 2) := by decide +kernel
theorem dX6_entry_45 : decode cX6_entry 45 = .ok (.iload 4, 2) := by decide +kernel
theorem dX6_entry_47 : decode cX6_entry 47 = .ok (.bipush 24, 2) := by decide +kernel
theorem dX6_entry_49 : decode cX6_entry 49 = .ok (.if_icmp .ge 8, 3) := by decide +kernel
theorem dX6_entry_52 : decode cX6_entry 52 = .ok (.iload 4, 2) := by decide +kernel
theorem dX6_entry_54 : decode cX6_entry 54 = .ok (.goto 12, 3) := by decide +kernel
theorem dX6_entry_57 : decode cX6_entry 57 = .ok (.aload_n 0, 1) := by decide +kernel
theorem dX6_entry_58 : decode cX6_entry 58 = .ok (.getfield 35, 3) := by decide +kernel
theorem dX6_entry_61 : decode cX6_entry 61 = .ok (.iload 4, 2) := by decide +kernel
theorem dX6_entry_63 : decode cX6_entry 63 = .ok (.invokevirtual 157, 3) := by decide +kernel
theorem dX6_entry_66 : decode cX6_entry 66 = .ok (.ireturn, 1) := by decide +kernel
theorem dX6_bound_0 : decode cX6_bound 0 = .ok (.aload_n 0, 1) := by decide +kernel
theorem dX6_bound_1 : decode cX6_bound 1 = .ok (.iload_n 1, 1) := by decide +kernel
theorem dX6_bound_2 : decode cX6_bound 2 = .ok (.invokevirtual 145, 3) := by decide +kernel
theorem dX6_bound_5 : decode cX6_bound 5 = .ok (.ifCond .ne 5, 3) := by decide +kernel
theorem dX6_bound_8 : decode cX6_bound 8 = .ok (.iconst (-1), 1) := by decide +kernel
theorem dX6_bound_9 : decode cX6_bound 9 = .ok (.ireturn, 1) := by decide +kernel
theorem dX6_bound_10 : decode cX6_bound 10 = .ok (.iload_n 2, 1) := by decide +kernel
theorem dX6_bound_11 : decode cX6_bound 11 = .ok (.ifCond .lt 8, 3) := by decide +kernel
theorem dX6_bound_14 : decode cX6_bound 14 = .ok (.iload_n 2, 1) := by decide +kernel
theorem dX6_bound_15 : decode cX6_bound 15 = .ok (.iconst 4, 1) := by decide +kernel
theorem dX6_bound_16 : decode cX6_bound 16 = .ok (.if_icmp .lt 6, 3) := by decide +kernel
theorem dX6_bound_19 : decode cX6_bound 19 = .ok (.bipush (-2), 2) := by decide +kernel
theorem dX6_bound_21 : decode cX6_bound 21 = .ok (.ireturn, 1) := by decide +kernel
theorem dX6_bound_22 : decode cX6_bound 22 = .ok (.aload_n 0, 1) := by decide +kernel
theorem dX6_bound_23 : decode cX6_bound 23 = .ok (.iload_n 1, 1) := by decide +kernel
theorem dX6_bound_24 : decode cX6_bound 24 = .ok (.invokevirtual 148, 3) := by decide +kernel
theorem dX6_bound_27 : decode cX6_bound 27 = .ok (.istore_n 3, 1) := by decide +kernel
theorem dX6_bound_28 : decode cX6_bound 28 = .ok (.aload_n 0, 1) := by decide +kernel
theorem dX6_bound_29 : decode cX6_bound 29 = .ok (.getfield 12, 3) := by decide +kernel
theorem dX6_bound_32 : decode cX6_bound 32 = .ok (.iload_n 3, 1) := by decide +kernel
theorem dX6_bound_33 : decode cX6_bound 33 = .ok (.invokevirtual 151, 3) := by decide +kernel
theorem dX6_bound_36 : decode cX6_bound 36 = .ok (.ifCond .ne 8, 3) := by decide +kernel
theorem dX6_bound_39 : decode cX6_bound 39 = .ok (.bipush (-5), 2) := by decide +kernel
theorem dX6_bound_41 : decode cX6_bound 41 = .ok (.goto 12, 3) := by decide +kernel
theorem dX6_bound_44 : decode cX6_bound 44 = .ok (.aload_n 0, 1) := by decide +kernel
theorem dX6_bound_45 : decode cX6_bound 45 = .ok (.getfield 12, 3) := by decide +kernel
theorem dX6_bound_48 : decode cX6_bound 48 = .ok (.iload_n 3, 1) := by decide +kernel
theorem dX6_bound_49 : decode cX6_bound 49 = .ok (.iload_n 2, 1) := by decide +kernel
theorem dX6_bound_50 : decode cX6_bound 50 = .ok (.invokevirtual 136, 3) := by decide +kernel
theorem dX6_bound_53 : decode cX6_bound 53 = .ok (.ireturn, 1) := by decide +kernel
theorem dX6_leafOf_0 : decode cX6_leafOf 0 = .ok (.aload_n 0, 1) := by decide +kernel
theorem dX6_leafOf_1 : decode cX6_leafOf 1 = .ok (.getfield 12, 3) := by decide +kernel
theorem dX6_leafOf_4 : decode cX6_leafOf 4 = .ok (.iload_n 1, 1) := by decide +kernel
theorem dX6_leafOf_5 : decode cX6_leafOf 5 = .ok (.invokevirtual 82, 3) := by decide +kernel
theorem dX6_leafOf_8 : decode cX6_leafOf 8 = .ok (.ifCond .eq 21, 3) := by decide +kernel
theorem dX6_leafOf_11 : decode cX6_leafOf 11 = .ok (.aload_n 0, 1) := by decide +kernel
theorem dX6_leafOf_12 : decode cX6_leafOf 12 = .ok (.getfield 35, 3) := by decide +kernel
theorem dX6_leafOf_15 : decode cX6_leafOf 15 = .ok (.aload_n 0, 1) := by decide +kernel
theorem dX6_leafOf_16 : decode cX6_leafOf 16 = .ok (.getfield 12, 3) := by decide +kernel
theorem dX6_leafOf_19 : decode cX6_leafOf 19 = .ok (.iload_n 1, 1) := by decide +kernel
theorem dX6_leafOf_20 : decode cX6_leafOf 20 = .ok (.invokevirtual 160, 3) := by decide +kernel
theorem dX6_leafOf_23 : decode cX6_leafOf 23 = .ok (.invokevirtual 157, 3) := by decide +kernel
theorem dX6_leafOf_26 : decode cX6_leafOf 26 = .ok (.goto 4, 3) := by decide +kernel
theorem dX6_leafOf_29 : decode cX6_leafOf 29 = .ok (.iconst (-1), 1) := by decide +kernel
theorem dX6_leafOf_30 : decode cX6_leafOf 30 = .ok (.ireturn, 1) := by decide +kernel
theorem dX6_setting_0 : decode cX6_setting 0 = .ok (.iload_n 1, 1) := by decide +kernel
theorem dX6_setting_1 : decode cX6_setting 1 = .ok (.ifCond .ne 11, 3) := by decide +kernel
theorem dX6_setting_4 : decode cX6_setting 4 = .ok (.aload_n 0, 1) := by decide +kernel
theorem dX6_setting_5 : decode cX6_setting 5 = .ok (.getfield 12, 3) := by decide +kernel
theorem dX6_setting_8 : decode cX6_setting 8 = .ok (.getfield 103, 3) := by decide +kernel
theorem dX6_setting_11 : decode cX6_setting 11 = .ok (.ireturn, 1) := by decide +kernel
theorem dX6_setting_12 : decode cX6_setting 12 = .ok (.iload_n 1, 1) := by decide +kernel
theorem dX6_setting_13 : decode cX6_setting 13 = .ok (.iconst 1, 1) := by decide +kernel
theorem dX6_setting_14 : decode cX6_setting 14 = .ok (.if_icmp .ne 13, 3) := by decide +kernel
theorem dX6_setting_17 : decode cX6_setting 17 = .ok (.aload_n 0, 1) := by decide +kernel
theorem dX6_setting_18 : decode cX6_setting 18 = .ok (.getfield 12, 3) := by decide +kernel
theorem dX6_setting_21 : decode cX6_setting 21 = .ok (.getfield 106, 3) := by decide +kernel
theorem dX6_setting_24 : decode cX6_setting 24 = .ok (.goto 4, 3) := by decide +kernel
theorem dX6_setting_27 : decode cX6_setting 27 = .ok (.iconst (-1), 1) := by decide +kernel
theorem dX6_setting_28 : decode cX6_setting 28 = .ok (.ireturn, 1) := by decide +kernel
theorem dX6_splits_0 : decode cX6_splits 0 = .ok (.aload_n 0, 1) := by decide +kernel
theorem dX6_splits_1 : decode cX6_splits 1 = .ok (.getfield 12, 3) := by decide +kernel
theorem dX6_splits_4 : decode cX6_splits 4 = .ok (.getfield 163, 3) := by decide +kernel
theorem dX6_splits_7 : decode cX6_splits 7 = .ok (.ireturn, 1) := by decide +kernel
theorem dX6_reinsertions_0 : decode cX6_reinsertions 0 = .ok (.aload_n 0, 1) := by decide +kernel
theorem dX6_reinsertions_1 : decode cX6_reinsertions 1 = .ok (.getfield 12, 3) := by decide +kernel
theorem dX6_reinsertions_4 : decode cX6_reinsertions 4 = .ok (.getfield 166, 3) := by decide +kernel
theorem dX6_reinsertions_7 : decode cX6_reinsertions 7 = .ok (.ireturn, 1) := by decide +kernel
theorem dX6_meeting_0 : decode cX6_meeting 0 = .ok (.iload_n 1, 1) := by decide +kernel
theorem dX6_meeting_1 : decode cX6_meeting 1 = .ok (.iload_n 2, 1) := by decide +kernel
theorem dX6_meeting_2 : decode cX6_meeting 2 = .ok (.iload_n 3, 1) := by decide +kernel
theorem dX6_meeting_3 : decode cX6_meeting 3 = .ok (.iload 4, 2) := by decide +kernel
theorem dX6_meeting_5 : decode cX6_meeting 5 = .ok (.invokestatic 63, 3) := by decide +kernel
theorem dX6_meeting_8 : decode cX6_meeting 8 = .ok (.ifCond .ne 6, 3) := by decide +kernel
theorem dX6_meeting_11 : decode cX6_meeting 11 = .ok (.bipush (-2), 2) := by decide +kernel
theorem dX6_meeting_13 : decode cX6_meeting 13 = .ok (.ireturn, 1) := by decide +kernel
theorem dX6_meeting_14 : decode cX6_meeting 14 = .ok (.iconst 0, 1) := by decide +kernel
theorem dX6_meeting_15 : decode cX6_meeting 15 = .ok (.istore 5, 2) := by decide +kernel
theorem dX6_meeting_17 : decode cX6_meeting 17 = .ok (.iconst 0, 1) := by decide +kernel
theorem dX6_meeting_18 : decode cX6_meeting 18 = .ok (.istore 6, 2) := by decide +kernel
theorem dX6_meeting_20 : decode cX6_meeting 20 = .ok (.iload 6, 2) := by decide +kernel
theorem dX6_meeting_22 : decode cX6_meeting 22 = .ok (.bipush 24, 2) := by decide +kernel
theorem dX6_meeting_24 : decode cX6_meeting 24 = .ok (.if_icmp .ge 41, 3) := by decide +kernel
theorem dX6_meeting_27 : decode cX6_meeting 27 = .ok (.aload_n 0, 1) := by decide +kernel
theorem dX6_meeting_28 : decode cX6_meeting 28 = .ok (.getfield 12, 3) := by decide +kernel
theorem dX6_meeting_31 : decode cX6_meeting 31 = .ok (.iload 6, 2) := by decide +kernel
theorem dX6_meeting_33 : decode cX6_meeting 33 = .ok (.invokevirtual 82, 3) := by decide +kernel
theorem dX6_meeting_36 : decode cX6_meeting 36 = .ok (.ifCond .eq 23, 3) := by decide +kernel
theorem dX6_meeting_39 : decode cX6_meeting 39 = .ok (.aload_n 0, 1) := by decide +kernel
theorem dX6_meeting_40 : decode cX6_meeting 40 = .ok (.getfield 12, 3) := by decide +kernel
theorem dX6_meeting_43 : decode cX6_meeting 43 = .ok (.iload 6, 2) := by decide +kernel
theorem dX6_meeting_45 : decode cX6_meeting 45 = .ok (.iload_n 1, 1) := by decide +kernel
theorem dX6_meeting_46 : decode cX6_meeting 46 = .ok (.iload_n 2, 1) := by decide +kernel
theorem dX6_meeting_47 : decode cX6_meeting 47 = .ok (.iload_n 3, 1) := by decide +kernel
theorem dX6_meeting_48 : decode cX6_meeting 48 = .ok (.iload 4, 2) := by decide +kernel
theorem dX6_meeting_50 : decode cX6_meeting 50 = .ok (.invokevirtual 169, 3) := by decide +kernel
theorem dX6_meeting_53 : decode cX6_meeting 53 = .ok (.ifCond .eq 6, 3) := by decide +kernel
theorem dX6_meeting_56 : decode cX6_meeting 56 = .ok (.iinc 5 1, 3) := by decide +kernel
theorem dX6_meeting_59 : decode cX6_meeting 59 = .ok (.iinc 6 1, 3) := by decide +kernel
theorem dX6_meeting_62 : decode cX6_meeting 62 = .ok (.goto (-42), 3) := by decide +kernel
theorem dX6_meeting_65 : decode cX6_meeting 65 = .ok (.iload 5, 2) := by decide +kernel
theorem dX6_meeting_67 : decode cX6_meeting 67 = .ok (.ireturn, 1) := by decide +kernel
theorem dX6_inside_0 : decode cX6_inside 0 = .ok (.iload_n 1, 1) := by decide +kernel
theorem dX6_inside_1 : decode cX6_inside 1 = .ok (.iload_n 2, 1) := by decide +kernel
theorem dX6_inside_2 : decode cX6_inside 2 = .ok (.iload_n 3, 1) := by decide +kernel
theorem dX6_inside_3 : decode cX6_inside 3 = .ok (.iload 4, 2) := by decide +kernel
theorem dX6_inside_5 : decode cX6_inside 5 = .ok (.invokestatic 63, 3) := by decide +kernel
theorem dX6_inside_8 : decode cX6_inside 8 = .ok (.ifCond .ne 6, 3) := by decide +kernel
theorem dX6_inside_11 : decode cX6_inside 11 = .ok (.bipush (-2), 2) := by decide +kernel
theorem dX6_inside_13 : decode cX6_inside 13 = .ok (.ireturn, 1) := by decide +kernel
theorem dX6_inside_14 : decode cX6_inside 14 = .ok (.iconst 0, 1) := by decide +kernel
theorem dX6_inside_15 : decode cX6_inside 15 = .ok (.istore 5, 2) := by decide +kernel
theorem dX6_inside_17 : decode cX6_inside 17 = .ok (.iconst 0, 1) := by decide +kernel
theorem dX6_inside_18 : decode cX6_inside 18 = .ok (.istore 6, 2) := by decide +kernel
theorem dX6_inside_20 : decode cX6_inside 20 = .ok (.iload 6, 2) := by decide +kernel
theorem dX6_inside_22 : decode cX6_inside 22 = .ok (.bipush 24, 2) := by decide +kernel
theorem dX6_inside_24 : decode cX6_inside 24 = .ok (.if_icmp .ge 47, 3) := by decide +kernel
theorem dX6_inside_27 : decode cX6_inside 27 = .ok (.aload_n 0, 1) := by decide +kernel
theorem dX6_inside_28 : decode cX6_inside 28 = .ok (.getfield 12, 3) := by decide +kernel
theorem dX6_inside_31 : decode cX6_inside 31 = .ok (.iload 6, 2) := by decide +kernel
theorem dX6_inside_33 : decode cX6_inside 33 = .ok (.invokevirtual 82, 3) := by decide +kernel
theorem dX6_inside_36 : decode cX6_inside 36 = .ok (.ifCond .eq 29, 3) := by decide +kernel
theorem dX6_inside_39 : decode cX6_inside 39 = .ok (.aload_n 0, 1) := by decide +kernel
theorem dX6_inside_40 : decode cX6_inside 40 = .ok (.getfield 12, 3) := by decide +kernel
theorem dX6_inside_43 : decode cX6_inside 43 = .ok (.iload 6, 2) := by decide +kernel
theorem dX6_inside_45 : decode cX6_inside 45 = .ok (.iload_n 1, 1) := by decide +kernel
theorem dX6_inside_46 : decode cX6_inside 46 = .ok (.iload_n 2, 1) := by decide +kernel
theorem dX6_inside_47 : decode cX6_inside 47 = .ok (.iload_n 3, 1) := by decide +kernel
theorem dX6_inside_48 : decode cX6_inside 48 = .ok (.iload 4, 2) := by decide +kernel
theorem dX6_inside_50 : decode cX6_inside 50 = .ok (.invokevirtual 173, 3) := by decide +kernel
theorem dX6_inside_53 : decode cX6_inside 53 = .ok (.ifCond .eq 12, 3) := by decide +kernel
theorem dX6_inside_56 : decode cX6_inside 56 = .ok (.iload 5, 2) := by decide +kernel
theorem dX6_inside_58 : decode cX6_inside 58 = .ok (.iconst 1, 1) := by decide +kernel
theorem dX6_inside_59 : decode cX6_inside 59 = .ok (.iload 6, 2) := by decide +kernel
theorem dX6_inside_61 : decode cX6_inside 61 = .ok (.ishl, 1) := by decide +kernel
theorem dX6_inside_62 : decode cX6_inside 62 = .ok (.ior, 1) := by decide +kernel
theorem dX6_inside_63 : decode cX6_inside 63 = .ok (.istore 5, 2) := by decide +kernel
theorem dX6_inside_65 : decode cX6_inside 65 = .ok (.iinc 6 1, 3) := by decide +kernel
theorem dX6_inside_68 : decode cX6_inside 68 = .ok (.goto (-48), 3) := by decide +kernel
theorem dX6_inside_71 : decode cX6_inside 71 = .ok (.iload 5, 2) := by decide +kernel
theorem dX6_inside_73 : decode cX6_inside 73 = .ok (.ireturn, 1) := by decide +kernel
theorem dX6_visits_0 : decode cX6_visits 0 = .ok (.iload_n 1, 1) := by decide +kernel
theorem dX6_visits_1 : decode cX6_visits 1 = .ok (.iload_n 2, 1) := by decide +kernel
theorem dX6_visits_2 : decode cX6_visits 2 = .ok (.iload_n 3, 1) := by decide +kernel
theorem dX6_visits_3 : decode cX6_visits 3 = .ok (.iload 4, 2) := by decide +kernel
theorem dX6_visits_5 : decode cX6_visits 5 = .ok (.invokestatic 63, 3) := by decide +kernel
theorem dX6_visits_8 : decode cX6_visits 8 = .ok (.ifCond .ne 6, 3) := by decide +kernel
theorem dX6_visits_11 : decode cX6_visits 11 = .ok (.bipush (-2), 2) := by decide +kernel
theorem dX6_visits_13 : decode cX6_visits 13 = .ok (.ireturn, 1) := by decide +kernel
theorem dX6_visits_14 : decode cX6_visits 14 = .ok (.iconst 1, 1) := by decide +kernel
theorem dX6_visits_15 : decode cX6_visits 15 = .ok (.istore 5, 2) := by decide +kernel
theorem dX6_visits_17 : decode cX6_visits 17 = .ok (.iconst 1, 1) := by decide +kernel
theorem dX6_visits_18 : decode cX6_visits 18 = .ok (.istore 6, 2) := by decide +kernel
theorem dX6_visits_20 : decode cX6_visits 20 = .ok (.iload 6, 2) := by decide +kernel
theorem dX6_visits_22 : decode cX6_visits 22 = .ok (.aload_n 0, 1) := by decide +kernel
theorem dX6_visits_23 : decode cX6_visits 23 = .ok (.getfield 35, 3) := by decide +kernel
theorem dX6_visits_26 : decode cX6_visits 26 = .ok (.getfield 95, 3) := by decide +kernel
theorem dX6_visits_29 : decode cX6_visits 29 = .ok (.if_icmp .ge 33, 3) := by decide +kernel
theorem dX6_visits_32 : decode cX6_visits 32 = .ok (.aload_n 0, 1) := by decide +kernel
theorem dX6_visits_33 : decode cX6_visits 33 = .ok (.getfield 12, 3) := by decide +kernel
theorem dX6_visits_36 : decode cX6_visits 36 = .ok (.aload_n 0, 1) := by decide +kernel
theorem dX6_visits_37 : decode cX6_visits 37 = .ok (.iload 6, 2) := by decide +kernel
theorem dX6_visits_39 : decode cX6_visits 39 = .ok (.invokevirtual 148, 3) := by decide +kernel
theorem dX6_visits_42 : decode cX6_visits 42 = .ok (.iload_n 1, 1) := by decide +kernel
theorem dX6_visits_43 : decode cX6_visits 43 = .ok (.iload_n 2, 1) := by decide +kernel
theorem dX6_visits_44 : decode cX6_visits 44 = .ok (.iload_n 3, 1) := by decide +kernel
theorem dX6_visits_45 : decode cX6_visits 45 = .ok (.iload 4, 2) := by decide +kernel
theorem dX6_visits_47 : decode cX6_visits 47 = .ok (.invokevirtual 169, 3) := by decide +kernel
theorem dX6_visits_50 : decode cX6_visits 50 = .ok (.ifCond .eq 6, 3) := by decide +kernel
theorem dX6_visits_53 : decode cX6_visits 53 = .ok (.iinc 5 1, 3) := by decide +kernel
theorem dX6_visits_56 : decode cX6_visits 56 = .ok (.iinc 6 1, 3) := by decide +kernel
theorem dX6_visits_59 : decode cX6_visits 59 = .ok (.goto (-39), 3) := by decide +kernel
theorem dX6_visits_62 : decode cX6_visits 62 = .ok (.iload 5, 2) := by decide +kernel
theorem dX6_visits_64 : decode cX6_visits 64 = .ok (.ireturn, 1) := by decide +kernel
theorem dX6_nearest_0 : decode cX6_nearest 0 = .ok (.iload_n 1, 1) := by decide +kernel
theorem dX6_nearest_1 : decode cX6_nearest 1 = .ok (.iload_n 2, 1) := by decide +kernel
theorem dX6_nearest_2 : decode cX6_nearest 2 = .ok (.iload_n 1, 1) := by decide +kernel
theorem dX6_nearest_3 : decode cX6_nearest 3 = .ok (.iload_n 2, 1) := by decide +kernel
theorem dX6_nearest_4 : decode cX6_nearest 4 = .ok (.invokestatic 63, 3) := by decide +kernel
theorem dX6_nearest_7 : decode cX6_nearest 7 = .ok (.ifCond .ne 6, 3) := by decide +kernel
theorem dX6_nearest_10 : decode cX6_nearest 10 = .ok (.bipush (-2), 2) := by decide +kernel
theorem dX6_nearest_12 : decode cX6_nearest 12 = .ok (.ireturn, 1) := by decide +kernel
theorem dX6_nearest_13 : decode cX6_nearest 13 = .ok (.bipush (-5), 2) := by decide +kernel
theorem dX6_nearest_15 : decode cX6_nearest 15 = .ok (.istore_n 3, 1) := by decide +kernel
theorem dX6_nearest_16 : decode cX6_nearest 16 = .ok (.iconst 0, 1) := by decide +kernel
theorem dX6_nearest_17 : decode cX6_nearest 17 = .ok (.istore 4, 2) := by decide +kernel
theorem dX6_nearest_19 : decode cX6_nearest 19 = .ok (.iconst 0, 1) := by decide +kernel
theorem dX6_nearest_20 : decode cX6_nearest 20 = .ok (.istore 5, 2) := by decide +kernel
theorem dX6_nearest_22 : decode cX6_nearest 22 = .ok (.iload 5, 2) := by decide +kernel
theorem dX6_nearest_24 : decode cX6_nearest 24 = .ok (.bipush 24, 2) := by decide +kernel
theorem dX6_nearest_26 : decode cX6_nearest 26 = .ok (.if_icmp .ge 57, 3) := by decide +kernel
theorem dX6_nearest_29 : decode cX6_nearest 29 = .ok (.aload_n 0, 1) := by decide +kernel
theorem dX6_nearest_30 : decode cX6_nearest 30 = .ok (.getfield 12, 3) := by decide +kernel
theorem dX6_nearest_33 : decode cX6_nearest 33 = .ok (.iload 5, 2) := by decide +kernel
theorem dX6_nearest_35 : decode cX6_nearest 35 = .ok (.invokevirtual 82, 3) := by decide +kernel
theorem dX6_nearest_38 : decode cX6_nearest 38 = .ok (.ifCond .ne 6, 3) := by decide +kernel
theorem dX6_nearest_41 : decode cX6_nearest 41 = .ok (.goto 36, 3) := by decide +kernel
theorem dX6_nearest_44 : decode cX6_nearest 44 = .ok (.aload_n 0, 1) := by decide +kernel
theorem dX6_nearest_45 : decode cX6_nearest 45 = .ok (.getfield 12, 3) := by decide +kernel
theorem dX6_nearest_48 : decode cX6_nearest 48 = .ok (.iload 5, 2) := by decide +kernel
theorem dX6_nearest_50 : decode cX6_nearest 50 = .ok (.iload_n 1, 1) := by decide +kernel
theorem dX6_nearest_51 : decode cX6_nearest 51 = .ok (.iload_n 2, 1) := by decide +kernel
theorem dX6_nearest_52 : decode cX6_nearest 52 = .ok (.invokevirtual 176, 3) := by decide +kernel
theorem dX6_nearest_55 : decode cX6_nearest 55 = .ok (.istore 6, 2) := by decide +kernel
theorem dX6_nearest_57 : decode cX6_nearest 57 = .ok (.iload_n 3, 1) := by decide +kernel
theorem dX6_nearest_58 : decode cX6_nearest 58 = .ok (.bipush (-5), 2) := by decide +kernel
theorem dX6_nearest_60 : decode cX6_nearest 60 = .ok (.if_icmp .eq 10, 3) := by decide +kernel
theorem dX6_nearest_63 : decode cX6_nearest 63 = .ok (.iload 6, 2) := by decide +kernel
theorem dX6_nearest_65 : decode cX6_nearest 65 = .ok (.iload 4, 2) := by decide +kernel
theorem dX6_nearest_67 : decode cX6_nearest 67 = .ok (.if_icmp .ge 10, 3) := by decide +kernel
theorem dX6_nearest_70 : decode cX6_nearest 70 = .ok (.iload 5, 2) := by decide +kernel
theorem dX6_nearest_72 : decode cX6_nearest 72 = .ok (.istore_n 3, 1) := by decide +kernel
theorem dX6_nearest_73 : decode cX6_nearest 73 = .ok (.iload 6, 2) := by decide +kernel
theorem dX6_nearest_75 : decode cX6_nearest 75 = .ok (.istore 4, 2) := by decide +kernel
theorem dX6_nearest_77 : decode cX6_nearest 77 = .ok (.iinc 5 1, 3) := by decide +kernel
theorem dX6_nearest_80 : decode cX6_nearest 80 = .ok (.goto (-58), 3) := by decide +kernel
theorem dX6_nearest_83 : decode cX6_nearest 83 = .ok (.iload_n 3, 1) := by decide +kernel
theorem dX6_nearest_84 : decode cX6_nearest 84 = .ok (.ireturn, 1) := by decide +kernel
theorem dX6_area_0 : decode cX6_area 0 = .ok (.iload_n 1, 1) := by decide +kernel
theorem dX6_area_1 : decode cX6_area 1 = .ok (.ifCond .lt 11, 3) := by decide +kernel
theorem dX6_area_4 : decode cX6_area 4 = .ok (.iload_n 1, 1) := by decide +kernel
theorem dX6_area_5 : decode cX6_area 5 = .ok (.aload_n 0, 1) := by decide +kernel
theorem dX6_area_6 : decode cX6_area 6 = .ok (.invokevirtual 180, 3) := by decide +kernel
theorem dX6_area_9 : decode cX6_area 9 = .ok (.if_icmp .le 5, 3) := by decide +kernel
theorem dX6_area_12 : decode cX6_area 12 = .ok (.iconst (-1), 1) := by decide +kernel
theorem dX6_area_13 : decode cX6_area 13 = .ok (.ireturn, 1) := by decide +kernel
theorem dX6_area_14 : decode cX6_area 14 = .ok (.iconst 0, 1) := by decide +kernel
theorem dX6_area_15 : decode cX6_area 15 = .ok (.istore_n 2, 1) := by decide +kernel
theorem dX6_area_16 : decode cX6_area 16 = .ok (.iconst 0, 1) := by decide +kernel
theorem dX6_area_17 : decode cX6_area 17 = .ok (.istore_n 3, 1) := by decide +kernel
theorem dX6_area_18 : decode cX6_area 18 = .ok (.iload_n 3, 1) := by decide +kernel
theorem dX6_area_19 : decode cX6_area 19 = .ok (.aload_n 0, 1) := by decide +kernel
theorem dX6_area_20 : decode cX6_area 20 = .ok (.getfield 35, 3) := by decide +kernel
theorem dX6_area_23 : decode cX6_area 23 = .ok (.getfield 95, 3) := by decide +kernel
theorem dX6_area_26 : decode cX6_area 26 = .ok (.if_icmp .ge 53, 3) := by decide +kernel
theorem dX6_area_29 : decode cX6_area 29 = .ok (.aload_n 0, 1) := by decide +kernel
theorem dX6_area_30 : decode cX6_area 30 = .ok (.iload_n 3, 1) := by decide +kernel
theorem dX6_area_31 : decode cX6_area 31 = .ok (.invokevirtual 148, 3) := by decide +kernel
theorem dX6_area_34 : decode cX6_area 34 = .ok (.istore 4, 2) := by decide +kernel
theorem dX6_area_36 : decode cX6_area 36 = .ok (.aload_n 0, 1) := by decide +kernel
theorem dX6_area_37 : decode cX6_area 37 = .ok (.getfield 12, 3) := by decide +kernel
theorem dX6_area_40 : decode cX6_area 40 = .ok (.iload 4, 2) := by decide +kernel
theorem dX6_area_42 : decode cX6_area 42 = .ok (.invokevirtual 142, 3) := by decide +kernel
theorem dX6_area_45 : decode cX6_area 45 = .ok (.iload_n 1, 1) := by decide +kernel
theorem dX6_area_46 : decode cX6_area 46 = .ok (.if_icmp .ne 27, 3) := by decide +kernel
theorem dX6_area_49 : decode cX6_area 49 = .ok (.aload_n 0, 1) := by decide +kernel
theorem dX6_area_50 : decode cX6_area 50 = .ok (.getfield 12, 3) := by decide +kernel
theorem dX6_area_53 : decode cX6_area 53 = .ok (.iload 4, 2) := by decide +kernel
theorem dX6_area_55 : decode cX6_area 55 = .ok (.invokevirtual 151, 3) := by decide +kernel
theorem dX6_area_58 : decode cX6_area 58 = .ok (.ifCond .le 15, 3) := by decide +kernel
theorem dX6_area_61 : decode cX6_area 61 = .ok (.iload_n 2, 1) := by decide +kernel
theorem dX6_area_62 : decode cX6_area 62 = .ok (.aload_n 0, 1) := by decide +kernel
theorem dX6_area_63 : decode cX6_area 63 = .ok (.getfield 12, 3) := by decide +kernel
theorem dX6_area_66 : decode cX6_area 66 = .ok (.iload 4, 2) := by decide +kernel
theorem dX6_area_68 : decode cX6_area 68 = .ok (.invokevirtual 183, 3) := by decide +kernel
theorem dX6_area_71 : decode cX6_area 71 = .ok (.iadd, 1) := by decide +kernel
theorem dX6_area_72 : decode cX6_area 72 = .ok (.istore_n 2, 1) := by decide +kernel
theorem dX6_area_73 : decode cX6_area 73 = .ok (.iinc 3 1, 3) := by decide +kernel
theorem dX6_area_76 : decode cX6_area 76 = .ok (.goto (-58), 3) := by decide +kernel
theorem dX6_area_79 : decode cX6_area 79 = .ok (.iload_n 2, 1) := by decide +kernel
theorem dX6_area_80 : decode cX6_area 80 = .ok (.ireturn, 1) := by decide +kernel
theorem dX6_overlap_0 : decode cX6_overlap 0 = .ok (.iload_n 1, 1) := by decide +kernel
theorem dX6_overlap_1 : decode cX6_overlap 1 = .ok (.ifCond .lt 11, 3) := by decide +kernel
theorem dX6_overlap_4 : decode cX6_overlap 4 = .ok (.iload_n 1, 1) := by decide +kernel
theorem dX6_overlap_5 : decode cX6_overlap 5 = .ok (.aload_n 0, 1) := by decide +kernel
theorem dX6_overlap_6 : decode cX6_overlap 6 = .ok (.invokevirtual 180, 3) := by decide +kernel
theorem dX6_overlap_9 : decode cX6_overlap 9 = .ok (.if_icmp .le 5, 3) := by decide +kernel
theorem dX6_overlap_12 : decode cX6_overlap 12 = .ok (.iconst (-1), 1) := by decide +kernel
theorem dX6_overlap_13 : decode cX6_overlap 13 = .ok (.ireturn, 1) := by decide +kernel
theorem dX6_overlap_14 : decode cX6_overlap 14 = .ok (.iconst 0, 1) := by decide +kernel
theorem dX6_overlap_15 : decode cX6_overlap 15 = .ok (.istore_n 2, 1) := by decide +kernel
theorem dX6_overlap_16 : decode cX6_overlap 16 = .ok (.iconst 1, 1) := by decide +kernel
theorem dX6_overlap_17 : decode cX6_overlap 17 = .ok (.istore_n 3, 1) := by decide +kernel
theorem dX6_overlap_18 : decode cX6_overlap 18 = .ok (.iload_n 3, 1) := by decide +kernel
theorem dX6_overlap_19 : decode cX6_overlap 19 = .ok (.aload_n 0, 1) := by decide +kernel
theorem dX6_overlap_20 : decode cX6_overlap 20 = .ok (.getfield 35, 3) := by decide +kernel
theorem dX6_overlap_23 : decode cX6_overlap 23 = .ok (.getfield 95, 3) := by decide +kernel
theorem dX6_overlap_26 : decode cX6_overlap 26 = .ok (.if_icmp .ge 34, 3) := by decide +kernel
theorem dX6_overlap_29 : decode cX6_overlap 29 = .ok (.aload_n 0, 1) := by decide +kernel
theorem dX6_overlap_30 : decode cX6_overlap 30 = .ok (.getfield 12, 3) := by decide +kernel
theorem dX6_overlap_33 : decode cX6_overlap 33 = .ok (.aload_n 0, 1) := by decide +kernel
theorem dX6_overlap_34 : decode cX6_overlap 34 = .ok (.iload_n 3, 1) := by decide +kernel
theorem dX6_overlap_35 : decode cX6_overlap 35 = .ok (.invokevirtual 148, 3) := by decide +kernel
theorem dX6_overlap_38 : decode cX6_overlap 38 = .ok (.invokevirtual 142, 3) := by decide +kernel
theorem dX6_overlap_41 : decode cX6_overlap 41 = .ok (.iload_n 1, 1) := by decide +kernel
theorem dX6_overlap_42 : decode cX6_overlap 42 = .ok (.if_icmp .ne 12, 3) := by decide +kernel
theorem dX6_overlap_45 : decode cX6_overlap 45 = .ok (.iload_n 2, 1) := by decide +kernel
theorem dX6_overlap_46 : decode cX6_overlap 46 = .ok (.aload_n 0, 1) := by decide +kernel
theorem dX6_overlap_47 : decode cX6_overlap 47 = .ok (.iload_n 3, 1) := by decide +kernel
theorem dX6_overlap_48 : decode cX6_overlap 48 = .ok (.iload_n 1, 1) := by decide +kernel
theorem dX6_overlap_49 : decode cX6_overlap 49 = .ok (.invokevirtual 186, 3) := by decide +kernel
theorem dX6_overlap_52 : decode cX6_overlap 52 = .ok (.iadd, 1) := by decide +kernel
theorem dX6_overlap_53 : decode cX6_overlap 53 = .ok (.istore_n 2, 1) := by decide +kernel
theorem dX6_overlap_54 : decode cX6_overlap 54 = .ok (.iinc 3 1, 3) := by decide +kernel
theorem dX6_overlap_57 : decode cX6_overlap 57 = .ok (.goto (-39), 3) := by decide +kernel
theorem dX6_overlap_60 : decode cX6_overlap 60 = .ok (.iload_n 2, 1) := by decide +kernel
theorem dX6_overlap_61 : decode cX6_overlap 61 = .ok (.ireturn, 1) := by decide +kernel
theorem dX6_fill_0 : decode cX6_fill 0 = .ok (.iconst 0, 1) := by decide +kernel
theorem dX6_fill_1 : decode cX6_fill 1 = .ok (.istore_n 1, 1) := by decide +kernel
theorem dX6_fill_2 : decode cX6_fill 2 = .ok (.iconst 0, 1) := by decide +kernel
theorem dX6_fill_3 : decode cX6_fill 3 = .ok (.istore_n 2, 1) := by decide +kernel
theorem dX6_fill_4 : decode cX6_fill 4 = .ok (.iload_n 2, 1) := by decide +kernel
theorem dX6_fill_5 : decode cX6_fill 5 = .ok (.aload_n 0, 1) := by decide +kernel
theorem dX6_fill_6 : decode cX6_fill 6 = .ok (.getfield 35, 3) := by decide +kernel
theorem dX6_fill_9 : decode cX6_fill 9 = .ok (.getfield 95, 3) := by decide +kernel
theorem dX6_fill_12 : decode cX6_fill 12 = .ok (.if_icmp .ge 24, 3) := by decide +kernel
theorem dX6_fill_15 : decode cX6_fill 15 = .ok (.iload_n 1, 1) := by decide +kernel
theorem dX6_fill_16 : decode cX6_fill 16 = .ok (.aload_n 0, 1) := by decide +kernel
theorem dX6_fill_17 : decode cX6_fill 17 = .ok (.getfield 12, 3) := by decide +kernel
theorem dX6_fill_20 : decode cX6_fill 20 = .ok (.aload_n 0, 1) := by decide +kernel
theorem dX6_fill_21 : decode cX6_fill 21 = .ok (.iload_n 2, 1) := by decide +kernel
theorem dX6_fill_22 : decode cX6_fill 22 = .ok (.invokevirtual 148, 3) := by decide +kernel
theorem dX6_fill_25 : decode cX6_fill 25 = .ok (.invokevirtual 151, 3) := by decide +kernel
theorem dX6_fill_28 : decode cX6_fill 28 = .ok (.iadd, 1) := by decide +kernel
theorem dX6_fill_29 : decode cX6_fill 29 = .ok (.istore_n 1, 1) := by decide +kernel
theorem dX6_fill_30 : decode cX6_fill 30 = .ok (.iinc 2 1, 3) := by decide +kernel
theorem dX6_fill_33 : decode cX6_fill 33 = .ok (.goto (-29), 3) := by decide +kernel
theorem dX6_fill_36 : decode cX6_fill 36 = .ok (.aload_n 0, 1) := by decide +kernel
theorem dX6_fill_37 : decode cX6_fill 37 = .ok (.getfield 35, 3) := by decide +kernel
theorem dX6_fill_40 : decode cX6_fill 40 = .ok (.getfield 95, 3) := by decide +kernel
theorem dX6_fill_43 : decode cX6_fill 43 = .ok (.aload_n 0, 1) := by decide +kernel
theorem dX6_fill_44 : decode cX6_fill 44 = .ok (.getfield 12, 3) := by decide +kernel
theorem dX6_fill_47 : decode cX6_fill 47 = .ok (.getfield 103, 3) := by decide +kernel
theorem dX6_fill_50 : decode cX6_fill 50 = .ok (.imul, 1) := by decide +kernel
theorem dX6_fill_51 : decode cX6_fill 51 = .ok (.istore_n 2, 1) := by decide +kernel
theorem dX6_fill_52 : decode cX6_fill 52 = .ok (.iload_n 2, 1) := by decide +kernel
theorem dX6_fill_53 : decode cX6_fill 53 = .ok (.ifCond .le 11, 3) := by decide +kernel
theorem dX6_fill_56 : decode cX6_fill 56 = .ok (.iload_n 1, 1) := by decide +kernel
theorem dX6_fill_57 : decode cX6_fill 57 = .ok (.i2f, 1) := by decide +kernel
theorem dX6_fill_58 : decode cX6_fill 58 = .ok (.iload_n 2, 1) := by decide +kernel
theorem dX6_fill_59 : decode cX6_fill 59 = .ok (.i2f, 1) := by decide +kernel
theorem dX6_fill_60 : decode cX6_fill 60 = .ok (.fdiv, 1) := by decide +kernel
theorem dX6_fill_61 : decode cX6_fill 61 = .ok (.goto 4, 3) := by decide +kernel
theorem dX6_fill_64 : decode cX6_fill 64 = .ok (.fconst 0, 1) := by decide +kernel
theorem dX6_fill_65 : decode cX6_fill 65 = .ok (.freturn, 1) := by decide +kernel
theorem dX6_overlapWithEarlier_0 : decode cX6_overlapWithEarlier 0 = .ok (.iconst 0, 1) := by decide +kernel
theorem dX6_overlapWithEarlier_1 : decode cX6_overlapWithEarlier 1 = .ok (.istore_n 3, 1) := by decide +kernel
theorem dX6_overlapWithEarlier_2 : decode cX6_overlapWithEarlier 2 = .ok (.iconst 0, 1) := by decide +kernel
theorem dX6_overlapWithEarlier_3 : decode cX6_overlapWithEarlier 3 = .ok (.istore 4, 2) := by decide +kernel
theorem dX6_overlapWithEarlier_5 : decode cX6_overlapWithEarlier 5 = .ok (.iload 4, 2) := by decide +kernel
theorem dX6_overlapWithEarlier_7 : decode cX6_overlapWithEarlier 7 = .ok (.iload_n 1, 1) := by decide +kernel
theorem dX6_overlapWithEarlier_8 : decode cX6_overlapWithEarlier 8 = .ok (.if_icmp .ge 47, 3) := by decide +kernel
theorem dX6_overlapWithEarlier_11 : decode cX6_overlapWithEarlier 11 = .ok (.aload_n 0, 1) := by decide +kernel
theorem dX6_overlapWithEarlier_12 : decode cX6_overlapWithEarlier 12 = .ok (.getfield 12, 3) := by decide +kernel
theorem dX6_overlapWithEarlier_15 : decode cX6_overlapWithEarlier 15 = .ok (.aload_n 0, 1) := by decide +kernel
theorem dX6_overlapWithEarlier_16 : decode cX6_overlapWithEarlier 16 = .ok (.iload 4, 2) := by decide +kernel
theorem dX6_overlapWithEarlier_18 : decode cX6_overlapWithEarlier 18 = .ok (.invokevirtual 148, 3) := by decide +kernel
theorem dX6_overlapWithEarlier_21 : decode cX6_overlapWithEarlier 21 = .ok (.invokevirtual 142, 3) := by decide +kernel
theorem dX6_overlapWithEarlier_24 : decode cX6_overlapWithEarlier 24 = .ok (.iload_n 2, 1) := by decide +kernel
theorem dX6_overlapWithEarlier_25 : decode cX6_overlapWithEarlier 25 = .ok (.if_icmp .ne 24, 3) := by decide +kernel
theorem dX6_overlapWithEarlier_28 : decode cX6_overlapWithEarlier 28 = .ok (.iload_n 3, 1) := by decide +kernel
theorem dX6_overlapWithEarlier_29 : decode cX6_overlapWithEarlier 29 = .ok (.aload_n 0, 1) := by decide +kernel
theorem dX6_overlapWithEarlier_30 : decode cX6_overlapWithEarlier 30 = .ok (.getfield 12, 3) := by decide +kernel
theorem dX6_overlapWithEarlier_33 : decode cX6_overlapWithEarlier 33 = .ok (.aload_n 0, 1) := by decide +kernel
theorem dX6_overlapWithEarlier_34 : decode cX6_overlapWithEarlier 34 = .ok (.iload 4, 2) := by decide +kernel
theorem dX6_overlapWithEarlier_36 : decode cX6_overlapWithEarlier 36 = .ok (.invokevirtual 148, 3) := by decide +kernel
theorem dX6_overlapWithEarlier_39 : decode cX6_overlapWithEarlier 39 = .ok (.aload_n 0, 1) := by decide +kernel
theorem dX6_overlapWithEarlier_40 : decode cX6_overlapWithEarlier 40 = .ok (.iload_n 1, 1) := by decide +kernel
theorem dX6_overlapWithEarlier_41 : decode cX6_overlapWithEarlier 41 = .ok (.invokevirtual 148, 3) := by decide +kernel
theorem dX6_overlapWithEarlier_44 : decode cX6_overlapWithEarlier 44 = .ok (.invokevirtual 189, 3) := by decide +kernel
theorem dX6_overlapWithEarlier_47 : decode cX6_overlapWithEarlier 47 = .ok (.iadd, 1) := by decide +kernel
theorem dX6_overlapWithEarlier_48 : decode cX6_overlapWithEarlier 48 = .ok (.istore_n 3, 1) := by decide +kernel
theorem dX6_overlapWithEarlier_49 : decode cX6_overlapWithEarlier 49 = .ok (.iinc 4 1, 3) := by decide +kernel
theorem dX6_overlapWithEarlier_52 : decode cX6_overlapWithEarlier 52 = .ok (.goto (-47), 3) := by decide +kernel
theorem dX6_overlapWithEarlier_55 : decode cX6_overlapWithEarlier 55 = .ok (.iload_n 3, 1) := by decide +kernel
theorem dX6_overlapWithEarlier_56 : decode cX6_overlapWithEarlier 56 = .ok (.ireturn, 1) := by decide +kernel
theorem dX6_numberNodes_0 : decode cX6_numberNodes 0 = .ok (.aload_n 0, 1) := by decide +kernel
theorem dX6_numberNodes_1 : decode cX6_numberNodes 1 = .ok (.getfield 35, 3) := by decide +kernel
theorem dX6_numberNodes_4 : decode cX6_numberNodes 4 = .ok (.aload_n 0, 1) := by decide +kernel
theorem dX6_numberNodes_5 : decode cX6_numberNodes 5 = .ok (.getfield 12, 3) := by decide +kernel
theorem dX6_numberNodes_8 : decode cX6_numberNodes 8 = .ok (.aload_n 0, 1) := by decide +kernel
theorem dX6_numberNodes_9 : decode cX6_numberNodes 9 = .ok (.getfield 12, 3) := by decide +kernel
theorem dX6_numberNodes_12 : decode cX6_numberNodes 12 = .ok (.getfield 139, 3) := by decide +kernel
theorem dX6_numberNodes_15 : decode cX6_numberNodes 15 = .ok (.iconst 1, 1) := by decide +kernel
theorem dX6_numberNodes_16 : decode cX6_numberNodes 16 = .ok (.invokevirtual 192, 3) := by decide +kernel
theorem dX6_numberNodes_19 : decode cX6_numberNodes 19 = .ok (.return_, 1) := by decide +kernel
theorem dX6_hasNode_0 : decode cX6_hasNode 0 = .ok (.iload_n 1, 1) := by decide +kernel
theorem dX6_hasNode_1 : decode cX6_hasNode 1 = .ok (.ifCond .lt 18, 3) := by decide +kernel
theorem dX6_hasNode_4 : decode cX6_hasNode 4 = .ok (.iload_n 1, 1) := by decide +kernel
theorem dX6_hasNode_5 : decode cX6_hasNode 5 = .ok (.aload_n 0, 1) := by decide +kernel
theorem dX6_hasNode_6 : decode cX6_hasNode 6 = .ok (.getfield 35, 3) := by decide +kernel
theorem dX6_hasNode_9 : decode cX6_hasNode 9 = .ok (.getfield 95, 3) := by decide +kernel
theorem dX6_hasNode_12 : decode cX6_hasNode 12 = .ok (.if_icmp .ge 7, 3) := by decide +kernel
theorem dX6_hasNode_15 : decode cX6_hasNode 15 = .ok (.iconst 1, 1) := by decide +kernel
theorem dX6_hasNode_16 : decode cX6_hasNode 16 = .ok (.goto 4, 3) := by decide +kernel
theorem dX6_hasNode_19 : decode cX6_hasNode 19 = .ok (.iconst 0, 1) := by decide +kernel
theorem dX6_hasNode_20 : decode cX6_hasNode 20 = .ok (.ireturn, 1) := by decide +kernel
theorem dX6_nodeAt_0 : decode cX6_nodeAt 0 = .ok (.aload_n 0, 1) := by decide +kernel
theorem dX6_nodeAt_1 : decode cX6_nodeAt 1 = .ok (.getfield 35, 3) := by decide +kernel
theorem dX6_nodeAt_4 : decode cX6_nodeAt 4 = .ok (.getfield 196, 3) := by decide +kernel
theorem dX6_nodeAt_7 : decode cX6_nodeAt 7 = .ok (.iload_n 1, 1) := by decide +kernel
theorem dX6_nodeAt_8 : decode cX6_nodeAt 8 = .ok (.invokestatic 200, 3) := by decide +kernel
theorem dX6_nodeAt_11 : decode cX6_nodeAt 11 = .ok (.ireturn, 1) := by decide +kernel
theorem dX6_isRectangle_0 : decode cX6_isRectangle 0 = .ok (.iload_n 0, 1) := by decide +kernel
theorem dX6_isRectangle_1 : decode cX6_isRectangle 1 = .ok (.iload_n 2, 1) := by decide +kernel
theorem dX6_isRectangle_2 : decode cX6_isRectangle 2 = .ok (.invokestatic 204, 3) := by decide +kernel
theorem dX6_isRectangle_5 : decode cX6_isRectangle 5 = .ok (.ifCond .eq 15, 3) := by decide +kernel
theorem dX6_isRectangle_8 : decode cX6_isRectangle 8 = .ok (.iload_n 1, 1) := by decide +kernel
theorem dX6_isRectangle_9 : decode cX6_isRectangle 9 = .ok (.iload_n 3, 1) := by decide +kernel
theorem dX6_isRectangle_10 : decode cX6_isRectangle 10 = .ok (.invokestatic 204, 3) := by decide +kernel
theorem dX6_isRectangle_13 : decode cX6_isRectangle 13 = .ok (.ifCond .eq 7, 3) := by decide +kernel
theorem dX6_isRectangle_16 : decode cX6_isRectangle 16 = .ok (.iconst 1, 1) := by decide +kernel
theorem dX6_isRectangle_17 : decode cX6_isRectangle 17 = .ok (.goto 4, 3) := by decide +kernel
theorem dX6_isRectangle_20 : decode cX6_isRectangle 20 = .ok (.iconst 0, 1) := by decide +kernel
theorem dX6_isRectangle_21 : decode cX6_isRectangle 21 = .ok (.ireturn, 1) := by decide +kernel
theorem dX6_isSpan_0 : decode cX6_isSpan 0 = .ok (.iload_n 0, 1) := by decide +kernel
theorem dX6_isSpan_1 : decode cX6_isSpan 1 = .ok (.ifCond .lt 18, 3) := by decide +kernel
theorem dX6_isSpan_4 : decode cX6_isSpan 4 = .ok (.iload_n 0, 1) := by decide +kernel
theorem dX6_isSpan_5 : decode cX6_isSpan 5 = .ok (.iload_n 1, 1) := by decide +kernel
theorem dX6_isSpan_6 : decode cX6_isSpan 6 = .ok (.if_icmp .gt 13, 3) := by decide +kernel
theorem dX6_isSpan_9 : decode cX6_isSpan 9 = .ok (.iload_n 1, 1) := by decide +kernel
theorem dX6_isSpan_10 : decode cX6_isSpan 10 = .ok (.bipush 99, 2) := by decide +kernel
theorem dX6_isSpan_12 : decode cX6_isSpan 12 = .ok (.if_icmp .gt 7, 3) := by decide +kernel
theorem dX6_isSpan_15 : decode cX6_isSpan 15 = .ok (.iconst 1, 1) := by decide +kernel
theorem dX6_isSpan_16 : decode cX6_isSpan 16 = .ok (.goto 4, 3) := by decide +kernel
theorem dX6_isSpan_19 : decode cX6_isSpan 19 = .ok (.iconst 0, 1) := by decide +kernel
theorem dX6_isSpan_20 : decode cX6_isSpan 20 = .ok (.ireturn, 1) := by decide +kernel
theorem dX6_at_0 : decode cX6_at 0 = .ok (.iload_n 1, 1) := by decide +kernel
theorem dX6_at_1 : decode cX6_at 1 = .ok (.ifCond .lt 15, 3) := by decide +kernel
theorem dX6_at_4 : decode cX6_at 4 = .ok (.iload_n 1, 1) := by decide +kernel
theorem dX6_at_5 : decode cX6_at 5 = .ok (.aload_n 0, 1) := by decide +kernel
theorem dX6_at_6 : decode cX6_at 6 = .ok (.arraylength, 1) := by decide +kernel
theorem dX6_at_7 : decode cX6_at 7 = .ok (.if_icmp .ge 9, 3) := by decide +kernel
theorem dX6_at_10 : decode cX6_at 10 = .ok (.aload_n 0, 1) := by decide +kernel
theorem dX6_at_11 : decode cX6_at 11 = .ok (.iload_n 1, 1) := by decide +kernel
theorem dX6_at_12 : decode cX6_at 12 = .ok (.iaload, 1) := by decide +kernel
theorem dX6_at_13 : decode cX6_at 13 = .ok (.goto 4, 3) := by decide +kernel
theorem dX6_at_16 : decode cX6_at 16 = .ok (.iconst (-1), 1) := by decide +kernel
theorem dX6_at_17 : decode cX6_at 17 = .ok (.ireturn, 1) := by decide +kernel
theorem dX6_put_0 : decode cX6_put 0 = .ok (.iload_n 1, 1) := by decide +kernel
theorem dX6_put_1 : decode cX6_put 1 = .ok (.ifCond .lt 13, 3) := by decide +kernel
theorem dX6_put_4 : decode cX6_put 4 = .ok (.iload_n 1, 1) := by decide +kernel
theorem dX6_put_5 : decode cX6_put 5 = .ok (.aload_n 0, 1) := by decide +kernel
theorem dX6_put_6 : decode cX6_put 6 = .ok (.arraylength, 1) := by decide +kernel
theorem dX6_put_7 : decode cX6_put 7 = .ok (.if_icmp .ge 7, 3) := by decide +kernel
theorem dX6_put_10 : decode cX6_put 10 = .ok (.aload_n 0, 1) := by decide +kernel
theorem dX6_put_11 : decode cX6_put 11 = .ok (.iload_n 1, 1) := by decide +kernel
theorem dX6_put_12 : decode cX6_put 12 = .ok (.iload_n 2, 1) := by decide +kernel
theorem dX6_put_13 : decode cX6_put 13 = .ok (.iastore, 1) := by decide +kernel
theorem dX6_put_14 : decode cX6_put 14 = .ok (.return_, 1) := by decide +kernel
theorem dX7_init_0 : decode cX7_init 0 = .ok (.aload_n 0, 1) := by decide +kernel
theorem dX7_init_1 : decode cX7_init 1 = .ok (.invokespecial 1, 3) := by decide +kernel
theorem dX7_init_4 : decode cX7_init 4 = .ok (.aload_n 0, 1) := by decide +kernel
theorem dX7_init_5 : decode cX7_init 5 = .ok (.sipush 461, 3) := by decide +kernel
theorem dX7_init_8 : decode cX7_init 8 = .ok (.newarray .int, 2) := by decide +kernel
theorem dX7_init_10 : decode cX7_init 10 = .ok (.putfield 7, 3) := by decide +kernel
theorem dX7_init_13 : decode cX7_init 13 = .ok (.aload_n 0, 1) := by decide +kernel
theorem dX7_init_14 : decode cX7_init 14 = .ok (.sipush 1844, 3) := by decide +kernel
theorem dX7_init_17 : decode cX7_init 17 = .ok (.newarray .int, 2) := by decide +kernel
theorem dX7_init_19 : decode cX7_init 19 = .ok (.putfield 13, 3) := by decide +kernel
theorem dX7_init_22 : decode cX7_init 22 = .ok (.aload_n 0, 1) := by decide +kernel
theorem dX7_init_23 : decode cX7_init 23 = .ok (.sipush 461, 3) := by decide +kernel
theorem dX7_init_26 : decode cX7_init 26 = .ok (.newarray .int, 2) := by decide +kernel
theorem dX7_init_28 : decode cX7_init 28 = .ok (.putfield 16, 3) := by decide +kernel
theorem dX7_init_31 : decode cX7_init 31 = .ok (.aload_n 0, 1) := by decide +kernel
theorem dX7_init_32 : decode cX7_init 32 = .ok (.bipush 80, 2) := by decide +kernel
theorem dX7_init_34 : decode cX7_init 34 = .ok (.newarray .int, 2) := by decide +kernel
theorem dX7_init_36 : decode cX7_init 36 = .ok (.putfield 19, 3) := by decide +kernel
theorem dX7_init_39 : decode cX7_init 39 = .ok (.aload_n 0, 1) := by decide +kernel
theorem dX7_init_40 : decode cX7_init 40 = .ok (.bipush 48, 2) := by decide +kernel
theorem dX7_init_42 : decode cX7_init 42 = .ok (.newarray .int, 2) := by decide +kernel
theorem dX7_init_44 : decode cX7_init 44 = .ok (.putfield 22, 3) := by decide +kernel
theorem dX7_init_47 : decode cX7_init 47 = .ok (.aload_n 0, 1) := by decide +kernel
theorem dX7_init_48 : decode cX7_init 48 = .ok (.sipush 360, 3) := by decide +kernel
theorem dX7_init_51 : decode cX7_init 51 = .ok (.newarray .int, 2) := by decide +kernel
theorem dX7_init_53 : decode cX7_init 53 = .ok (.putfield 25, 3) := by decide +kernel
theorem dX7_init_56 : decode cX7_init 56 = .ok (.aload_n 0, 1) := by decide +kernel
theorem dX7_init_57 : decode cX7_init 57 = .ok (.bipush 24, 2) := by decide +kernel
theorem dX7_init_59 : decode cX7_init 59 = .ok (.newarray .boolean, 2) := by decide +kernel
theorem dX7_init_61 : decode cX7_init 61 = .ok (.putfield 28, 3) := by decide +kernel
theorem dX7_init_64 : decode cX7_init 64 = .ok (.aload_n 0, 1) := by decide +kernel
theorem dX7_init_65 : decode cX7_init 65 = .ok (.bipush 9, 2) := by decide +kernel
theorem dX7_init_67 : decode cX7_init 67 = .ok (.newarray .int, 2) := by decide +kernel
theorem dX7_init_69 : decode cX7_init 69 = .ok (.putfield 32, 3) := by decide +kernel
theorem dX7_init_72 : decode cX7_init 72 = .ok (.aload_n 0, 1) := by decide +kernel
theorem dX7_init_73 : decode cX7_init 73 = .ok (.bipush 8, 2) := by decide +kernel
theorem dX7_init_75 : decode cX7_init 75 = .ok (.newarray .int, 2) := by decide +kernel
theorem dX7_init_77 : decode cX7_init 77 = .ok (.putfield 35, 3) := by decide +kernel
theorem dX7_init_80 : decode cX7_init 80 = .ok (.aload_n 0, 1) := by decide +kernel
theorem dX7_init_81 : decode cX7_init 81 = .ok (.bipush 8, 2) := by decide +kernel
theorem dX7_init_83 : decode cX7_init 83 = .ok (.newarray .int, 2) := by decide +kernel
theorem dX7_init_85 : decode cX7_init 85 = .ok (.putfield 38, 3) := by decide +kernel
theorem dX7_init_88 : decode cX7_init 88 = .ok (.aload_n 0, 1) := by decide +kernel
theorem dX7_init_89 : decode cX7_init 89 = .ok (.iconst 2, 1) := by decide +kernel
theorem dX7_init_90 : decode cX7_init 90 = .ok (.newarray .int, 2) := by decide +kernel
theorem dX7_init_92 : decode cX7_init 92 = .ok (.putfield 41, 3) := by decide +kernel
theorem dX7_init_95 : decode cX7_init 95 = .ok (.aload_n 0, 1) := by decide +kernel
theorem dX7_init_96 : decode cX7_init 96 = .ok (.sipush 360, 3) := by decide +kernel
theorem dX7_init_99 : decode cX7_init 99 = .ok (.newarray .int, 2) := by decide +kernel
theorem dX7_init_101 : decode cX7_init 101 = .ok (.putfield 44, 3) := by decide +kernel
theorem dX7_init_104 : decode cX7_init 104 = .ok (.aload_n 0, 1) := by decide +kernel
theorem dX7_init_105 : decode cX7_init 105 = .ok (.sipush 360, 3) := by decide +kernel
theorem dX7_init_108 : decode cX7_init 108 = .ok (.newarray .int, 2) := by decide +kernel
theorem dX7_init_110 : decode cX7_init 110 = .ok (.putfield 47, 3) := by decide +kernel
theorem dX7_init_113 : decode cX7_init 113 = .ok (.aload_n 0, 1) := by decide +kernel
theorem dX7_init_114 : decode cX7_init 114 = .ok (.bipush 65, 2) := by decide +kernel
theorem dX7_init_116 : decode cX7_init 116 = .ok (.newarray .int, 2) := by decide +kernel
theorem dX7_init_118 : decode cX7_init 118 = .ok (.putfield 50, 3) := by decide +kernel
theorem dX7_init_121 : decode cX7_init 121 = .ok (.aload_n 0, 1) := by decide +kernel
theorem dX7_init_122 : decode cX7_init 122 = .ok (.bipush 64, 2) := by decide +kernel
theorem dX7_init_124 : decode cX7_init 124 = .ok (.newarray .int, 2) := by decide +kernel
theorem dX7_init_126 : decode cX7_init 126 = .ok (.putfield 53, 3) := by decide +kernel
theorem dX7_init_129 : decode cX7_init 129 = .ok (.aload_n 0, 1) := by decide +kernel
theorem dX7_init_130 : decode cX7_init 130 = .ok (.bipush 24, 2) := by decide +kernel
theorem dX7_init_132 : decode cX7_init 132 = .ok (.newarray .int, 2) := by decide +kernel
theorem dX7_init_134 : decode cX7_init 134 = .ok (.putfield 56, 3) := by decide +kernel
theorem dX7_init_137 : decode cX7_init 137 = .ok (.aload_n 0, 1) := by decide +kernel
theorem dX7_init_138 : decode cX7_init 138 = .ok (.bipush 44, 2) := by decide +kernel
theorem dX7_init_140 : decode cX7_init 140 = .ok (.newarray .int, 2) := by decide +kernel
theorem dX7_init_142 : decode cX7_init 142 = .ok (.putfield 59, 3) := by decide +kernel
theorem dX7_init_145 : decode cX7_init 145 = .ok (.aload_n 0, 1) := by decide +kernel
theorem dX7_init_146 : decode cX7_init 146 = .ok (.sipush 360, 3) := by decide +kernel
theorem dX7_init_149 : decode cX7_init 149 = .ok (.newarray .boolean, 2) := by decide +kernel
theorem dX7_init_151 : decode cX7_init 151 = .ok (.putfield 62, 3) := by decide +kernel
theorem dX7_init_154 : decode cX7_init 154 = .ok (.aload_n 0, 1) := by decide +kernel
theorem dX7_init_155 : decode cX7_init 155 = .ok (.getfield 7, 3) := by decide +kernel
theorem dX7_init_158 : decode cX7_init 158 = .ok (.iconst 0, 1) := by decide +kernel
theorem dX7_init_159 : decode cX7_init 159 = .ok (.iconst 4, 1) := by decide +kernel
theorem dX7_init_160 : decode cX7_init 160 = .ok (.iastore, 1) := by decide +kernel
theorem dX7_init_161 : decode cX7_init 161 = .ok (.aload_n 0, 1) := by decide +kernel
theorem dX7_init_162 : decode cX7_init 162 = .ok (.getfield 7, 3) := by decide +kernel
theorem dX7_init_165 : decode cX7_init 165 = .ok (.iconst 1, 1) := by decide +kernel
theorem dX7_init_166 : decode cX7_init 166 = .ok (.iconst 1, 1) := by decide +kernel
theorem dX7_init_167 : decode cX7_init 167 = .ok (.iastore, 1) := by decide +kernel
theorem dX7_init_168 : decode cX7_init 168 = .ok (.aload_n 0, 1) := by decide +kernel
theorem dX7_init_169 : decode cX7_init 169 = .ok (.getfield 7, 3) := by decide +kernel
theorem dX7_init_172 : decode cX7_init 172 = .ok (.iconst 4, 1) := by decide +kernel
theorem dX7_init_173 : decode cX7_init 173 = .ok (.iconst 1, 1) := by decide +kernel
theorem dX7_init_174 : decode cX7_init 174 = .ok (.iastore, 1) := by decide +kernel
theorem dX7_init_175 : decode cX7_init 175 = .ok (.aload_n 0, 1) := by decide +kernel
theorem dX7_init_176 : decode cX7_init 176 = .ok (.getfield 7, 3) := by decide +kernel
theorem dX7_init_179 : decode cX7_init 179 = .ok (.bipush 101, 2) := by decide +kernel
theorem dX7_init_181 : decode cX7_init 181 = .ok (.iconst (-1), 1) := by decide +kernel
theorem dX7_init_182 : decode cX7_init 182 = .ok (.iastore, 1) := by decide +kernel
theorem dX7_init_183 : decode cX7_init 183 = .ok (.iconst 0, 1) := by decide +kernel
theorem dX7_init_184 : decode cX7_init 184 = .ok (.istore_n 1, 1) := by decide +kernel
theorem dX7_init_185 : decode cX7_init 185 = .ok (.iload_n 1, 1) := by decide +kernel
theorem dX7_init_186 : decode cX7_init 186 = .ok (.bipush 24, 2) := by decide +kernel
theorem dX7_init_188 : decode cX7_init 188 = .ok (.if_icmp .ge 20, 3) := by decide +kernel
theorem dX7_init_191 : decode cX7_init 191 = .ok (.aload_n 0, 1) := by decide +kernel
theorem dX7_init_192 : decode cX7_init 192 = .ok (.getfield 7, 3) := by decide +kernel
theorem dX7_init_195 : decode cX7_init 195 = .ok (.iconst 5, 1) := by decide +kernel
theorem dX7_init_196 : decode cX7_init 196 = .ok (.iconst 4, 1) := by decide +kernel
theorem dX7_init_197 : decode cX7_init 197 = .ok (.iload_n 1, 1) := by decide +kernel
theorem dX7_init_198 : decode cX7_init 198 = .ok (.imul, 1) := by decide +kernel
theorem dX7_init_199 : decode cX7_init 199 = .ok (.iadd, 1) := by decide +kernel
theorem dX7_init_200 : decode cX7_init 200 = .ok (.iconst (-1), 1) := by decide +kernel
theorem dX7_init_201 : decode cX7_init 201 = .ok (.iastore, 1) := by decide +kernel
theorem dX7_init_202 : decode cX7_init 202 = .ok (.iinc 1 1, 3) := by decide +kernel
theorem dX7_init_205 : decode cX7_init 205 = .ok (.goto (-20), 3) := by decide +kernel
theorem dX7_init_208 : decode cX7_init 208 = .ok (.return_, 1) := by decide +kernel
theorem dX7_in_0 : decode cX7_in 0 = .ok (.iload_n 0, 1) := by decide +kernel
theorem dX7_in_1 : decode cX7_in 1 = .ok (.iload_n 1, 1) := by decide +kernel
theorem dX7_in_2 : decode cX7_in 2 = .ok (.if_icmp .lt 12, 3) := by decide +kernel
theorem dX7_in_5 : decode cX7_in 5 = .ok (.iload_n 0, 1) := by decide +kernel
theorem dX7_in_6 : decode cX7_in 6 = .ok (.iload_n 2, 1) := by decide +kernel
theorem dX7_in_7 : decode cX7_in 7 = .ok (.if_icmp .gt 7, 3) := by decide +kernel
theorem dX7_in_10 : decode cX7_in 10 = .ok (.iconst 1, 1) := by decide +kernel
theorem dX7_in_11 : decode cX7_in 11 = .ok (.goto 4, 3) := by decide +kernel
theorem dX7_in_14 : decode cX7_in 14 = .ok (.iconst 0, 1) := by decide +kernel
theorem dX7_in_15 : decode cX7_in 15 = .ok (.ireturn, 1) := by decide +kernel
theorem dX7_records_0 : decode cX7_records 0 = .ok (.aload_n 0, 1) := by decide +kernel
theorem dX7_records_1 : decode cX7_records 1 = .ok (.getfield 65, 3) := by decide +kernel
theorem dX7_records_4 : decode cX7_records 4 = .ok (.iconst 4, 1) := by decide +kernel
theorem dX7_records_5 : decode cX7_records 5 = .ok (.if_icmp .ne 44, 3) := by decide +kernel
theorem dX7_records_8 : decode cX7_records 8 = .ok (.iconst 0, 1) := by decide +kernel
theorem dX7_records_9 : decode cX7_records 9 = .ok (.istore_n 1, 1) := by decide +kernel
theorem dX7_records_10 : decode cX7_records 10 = .ok (.iload_n 1, 1) := by decide +kernel
theorem dX7_records_11 : decode cX7_records 11 = .ok (.sipush 1383, 3) := by decide +kernel
theorem dX7_records_14 : decode cX7_records 14 = .ok (.if_icmp .ge 25, 3) := by decide +kernel
theorem dX7_records_17 : decode cX7_records 17 = .ok (.aload_n 0, 1) := by decide +kernel
theorem dX7_records_18 : decode cX7_records 18 = .ok (.getfield 13, 3) := by decide +kernel
theorem dX7_records_21 : decode cX7_records 21 = .ok (.iload_n 1, 1) := by decide +kernel
theorem dX7_records_22 : decode cX7_records 22 = .ok (.aload_n 0, 1) := by decide +kernel
theorem dX7_records_23 : decode cX7_records 23 = .ok (.getfield 13, 3) := by decide +kernel
theorem dX7_records_26 : decode cX7_records 26 = .ok (.iload_n 1, 1) := by decide +kernel
theorem dX7_records_27 : decode cX7_records 27 = .ok (.sipush 461, 3) := by decide +kernel
theorem dX7_records_30 : decode cX7_records 30 = .ok (.iadd, 1) := by decide +kernel
theorem dX7_records_31 : decode cX7_records 31 = .ok (.iaload, 1) := by decide +kernel
theorem dX7_records_32 : decode cX7_records 32 = .ok (.iastore, 1) := by decide +kernel
theorem dX7_records_33 : decode cX7_records 33 = .ok (.iinc 1 1, 3) := by decide +kernel
theorem dX7_records_36 : decode cX7_records 36 = .ok (.goto (-26), 3) := by decide +kernel
theorem dX7_records_39 : decode cX7_records 39 = .ok (.aload_n 0, 1) := by decide +kernel
theorem dX7_records_40 : decode cX7_records 40 = .ok (.dup, 1) := by decide +kernel
theorem dX7_records_41 : decode cX7_records 41 = .ok (.getfield 65, 3) := by decide +kernel
theorem dX7_records_44 : decode cX7_records 44 = .ok (.iconst 1, 1) := by decide +kernel
theorem dX7_records_45 : decode cX7_records 45 = .ok (.isub, 1) := by decide +kernel
theorem dX7_records_46 : decode cX7_records 46 = .ok (.putfield 65, 3) := by decide +kernel
theorem dX7_records_49 : decode cX7_records 49 = .ok (.iconst 0, 1) := by decide +kernel
theorem dX7_records_50 : decode cX7_records 50 = .ok (.istore_n 1, 1) := by decide +kernel
theorem dX7_records_51 : decode cX7_records 51 = .ok (.iload_n 1, 1) := by decide +kernel
theorem dX7_records_52 : decode cX7_records 52 = .ok (.sipush 461, 3) := by decide +kernel
theorem dX7_records_55 : decode cX7_records 55 = .ok (.if_icmp .ge 30, 3) := by decide +kernel
theorem dX7_records_58 : decode cX7_records 58 = .ok (.aload_n 0, 1) := by decide +kernel
theorem dX7_records_59 : decode cX7_records 59 = .ok (.getfield 13, 3) := by decide +kernel
theorem dX7_records_62 : decode cX7_records 62 = .ok (.sipush 461, 3) := by decide +kernel
theorem dX7_records_65 : decode cX7_records 65 = .ok (.aload_n 0, 1) := by decide +kernel
theorem dX7_records_66 : decode cX7_records 66 = .ok (.getfield 65, 3) := by decide +kernel
theorem dX7_records_69 : decode cX7_records 69 = .ok (.imul, 1) := by decide +kernel
theorem dX7_records_70 : decode cX7_records 70 = .ok (.iload_n 1, 1) := by decide +kernel
theorem dX7_records_71 : decode cX7_records 71 = .ok (.iadd, 1) := by decide +kernel
theorem dX7_records_72 : decode cX7_records 72 = .ok (.aload_n 0, 1) := by decide +kernel
theorem dX7_records_73 : decode cX7_records 73 = .ok (.getfield 7, 3) := by decide +kernel
theorem dX7_records_76 : decode cX7_records 76 = .ok (.iload_n 1, 1) := by decide +kernel
theorem dX7_records_77 : decode cX7_records 77 = .ok (.iaload, 1) := by decide +kernel
theorem dX7_records_78 : decode cX7_records 78 = .ok (.iastore, 1) := by decide +kernel
theorem dX7_records_79 : decode cX7_records 79 = .ok (.iinc 1 1, 3) := by decide +kernel
theorem dX7_records_82 : decode cX7_records 82 = .ok (.goto (-31), 3) := by decide +kernel
theorem dX7_records_85 : decode cX7_records 85 = .ok (.aload_n 0, 1) := by decide +kernel
theorem dX7_records_86 : decode cX7_records 86 = .ok (.dup, 1) := by decide +kernel
theorem dX7_records_87 : decode cX7_records 87 = .ok (.getfield 65, 3) := by decide +kernel
theorem dX7_records_90 : decode cX7_records 90 = .ok (.iconst 1, 1) := by decide +kernel
theorem dX7_records_91 : decode cX7_records 91 = .ok (.iadd, 1) := by decide +kernel
theorem dX7_records_92 : decode cX7_records 92 = .ok (.putfield 65, 3) := by decide +kernel
theorem dX7_records_95 : decode cX7_records 95 = .ok (.return_, 1) := by decide +kernel
theorem dX7_length_0 : decode cX7_length 0 = .ok (.aload_n 0, 1) := by decide +kernel
theorem dX7_length_1 : decode cX7_length 1 = .ok (.getfield 7, 3) := by decide +kernel
theorem dX7_length_4 : decode cX7_length 4 = .ok (.iconst 4, 1) := by decide +kernel
theorem dX7_length_5 : decode cX7_length 5 = .ok (.iaload, 1) := by decide +kernel
theorem dX7_length_6 : decode cX7_length 6 = .ok (.ireturn, 1) := by decide +kernel
theorem dX7_at_0 : decode cX7_at 0 = .ok (.aload_n 0, 1) := by decide +kernel
theorem dX7_at_1 : decode cX7_at 1 = .ok (.getfield 7, 3) := by decide +kernel
theorem dX7_at_4 : decode cX7_at 4 = .ok (.bipush 101, 2) := by decide +kernel
theorem dX7_at_6 : decode cX7_at 6 = .ok (.iload_n 1, 1) := by decide +kernel
theorem dX7_at_7 : decode cX7_at 7 = .ok (.iadd, 1) := by decide +kernel
theorem dX7_at_8 : decode cX7_at 8 = .ok (.iaload, 1) := by decide +kernel
theorem dX7_at_9 : decode cX7_at 9 = .ok (.ireturn, 1) := by decide +kernel
end
section
theorem dX7_levelOf_0 : decode cX7_levelOf 0 = .ok (.iload_n 0, 1) := by decide +kernel
theorem dX7_levelOf_1 : decode cX7_levelOf 1 = .ok (.ifCond .lt 7, 3) := by decide +kernel
theorem dX7_levelOf_4 : decode cX7_levelOf 4 = .ok (.iconst (-1), 1) := by decide +kernel
theorem dX7_levelOf_5 : decode cX7_levelOf 5 = .ok (.goto 6, 3) := by decide +kernel
theorem dX7_levelOf_8 : decode cX7_levelOf 8 = .ok (.iconst (-1), 1) := by decide +kernel
theorem dX7_levelOf_9 : decode cX7_levelOf 9 = .ok (.iload_n 0, 1) := by decide +kernel
theorem dX7_levelOf_10 : decode cX7_levelOf 10 = .ok (.isub, 1) := by decide +kernel
theorem dX7_levelOf_11 : decode cX7_levelOf 11 = .ok (.ireturn, 1) := by decide +kernel
theorem dX7_levelAt_0 : decode cX7_levelAt 0 = .ok (.aload_n 0, 1) := by decide +kernel
theorem dX7_levelAt_1 : decode cX7_levelAt 1 = .ok (.iload_n 1, 1) := by decide +kernel
theorem dX7_levelAt_2 : decode cX7_levelAt 2 = .ok (.invokevirtual 69, 3) := by decide +kernel
theorem dX7_levelAt_5 : decode cX7_levelAt 5 = .ok (.invokestatic 73, 3) := by decide +kernel
theorem dX7_levelAt_8 : decode cX7_levelAt 8 = .ok (.ireturn, 1) := by decide +kernel
theorem dX7_endOf_0 : decode cX7_endOf 0 = .ok (.iload_n 1, 1) := by decide +kernel
theorem dX7_endOf_1 : decode cX7_endOf 1 = .ok (.iconst 1, 1) := by decide +kernel
theorem dX7_endOf_2 : decode cX7_endOf 2 = .ok (.iadd, 1) := by decide +kernel
theorem dX7_endOf_3 : decode cX7_endOf 3 = .ok (.istore_n 2, 1) := by decide +kernel
theorem dX7_endOf_4 : decode cX7_endOf 4 = .ok (.iload_n 2, 1) := by decide +kernel
theorem dX7_endOf_5 : decode cX7_endOf 5 = .ok (.aload_n 0, 1) := by decide +kernel
theorem dX7_endOf_6 : decode cX7_endOf 6 = .ok (.invokevirtual 76, 3) := by decide +kernel
theorem dX7_endOf_9 : decode cX7_endOf 9 = .ok (.if_icmp .ge 22, 3) := by decide +kernel
theorem dX7_endOf_12 : decode cX7_endOf 12 = .ok (.aload_n 0, 1) := by decide +kernel
theorem dX7_endOf_13 : decode cX7_endOf 13 = .ok (.iload_n 2, 1) := by decide +kernel
theorem dX7_endOf_14 : decode cX7_endOf 14 = .ok (.invokevirtual 80, 3) := by decide +kernel
theorem dX7_endOf_17 : decode cX7_endOf 17 = .ok (.aload_n 0, 1) := by decide +kernel
theorem dX7_endOf_18 : decode cX7_endOf 18 = .ok (.iload_n 1, 1) := by decide +kernel
theorem dX7_endOf_19 : decode cX7_endOf 19 = .ok (.invokevirtual 80, 3) := by decide +kernel
theorem dX7_endOf_22 : decode cX7_endOf 22 = .ok (.if_icmp .ge 9, 3) := by decide +kernel
theorem dX7_endOf_25 : decode cX7_endOf 25 = .ok (.iinc 2 1, 3) := by decide +kernel
theorem dX7_endOf_28 : decode cX7_endOf 28 = .ok (.goto (-24), 3) := by decide +kernel
theorem dX7_endOf_31 : decode cX7_endOf 31 = .ok (.iload_n 2, 1) := by decide +kernel
theorem dX7_endOf_32 : decode cX7_endOf 32 = .ok (.ireturn, 1) := by decide +kernel
theorem dX7_above_0 : decode cX7_above 0 = .ok (.iload_n 1, 1) := by decide +kernel
theorem dX7_above_1 : decode cX7_above 1 = .ok (.iconst 1, 1) := by decide +kernel
theorem dX7_above_2 : decode cX7_above 2 = .ok (.isub, 1) := by decide +kernel
theorem dX7_above_3 : decode cX7_above 3 = .ok (.istore_n 2, 1) := by decide +kernel
theorem dX7_above_4 : decode cX7_above 4 = .ok (.iload_n 2, 1) := by decide +kernel
theorem dX7_above_5 : decode cX7_above 5 = .ok (.ifCond .lt 22, 3) := by decide +kernel
theorem dX7_above_8 : decode cX7_above 8 = .ok (.aload_n 0, 1) := by decide +kernel
theorem dX7_above_9 : decode cX7_above 9 = .ok (.iload_n 2, 1) := by decide +kernel
theorem dX7_above_10 : decode cX7_above 10 = .ok (.invokevirtual 80, 3) := by decide +kernel
theorem dX7_above_13 : decode cX7_above 13 = .ok (.aload_n 0, 1) := by decide +kernel
theorem dX7_above_14 : decode cX7_above 14 = .ok (.iload_n 1, 1) := by decide +kernel
theorem dX7_above_15 : decode cX7_above 15 = .ok (.invokevirtual 80, 3) := by decide +kernel
theorem dX7_above_18 : decode cX7_above 18 = .ok (.if_icmp .gt 9, 3) := by decide +kernel
theorem dX7_above_21 : decode cX7_above 21 = .ok (.iinc 2 (-1), 3) := by decide +kernel
theorem dX7_above_24 : decode cX7_above 24 = .ok (.goto (-20), 3) := by decide +kernel
theorem dX7_above_27 : decode cX7_above 27 = .ok (.iload_n 2, 1) := by decide +kernel
theorem dX7_above_28 : decode cX7_above 28 = .ok (.ireturn, 1) := by decide +kernel
theorem dX7_entriesOf_0 : decode cX7_entriesOf 0 = .ok (.iconst 0, 1) := by decide +kernel
theorem dX7_entriesOf_1 : decode cX7_entriesOf 1 = .ok (.istore_n 2, 1) := by decide +kernel
theorem dX7_entriesOf_2 : decode cX7_entriesOf 2 = .ok (.aload_n 0, 1) := by decide +kernel
theorem dX7_entriesOf_3 : decode cX7_entriesOf 3 = .ok (.iload_n 1, 1) := by decide +kernel
theorem dX7_entriesOf_4 : decode cX7_entriesOf 4 = .ok (.invokevirtual 83, 3) := by decide +kernel
theorem dX7_entriesOf_7 : decode cX7_entriesOf 7 = .ok (.istore_n 3, 1) := by decide +kernel
theorem dX7_entriesOf_8 : decode cX7_entriesOf 8 = .ok (.iload_n 1, 1) := by decide +kernel
theorem dX7_entriesOf_9 : decode cX7_entriesOf 9 = .ok (.iconst 1, 1) := by decide +kernel
theorem dX7_entriesOf_10 : decode cX7_entriesOf 10 = .ok (.iadd, 1) := by decide +kernel
theorem dX7_entriesOf_11 : decode cX7_entriesOf 11 = .ok (.istore 4, 2) := by decide +kernel
theorem dX7_entriesOf_13 : decode cX7_entriesOf 13 = .ok (.iload 4, 2) := by decide +kernel
theorem dX7_entriesOf_15 : decode cX7_entriesOf 15 = .ok (.iload_n 3, 1) := by decide +kernel
theorem dX7_entriesOf_16 : decode cX7_entriesOf 16 = .ok (.if_icmp .ge 17, 3) := by decide +kernel
theorem dX7_entriesOf_19 : decode cX7_entriesOf 19 = .ok (.iinc 2 1, 3) := by decide +kernel
theorem dX7_entriesOf_22 : decode cX7_entriesOf 22 = .ok (.aload_n 0, 1) := by decide +kernel
theorem dX7_entriesOf_23 : decode cX7_entriesOf 23 = .ok (.iload 4, 2) := by decide +kernel
theorem dX7_entriesOf_25 : decode cX7_entriesOf 25 = .ok (.invokevirtual 83, 3) := by decide +kernel
theorem dX7_entriesOf_28 : decode cX7_entriesOf 28 = .ok (.istore 4, 2) := by decide +kernel
theorem dX7_entriesOf_30 : decode cX7_entriesOf 30 = .ok (.goto (-17), 3) := by decide +kernel
theorem dX7_entriesOf_33 : decode cX7_entriesOf 33 = .ok (.iload_n 2, 1) := by decide +kernel
theorem dX7_entriesOf_34 : decode cX7_entriesOf 34 = .ok (.ireturn, 1) := by decide +kernel
theorem dX7_nodesAhead_0 : decode cX7_nodesAhead 0 = .ok (.iconst 0, 1) := by decide +kernel
theorem dX7_nodesAhead_1 : decode cX7_nodesAhead 1 = .ok (.istore_n 2, 1) := by decide +kernel
theorem dX7_nodesAhead_2 : decode cX7_nodesAhead 2 = .ok (.iconst 0, 1) := by decide +kernel
theorem dX7_nodesAhead_3 : decode cX7_nodesAhead 3 = .ok (.istore_n 3, 1) := by decide +kernel
theorem dX7_nodesAhead_4 : decode cX7_nodesAhead 4 = .ok (.iload_n 3, 1) := by decide +kernel
theorem dX7_nodesAhead_5 : decode cX7_nodesAhead 5 = .ok (.iload_n 1, 1) := by decide +kernel
theorem dX7_nodesAhead_6 : decode cX7_nodesAhead 6 = .ok (.if_icmp .ge 25, 3) := by decide +kernel
theorem dX7_nodesAhead_9 : decode cX7_nodesAhead 9 = .ok (.iload_n 2, 1) := by decide +kernel
theorem dX7_nodesAhead_10 : decode cX7_nodesAhead 10 = .ok (.aload_n 0, 1) := by decide +kernel
theorem dX7_nodesAhead_11 : decode cX7_nodesAhead 11 = .ok (.iload_n 3, 1) := by decide +kernel
theorem dX7_nodesAhead_12 : decode cX7_nodesAhead 12 = .ok (.invokevirtual 69, 3) := by decide +kernel
theorem dX7_nodesAhead_15 : decode cX7_nodesAhead 15 = .ok (.ifCond .ge 7, 3) := by decide +kernel
theorem dX7_nodesAhead_18 : decode cX7_nodesAhead 18 = .ok (.iconst 1, 1) := by decide +kernel
theorem dX7_nodesAhead_19 : decode cX7_nodesAhead 19 = .ok (.goto 4, 3) := by decide +kernel
theorem dX7_nodesAhead_22 : decode cX7_nodesAhead 22 = .ok (.iconst 0, 1) := by decide +kernel
theorem dX7_nodesAhead_23 : decode cX7_nodesAhead 23 = .ok (.iadd, 1) := by decide +kernel
theorem dX7_nodesAhead_24 : decode cX7_nodesAhead 24 = .ok (.istore_n 2, 1) := by decide +kernel
theorem dX7_nodesAhead_25 : decode cX7_nodesAhead 25 = .ok (.iinc 3 1, 3) := by decide +kernel
theorem dX7_nodesAhead_28 : decode cX7_nodesAhead 28 = .ok (.goto (-24), 3) := by decide +kernel
theorem dX7_nodesAhead_31 : decode cX7_nodesAhead 31 = .ok (.iload_n 2, 1) := by decide +kernel
theorem dX7_nodesAhead_32 : decode cX7_nodesAhead 32 = .ok (.ireturn, 1) := by decide +kernel
theorem dX7_nodeAt_0 : decode cX7_nodeAt 0 = .ok (.iload_n 1, 1) := by decide +kernel
theorem dX7_nodeAt_1 : decode cX7_nodeAt 1 = .ok (.istore_n 2, 1) := by decide +kernel
theorem dX7_nodeAt_2 : decode cX7_nodeAt 2 = .ok (.iconst 0, 1) := by decide +kernel
theorem dX7_nodeAt_3 : decode cX7_nodeAt 3 = .ok (.istore_n 3, 1) := by decide +kernel
theorem dX7_nodeAt_4 : decode cX7_nodeAt 4 = .ok (.iload_n 3, 1) := by decide +kernel
theorem dX7_nodeAt_5 : decode cX7_nodeAt 5 = .ok (.aload_n 0, 1) := by decide +kernel
theorem dX7_nodeAt_6 : decode cX7_nodeAt 6 = .ok (.invokevirtual 76, 3) := by decide +kernel
theorem dX7_nodeAt_9 : decode cX7_nodeAt 9 = .ok (.if_icmp .ge 43, 3) := by decide +kernel
theorem dX7_nodeAt_12 : decode cX7_nodeAt 12 = .ok (.iload_n 1, 1) := by decide +kernel
theorem dX7_nodeAt_13 : decode cX7_nodeAt 13 = .ok (.ifCond .lt 39, 3) := by decide +kernel
theorem dX7_nodeAt_16 : decode cX7_nodeAt 16 = .ok (.aload_n 0, 1) := by decide +kernel
theorem dX7_nodeAt_17 : decode cX7_nodeAt 17 = .ok (.iload_n 3, 1) := by decide +kernel
theorem dX7_nodeAt_18 : decode cX7_nodeAt 18 = .ok (.invokevirtual 69, 3) := by decide +kernel
theorem dX7_nodeAt_21 : decode cX7_nodeAt 21 = .ok (.ifCond .ge 9, 3) := by decide +kernel
theorem dX7_nodeAt_24 : decode cX7_nodeAt 24 = .ok (.iload_n 2, 1) := by decide +kernel
theorem dX7_nodeAt_25 : decode cX7_nodeAt 25 = .ok (.ifCond .ne 5, 3) := by decide +kernel
theorem dX7_nodeAt_28 : decode cX7_nodeAt 28 = .ok (.iload_n 3, 1) := by decide +kernel
theorem dX7_nodeAt_29 : decode cX7_nodeAt 29 = .ok (.ireturn, 1) := by decide +kernel
theorem dX7_nodeAt_30 : decode cX7_nodeAt 30 = .ok (.iload_n 2, 1) := by decide +kernel
theorem dX7_nodeAt_31 : decode cX7_nodeAt 31 = .ok (.aload_n 0, 1) := by decide +kernel
theorem dX7_nodeAt_32 : decode cX7_nodeAt 32 = .ok (.iload_n 3, 1) := by decide +kernel
theorem dX7_nodeAt_33 : decode cX7_nodeAt 33 = .ok (.invokevirtual 69, 3) := by decide +kernel
theorem dX7_nodeAt_36 : decode cX7_nodeAt 36 = .ok (.ifCond .ge 7, 3) := by decide +kernel
theorem dX7_nodeAt_39 : decode cX7_nodeAt 39 = .ok (.iconst 1, 1) := by decide +kernel
theorem dX7_nodeAt_40 : decode cX7_nodeAt 40 = .ok (.goto 4, 3) := by decide +kernel
theorem dX7_nodeAt_43 : decode cX7_nodeAt 43 = .ok (.iconst 0, 1) := by decide +kernel
theorem dX7_nodeAt_44 : decode cX7_nodeAt 44 = .ok (.isub, 1) := by decide +kernel
theorem dX7_nodeAt_45 : decode cX7_nodeAt 45 = .ok (.istore_n 2, 1) := by decide +kernel
theorem dX7_nodeAt_46 : decode cX7_nodeAt 46 = .ok (.iinc 3 1, 3) := by decide +kernel
theorem dX7_nodeAt_49 : decode cX7_nodeAt 49 = .ok (.goto (-45), 3) := by decide +kernel
theorem dX7_nodeAt_52 : decode cX7_nodeAt 52 = .ok (.bipush (-5), 2) := by decide +kernel
theorem dX7_nodeAt_54 : decode cX7_nodeAt 54 = .ok (.ireturn, 1) := by decide +kernel
theorem dX7_placeOf_0 : decode cX7_placeOf 0 = .ok (.iconst 0, 1) := by decide +kernel
theorem dX7_placeOf_1 : decode cX7_placeOf 1 = .ok (.istore_n 2, 1) := by decide +kernel
theorem dX7_placeOf_2 : decode cX7_placeOf 2 = .ok (.aload_n 0, 1) := by decide +kernel
theorem dX7_placeOf_3 : decode cX7_placeOf 3 = .ok (.iload_n 2, 1) := by decide +kernel
theorem dX7_placeOf_4 : decode cX7_placeOf 4 = .ok (.invokevirtual 69, 3) := by decide +kernel
theorem dX7_placeOf_7 : decode cX7_placeOf 7 = .ok (.iload_n 1, 1) := by decide +kernel
theorem dX7_placeOf_8 : decode cX7_placeOf 8 = .ok (.if_icmp .eq 9, 3) := by decide +kernel
theorem dX7_placeOf_11 : decode cX7_placeOf 11 = .ok (.iinc 2 1, 3) := by decide +kernel
theorem dX7_placeOf_14 : decode cX7_placeOf 14 = .ok (.goto (-12), 3) := by decide +kernel
theorem dX7_placeOf_17 : decode cX7_placeOf 17 = .ok (.iload_n 2, 1) := by decide +kernel
theorem dX7_placeOf_18 : decode cX7_placeOf 18 = .ok (.ireturn, 1) := by decide +kernel
theorem dX7_cuts_0 : decode cX7_cuts 0 = .ok (.iload_n 2, 1) := by decide +kernel
theorem dX7_cuts_1 : decode cX7_cuts 1 = .ok (.istore_n 3, 1) := by decide +kernel
theorem dX7_cuts_2 : decode cX7_cuts 2 = .ok (.iload_n 3, 1) := by decide +kernel
theorem dX7_cuts_3 : decode cX7_cuts 3 = .ok (.aload_n 0, 1) := by decide +kernel
theorem dX7_cuts_4 : decode cX7_cuts 4 = .ok (.invokevirtual 76, 3) := by decide +kernel
theorem dX7_cuts_7 : decode cX7_cuts 7 = .ok (.if_icmp .ge 27, 3) := by decide +kernel
theorem dX7_cuts_10 : decode cX7_cuts 10 = .ok (.aload_n 0, 1) := by decide +kernel
theorem dX7_cuts_11 : decode cX7_cuts 11 = .ok (.getfield 7, 3) := by decide +kernel
theorem dX7_cuts_14 : decode cX7_cuts 14 = .ok (.bipush 101, 2) := by decide +kernel
theorem dX7_cuts_16 : decode cX7_cuts 16 = .ok (.iload_n 1, 1) := by decide +kernel
theorem dX7_cuts_17 : decode cX7_cuts 17 = .ok (.iadd, 1) := by decide +kernel
theorem dX7_cuts_18 : decode cX7_cuts 18 = .ok (.iload_n 3, 1) := by decide +kernel
theorem dX7_cuts_19 : decode cX7_cuts 19 = .ok (.iadd, 1) := by decide +kernel
theorem dX7_cuts_20 : decode cX7_cuts 20 = .ok (.iload_n 2, 1) := by decide +kernel
theorem dX7_cuts_21 : decode cX7_cuts 21 = .ok (.isub, 1) := by decide +kernel
theorem dX7_cuts_22 : decode cX7_cuts 22 = .ok (.aload_n 0, 1) := by decide +kernel
theorem dX7_cuts_23 : decode cX7_cuts 23 = .ok (.iload_n 3, 1) := by decide +kernel
theorem dX7_cuts_24 : decode cX7_cuts 24 = .ok (.invokevirtual 69, 3) := by decide +kernel
theorem dX7_cuts_27 : decode cX7_cuts 27 = .ok (.iastore, 1) := by decide +kernel
theorem dX7_cuts_28 : decode cX7_cuts 28 = .ok (.iinc 3 1, 3) := by decide +kernel
theorem dX7_cuts_31 : decode cX7_cuts 31 = .ok (.goto (-29), 3) := by decide +kernel
theorem dX7_cuts_34 : decode cX7_cuts 34 = .ok (.aload_n 0, 1) := by decide +kernel
theorem dX7_cuts_35 : decode cX7_cuts 35 = .ok (.getfield 7, 3) := by decide +kernel
theorem dX7_cuts_38 : decode cX7_cuts 38 = .ok (.iconst 4, 1) := by decide +kernel
theorem dX7_cuts_39 : decode cX7_cuts 39 = .ok (.dup2, 1) := by decide +kernel
theorem dX7_cuts_40 : decode cX7_cuts 40 = .ok (.iaload, 1) := by decide +kernel
theorem dX7_cuts_41 : decode cX7_cuts 41 = .ok (.iload_n 2, 1) := by decide +kernel
theorem dX7_cuts_42 : decode cX7_cuts 42 = .ok (.iload_n 1, 1) := by decide +kernel
theorem dX7_cuts_43 : decode cX7_cuts 43 = .ok (.isub, 1) := by decide +kernel
theorem dX7_cuts_44 : decode cX7_cuts 44 = .ok (.isub, 1) := by decide +kernel
theorem dX7_cuts_45 : decode cX7_cuts 45 = .ok (.iastore, 1) := by decide +kernel
theorem dX7_cuts_46 : decode cX7_cuts 46 = .ok (.return_, 1) := by decide +kernel
theorem dX7_opens_0 : decode cX7_opens 0 = .ok (.aload_n 0, 1) := by decide +kernel
theorem dX7_opens_1 : decode cX7_opens 1 = .ok (.invokevirtual 76, 3) := by decide +kernel
theorem dX7_opens_4 : decode cX7_opens 4 = .ok (.iconst 1, 1) := by decide +kernel
theorem dX7_opens_5 : decode cX7_opens 5 = .ok (.isub, 1) := by decide +kernel
theorem dX7_opens_6 : decode cX7_opens 6 = .ok (.istore_n 3, 1) := by decide +kernel
theorem dX7_opens_7 : decode cX7_opens 7 = .ok (.iload_n 3, 1) := by decide +kernel
theorem dX7_opens_8 : decode cX7_opens 8 = .ok (.iload_n 1, 1) := by decide +kernel
theorem dX7_opens_9 : decode cX7_opens 9 = .ok (.if_icmp .lt 25, 3) := by decide +kernel
theorem dX7_opens_12 : decode cX7_opens 12 = .ok (.aload_n 0, 1) := by decide +kernel
theorem dX7_opens_13 : decode cX7_opens 13 = .ok (.getfield 7, 3) := by decide +kernel
theorem dX7_opens_16 : decode cX7_opens 16 = .ok (.bipush 101, 2) := by decide +kernel
theorem dX7_opens_18 : decode cX7_opens 18 = .ok (.iload_n 3, 1) := by decide +kernel
theorem dX7_opens_19 : decode cX7_opens 19 = .ok (.iadd, 1) := by decide +kernel
theorem dX7_opens_20 : decode cX7_opens 20 = .ok (.iload_n 2, 1) := by decide +kernel
theorem dX7_opens_21 : decode cX7_opens 21 = .ok (.iadd, 1) := by decide +kernel
theorem dX7_opens_22 : decode cX7_opens 22 = .ok (.aload_n 0, 1) := by decide +kernel
theorem dX7_opens_23 : decode cX7_opens 23 = .ok (.iload_n 3, 1) := by decide +kernel
theorem dX7_opens_24 : decode cX7_opens 24 = .ok (.invokevirtual 69, 3) := by decide +kernel
theorem dX7_opens_27 : decode cX7_opens 27 = .ok (.iastore, 1) := by decide +kernel
theorem dX7_opens_28 : decode cX7_opens 28 = .ok (.iinc 3 (-1), 3) := by decide +kernel
theorem dX7_opens_31 : decode cX7_opens 31 = .ok (.goto (-24), 3) := by decide +kernel
theorem dX7_opens_34 : decode cX7_opens 34 = .ok (.aload_n 0, 1) := by decide +kernel
theorem dX7_opens_35 : decode cX7_opens 35 = .ok (.getfield 7, 3) := by decide +kernel
theorem dX7_opens_38 : decode cX7_opens 38 = .ok (.iconst 4, 1) := by decide +kernel
theorem dX7_opens_39 : decode cX7_opens 39 = .ok (.dup2, 1) := by decide +kernel
theorem dX7_opens_40 : decode cX7_opens 40 = .ok (.iaload, 1) := by decide +kernel
theorem dX7_opens_41 : decode cX7_opens 41 = .ok (.iload_n 2, 1) := by decide +kernel
theorem dX7_opens_42 : decode cX7_opens 42 = .ok (.iadd, 1) := by decide +kernel
theorem dX7_opens_43 : decode cX7_opens 43 = .ok (.iastore, 1) := by decide +kernel
theorem dX7_opens_44 : decode cX7_opens 44 = .ok (.return_, 1) := by decide +kernel
theorem dX7_less_0 : decode cX7_less 0 = .ok (.iload_n 0, 1) := by decide +kernel
theorem dX7_less_1 : decode cX7_less 1 = .ok (.iload_n 1, 1) := by decide +kernel
theorem dX7_less_2 : decode cX7_less 2 = .ok (.if_icmp .ge 7, 3) := by decide +kernel
theorem dX7_less_5 : decode cX7_less 5 = .ok (.iload_n 0, 1) := by decide +kernel
theorem dX7_less_6 : decode cX7_less 6 = .ok (.goto 4, 3) := by decide +kernel
theorem dX7_less_9 : decode cX7_less 9 = .ok (.iload_n 1, 1) := by decide +kernel
theorem dX7_less_10 : decode cX7_less 10 = .ok (.ireturn, 1) := by decide +kernel
theorem dX7_greater_0 : decode cX7_greater 0 = .ok (.iload_n 0, 1) := by decide +kernel
theorem dX7_greater_1 : decode cX7_greater 1 = .ok (.iload_n 1, 1) := by decide +kernel
theorem dX7_greater_2 : decode cX7_greater 2 = .ok (.if_icmp .le 7, 3) := by decide +kernel
theorem dX7_greater_5 : decode cX7_greater 5 = .ok (.iload_n 0, 1) := by decide +kernel
theorem dX7_greater_6 : decode cX7_greater 6 = .ok (.goto 4, 3) := by decide +kernel
theorem dX7_greater_9 : decode cX7_greater 9 = .ok (.iload_n 1, 1) := by decide +kernel
theorem dX7_greater_10 : decode cX7_greater 10 = .ok (.ireturn, 1) := by decide +kernel
theorem dX7_unites_0 : decode cX7_unites 0 = .ok (.iconst 4, 1) := by decide +kernel
theorem dX7_unites_1 : decode cX7_unites 1 = .ok (.iload_n 1, 1) := by decide +kernel
theorem dX7_unites_2 : decode cX7_unites 2 = .ok (.imul, 1) := by decide +kernel
theorem dX7_unites_3 : decode cX7_unites 3 = .ok (.istore 4, 2) := by decide +kernel
theorem dX7_unites_5 : decode cX7_unites 5 = .ok (.iconst 4, 1) := by decide +kernel
theorem dX7_unites_6 : decode cX7_unites 6 = .ok (.iload_n 2, 1) := by decide +kernel
theorem dX7_unites_7 : decode cX7_unites 7 = .ok (.imul, 1) := by decide +kernel
theorem dX7_unites_8 : decode cX7_unites 8 = .ok (.istore 5, 2) := by decide +kernel
theorem dX7_unites_10 : decode cX7_unites 10 = .ok (.iconst 4, 1) := by decide +kernel
theorem dX7_unites_11 : decode cX7_unites 11 = .ok (.iload_n 3, 1) := by decide +kernel
theorem dX7_unites_12 : decode cX7_unites 12 = .ok (.imul, 1) := by decide +kernel
theorem dX7_unites_13 : decode cX7_unites 13 = .ok (.istore 6, 2) := by decide +kernel
theorem dX7_unites_15 : decode cX7_unites 15 = .ok (.aload_n 0, 1) := by decide +kernel
theorem dX7_unites_16 : decode cX7_unites 16 = .ok (.getfield 22, 3) := by decide +kernel
theorem dX7_unites_19 : decode cX7_unites 19 = .ok (.iload 4, 2) := by decide +kernel
theorem dX7_unites_21 : decode cX7_unites 21 = .ok (.iaload, 1) := by decide +kernel
theorem dX7_unites_22 : decode cX7_unites 22 = .ok (.aload_n 0, 1) := by decide +kernel
theorem dX7_unites_23 : decode cX7_unites 23 = .ok (.getfield 22, 3) := by decide +kernel
theorem dX7_unites_26 : decode cX7_unites 26 = .ok (.iload 5, 2) := by decide +kernel
theorem dX7_unites_28 : decode cX7_unites 28 = .ok (.iaload, 1) := by decide +kernel
theorem dX7_unites_29 : decode cX7_unites 29 = .ok (.invokestatic 86, 3) := by decide +kernel
theorem dX7_unites_32 : decode cX7_unites 32 = .ok (.istore 7, 2) := by decide +kernel
theorem dX7_unites_34 : decode cX7_unites 34 = .ok (.aload_n 0, 1) := by decide +kernel
theorem dX7_unites_35 : decode cX7_unites 35 = .ok (.getfield 22, 3) := by decide +kernel
theorem dX7_unites_38 : decode cX7_unites 38 = .ok (.iload 4, 2) := by decide +kernel
theorem dX7_unites_40 : decode cX7_unites 40 = .ok (.iconst 1, 1) := by decide +kernel
theorem dX7_unites_41 : decode cX7_unites 41 = .ok (.iadd, 1) := by decide +kernel
theorem dX7_unites_42 : decode cX7_unites 42 = .ok (.iaload, 1) := by decide +kernel
theorem dX7_unites_43 : decode cX7_unites 43 = .ok (.aload_n 0, 1) := by decide +kernel
theorem dX7_unites_44 : decode cX7_unites 44 = .ok (.getfield 22, 3) := by decide +kernel
theorem dX7_unites_47 : decode cX7_unites 47 = .ok (.iload 5, 2) := by decide +kernel
theorem dX7_unites_49 : decode cX7_unites 49 = .ok (.iconst 1, 1) := by decide +kernel
theorem dX7_unites_50 : decode cX7_unites 50 = .ok (.iadd, 1) := by decide +kernel
theorem dX7_unites_51 : decode cX7_unites 51 = .ok (.iaload, 1) := by decide +kernel
theorem dX7_unites_52 : decode cX7_unites 52 = .ok (.invokestatic 86, 3) := by decide +kernel
theorem dX7_unites_55 : decode cX7_unites 55 = .ok (.istore 8, 2) := by decide +kernel
theorem dX7_unites_57 : decode cX7_unites 57 = .ok (.aload_n 0, 1) := by decide +kernel
theorem dX7_unites_58 : decode cX7_unites 58 = .ok (.getfield 22, 3) := by decide +kernel
theorem dX7_unites_61 : decode cX7_unites 61 = .ok (.iload 4, 2) := by decide +kernel
theorem dX7_unites_63 : decode cX7_unites 63 = .ok (.iconst 2, 1) := by decide +kernel
theorem dX7_unites_64 : decode cX7_unites 64 = .ok (.iadd, 1) := by decide +kernel
theorem dX7_unites_65 : decode cX7_unites 65 = .ok (.iaload, 1) := by decide +kernel
theorem dX7_unites_66 : decode cX7_unites 66 = .ok (.aload_n 0, 1) := by decide +kernel
theorem dX7_unites_67 : decode cX7_unites 67 = .ok (.getfield 22, 3) := by decide +kernel
theorem dX7_unites_70 : decode cX7_unites 70 = .ok (.iload 5, 2) := by decide +kernel
theorem dX7_unites_72 : decode cX7_unites 72 = .ok (.iconst 2, 1) := by decide +kernel
theorem dX7_unites_73 : decode cX7_unites 73 = .ok (.iadd, 1) := by decide +kernel
theorem dX7_unites_74 : decode cX7_unites 74 = .ok (.iaload, 1) := by decide +kernel
theorem dX7_unites_75 : decode cX7_unites 75 = .ok (.invokestatic 90, 3) := by decide +kernel
theorem dX7_unites_78 : decode cX7_unites 78 = .ok (.istore 9, 2) := by decide +kernel
theorem dX7_unites_80 : decode cX7_unites 80 = .ok (.aload_n 0, 1) := by decide +kernel
theorem dX7_unites_81 : decode cX7_unites 81 = .ok (.getfield 22, 3) := by decide +kernel
theorem dX7_unites_84 : decode cX7_unites 84 = .ok (.iload 4, 2) := by decide +kernel
theorem dX7_unites_86 : decode cX7_unites 86 = .ok (.iconst 3, 1) := by decide +kernel
theorem dX7_unites_87 : decode cX7_unites 87 = .ok (.iadd, 1) := by decide +kernel
theorem dX7_unites_88 : decode cX7_unites 88 = .ok (.iaload, 1) := by decide +kernel
theorem dX7_unites_89 : decode cX7_unites 89 = .ok (.aload_n 0, 1) := by decide +kernel
theorem dX7_unites_90 : decode cX7_unites 90 = .ok (.getfield 22, 3) := by decide +kernel
theorem dX7_unites_93 : decode cX7_unites 93 = .ok (.iload 5, 2) := by decide +kernel
theorem dX7_unites_95 : decode cX7_unites 95 = .ok (.iconst 3, 1) := by decide +kernel
theorem dX7_unites_96 : decode cX7_unites 96 = .ok (.iadd, 1) := by decide +kernel
theorem dX7_unites_97 : decode cX7_unites 97 = .ok (.iaload, 1) := by decide +kernel
theorem dX7_unites_98 : decode cX7_unites 98 = .ok (.invokestatic 90, 3) := by decide +kernel
theorem dX7_unites_101 : decode cX7_unites 101 = .ok (.istore 10, 2) := by decide +kernel
theorem dX7_unites_103 : decode cX7_unites 103 = .ok (.aload_n 0, 1) := by decide +kernel
theorem dX7_unites_104 : decode cX7_unites 104 = .ok (.getfield 22, 3) := by decide +kernel
theorem dX7_unites_107 : decode cX7_unites 107 = .ok (.iload 6, 2) := by decide +kernel
theorem dX7_unites_109 : decode cX7_unites 109 = .ok (.iload 7, 2) := by decide +kernel
theorem dX7_unites_111 : decode cX7_unites 111 = .ok (.iastore, 1) := by decide +kernel
theorem dX7_unites_112 : decode cX7_unites 112 = .ok (.aload_n 0, 1) := by decide +kernel
theorem dX7_unites_113 : decode cX7_unites 113 = .ok (.getfield 22, 3) := by decide +kernel
theorem dX7_unites_116 : decode cX7_unites 116 = .ok (.iload 6, 2) := by decide +kernel
theorem dX7_unites_118 : decode cX7_unites 118 = .ok (.iconst 1, 1) := by decide +kernel
theorem dX7_unites_119 : decode cX7_unites 119 = .ok (.iadd, 1) := by decide +kernel
theorem dX7_unites_120 : decode cX7_unites 120 = .ok (.iload 8, 2) := by decide +kernel
theorem dX7_unites_122 : decode cX7_unites 122 = .ok (.iastore, 1) := by decide +kernel
theorem dX7_unites_123 : decode cX7_unites 123 = .ok (.aload_n 0, 1) := by decide +kernel
theorem dX7_unites_124 : decode cX7_unites 124 = .ok (.getfield 22, 3) := by decide +kernel
theorem dX7_unites_127 : decode cX7_unites 127 = .ok (.iload 6, 2) := by decide +kernel
theorem dX7_unites_129 : decode cX7_unites 129 = .ok (.iconst 2, 1) := by decide +kernel
theorem dX7_unites_130 : decode cX7_unites 130 = .ok (.iadd, 1) := by decide +kernel
theorem dX7_unites_131 : decode cX7_unites 131 = .ok (.iload 9, 2) := by decide +kernel
theorem dX7_unites_133 : decode cX7_unites 133 = .ok (.iastore, 1) := by decide +kernel
theorem dX7_unites_134 : decode cX7_unites 134 = .ok (.aload_n 0, 1) := by decide +kernel
theorem dX7_unites_135 : decode cX7_unites 135 = .ok (.getfield 22, 3) := by decide +kernel
theorem dX7_unites_138 : decode cX7_unites 138 = .ok (.iload 6, 2) := by decide +kernel
theorem dX7_unites_140 : decode cX7_unites 140 = .ok (.iconst 3, 1) := by decide +kernel
theorem dX7_unites_141 : decode cX7_unites 141 = .ok (.iadd, 1) := by decide +kernel
theorem dX7_unites_142 : decode cX7_unites 142 = .ok (.iload 10, 2) := by decide +kernel
theorem dX7_unites_144 : decode cX7_unites 144 = .ok (.iastore, 1) := by decide +kernel
theorem dX7_unites_145 : decode cX7_unites 145 = .ok (.return_, 1) := by decide +kernel
theorem dX7_bounds_0 : decode cX7_bounds 0 = .ok (.iconst 1, 1) := by decide +kernel
theorem dX7_bounds_1 : decode cX7_bounds 1 = .ok (.istore 5, 2) := by decide +kernel
theorem dX7_bounds_3 : decode cX7_bounds 3 = .ok (.iload_n 2, 1) := by decide +kernel
theorem dX7_bounds_4 : decode cX7_bounds 4 = .ok (.istore 6, 2) := by decide +kernel
theorem dX7_bounds_6 : decode cX7_bounds 6 = .ok (.iload 6, 2) := by decide +kernel
theorem dX7_bounds_8 : decode cX7_bounds 8 = .ok (.iload_n 3, 1) := by decide +kernel
theorem dX7_bounds_9 : decode cX7_bounds 9 = .ok (.if_icmp .ge 115, 3) := by decide +kernel
theorem dX7_bounds_12 : decode cX7_bounds 12 = .ok (.aload_n 1, 1) := by decide +kernel
theorem dX7_bounds_13 : decode cX7_bounds 13 = .ok (.iload 6, 2) := by decide +kernel
theorem dX7_bounds_15 : decode cX7_bounds 15 = .ok (.iaload, 1) := by decide +kernel
theorem dX7_bounds_16 : decode cX7_bounds 16 = .ok (.ifCond .lt 102, 3) := by decide +kernel
theorem dX7_bounds_19 : decode cX7_bounds 19 = .ok (.iconst 5, 1) := by decide +kernel
theorem dX7_bounds_20 : decode cX7_bounds 20 = .ok (.iconst 4, 1) := by decide +kernel
theorem dX7_bounds_21 : decode cX7_bounds 21 = .ok (.aload_n 1, 1) := by decide +kernel
theorem dX7_bounds_22 : decode cX7_bounds 22 = .ok (.iload 6, 2) := by decide +kernel
theorem dX7_bounds_24 : decode cX7_bounds 24 = .ok (.iaload, 1) := by decide +kernel
theorem dX7_bounds_25 : decode cX7_bounds 25 = .ok (.imul, 1) := by decide +kernel
theorem dX7_bounds_26 : decode cX7_bounds 26 = .ok (.iadd, 1) := by decide +kernel
theorem dX7_bounds_27 : decode cX7_bounds 27 = .ok (.istore 7, 2) := by decide +kernel
theorem dX7_bounds_29 : decode cX7_bounds 29 = .ok (.iconst 0, 1) := by decide +kernel
theorem dX7_bounds_30 : decode cX7_bounds 30 = .ok (.istore 8, 2) := by decide +kernel
theorem dX7_bounds_32 : decode cX7_bounds 32 = .ok (.iload 8, 2) := by decide +kernel
theorem dX7_bounds_34 : decode cX7_bounds 34 = .ok (.iconst 4, 1) := by decide +kernel
theorem dX7_bounds_35 : decode cX7_bounds 35 = .ok (.if_icmp .ge 80, 3) := by decide +kernel
theorem dX7_bounds_38 : decode cX7_bounds 38 = .ok (.aload_n 0, 1) := by decide +kernel
theorem dX7_bounds_39 : decode cX7_bounds 39 = .ok (.getfield 22, 3) := by decide +kernel
theorem dX7_bounds_42 : decode cX7_bounds 42 = .ok (.iconst 4, 1) := by decide +kernel
theorem dX7_bounds_43 : decode cX7_bounds 43 = .ok (.iload 4, 2) := by decide +kernel
theorem dX7_bounds_45 : decode cX7_bounds 45 = .ok (.imul, 1) := by decide +kernel
theorem dX7_bounds_46 : decode cX7_bounds 46 = .ok (.iload 8, 2) := by decide +kernel
theorem dX7_bounds_48 : decode cX7_bounds 48 = .ok (.iadd, 1) := by decide +kernel
theorem dX7_bounds_49 : decode cX7_bounds 49 = .ok (.iaload, 1) := by decide +kernel
theorem dX7_bounds_50 : decode cX7_bounds 50 = .ok (.istore 9, 2) := by decide +kernel
theorem dX7_bounds_52 : decode cX7_bounds 52 = .ok (.aload_n 0, 1) := by decide +kernel
theorem dX7_bounds_53 : decode cX7_bounds 53 = .ok (.getfield 7, 3) := by decide +kernel
theorem dX7_bounds_56 : decode cX7_bounds 56 = .ok (.iload 7, 2) := by decide +kernel
theorem dX7_bounds_58 : decode cX7_bounds 58 = .ok (.iload 8, 2) := by decide +kernel
theorem dX7_bounds_60 : decode cX7_bounds 60 = .ok (.iadd, 1) := by decide +kernel
theorem dX7_bounds_61 : decode cX7_bounds 61 = .ok (.iaload, 1) := by decide +kernel
theorem dX7_bounds_62 : decode cX7_bounds 62 = .ok (.istore 10, 2) := by decide +kernel
theorem dX7_bounds_64 : decode cX7_bounds 64 = .ok (.aload_n 0, 1) := by decide +kernel
theorem dX7_bounds_65 : decode cX7_bounds 65 = .ok (.getfield 22, 3) := by decide +kernel
theorem dX7_bounds_68 : decode cX7_bounds 68 = .ok (.iconst 4, 1) := by decide +kernel
theorem dX7_bounds_69 : decode cX7_bounds 69 = .ok (.iload 4, 2) := by decide +kernel
theorem dX7_bounds_71 : decode cX7_bounds 71 = .ok (.imul, 1) := by decide +kernel
theorem dX7_bounds_72 : decode cX7_bounds 72 = .ok (.iload 8, 2) := by decide +kernel
theorem dX7_bounds_74 : decode cX7_bounds 74 = .ok (.iadd, 1) := by decide +kernel
theorem dX7_bounds_75 : decode cX7_bounds 75 = .ok (.iload 5, 2) := by decide +kernel
theorem dX7_bounds_77 : decode cX7_bounds 77 = .ok (.ifCond .eq 8, 3) := by decide +kernel
theorem dX7_bounds_80 : decode cX7_bounds 80 = .ok (.iload 10, 2) := by decide +kernel
theorem dX7_bounds_82 : decode cX7_bounds 82 = .ok (.goto 26, 3) := by decide +kernel
theorem dX7_bounds_85 : decode cX7_bounds 85 = .ok (.iload 8, 2) := by decide +kernel
theorem dX7_bounds_87 : decode cX7_bounds 87 = .ok (.iconst 2, 1) := by decide +kernel
theorem dX7_bounds_88 : decode cX7_bounds 88 = .ok (.if_icmp .ge 13, 3) := by decide +kernel
theorem dX7_bounds_91 : decode cX7_bounds 91 = .ok (.iload 9, 2) := by decide +kernel
theorem dX7_bounds_93 : decode cX7_bounds 93 = .ok (.iload 10, 2) := by decide +kernel
theorem dX7_bounds_95 : decode cX7_bounds 95 = .ok (.invokestatic 86, 3) := by decide +kernel
theorem dX7_bounds_98 : decode cX7_bounds 98 = .ok (.goto 10, 3) := by decide +kernel
theorem dX7_bounds_101 : decode cX7_bounds 101 = .ok (.iload 9, 2) := by decide +kernel
theorem dX7_bounds_103 : decode cX7_bounds 103 = .ok (.iload 10, 2) := by decide +kernel
theorem dX7_bounds_105 : decode cX7_bounds 105 = .ok (.invokestatic 90, 3) := by decide +kernel
theorem dX7_bounds_108 : decode cX7_bounds 108 = .ok (.iastore, 1) := by decide +kernel
theorem dX7_bounds_109 : decode cX7_bounds 109 = .ok (.iinc 8 1, 3) := by decide +kernel
theorem dX7_bounds_112 : decode cX7_bounds 112 = .ok (.goto (-80), 3) := by decide +kernel
theorem dX7_bounds_115 : decode cX7_bounds 115 = .ok (.iconst 0, 1) := by decide +kernel
theorem dX7_bounds_116 : decode cX7_bounds 116 = .ok (.istore 5, 2) := by decide +kernel
theorem dX7_bounds_118 : decode cX7_bounds 118 = .ok (.iinc 6 1, 3) := by decide +kernel
theorem dX7_bounds_121 : decode cX7_bounds 121 = .ok (.goto (-115), 3) := by decide +kernel
theorem dX7_bounds_124 : decode cX7_bounds 124 = .ok (.return_, 1) := by decide +kernel
theorem dX7_boundsAt_0 : decode cX7_boundsAt 0 = .ok (.aload_n 0, 1) := by decide +kernel
theorem dX7_boundsAt_1 : decode cX7_boundsAt 1 = .ok (.aload_n 0, 1) := by decide +kernel
theorem dX7_boundsAt_2 : decode cX7_boundsAt 2 = .ok (.getfield 7, 3) := by decide +kernel
theorem dX7_boundsAt_5 : decode cX7_boundsAt 5 = .ok (.bipush 101, 2) := by decide +kernel
theorem dX7_boundsAt_7 : decode cX7_boundsAt 7 = .ok (.iload_n 1, 1) := by decide +kernel
theorem dX7_boundsAt_8 : decode cX7_boundsAt 8 = .ok (.iadd, 1) := by decide +kernel
theorem dX7_boundsAt_9 : decode cX7_boundsAt 9 = .ok (.bipush 101, 2) := by decide +kernel
theorem dX7_boundsAt_11 : decode cX7_boundsAt 11 = .ok (.aload_n 0, 1) := by decide +kernel
theorem dX7_boundsAt_12 : decode cX7_boundsAt 12 = .ok (.iload_n 1, 1) := by decide +kernel
theorem dX7_boundsAt_13 : decode cX7_boundsAt 13 = .ok (.invokevirtual 83, 3) := by decide +kernel
theorem dX7_boundsAt_16 : decode cX7_boundsAt 16 = .ok (.iadd, 1) := by decide +kernel
theorem dX7_boundsAt_17 : decode cX7_boundsAt 17 = .ok (.iload_n 2, 1) := by decide +kernel
theorem dX7_boundsAt_18 : decode cX7_boundsAt 18 = .ok (.invokevirtual 93, 3) := by decide +kernel
theorem dX7_boundsAt_21 : decode cX7_boundsAt 21 = .ok (.return_, 1) := by decide +kernel
theorem dX7_areaOf_0 : decode cX7_areaOf 0 = .ok (.iconst 4, 1) := by decide +kernel
theorem dX7_areaOf_1 : decode cX7_areaOf 1 = .ok (.iload_n 1, 1) := by decide +kernel
theorem dX7_areaOf_2 : decode cX7_areaOf 2 = .ok (.imul, 1) := by decide +kernel
theorem dX7_areaOf_3 : decode cX7_areaOf 3 = .ok (.istore_n 2, 1) := by decide +kernel
theorem dX7_areaOf_4 : decode cX7_areaOf 4 = .ok (.aload_n 0, 1) := by decide +kernel
theorem dX7_areaOf_5 : decode cX7_areaOf 5 = .ok (.getfield 22, 3) := by decide +kernel
theorem dX7_areaOf_8 : decode cX7_areaOf 8 = .ok (.iload_n 2, 1) := by decide +kernel
theorem dX7_areaOf_9 : decode cX7_areaOf 9 = .ok (.iconst 2, 1) := by decide +kernel
theorem dX7_areaOf_10 : decode cX7_areaOf 10 = .ok (.iadd, 1) := by decide +kernel
theorem dX7_areaOf_11 : decode cX7_areaOf 11 = .ok (.iaload, 1) := by decide +kernel
theorem dX7_areaOf_12 : decode cX7_areaOf 12 = .ok (.aload_n 0, 1) := by decide +kernel
theorem dX7_areaOf_13 : decode cX7_areaOf 13 = .ok (.getfield 22, 3) := by decide +kernel
theorem dX7_areaOf_16 : decode cX7_areaOf 16 = .ok (.iload_n 2, 1) := by decide +kernel
theorem dX7_areaOf_17 : decode cX7_areaOf 17 = .ok (.iaload, 1) := by decide +kernel
theorem dX7_areaOf_18 : decode cX7_areaOf 18 = .ok (.isub, 1) := by decide +kernel
theorem dX7_areaOf_19 : decode cX7_areaOf 19 = .ok (.iconst 1, 1) := by decide +kernel
theorem dX7_areaOf_20 : decode cX7_areaOf 20 = .ok (.iadd, 1) := by decide +kernel
theorem dX7_areaOf_21 : decode cX7_areaOf 21 = .ok (.aload_n 0, 1) := by decide +kernel
theorem dX7_areaOf_22 : decode cX7_areaOf 22 = .ok (.getfield 22, 3) := by decide +kernel
theorem dX7_areaOf_25 : decode cX7_areaOf 25 = .ok (.iload_n 2, 1) := by decide +kernel
theorem dX7_areaOf_26 : decode cX7_areaOf 26 = .ok (.iconst 3, 1) := by decide +kernel
theorem dX7_areaOf_27 : decode cX7_areaOf 27 = .ok (.iadd, 1) := by decide +kernel
theorem dX7_areaOf_28 : decode cX7_areaOf 28 = .ok (.iaload, 1) := by decide +kernel
theorem dX7_areaOf_29 : decode cX7_areaOf 29 = .ok (.aload_n 0, 1) := by decide +kernel
theorem dX7_areaOf_30 : decode cX7_areaOf 30 = .ok (.getfield 22, 3) := by decide +kernel
theorem dX7_areaOf_33 : decode cX7_areaOf 33 = .ok (.iload_n 2, 1) := by decide +kernel
theorem dX7_areaOf_34 : decode cX7_areaOf 34 = .ok (.iconst 1, 1) := by decide +kernel
theorem dX7_areaOf_35 : decode cX7_areaOf 35 = .ok (.iadd, 1) := by decide +kernel
theorem dX7_areaOf_36 : decode cX7_areaOf 36 = .ok (.iaload, 1) := by decide +kernel
theorem dX7_areaOf_37 : decode cX7_areaOf 37 = .ok (.isub, 1) := by decide +kernel
theorem dX7_areaOf_38 : decode cX7_areaOf 38 = .ok (.iconst 1, 1) := by decide +kernel
theorem dX7_areaOf_39 : decode cX7_areaOf 39 = .ok (.iadd, 1) := by decide +kernel
theorem dX7_areaOf_40 : decode cX7_areaOf 40 = .ok (.imul, 1) := by decide +kernel
theorem dX7_areaOf_41 : decode cX7_areaOf 41 = .ok (.ireturn, 1) := by decide +kernel
theorem dX7_enlargement_0 : decode cX7_enlargement 0 = .ok (.aload_n 0, 1) := by decide +kernel
theorem dX7_enlargement_1 : decode cX7_enlargement 1 = .ok (.iload_n 1, 1) := by decide +kernel
theorem dX7_enlargement_2 : decode cX7_enlargement 2 = .ok (.iload_n 2, 1) := by decide +kernel
theorem dX7_enlargement_3 : decode cX7_enlargement 3 = .ok (.bipush 11, 2) := by decide +kernel
theorem dX7_enlargement_5 : decode cX7_enlargement 5 = .ok (.invokevirtual 97, 3) := by decide +kernel
theorem dX7_enlargement_8 : decode cX7_enlargement 8 = .ok (.aload_n 0, 1) := by decide +kernel
theorem dX7_enlargement_9 : decode cX7_enlargement 9 = .ok (.bipush 11, 2) := by decide +kernel
theorem dX7_enlargement_11 : decode cX7_enlargement 11 = .ok (.invokevirtual 101, 3) := by decide +kernel
theorem dX7_enlargement_14 : decode cX7_enlargement 14 = .ok (.aload_n 0, 1) := by decide +kernel
theorem dX7_enlargement_15 : decode cX7_enlargement 15 = .ok (.iload_n 1, 1) := by decide +kernel
theorem dX7_enlargement_16 : decode cX7_enlargement 16 = .ok (.invokevirtual 101, 3) := by decide +kernel
theorem dX7_enlargement_19 : decode cX7_enlargement 19 = .ok (.isub, 1) := by decide +kernel
theorem dX7_enlargement_20 : decode cX7_enlargement 20 = .ok (.ireturn, 1) := by decide +kernel
theorem dX7_commonArea_0 : decode cX7_commonArea 0 = .ok (.iconst 4, 1) := by decide +kernel
theorem dX7_commonArea_1 : decode cX7_commonArea 1 = .ok (.iload_n 1, 1) := by decide +kernel
theorem dX7_commonArea_2 : decode cX7_commonArea 2 = .ok (.imul, 1) := by decide +kernel
theorem dX7_commonArea_3 : decode cX7_commonArea 3 = .ok (.istore_n 3, 1) := by decide +kernel
theorem dX7_commonArea_4 : decode cX7_commonArea 4 = .ok (.iconst 4, 1) := by decide +kernel
theorem dX7_commonArea_5 : decode cX7_commonArea 5 = .ok (.iload_n 2, 1) := by decide +kernel
theorem dX7_commonArea_6 : decode cX7_commonArea 6 = .ok (.imul, 1) := by decide +kernel
theorem dX7_commonArea_7 : decode cX7_commonArea 7 = .ok (.istore 4, 2) := by decide +kernel
theorem dX7_commonArea_9 : decode cX7_commonArea 9 = .ok (.aload_n 0, 1) := by decide +kernel
theorem dX7_commonArea_10 : decode cX7_commonArea 10 = .ok (.getfield 22, 3) := by decide +kernel
theorem dX7_commonArea_13 : decode cX7_commonArea 13 = .ok (.iload_n 3, 1) := by decide +kernel
theorem dX7_commonArea_14 : decode cX7_commonArea 14 = .ok (.iconst 2, 1) := by decide +kernel
theorem dX7_commonArea_15 : decode cX7_commonArea 15 = .ok (.iadd, 1) := by decide +kernel
theorem dX7_commonArea_16 : decode cX7_commonArea 16 = .ok (.iaload, 1) := by decide +kernel
theorem dX7_commonArea_17 : decode cX7_commonArea 17 = .ok (.aload_n 0, 1) := by decide +kernel
theorem dX7_commonArea_18 : decode cX7_commonArea 18 = .ok (.getfield 22, 3) := by decide +kernel
theorem dX7_commonArea_21 : decode cX7_commonArea 21 = .ok (.iload 4, 2) := by decide +kernel
theorem dX7_commonArea_23 : decode cX7_commonArea 23 = .ok (.iconst 2, 1) := by decide +kernel
theorem dX7_commonArea_24 : decode cX7_commonArea 24 = .ok (.iadd, 1) := by decide +kernel
theorem dX7_commonArea_25 : decode cX7_commonArea 25 = .ok (.iaload, 1) := by decide +kernel
theorem dX7_commonArea_26 : decode cX7_commonArea 26 = .ok (.invokestatic 86, 3) := by decide +kernel
theorem dX7_commonArea_29 : decode cX7_commonArea 29 = .ok (.aload_n 0, 1) := by decide +kernel
theorem dX7_commonArea_30 : decode cX7_commonArea 30 = .ok (.getfield 22, 3) := by decide +kernel
theorem dX7_commonArea_33 : decode cX7_commonArea 33 = .ok (.iload_n 3, 1) := by decide +kernel
theorem dX7_commonArea_34 : decode cX7_commonArea 34 = .ok (.iaload, 1) := by decide +kernel
theorem dX7_commonArea_35 : decode cX7_commonArea 35 = .ok (.aload_n 0, 1) := by decide +kernel
theorem dX7_commonArea_36 : decode cX7_commonArea 36 = .ok (.getfield 22, 3) := by decide +kernel
theorem dX7_commonArea_39 : decode cX7_commonArea 39 = .ok (.iload 4, 2) := by decide +kernel
theorem dX7_commonArea_41 : decode cX7_commonArea 41 = .ok (.iaload, 1) := by decide +kernel
theorem dX7_commonArea_42 : decode cX7_commonArea 42 = .ok (.invokestatic 90, 3) := by decide +kernel
theorem dX7_commonArea_45 : decode cX7_commonArea 45 = .ok (.isub, 1) := by decide +kernel
theorem dX7_commonArea_46 : decode cX7_commonArea 46 = .ok (.iconst 1, 1) := by decide +kernel
theorem dX7_commonArea_47 : decode cX7_commonArea 47 = .ok (.iadd, 1) := by decide +kernel
theorem dX7_commonArea_48 : decode cX7_commonArea 48 = .ok (.istore 5, 2) := by decide +kernel
theorem dX7_commonArea_50 : decode cX7_commonArea 50 = .ok (.aload_n 0, 1) := by decide +kernel
theorem dX7_commonArea_51 : decode cX7_commonArea 51 = .ok (.getfield 22, 3) := by decide +kernel
theorem dX7_commonArea_54 : decode cX7_commonArea 54 = .ok (.iload_n 3, 1) := by decide +kernel
theorem dX7_commonArea_55 : decode cX7_commonArea 55 = .ok (.iconst 3, 1) := by decide +kernel
theorem dX7_commonArea_56 : decode cX7_commonArea 56 = .ok (.iadd, 1) := by decide +kernel
theorem dX7_commonArea_57 : decode cX7_commonArea 57 = .ok (.iaload, 1) := by decide +kernel
theorem dX7_commonArea_58 : decode cX7_commonArea 58 = .ok (.aload_n 0, 1) := by decide +kernel
theorem dX7_commonArea_59 : decode cX7_commonArea 59 = .ok (.getfield 22, 3) := by decide +kernel
theorem dX7_commonArea_62 : decode cX7_commonArea 62 = .ok (.iload 4, 2) := by decide +kernel
theorem dX7_commonArea_64 : decode cX7_commonArea 64 = .ok (.iconst 3, 1) := by decide +kernel
theorem dX7_commonArea_65 : decode cX7_commonArea 65 = .ok (.iadd, 1) := by decide +kernel
theorem dX7_commonArea_66 : decode cX7_commonArea 66 = .ok (.iaload, 1) := by decide +kernel
theorem dX7_commonArea_67 : decode cX7_commonArea 67 = .ok (.invokestatic 86, 3) := by decide +kernel
theorem dX7_commonArea_70 : decode cX7_commonArea 70 = .ok (.aload_n 0, 1) := by decide +kernel
theorem dX7_commonArea_71 : decode cX7_commonArea 71 = .ok (.getfield 22, 3) := by decide +kernel
theorem dX7_commonArea_74 : decode cX7_commonArea 74 = .ok (.iload_n 3, 1) := by decide +kernel
theorem dX7_commonArea_75 : decode cX7_commonArea 75 = .ok (.iconst 1, 1) := by decide +kernel
theorem dX7_commonArea_76 : decode cX7_commonArea 76 = .ok (.iadd, 1) := by decide +kernel
theorem dX7_commonArea_77 : decode cX7_commonArea 77 = .ok (.iaload, 1) := by decide +kernel
theorem dX7_commonArea_78 : decode cX7_commonArea 78 = .ok (.aload_n 0, 1) := by decide +kernel
theorem dX7_commonArea_79 : decode cX7_commonArea 79 = .ok (.getfield 22, 3) := by decide +kernel
theorem dX7_commonArea_82 : decode cX7_commonArea 82 = .ok (.iload 4, 2) := by decide +kernel
theorem dX7_commonArea_84 : decode cX7_commonArea 84 = .ok (.iconst 1, 1) := by decide +kernel
theorem dX7_commonArea_85 : decode cX7_commonArea 85 = .ok (.iadd, 1) := by decide +kernel
theorem dX7_commonArea_86 : decode cX7_commonArea 86 = .ok (.iaload, 1) := by decide +kernel
theorem dX7_commonArea_87 : decode cX7_commonArea 87 = .ok (.invokestatic 90, 3) := by decide +kernel
theorem dX7_commonArea_90 : decode cX7_commonArea 90 = .ok (.isub, 1) := by decide +kernel
theorem dX7_commonArea_91 : decode cX7_commonArea 91 = .ok (.iconst 1, 1) := by decide +kernel
theorem dX7_commonArea_92 : decode cX7_commonArea 92 = .ok (.iadd, 1) := by decide +kernel
theorem dX7_commonArea_93 : decode cX7_commonArea 93 = .ok (.istore 6, 2) := by decide +kernel
theorem dX7_commonArea_95 : decode cX7_commonArea 95 = .ok (.iload 5, 2) := by decide +kernel
theorem dX7_commonArea_97 : decode cX7_commonArea 97 = .ok (.ifCond .le 16, 3) := by decide +kernel
theorem dX7_commonArea_100 : decode cX7_commonArea 100 = .ok (.iload 6, 2) := by decide +kernel
theorem dX7_commonArea_102 : decode cX7_commonArea 102 = .ok (.ifCond .le 11, 3) := by decide +kernel
theorem dX7_commonArea_105 : decode cX7_commonArea 105 = .ok (.iload 5, 2) := by decide +kernel
theorem dX7_commonArea_107 : decode cX7_commonArea 107 = .ok (.iload 6, 2) := by decide +kernel
theorem dX7_commonArea_109 : decode cX7_commonArea 109 = .ok (.imul, 1) := by decide +kernel
theorem dX7_commonArea_110 : decode cX7_commonArea 110 = .ok (.goto 4, 3) := by decide +kernel
theorem dX7_commonArea_113 : decode cX7_commonArea 113 = .ok (.iconst 0, 1) := by decide +kernel
theorem dX7_commonArea_114 : decode cX7_commonArea 114 = .ok (.ireturn, 1) := by decide +kernel
theorem dX7_centerDistance_0 : decode cX7_centerDistance 0 = .ok (.iconst 4, 1) := by decide +kernel
theorem dX7_centerDistance_1 : decode cX7_centerDistance 1 = .ok (.iload_n 1, 1) := by decide +kernel
theorem dX7_centerDistance_2 : decode cX7_centerDistance 2 = .ok (.imul, 1) := by decide +kernel
theorem dX7_centerDistance_3 : decode cX7_centerDistance 3 = .ok (.istore_n 3, 1) := by decide +kernel
theorem dX7_centerDistance_4 : decode cX7_centerDistance 4 = .ok (.iconst 4, 1) := by decide +kernel
theorem dX7_centerDistance_5 : decode cX7_centerDistance 5 = .ok (.iload_n 2, 1) := by decide +kernel
theorem dX7_centerDistance_6 : decode cX7_centerDistance 6 = .ok (.imul, 1) := by decide +kernel
theorem dX7_centerDistance_7 : decode cX7_centerDistance 7 = .ok (.istore 4, 2) := by decide +kernel
theorem dX7_centerDistance_9 : decode cX7_centerDistance 9 = .ok (.aload_n 0, 1) := by decide +kernel
theorem dX7_centerDistance_10 : decode cX7_centerDistance 10 = .ok (.getfield 22, 3) := by decide +kernel
theorem dX7_centerDistance_13 : decode cX7_centerDistance 13 = .ok (.iload_n 3, 1) := by decide +kernel
theorem dX7_centerDistance_14 : decode cX7_centerDistance 14 = .ok (.iaload, 1) := by decide +kernel
theorem dX7_centerDistance_15 : decode cX7_centerDistance 15 = .ok (.aload_n 0, 1) := by decide +kernel
theorem dX7_centerDistance_16 : decode cX7_centerDistance 16 = .ok (.getfield 22, 3) := by decide +kernel
theorem dX7_centerDistance_19 : decode cX7_centerDistance 19 = .ok (.iload_n 3, 1) := by decide +kernel
theorem dX7_centerDistance_20 : decode cX7_centerDistance 20 = .ok (.iconst 2, 1) := by decide +kernel
theorem dX7_centerDistance_21 : decode cX7_centerDistance 21 = .ok (.iadd, 1) := by decide +kernel
theorem dX7_centerDistance_22 : decode cX7_centerDistance 22 = .ok (.iaload, 1) := by decide +kernel
theorem dX7_centerDistance_23 : decode cX7_centerDistance 23 = .ok (.iadd, 1) := by decide +kernel
theorem dX7_centerDistance_24 : decode cX7_centerDistance 24 = .ok (.aload_n 0, 1) := by decide +kernel
theorem dX7_centerDistance_25 : decode cX7_centerDistance 25 = .ok (.getfield 22, 3) := by decide +kernel
theorem dX7_centerDistance_28 : decode cX7_centerDistance 28 = .ok (.iload 4, 2) := by decide +kernel
theorem dX7_centerDistance_30 : decode cX7_centerDistance 30 = .ok (.iaload, 1) := by decide +kernel
theorem dX7_centerDistance_31 : decode cX7_centerDistance 31 = .ok (.isub, 1) := by decide +kernel
theorem dX7_centerDistance_32 : decode cX7_centerDistance 32 = .ok (.aload_n 0, 1) := by decide +kernel
theorem dX7_centerDistance_33 : decode cX7_centerDistance 33 = .ok (.getfield 22, 3) := by decide +kernel
theorem dX7_centerDistance_36 : decode cX7_centerDistance 36 = .ok (.iload 4, 2) := by decide +kernel
theorem dX7_centerDistance_38 : decode cX7_centerDistance 38 = .ok (.iconst 2, 1) := by decide +kernel
theorem dX7_centerDistance_39 : decode cX7_centerDistance 39 = .ok (.iadd, 1) := by decide +kernel
theorem dX7_centerDistance_40 : decode cX7_centerDistance 40 = .ok (.iaload, 1) := by decide +kernel
theorem dX7_centerDistance_41 : decode cX7_centerDistance 41 = .ok (.isub, 1) := by decide +kernel
theorem dX7_centerDistance_42 : decode cX7_centerDistance 42 = .ok (.istore 5, 2) := by decide +kernel
theorem dX7_centerDistance_44 : decode cX7_centerDistance 44 = .ok (.aload_n 0, 1) := by decide +kernel
theorem dX7_centerDistance_45 : decode cX7_centerDistance 45 = .ok (.getfield 22, 3) := by decide +kernel
theorem dX7_centerDistance_48 : decode cX7_centerDistance 48 = .ok (.iload_n 3, 1) := by decide +kernel
theorem dX7_centerDistance_49 : decode cX7_centerDistance 49 = .ok (.iconst 1, 1) := by decide +kernel
theorem dX7_centerDistance_50 : decode cX7_centerDistance 50 = .ok (.iadd, 1) := by decide +kernel
theorem dX7_centerDistance_51 : decode cX7_centerDistance 51 = .ok (.iaload, 1) := by decide +kernel
theorem dX7_centerDistance_52 : decode cX7_centerDistance 52 = .ok (.aload_n 0, 1) := by decide +kernel
theorem dX7_centerDistance_53 : decode cX7_centerDistance 53 = .ok (.getfield 22, 3) := by decide +kernel
theorem dX7_centerDistance_56 : decode cX7_centerDistance 56 = .ok (.iload_n 3, 1) := by decide +kernel
theorem dX7_centerDistance_57 : decode cX7_centerDistance 57 = .ok (.iconst 3, 1) := by decide +kernel
theorem dX7_centerDistance_58 : decode cX7_centerDistance 58 = .ok (.iadd, 1) := by decide +kernel
theorem dX7_centerDistance_59 : decode cX7_centerDistance 59 = .ok (.iaload, 1) := by decide +kernel
theorem dX7_centerDistance_60 : decode cX7_centerDistance 60 = .ok (.iadd, 1) := by decide +kernel
theorem dX7_centerDistance_61 : decode cX7_centerDistance 61 = .ok (.aload_n 0, 1) := by decide +kernel
theorem dX7_centerDistance_62 : decode cX7_centerDistance 62 = .ok (.getfield 22, 3) := by decide +kernel
theorem dX7_centerDistance_65 : decode cX7_centerDistance 65 = .ok (.iload 4, 2) := by decide +kernel
theorem dX7_centerDistance_67 : decode cX7_centerDistance 67 = .ok (.iconst 1, 1) := by decide +kernel
theorem dX7_centerDistance_68 : decode cX7_centerDistance 68 = .ok (.iadd, 1) := by decide +kernel
theorem dX7_centerDistance_69 : decode cX7_centerDistance 69 = .ok (.iaload, 1) := by decide +kernel
theorem dX7_centerDistance_70 : decode cX7_centerDistance 70 = .ok (.isub, 1) := by decide +kernel
theorem dX7_centerDistance_71 : decode cX7_centerDistance 71 = .ok (.aload_n 0, 1) := by decide +kernel
theorem dX7_centerDistance_72 : decode cX7_centerDistance 72 = .ok (.getfield 22, 3) := by decide +kernel
theorem dX7_centerDistance_75 : decode cX7_centerDistance 75 = .ok (.iload 4, 2) := by decide +kernel
theorem dX7_centerDistance_77 : decode cX7_centerDistance 77 = .ok (.iconst 3, 1) := by decide +kernel
theorem dX7_centerDistance_78 : decode cX7_centerDistance 78 = .ok (.iadd, 1) := by decide +kernel
theorem dX7_centerDistance_79 : decode cX7_centerDistance 79 = .ok (.iaload, 1) := by decide +kernel
theorem dX7_centerDistance_80 : decode cX7_centerDistance 80 = .ok (.isub, 1) := by decide +kernel
theorem dX7_centerDistance_81 : decode cX7_centerDistance 81 = .ok (.istore 6, 2) := by decide +kernel
theorem dX7_centerDistance_83 : decode cX7_centerDistance 83 = .ok (.iload 5, 2) := by decide +kernel
theorem dX7_centerDistance_85 : decode cX7_centerDistance 85 = .ok (.iload 5, 2) := by decide +kernel
theorem dX7_centerDistance_87 : decode cX7_centerDistance 87 = .ok (.imul, 1) := by decide +kernel
theorem dX7_centerDistance_88 : decode cX7_centerDistance 88 = .ok (.iload 6, 2) := by decide +kernel
theorem dX7_centerDistance_90 : decode cX7_centerDistance 90 = .ok (.iload 6, 2) := by decide +kernel
theorem dX7_centerDistance_92 : decode cX7_centerDistance 92 = .ok (.imul, 1) := by decide +kernel
theorem dX7_centerDistance_93 : decode cX7_centerDistance 93 = .ok (.iadd, 1) := by decide +kernel
theorem dX7_centerDistance_94 : decode cX7_centerDistance 94 = .ok (.ireturn, 1) := by decide +kernel
theorem dX7_takes_0 : decode cX7_takes 0 = .ok (.aload_n 0, 1) := by decide +kernel
theorem dX7_takes_1 : decode cX7_takes 1 = .ok (.iload_n 3, 1) := by decide +kernel
theorem dX7_takes_2 : decode cX7_takes 2 = .ok (.iload_n 2, 1) := by decide +kernel
theorem dX7_takes_3 : decode cX7_takes 3 = .ok (.isub, 1) := by decide +kernel
theorem dX7_takes_4 : decode cX7_takes 4 = .ok (.putfield 104, 3) := by decide +kernel
theorem dX7_takes_7 : decode cX7_takes 7 = .ok (.iconst 0, 1) := by decide +kernel
theorem dX7_takes_8 : decode cX7_takes 8 = .ok (.istore 4, 2) := by decide +kernel
theorem dX7_takes_10 : decode cX7_takes 10 = .ok (.iload 4, 2) := by decide +kernel
theorem dX7_takes_12 : decode cX7_takes 12 = .ok (.aload_n 0, 1) := by decide +kernel
theorem dX7_takes_13 : decode cX7_takes 13 = .ok (.getfield 104, 3) := by decide +kernel
theorem dX7_takes_16 : decode cX7_takes 16 = .ok (.if_icmp .ge 22, 3) := by decide +kernel
theorem dX7_takes_19 : decode cX7_takes 19 = .ok (.aload_n 0, 1) := by decide +kernel
theorem dX7_takes_20 : decode cX7_takes 20 = .ok (.getfield 25, 3) := by decide +kernel
theorem dX7_takes_23 : decode cX7_takes 23 = .ok (.iload 4, 2) := by decide +kernel
theorem dX7_takes_25 : decode cX7_takes 25 = .ok (.aload_n 1, 1) := by decide +kernel
theorem dX7_takes_26 : decode cX7_takes 26 = .ok (.iload_n 2, 1) := by decide +kernel
theorem dX7_takes_27 : decode cX7_takes 27 = .ok (.iload 4, 2) := by decide +kernel
theorem dX7_takes_29 : decode cX7_takes 29 = .ok (.iadd, 1) := by decide +kernel
theorem dX7_takes_30 : decode cX7_takes 30 = .ok (.iaload, 1) := by decide +kernel
theorem dX7_takes_31 : decode cX7_takes 31 = .ok (.iastore, 1) := by decide +kernel
theorem dX7_takes_32 : decode cX7_takes 32 = .ok (.iinc 4 1, 3) := by decide +kernel
theorem dX7_takes_35 : decode cX7_takes 35 = .ok (.goto (-25), 3) := by decide +kernel
theorem dX7_takes_38 : decode cX7_takes 38 = .ok (.return_, 1) := by decide +kernel
theorem dX7_chosen_0 : decode cX7_chosen 0 = .ok (.iconst 0, 1) := by decide +kernel
theorem dX7_chosen_1 : decode cX7_chosen 1 = .ok (.istore_n 1, 1) := by decide +kernel
theorem dX7_chosen_2 : decode cX7_chosen 2 = .ok (.aload_n 0, 1) := by decide +kernel
theorem dX7_chosen_3 : decode cX7_chosen 3 = .ok (.aload_n 0, 1) := by decide +kernel
theorem dX7_chosen_4 : decode cX7_chosen 4 = .ok (.getfield 25, 3) := by decide +kernel
theorem dX7_chosen_7 : decode cX7_chosen 7 = .ok (.iconst 0, 1) := by decide +kernel
theorem dX7_chosen_8 : decode cX7_chosen 8 = .ok (.aload_n 0, 1) := by decide +kernel
theorem dX7_chosen_9 : decode cX7_chosen 9 = .ok (.getfield 104, 3) := by decide +kernel
theorem dX7_chosen_12 : decode cX7_chosen 12 = .ok (.iconst 0, 1) := by decide +kernel
theorem dX7_chosen_13 : decode cX7_chosen 13 = .ok (.invokevirtual 93, 3) := by decide +kernel
theorem dX7_chosen_16 : decode cX7_chosen 16 = .ok (.aload_n 0, 1) := by decide +kernel
theorem dX7_chosen_17 : decode cX7_chosen 17 = .ok (.iload_n 1, 1) := by decide +kernel
theorem dX7_chosen_18 : decode cX7_chosen 18 = .ok (.invokevirtual 80, 3) := by decide +kernel
theorem dX7_chosen_21 : decode cX7_chosen 21 = .ok (.aload_n 0, 1) := by decide +kernel
theorem dX7_chosen_22 : decode cX7_chosen 22 = .ok (.getfield 107, 3) := by decide +kernel
theorem dX7_chosen_25 : decode cX7_chosen 25 = .ok (.if_icmp .le 101, 3) := by decide +kernel
theorem dX7_chosen_28 : decode cX7_chosen 28 = .ok (.bipush (-5), 2) := by decide +kernel
theorem dX7_chosen_30 : decode cX7_chosen 30 = .ok (.istore_n 2, 1) := by decide +kernel
theorem dX7_chosen_31 : decode cX7_chosen 31 = .ok (.iconst 0, 1) := by decide +kernel
theorem dX7_chosen_32 : decode cX7_chosen 32 = .ok (.istore_n 3, 1) := by decide +kernel
theorem dX7_chosen_33 : decode cX7_chosen 33 = .ok (.iconst 0, 1) := by decide +kernel
theorem dX7_chosen_34 : decode cX7_chosen 34 = .ok (.istore 4, 2) := by decide +kernel
theorem dX7_chosen_36 : decode cX7_chosen 36 = .ok (.aload_n 0, 1) := by decide +kernel
theorem dX7_chosen_37 : decode cX7_chosen 37 = .ok (.iload_n 1, 1) := by decide +kernel
theorem dX7_chosen_38 : decode cX7_chosen 38 = .ok (.invokevirtual 83, 3) := by decide +kernel
theorem dX7_chosen_41 : decode cX7_chosen 41 = .ok (.istore 5, 2) := by decide +kernel
theorem dX7_chosen_43 : decode cX7_chosen 43 = .ok (.iload_n 1, 1) := by decide +kernel
theorem dX7_chosen_44 : decode cX7_chosen 44 = .ok (.iconst 1, 1) := by decide +kernel
theorem dX7_chosen_45 : decode cX7_chosen 45 = .ok (.iadd, 1) := by decide +kernel
theorem dX7_chosen_46 : decode cX7_chosen 46 = .ok (.istore 6, 2) := by decide +kernel
theorem dX7_chosen_48 : decode cX7_chosen 48 = .ok (.iload 6, 2) := by decide +kernel
theorem dX7_chosen_50 : decode cX7_chosen 50 = .ok (.iload 5, 2) := by decide +kernel
theorem dX7_chosen_52 : decode cX7_chosen 52 = .ok (.if_icmp .ge 69, 3) := by decide +kernel
theorem dX7_chosen_55 : decode cX7_chosen 55 = .ok (.aload_n 0, 1) := by decide +kernel
theorem dX7_chosen_56 : decode cX7_chosen 56 = .ok (.iload 6, 2) := by decide +kernel
theorem dX7_chosen_58 : decode cX7_chosen 58 = .ok (.iconst 1, 1) := by decide +kernel
theorem dX7_chosen_59 : decode cX7_chosen 59 = .ok (.invokevirtual 110, 3) := by decide +kernel
theorem dX7_chosen_62 : decode cX7_chosen 62 = .ok (.aload_n 0, 1) := by decide +kernel
theorem dX7_chosen_63 : decode cX7_chosen 63 = .ok (.iconst 1, 1) := by decide +kernel
theorem dX7_chosen_64 : decode cX7_chosen 64 = .ok (.iconst 0, 1) := by decide +kernel
theorem dX7_chosen_65 : decode cX7_chosen 65 = .ok (.invokevirtual 114, 3) := by decide +kernel
theorem dX7_chosen_68 : decode cX7_chosen 68 = .ok (.istore 7, 2) := by decide +kernel
theorem dX7_chosen_70 : decode cX7_chosen 70 = .ok (.aload_n 0, 1) := by decide +kernel
theorem dX7_chosen_71 : decode cX7_chosen 71 = .ok (.iconst 1, 1) := by decide +kernel
theorem dX7_chosen_72 : decode cX7_chosen 72 = .ok (.invokevirtual 101, 3) := by decide +kernel
theorem dX7_chosen_75 : decode cX7_chosen 75 = .ok (.istore 8, 2) := by decide +kernel
theorem dX7_chosen_77 : decode cX7_chosen 77 = .ok (.iload_n 2, 1) := by decide +kernel
theorem dX7_chosen_78 : decode cX7_chosen 78 = .ok (.ifCond .lt 22, 3) := by decide +kernel
theorem dX7_chosen_81 : decode cX7_chosen 81 = .ok (.iload 7, 2) := by decide +kernel
theorem dX7_chosen_83 : decode cX7_chosen 83 = .ok (.iload_n 3, 1) := by decide +kernel
theorem dX7_chosen_84 : decode cX7_chosen 84 = .ok (.if_icmp .lt 16, 3) := by decide +kernel
theorem dX7_chosen_87 : decode cX7_chosen 87 = .ok (.iload 7, 2) := by decide +kernel
theorem dX7_chosen_89 : decode cX7_chosen 89 = .ok (.iload_n 3, 1) := by decide +kernel
theorem dX7_chosen_90 : decode cX7_chosen 90 = .ok (.if_icmp .ne 20, 3) := by decide +kernel
theorem dX7_chosen_93 : decode cX7_chosen 93 = .ok (.iload 8, 2) := by decide +kernel
theorem dX7_chosen_95 : decode cX7_chosen 95 = .ok (.iload 4, 2) := by decide +kernel
theorem dX7_chosen_97 : decode cX7_chosen 97 = .ok (.if_icmp .ge 13, 3) := by decide +kernel
theorem dX7_chosen_100 : decode cX7_chosen 100 = .ok (.iload 6, 2) := by decide +kernel
theorem dX7_chosen_102 : decode cX7_chosen 102 = .ok (.istore_n 2, 1) := by decide +kernel
theorem dX7_chosen_103 : decode cX7_chosen 103 = .ok (.iload 7, 2) := by decide +kernel
theorem dX7_chosen_105 : decode cX7_chosen 105 = .ok (.istore_n 3, 1) := by decide +kernel
theorem dX7_chosen_106 : decode cX7_chosen 106 = .ok (.iload 8, 2) := by decide +kernel
theorem dX7_chosen_108 : decode cX7_chosen 108 = .ok (.istore 4, 2) := by decide +kernel
theorem dX7_chosen_110 : decode cX7_chosen 110 = .ok (.aload_n 0, 1) := by decide +kernel
theorem dX7_chosen_111 : decode cX7_chosen 111 = .ok (.iload 6, 2) := by decide +kernel
theorem dX7_chosen_113 : decode cX7_chosen 113 = .ok (.invokevirtual 83, 3) := by decide +kernel
theorem dX7_chosen_116 : decode cX7_chosen 116 = .ok (.istore 6, 2) := by decide +kernel
theorem dX7_chosen_118 : decode cX7_chosen 118 = .ok (.goto (-70), 3) := by decide +kernel
theorem dX7_chosen_121 : decode cX7_chosen 121 = .ok (.iload_n 2, 1) := by decide +kernel
theorem dX7_chosen_122 : decode cX7_chosen 122 = .ok (.istore_n 1, 1) := by decide +kernel
theorem dX7_chosen_123 : decode cX7_chosen 123 = .ok (.goto (-107), 3) := by decide +kernel
theorem dX7_chosen_126 : decode cX7_chosen 126 = .ok (.iload_n 1, 1) := by decide +kernel
theorem dX7_chosen_127 : decode cX7_chosen 127 = .ok (.ireturn, 1) := by decide +kernel
theorem dX7_puts_0 : decode cX7_puts 0 = .ok (.aload_n 0, 1) := by decide +kernel
theorem dX7_puts_1 : decode cX7_puts 1 = .ok (.iload_n 1, 1) := by decide +kernel
theorem dX7_puts_2 : decode cX7_puts 2 = .ok (.invokevirtual 83, 3) := by decide +kernel
theorem dX7_puts_5 : decode cX7_puts 5 = .ok (.istore_n 2, 1) := by decide +kernel
theorem dX7_puts_6 : decode cX7_puts 6 = .ok (.aload_n 0, 1) := by decide +kernel
theorem dX7_puts_7 : decode cX7_puts 7 = .ok (.iload_n 2, 1) := by decide +kernel
theorem dX7_puts_8 : decode cX7_puts 8 = .ok (.aload_n 0, 1) := by decide +kernel
theorem dX7_puts_9 : decode cX7_puts 9 = .ok (.getfield 104, 3) := by decide +kernel
theorem dX7_puts_12 : decode cX7_puts 12 = .ok (.invokevirtual 117, 3) := by decide +kernel
theorem dX7_puts_15 : decode cX7_puts 15 = .ok (.iconst 0, 1) := by decide +kernel
theorem dX7_puts_16 : decode cX7_puts 16 = .ok (.istore_n 3, 1) := by decide +kernel
theorem dX7_puts_17 : decode cX7_puts 17 = .ok (.iload_n 3, 1) := by decide +kernel
theorem dX7_puts_18 : decode cX7_puts 18 = .ok (.aload_n 0, 1) := by decide +kernel
theorem dX7_puts_19 : decode cX7_puts 19 = .ok (.getfield 104, 3) := by decide +kernel
theorem dX7_puts_22 : decode cX7_puts 22 = .ok (.if_icmp .ge 26, 3) := by decide +kernel
theorem dX7_puts_25 : decode cX7_puts 25 = .ok (.aload_n 0, 1) := by decide +kernel
theorem dX7_puts_26 : decode cX7_puts 26 = .ok (.getfield 7, 3) := by decide +kernel
theorem dX7_puts_29 : decode cX7_puts 29 = .ok (.bipush 101, 2) := by decide +kernel
theorem dX7_puts_31 : decode cX7_puts 31 = .ok (.iload_n 2, 1) := by decide +kernel
theorem dX7_puts_32 : decode cX7_puts 32 = .ok (.iadd, 1) := by decide +kernel
theorem dX7_puts_33 : decode cX7_puts 33 = .ok (.iload_n 3, 1) := by decide +kernel
theorem dX7_puts_34 : decode cX7_puts 34 = .ok (.iadd, 1) := by decide +kernel
theorem dX7_puts_35 : decode cX7_puts 35 = .ok (.aload_n 0, 1) := by decide +kernel
theorem dX7_puts_36 : decode cX7_puts 36 = .ok (.getfield 25, 3) := by decide +kernel
theorem dX7_puts_39 : decode cX7_puts 39 = .ok (.iload_n 3, 1) := by decide +kernel
theorem dX7_puts_40 : decode cX7_puts 40 = .ok (.iaload, 1) := by decide +kernel
theorem dX7_puts_41 : decode cX7_puts 41 = .ok (.iastore, 1) := by decide +kernel
theorem dX7_puts_42 : decode cX7_puts 42 = .ok (.iinc 3 1, 3) := by decide +kernel
theorem dX7_puts_45 : decode cX7_puts 45 = .ok (.goto (-28), 3) := by decide +kernel
theorem dX7_puts_48 : decode cX7_puts 48 = .ok (.return_, 1) := by decide +kernel
theorem dX7_takesFar_0 : decode cX7_takesFar 0 = .ok (.aload_n 0, 1) := by decide +kernel
theorem dX7_takesFar_1 : decode cX7_takesFar 1 = .ok (.getfield 28, 3) := by decide +kernel
theorem dX7_takesFar_4 : decode cX7_takesFar 4 = .ok (.aload_n 0, 1) := by decide +kernel
theorem dX7_takesFar_5 : decode cX7_takesFar 5 = .ok (.iload_n 1, 1) := by decide +kernel
theorem dX7_takesFar_6 : decode cX7_takesFar 6 = .ok (.invokevirtual 80, 3) := by decide +kernel
theorem dX7_takesFar_9 : decode cX7_takesFar 9 = .ok (.iconst 1, 1) := by decide +kernel
theorem dX7_takesFar_10 : decode cX7_takesFar 10 = .ok (.bastore, 1) := by decide +kernel
theorem dX7_takesFar_11 : decode cX7_takesFar 11 = .ok (.aload_n 0, 1) := by decide +kernel
theorem dX7_takesFar_12 : decode cX7_takesFar 12 = .ok (.getfield 7, 3) := by decide +kernel
theorem dX7_takesFar_15 : decode cX7_takesFar 15 = .ok (.iconst 3, 1) := by decide +kernel
theorem dX7_takesFar_16 : decode cX7_takesFar 16 = .ok (.dup2, 1) := by decide +kernel
theorem dX7_takesFar_17 : decode cX7_takesFar 17 = .ok (.iaload, 1) := by decide +kernel
theorem dX7_takesFar_18 : decode cX7_takesFar 18 = .ok (.iconst 1, 1) := by decide +kernel
theorem dX7_takesFar_19 : decode cX7_takesFar 19 = .ok (.iadd, 1) := by decide +kernel
theorem dX7_takesFar_20 : decode cX7_takesFar 20 = .ok (.iastore, 1) := by decide +kernel
theorem dX7_takesFar_21 : decode cX7_takesFar 21 = .ok (.aload_n 0, 1) := by decide +kernel
theorem dX7_takesFar_22 : decode cX7_takesFar 22 = .ok (.iload_n 1, 1) := by decide +kernel
theorem dX7_takesFar_23 : decode cX7_takesFar 23 = .ok (.iconst 1, 1) := by decide +kernel
theorem dX7_takesFar_24 : decode cX7_takesFar 24 = .ok (.invokevirtual 110, 3) := by decide +kernel
theorem dX7_takesFar_27 : decode cX7_takesFar 27 = .ok (.bipush (-5), 2) := by decide +kernel
theorem dX7_takesFar_29 : decode cX7_takesFar 29 = .ok (.istore_n 2, 1) := by decide +kernel
theorem dX7_takesFar_30 : decode cX7_takesFar 30 = .ok (.iconst 0, 1) := by decide +kernel
theorem dX7_takesFar_31 : decode cX7_takesFar 31 = .ok (.istore_n 3, 1) := by decide +kernel
theorem dX7_takesFar_32 : decode cX7_takesFar 32 = .ok (.aload_n 0, 1) := by decide +kernel
theorem dX7_takesFar_33 : decode cX7_takesFar 33 = .ok (.iload_n 1, 1) := by decide +kernel
theorem dX7_takesFar_34 : decode cX7_takesFar 34 = .ok (.invokevirtual 83, 3) := by decide +kernel
theorem dX7_takesFar_37 : decode cX7_takesFar 37 = .ok (.istore 4, 2) := by decide +kernel
theorem dX7_takesFar_39 : decode cX7_takesFar 39 = .ok (.iload_n 1, 1) := by decide +kernel
theorem dX7_takesFar_40 : decode cX7_takesFar 40 = .ok (.iconst 1, 1) := by decide +kernel
theorem dX7_takesFar_41 : decode cX7_takesFar 41 = .ok (.iadd, 1) := by decide +kernel
theorem dX7_takesFar_42 : decode cX7_takesFar 42 = .ok (.istore 5, 2) := by decide +kernel
theorem dX7_takesFar_44 : decode cX7_takesFar 44 = .ok (.iload 5, 2) := by decide +kernel
theorem dX7_takesFar_46 : decode cX7_takesFar 46 = .ok (.iload 4, 2) := by decide +kernel
theorem dX7_takesFar_48 : decode cX7_takesFar 48 = .ok (.if_icmp .ge 59, 3) := by decide +kernel
theorem dX7_takesFar_51 : decode cX7_takesFar 51 = .ok (.aload_n 0, 1) := by decide +kernel
theorem dX7_takesFar_52 : decode cX7_takesFar 52 = .ok (.iload 5, 2) := by decide +kernel
theorem dX7_takesFar_54 : decode cX7_takesFar 54 = .ok (.iconst 2, 1) := by decide +kernel
theorem dX7_takesFar_55 : decode cX7_takesFar 55 = .ok (.invokevirtual 110, 3) := by decide +kernel
theorem dX7_takesFar_58 : decode cX7_takesFar 58 = .ok (.aload_n 0, 1) := by decide +kernel
theorem dX7_takesFar_59 : decode cX7_takesFar 59 = .ok (.iconst 1, 1) := by decide +kernel
theorem dX7_takesFar_60 : decode cX7_takesFar 60 = .ok (.iconst 2, 1) := by decide +kernel
theorem dX7_takesFar_61 : decode cX7_takesFar 61 = .ok (.invokevirtual 120, 3) := by decide +kernel
theorem dX7_takesFar_64 : decode cX7_takesFar 64 = .ok (.istore 6, 2) := by decide +kernel
theorem dX7_takesFar_66 : decode cX7_takesFar 66 = .ok (.iload_n 2, 1) := by decide +kernel
theorem dX7_takesFar_67 : decode cX7_takesFar 67 = .ok (.ifCond .lt 9, 3) := by decide +kernel
theorem dX7_takesFar_70 : decode cX7_takesFar 70 = .ok (.iload 6, 2) := by decide +kernel
theorem dX7_takesFar_72 : decode cX7_takesFar 72 = .ok (.iload_n 3, 1) := by decide +kernel
theorem dX7_takesFar_73 : decode cX7_takesFar 73 = .ok (.if_icmp .lt 8, 3) := by decide +kernel
theorem dX7_takesFar_76 : decode cX7_takesFar 76 = .ok (.iload 5, 2) := by decide +kernel
theorem dX7_takesFar_78 : decode cX7_takesFar 78 = .ok (.goto 4, 3) := by decide +kernel
theorem dX7_takesFar_81 : decode cX7_takesFar 81 = .ok (.iload_n 2, 1) := by decide +kernel
theorem dX7_takesFar_82 : decode cX7_takesFar 82 = .ok (.istore_n 2, 1) := by decide +kernel
theorem dX7_takesFar_83 : decode cX7_takesFar 83 = .ok (.iload 6, 2) := by decide +kernel
theorem dX7_takesFar_85 : decode cX7_takesFar 85 = .ok (.iload_n 3, 1) := by decide +kernel
theorem dX7_takesFar_86 : decode cX7_takesFar 86 = .ok (.if_icmp .le 8, 3) := by decide +kernel
theorem dX7_takesFar_89 : decode cX7_takesFar 89 = .ok (.iload 6, 2) := by decide +kernel
theorem dX7_takesFar_91 : decode cX7_takesFar 91 = .ok (.goto 4, 3) := by decide +kernel
theorem dX7_takesFar_94 : decode cX7_takesFar 94 = .ok (.iload_n 3, 1) := by decide +kernel
theorem dX7_takesFar_95 : decode cX7_takesFar 95 = .ok (.istore_n 3, 1) := by decide +kernel
theorem dX7_takesFar_96 : decode cX7_takesFar 96 = .ok (.aload_n 0, 1) := by decide +kernel
theorem dX7_takesFar_97 : decode cX7_takesFar 97 = .ok (.iload 5, 2) := by decide +kernel
theorem dX7_takesFar_99 : decode cX7_takesFar 99 = .ok (.invokevirtual 83, 3) := by decide +kernel
theorem dX7_takesFar_102 : decode cX7_takesFar 102 = .ok (.istore 5, 2) := by decide +kernel
theorem dX7_takesFar_104 : decode cX7_takesFar 104 = .ok (.goto (-60), 3) := by decide +kernel
theorem dX7_takesFar_107 : decode cX7_takesFar 107 = .ok (.aload_n 0, 1) := by decide +kernel
theorem dX7_takesFar_108 : decode cX7_takesFar 108 = .ok (.aload_n 0, 1) := by decide +kernel
theorem dX7_takesFar_109 : decode cX7_takesFar 109 = .ok (.iload_n 1, 1) := by decide +kernel
theorem dX7_takesFar_110 : decode cX7_takesFar 110 = .ok (.invokevirtual 80, 3) := by decide +kernel
theorem dX7_takesFar_113 : decode cX7_takesFar 113 = .ok (.putfield 107, 3) := by decide +kernel
theorem dX7_takesFar_116 : decode cX7_takesFar 116 = .ok (.aload_n 0, 1) := by decide +kernel
theorem dX7_takesFar_117 : decode cX7_takesFar 117 = .ok (.iload_n 2, 1) := by decide +kernel
theorem dX7_takesFar_118 : decode cX7_takesFar 118 = .ok (.invokevirtual 83, 3) := by decide +kernel
theorem dX7_takesFar_121 : decode cX7_takesFar 121 = .ok (.istore 5, 2) := by decide +kernel
theorem dX7_takesFar_123 : decode cX7_takesFar 123 = .ok (.aload_n 0, 1) := by decide +kernel
theorem dX7_takesFar_124 : decode cX7_takesFar 124 = .ok (.aload_n 0, 1) := by decide +kernel
theorem dX7_takesFar_125 : decode cX7_takesFar 125 = .ok (.getfield 7, 3) := by decide +kernel
theorem dX7_takesFar_128 : decode cX7_takesFar 128 = .ok (.bipush 101, 2) := by decide +kernel
theorem dX7_takesFar_130 : decode cX7_takesFar 130 = .ok (.iload_n 2, 1) := by decide +kernel
theorem dX7_takesFar_131 : decode cX7_takesFar 131 = .ok (.iadd, 1) := by decide +kernel
theorem dX7_takesFar_132 : decode cX7_takesFar 132 = .ok (.bipush 101, 2) := by decide +kernel
theorem dX7_takesFar_134 : decode cX7_takesFar 134 = .ok (.iload 5, 2) := by decide +kernel
theorem dX7_takesFar_136 : decode cX7_takesFar 136 = .ok (.iadd, 1) := by decide +kernel
theorem dX7_takesFar_137 : decode cX7_takesFar 137 = .ok (.invokevirtual 123, 3) := by decide +kernel
theorem dX7_takesFar_140 : decode cX7_takesFar 140 = .ok (.aload_n 0, 1) := by decide +kernel
theorem dX7_takesFar_141 : decode cX7_takesFar 141 = .ok (.iload_n 2, 1) := by decide +kernel
theorem dX7_takesFar_142 : decode cX7_takesFar 142 = .ok (.iload 5, 2) := by decide +kernel
theorem dX7_takesFar_144 : decode cX7_takesFar 144 = .ok (.invokevirtual 127, 3) := by decide +kernel
theorem dX7_takesFar_147 : decode cX7_takesFar 147 = .ok (.return_, 1) := by decide +kernel
theorem dX7_inserts_0 : decode cX7_inserts 0 = .ok (.iconst 0, 1) := by decide +kernel
theorem dX7_inserts_1 : decode cX7_inserts 1 = .ok (.istore_n 1, 1) := by decide +kernel
theorem dX7_inserts_2 : decode cX7_inserts 2 = .ok (.iload_n 1, 1) := by decide +kernel
theorem dX7_inserts_3 : decode cX7_inserts 3 = .ok (.bipush 24, 2) := by decide +kernel
theorem dX7_inserts_5 : decode cX7_inserts 5 = .ok (.if_icmp .ge 16, 3) := by decide +kernel
theorem dX7_inserts_8 : decode cX7_inserts 8 = .ok (.aload_n 0, 1) := by decide +kernel
theorem dX7_inserts_9 : decode cX7_inserts 9 = .ok (.getfield 28, 3) := by decide +kernel
theorem dX7_inserts_12 : decode cX7_inserts 12 = .ok (.iload_n 1, 1) := by decide +kernel
theorem dX7_inserts_13 : decode cX7_inserts 13 = .ok (.iconst 0, 1) := by decide +kernel
theorem dX7_inserts_14 : decode cX7_inserts 14 = .ok (.bastore, 1) := by decide +kernel
theorem dX7_inserts_15 : decode cX7_inserts 15 = .ok (.iinc 1 1, 3) := by decide +kernel
theorem dX7_inserts_18 : decode cX7_inserts 18 = .ok (.goto (-16), 3) := by decide +kernel
theorem dX7_inserts_21 : decode cX7_inserts 21 = .ok (.iconst 1, 1) := by decide +kernel
theorem dX7_inserts_22 : decode cX7_inserts 22 = .ok (.istore_n 1, 1) := by decide +kernel
theorem dX7_inserts_23 : decode cX7_inserts 23 = .ok (.iload_n 1, 1) := by decide +kernel
theorem dX7_inserts_24 : decode cX7_inserts 24 = .ok (.ifCond .eq 94, 3) := by decide +kernel
theorem dX7_inserts_27 : decode cX7_inserts 27 = .ok (.aload_n 0, 1) := by decide +kernel
theorem dX7_inserts_28 : decode cX7_inserts 28 = .ok (.invokevirtual 130, 3) := by decide +kernel
theorem dX7_inserts_31 : decode cX7_inserts 31 = .ok (.istore_n 2, 1) := by decide +kernel
theorem dX7_inserts_32 : decode cX7_inserts 32 = .ok (.aload_n 0, 1) := by decide +kernel
theorem dX7_inserts_33 : decode cX7_inserts 33 = .ok (.iload_n 2, 1) := by decide +kernel
theorem dX7_inserts_34 : decode cX7_inserts 34 = .ok (.invokevirtual 133, 3) := by decide +kernel
theorem dX7_inserts_37 : decode cX7_inserts 37 = .ok (.iconst 0, 1) := by decide +kernel
theorem dX7_inserts_38 : decode cX7_inserts 38 = .ok (.istore_n 1, 1) := by decide +kernel
theorem dX7_inserts_39 : decode cX7_inserts 39 = .ok (.iload_n 2, 1) := by decide +kernel
theorem dX7_inserts_40 : decode cX7_inserts 40 = .ok (.ifCond .lt 75, 3) := by decide +kernel
theorem dX7_inserts_43 : decode cX7_inserts 43 = .ok (.iload_n 1, 1) := by decide +kernel
theorem dX7_inserts_44 : decode cX7_inserts 44 = .ok (.ifCond .ne 71, 3) := by decide +kernel
theorem dX7_inserts_47 : decode cX7_inserts 47 = .ok (.aload_n 0, 1) := by decide +kernel
theorem dX7_inserts_48 : decode cX7_inserts 48 = .ok (.iload_n 2, 1) := by decide +kernel
theorem dX7_inserts_49 : decode cX7_inserts 49 = .ok (.invokevirtual 137, 3) := by decide +kernel
theorem dX7_inserts_52 : decode cX7_inserts 52 = .ok (.aload_n 0, 1) := by decide +kernel
theorem dX7_inserts_53 : decode cX7_inserts 53 = .ok (.getfield 7, 3) := by decide +kernel
theorem dX7_inserts_56 : decode cX7_inserts 56 = .ok (.iconst 0, 1) := by decide +kernel
theorem dX7_inserts_57 : decode cX7_inserts 57 = .ok (.iaload, 1) := by decide +kernel
theorem dX7_inserts_58 : decode cX7_inserts 58 = .ok (.if_icmp .le 57, 3) := by decide +kernel
theorem dX7_inserts_61 : decode cX7_inserts 61 = .ok (.aload_n 0, 1) := by decide +kernel
theorem dX7_inserts_62 : decode cX7_inserts 62 = .ok (.getfield 7, 3) := by decide +kernel
theorem dX7_inserts_65 : decode cX7_inserts 65 = .ok (.iconst 1, 1) := by decide +kernel
theorem dX7_inserts_66 : decode cX7_inserts 66 = .ok (.iaload, 1) := by decide +kernel
theorem dX7_inserts_67 : decode cX7_inserts 67 = .ok (.iconst 1, 1) := by decide +kernel
theorem dX7_inserts_68 : decode cX7_inserts 68 = .ok (.if_icmp .ne 24, 3) := by decide +kernel
theorem dX7_inserts_71 : decode cX7_inserts 71 = .ok (.iload_n 2, 1) := by decide +kernel
theorem dX7_inserts_72 : decode cX7_inserts 72 = .ok (.ifCond .le 20, 3) := by decide +kernel
theorem dX7_inserts_75 : decode cX7_inserts 75 = .ok (.aload_n 0, 1) := by decide +kernel
theorem dX7_inserts_76 : decode cX7_inserts 76 = .ok (.getfield 28, 3) := by decide +kernel
theorem dX7_inserts_79 : decode cX7_inserts 79 = .ok (.aload_n 0, 1) := by decide +kernel
theorem dX7_inserts_80 : decode cX7_inserts 80 = .ok (.iload_n 2, 1) := by decide +kernel
theorem dX7_inserts_81 : decode cX7_inserts 81 = .ok (.invokevirtual 80, 3) := by decide +kernel
theorem dX7_inserts_84 : decode cX7_inserts 84 = .ok (.baload, 1) := by decide +kernel
theorem dX7_inserts_85 : decode cX7_inserts 85 = .ok (.ifCond .ne 7, 3) := by decide +kernel
theorem dX7_inserts_88 : decode cX7_inserts 88 = .ok (.iconst 1, 1) := by decide +kernel
theorem dX7_inserts_89 : decode cX7_inserts 89 = .ok (.goto 4, 3) := by decide +kernel
theorem dX7_inserts_92 : decode cX7_inserts 92 = .ok (.iconst 0, 1) := by decide +kernel
theorem dX7_inserts_93 : decode cX7_inserts 93 = .ok (.istore_n 1, 1) := by decide +kernel
theorem dX7_inserts_94 : decode cX7_inserts 94 = .ok (.iload_n 1, 1) := by decide +kernel
theorem dX7_inserts_95 : decode cX7_inserts 95 = .ok (.ifCond .eq 11, 3) := by decide +kernel
theorem dX7_inserts_98 : decode cX7_inserts 98 = .ok (.aload_n 0, 1) := by decide +kernel
theorem dX7_inserts_99 : decode cX7_inserts 99 = .ok (.iload_n 2, 1) := by decide +kernel
theorem dX7_inserts_100 : decode cX7_inserts 100 = .ok (.invokevirtual 140, 3) := by decide +kernel
theorem dX7_inserts_103 : decode cX7_inserts 103 = .ok (.goto (-64), 3) := by decide +kernel
theorem dX7_inserts_106 : decode cX7_inserts 106 = .ok (.aload_n 0, 1) := by decide +kernel
theorem dX7_inserts_107 : decode cX7_inserts 107 = .ok (.iload_n 2, 1) := by decide +kernel
theorem dX7_inserts_108 : decode cX7_inserts 108 = .ok (.invokevirtual 143, 3) := by decide +kernel
theorem dX7_inserts_111 : decode cX7_inserts 111 = .ok (.istore_n 2, 1) := by decide +kernel
theorem dX7_inserts_112 : decode cX7_inserts 112 = .ok (.goto (-73), 3) := by decide +kernel
theorem dX7_inserts_115 : decode cX7_inserts 115 = .ok (.goto (-92), 3) := by decide +kernel
theorem dX7_inserts_118 : decode cX7_inserts 118 = .ok (.return_, 1) := by decide +kernel
theorem dX7_farthest_0 : decode cX7_farthest 0 = .ok (.iconst 0, 1) := by decide +kernel
theorem dX7_farthest_1 : decode cX7_farthest 1 = .ok (.istore_n 2, 1) := by decide +kernel
theorem dX7_farthest_2 : decode cX7_farthest 2 = .ok (.iconst 1, 1) := by decide +kernel
theorem dX7_farthest_3 : decode cX7_farthest 3 = .ok (.istore_n 3, 1) := by decide +kernel
theorem dX7_farthest_4 : decode cX7_farthest 4 = .ok (.iconst 1, 1) := by decide +kernel
theorem dX7_farthest_5 : decode cX7_farthest 5 = .ok (.istore 4, 2) := by decide +kernel
theorem dX7_farthest_7 : decode cX7_farthest 7 = .ok (.iconst 0, 1) := by decide +kernel
theorem dX7_farthest_8 : decode cX7_farthest 8 = .ok (.istore 5, 2) := by decide +kernel
theorem dX7_farthest_10 : decode cX7_farthest 10 = .ok (.iconst 0, 1) := by decide +kernel
theorem dX7_farthest_11 : decode cX7_farthest 11 = .ok (.istore 6, 2) := by decide +kernel
theorem dX7_farthest_13 : decode cX7_farthest 13 = .ok (.iload 6, 2) := by decide +kernel
theorem dX7_farthest_15 : decode cX7_farthest 15 = .ok (.iload_n 1, 1) := by decide +kernel
theorem dX7_farthest_16 : decode cX7_farthest 16 = .ok (.if_icmp .ge 84, 3) := by decide +kernel
theorem dX7_farthest_19 : decode cX7_farthest 19 = .ok (.iload 6, 2) := by decide +kernel
theorem dX7_farthest_21 : decode cX7_farthest 21 = .ok (.iconst 1, 1) := by decide +kernel
theorem dX7_farthest_22 : decode cX7_farthest 22 = .ok (.iadd, 1) := by decide +kernel
theorem dX7_farthest_23 : decode cX7_farthest 23 = .ok (.istore 7, 2) := by decide +kernel
theorem dX7_farthest_25 : decode cX7_farthest 25 = .ok (.iload 7, 2) := by decide +kernel
theorem dX7_farthest_27 : decode cX7_farthest 27 = .ok (.iload_n 1, 1) := by decide +kernel
theorem dX7_farthest_28 : decode cX7_farthest 28 = .ok (.if_icmp .ge 66, 3) := by decide +kernel
theorem dX7_farthest_31 : decode cX7_farthest 31 = .ok (.aload_n 0, 1) := by decide +kernel
theorem dX7_farthest_32 : decode cX7_farthest 32 = .ok (.iload 6, 2) := by decide +kernel
theorem dX7_farthest_34 : decode cX7_farthest 34 = .ok (.iload 7, 2) := by decide +kernel
theorem dX7_farthest_36 : decode cX7_farthest 36 = .ok (.bipush 11, 2) := by decide +kernel
theorem dX7_farthest_38 : decode cX7_farthest 38 = .ok (.invokevirtual 97, 3) := by decide +kernel
theorem dX7_farthest_41 : decode cX7_farthest 41 = .ok (.aload_n 0, 1) := by decide +kernel
theorem dX7_farthest_42 : decode cX7_farthest 42 = .ok (.bipush 11, 2) := by decide +kernel
theorem dX7_farthest_44 : decode cX7_farthest 44 = .ok (.invokevirtual 101, 3) := by decide +kernel
theorem dX7_farthest_47 : decode cX7_farthest 47 = .ok (.aload_n 0, 1) := by decide +kernel
theorem dX7_farthest_48 : decode cX7_farthest 48 = .ok (.iload 6, 2) := by decide +kernel
theorem dX7_farthest_50 : decode cX7_farthest 50 = .ok (.invokevirtual 101, 3) := by decide +kernel
theorem dX7_farthest_53 : decode cX7_farthest 53 = .ok (.isub, 1) := by decide +kernel
theorem dX7_farthest_54 : decode cX7_farthest 54 = .ok (.aload_n 0, 1) := by decide +kernel
theorem dX7_farthest_55 : decode cX7_farthest 55 = .ok (.iload 7, 2) := by decide +kernel
theorem dX7_farthest_57 : decode cX7_farthest 57 = .ok (.invokevirtual 101, 3) := by decide +kernel
theorem dX7_farthest_60 : decode cX7_farthest 60 = .ok (.isub, 1) := by decide +kernel
theorem dX7_farthest_61 : decode cX7_farthest 61 = .ok (.istore 8, 2) := by decide +kernel
theorem dX7_farthest_63 : decode cX7_farthest 63 = .ok (.iload 4, 2) := by decide +kernel
theorem dX7_farthest_65 : decode cX7_farthest 65 = .ok (.ifCond .ne 10, 3) := by decide +kernel
theorem dX7_farthest_68 : decode cX7_farthest 68 = .ok (.iload 8, 2) := by decide +kernel
theorem dX7_farthest_70 : decode cX7_farthest 70 = .ok (.iload 5, 2) := by decide +kernel
theorem dX7_farthest_72 : decode cX7_farthest 72 = .ok (.if_icmp .le 16, 3) := by decide +kernel
theorem dX7_farthest_75 : decode cX7_farthest 75 = .ok (.iload 6, 2) := by decide +kernel
theorem dX7_farthest_77 : decode cX7_farthest 77 = .ok (.istore_n 2, 1) := by decide +kernel
theorem dX7_farthest_78 : decode cX7_farthest 78 = .ok (.iload 7, 2) := by decide +kernel
theorem dX7_farthest_80 : decode cX7_farthest 80 = .ok (.istore_n 3, 1) := by decide +kernel
theorem dX7_farthest_81 : decode cX7_farthest 81 = .ok (.iload 8, 2) := by decide +kernel
theorem dX7_farthest_83 : decode cX7_farthest 83 = .ok (.istore 5, 2) := by decide +kernel
theorem dX7_farthest_85 : decode cX7_farthest 85 = .ok (.iconst 0, 1) := by decide +kernel
theorem dX7_farthest_86 : decode cX7_farthest 86 = .ok (.istore 4, 2) := by decide +kernel
theorem dX7_farthest_88 : decode cX7_farthest 88 = .ok (.iinc 7 1, 3) := by decide +kernel
theorem dX7_farthest_91 : decode cX7_farthest 91 = .ok (.goto (-66), 3) := by decide +kernel
theorem dX7_farthest_94 : decode cX7_farthest 94 = .ok (.iinc 6 1, 3) := by decide +kernel
theorem dX7_farthest_97 : decode cX7_farthest 97 = .ok (.goto (-84), 3) := by decide +kernel
theorem dX7_farthest_100 : decode cX7_farthest 100 = .ok (.aload_n 0, 1) := by decide +kernel
theorem dX7_farthest_101 : decode cX7_farthest 101 = .ok (.getfield 41, 3) := by decide +kernel
theorem dX7_farthest_104 : decode cX7_farthest 104 = .ok (.iconst 0, 1) := by decide +kernel
theorem dX7_farthest_105 : decode cX7_farthest 105 = .ok (.iconst 0, 1) := by decide +kernel
theorem dX7_farthest_106 : decode cX7_farthest 106 = .ok (.iastore, 1) := by decide +kernel
theorem dX7_farthest_107 : decode cX7_farthest 107 = .ok (.aload_n 0, 1) := by decide +kernel
theorem dX7_farthest_108 : decode cX7_farthest 108 = .ok (.getfield 41, 3) := by decide +kernel
theorem dX7_farthest_111 : decode cX7_farthest 111 = .ok (.iconst 1, 1) := by decide +kernel
theorem dX7_farthest_112 : decode cX7_farthest 112 = .ok (.iconst 0, 1) := by decide +kernel
theorem dX7_farthest_113 : decode cX7_farthest 113 = .ok (.iastore, 1) := by decide +kernel
theorem dX7_farthest_114 : decode cX7_farthest 114 = .ok (.aload_n 0, 1) := by decide +kernel
theorem dX7_farthest_115 : decode cX7_farthest 115 = .ok (.iload_n 2, 1) := by decide +kernel
theorem dX7_farthest_116 : decode cX7_farthest 116 = .ok (.iconst 0, 1) := by decide +kernel
theorem dX7_farthest_117 : decode cX7_farthest 117 = .ok (.invokevirtual 146, 3) := by decide +kernel
theorem dX7_farthest_120 : decode cX7_farthest 120 = .ok (.aload_n 0, 1) := by decide +kernel
theorem dX7_farthest_121 : decode cX7_farthest 121 = .ok (.iload_n 3, 1) := by decide +kernel
theorem dX7_farthest_122 : decode cX7_farthest 122 = .ok (.iconst 1, 1) := by decide +kernel
theorem dX7_farthest_123 : decode cX7_farthest 123 = .ok (.invokevirtual 146, 3) := by decide +kernel
theorem dX7_farthest_126 : decode cX7_farthest 126 = .ok (.return_, 1) := by decide +kernel
theorem dX7_joins_0 : decode cX7_joins 0 = .ok (.aload_n 0, 1) := by decide +kernel
theorem dX7_joins_1 : decode cX7_joins 1 = .ok (.getfield 35, 3) := by decide +kernel
theorem dX7_joins_4 : decode cX7_joins 4 = .ok (.iload_n 1, 1) := by decide +kernel
theorem dX7_joins_5 : decode cX7_joins 5 = .ok (.iload_n 2, 1) := by decide +kernel
theorem dX7_joins_6 : decode cX7_joins 6 = .ok (.iastore, 1) := by decide +kernel
theorem dX7_joins_7 : decode cX7_joins 7 = .ok (.aload_n 0, 1) := by decide +kernel
theorem dX7_joins_8 : decode cX7_joins 8 = .ok (.getfield 38, 3) := by decide +kernel
theorem dX7_joins_11 : decode cX7_joins 11 = .ok (.iload_n 1, 1) := by decide +kernel
theorem dX7_joins_12 : decode cX7_joins 12 = .ok (.aload_n 0, 1) := by decide +kernel
theorem dX7_joins_13 : decode cX7_joins 13 = .ok (.getfield 41, 3) := by decide +kernel
theorem dX7_joins_16 : decode cX7_joins 16 = .ok (.iload_n 2, 1) := by decide +kernel
theorem dX7_joins_17 : decode cX7_joins 17 = .ok (.iaload, 1) := by decide +kernel
theorem dX7_joins_18 : decode cX7_joins 18 = .ok (.iastore, 1) := by decide +kernel
theorem dX7_joins_19 : decode cX7_joins 19 = .ok (.aload_n 0, 1) := by decide +kernel
theorem dX7_joins_20 : decode cX7_joins 20 = .ok (.getfield 41, 3) := by decide +kernel
theorem dX7_joins_23 : decode cX7_joins 23 = .ok (.iload_n 2, 1) := by decide +kernel
theorem dX7_joins_24 : decode cX7_joins 24 = .ok (.iaload, 1) := by decide +kernel
theorem dX7_joins_25 : decode cX7_joins 25 = .ok (.ifCond .ne 16, 3) := by decide +kernel
theorem dX7_joins_28 : decode cX7_joins 28 = .ok (.aload_n 0, 1) := by decide +kernel
theorem dX7_joins_29 : decode cX7_joins 29 = .ok (.iload_n 1, 1) := by decide +kernel
theorem dX7_joins_30 : decode cX7_joins 30 = .ok (.iload_n 1, 1) := by decide +kernel
theorem dX7_joins_31 : decode cX7_joins 31 = .ok (.bipush 8, 2) := by decide +kernel
theorem dX7_joins_33 : decode cX7_joins 33 = .ok (.iload_n 2, 1) := by decide +kernel
theorem dX7_joins_34 : decode cX7_joins 34 = .ok (.iadd, 1) := by decide +kernel
theorem dX7_joins_35 : decode cX7_joins 35 = .ok (.invokevirtual 97, 3) := by decide +kernel
theorem dX7_joins_38 : decode cX7_joins 38 = .ok (.goto 16, 3) := by decide +kernel
theorem dX7_joins_41 : decode cX7_joins 41 = .ok (.aload_n 0, 1) := by decide +kernel
theorem dX7_joins_42 : decode cX7_joins 42 = .ok (.bipush 8, 2) := by decide +kernel
theorem dX7_joins_44 : decode cX7_joins 44 = .ok (.iload_n 2, 1) := by decide +kernel
theorem dX7_joins_45 : decode cX7_joins 45 = .ok (.iadd, 1) := by decide +kernel
theorem dX7_joins_46 : decode cX7_joins 46 = .ok (.iload_n 1, 1) := by decide +kernel
theorem dX7_joins_47 : decode cX7_joins 47 = .ok (.bipush 8, 2) := by decide +kernel
theorem dX7_joins_49 : decode cX7_joins 49 = .ok (.iload_n 2, 1) := by decide +kernel
theorem dX7_joins_50 : decode cX7_joins 50 = .ok (.iadd, 1) := by decide +kernel
theorem dX7_joins_51 : decode cX7_joins 51 = .ok (.invokevirtual 97, 3) := by decide +kernel
theorem dX7_joins_54 : decode cX7_joins 54 = .ok (.aload_n 0, 1) := by decide +kernel
theorem dX7_joins_55 : decode cX7_joins 55 = .ok (.getfield 41, 3) := by decide +kernel
theorem dX7_joins_58 : decode cX7_joins 58 = .ok (.iload_n 2, 1) := by decide +kernel
theorem dX7_joins_59 : decode cX7_joins 59 = .ok (.dup2, 1) := by decide +kernel
theorem dX7_joins_60 : decode cX7_joins 60 = .ok (.iaload, 1) := by decide +kernel
theorem dX7_joins_61 : decode cX7_joins 61 = .ok (.iconst 1, 1) := by decide +kernel
theorem dX7_joins_62 : decode cX7_joins 62 = .ok (.iadd, 1) := by decide +kernel
theorem dX7_joins_63 : decode cX7_joins 63 = .ok (.iastore, 1) := by decide +kernel
theorem dX7_joins_64 : decode cX7_joins 64 = .ok (.return_, 1) := by decide +kernel
theorem dX7_preferred_0 : decode cX7_preferred 0 = .ok (.aload_n 0, 1) := by decide +kernel
theorem dX7_preferred_1 : decode cX7_preferred 1 = .ok (.bipush 8, 2) := by decide +kernel
theorem dX7_preferred_3 : decode cX7_preferred 3 = .ok (.iload_n 1, 1) := by decide +kernel
theorem dX7_preferred_4 : decode cX7_preferred 4 = .ok (.invokevirtual 114, 3) := by decide +kernel
theorem dX7_preferred_7 : decode cX7_preferred 7 = .ok (.aload_n 0, 1) := by decide +kernel
theorem dX7_preferred_8 : decode cX7_preferred 8 = .ok (.bipush 9, 2) := by decide +kernel
theorem dX7_preferred_10 : decode cX7_preferred 10 = .ok (.iload_n 1, 1) := by decide +kernel
theorem dX7_preferred_11 : decode cX7_preferred 11 = .ok (.invokevirtual 114, 3) := by decide +kernel
theorem dX7_preferred_14 : decode cX7_preferred 14 = .ok (.isub, 1) := by decide +kernel
theorem dX7_preferred_15 : decode cX7_preferred 15 = .ok (.istore_n 2, 1) := by decide +kernel
theorem dX7_preferred_16 : decode cX7_preferred 16 = .ok (.iload_n 2, 1) := by decide +kernel
theorem dX7_preferred_17 : decode cX7_preferred 17 = .ok (.ifCond .ne 17, 3) := by decide +kernel
theorem dX7_preferred_20 : decode cX7_preferred 20 = .ok (.aload_n 0, 1) := by decide +kernel
theorem dX7_preferred_21 : decode cX7_preferred 21 = .ok (.bipush 8, 2) := by decide +kernel
theorem dX7_preferred_23 : decode cX7_preferred 23 = .ok (.invokevirtual 101, 3) := by decide +kernel
theorem dX7_preferred_26 : decode cX7_preferred 26 = .ok (.aload_n 0, 1) := by decide +kernel
theorem dX7_preferred_27 : decode cX7_preferred 27 = .ok (.bipush 9, 2) := by decide +kernel
theorem dX7_preferred_29 : decode cX7_preferred 29 = .ok (.invokevirtual 101, 3) := by decide +kernel
theorem dX7_preferred_32 : decode cX7_preferred 32 = .ok (.isub, 1) := by decide +kernel
theorem dX7_preferred_33 : decode cX7_preferred 33 = .ok (.istore_n 2, 1) := by decide +kernel
theorem dX7_preferred_34 : decode cX7_preferred 34 = .ok (.iload_n 2, 1) := by decide +kernel
theorem dX7_preferred_35 : decode cX7_preferred 35 = .ok (.ifCond .ne 17, 3) := by decide +kernel
theorem dX7_preferred_38 : decode cX7_preferred 38 = .ok (.aload_n 0, 1) := by decide +kernel
theorem dX7_preferred_39 : decode cX7_preferred 39 = .ok (.getfield 41, 3) := by decide +kernel
theorem dX7_preferred_42 : decode cX7_preferred 42 = .ok (.iconst 0, 1) := by decide +kernel
theorem dX7_preferred_43 : decode cX7_preferred 43 = .ok (.iaload, 1) := by decide +kernel
theorem dX7_preferred_44 : decode cX7_preferred 44 = .ok (.aload_n 0, 1) := by decide +kernel
theorem dX7_preferred_45 : decode cX7_preferred 45 = .ok (.getfield 41, 3) := by decide +kernel
theorem dX7_preferred_48 : decode cX7_preferred 48 = .ok (.iconst 1, 1) := by decide +kernel
theorem dX7_preferred_49 : decode cX7_preferred 49 = .ok (.iaload, 1) := by decide +kernel
theorem dX7_preferred_50 : decode cX7_preferred 50 = .ok (.isub, 1) := by decide +kernel
theorem dX7_preferred_51 : decode cX7_preferred 51 = .ok (.istore_n 2, 1) := by decide +kernel
theorem dX7_preferred_52 : decode cX7_preferred 52 = .ok (.iload_n 2, 1) := by decide +kernel
theorem dX7_preferred_53 : decode cX7_preferred 53 = .ok (.ifCond .le 7, 3) := by decide +kernel
theorem dX7_preferred_56 : decode cX7_preferred 56 = .ok (.iconst 1, 1) := by decide +kernel
theorem dX7_preferred_57 : decode cX7_preferred 57 = .ok (.goto 4, 3) := by decide +kernel
theorem dX7_preferred_60 : decode cX7_preferred 60 = .ok (.iconst 0, 1) := by decide +kernel
theorem dX7_preferred_61 : decode cX7_preferred 61 = .ok (.ireturn, 1) := by decide +kernel
theorem dX7_nextEntry_0 : decode cX7_nextEntry 0 = .ok (.bipush (-5), 2) := by decide +kernel
theorem dX7_nextEntry_2 : decode cX7_nextEntry 2 = .ok (.istore_n 2, 1) := by decide +kernel
theorem dX7_nextEntry_3 : decode cX7_nextEntry 3 = .ok (.iconst 0, 1) := by decide +kernel
theorem dX7_nextEntry_4 : decode cX7_nextEntry 4 = .ok (.istore_n 3, 1) := by decide +kernel
theorem dX7_nextEntry_5 : decode cX7_nextEntry 5 = .ok (.iconst 0, 1) := by decide +kernel
theorem dX7_nextEntry_6 : decode cX7_nextEntry 6 = .ok (.istore 4, 2) := by decide +kernel
theorem dX7_nextEntry_8 : decode cX7_nextEntry 8 = .ok (.iload 4, 2) := by decide +kernel
theorem dX7_nextEntry_10 : decode cX7_nextEntry 10 = .ok (.iload_n 1, 1) := by decide +kernel
theorem dX7_nextEntry_11 : decode cX7_nextEntry 11 = .ok (.if_icmp .ge 83, 3) := by decide +kernel
theorem dX7_nextEntry_14 : decode cX7_nextEntry 14 = .ok (.aload_n 0, 1) := by decide +kernel
theorem dX7_nextEntry_15 : decode cX7_nextEntry 15 = .ok (.getfield 35, 3) := by decide +kernel
theorem dX7_nextEntry_18 : decode cX7_nextEntry 18 = .ok (.iload 4, 2) := by decide +kernel
theorem dX7_nextEntry_20 : decode cX7_nextEntry 20 = .ok (.iaload, 1) := by decide +kernel
theorem dX7_nextEntry_21 : decode cX7_nextEntry 21 = .ok (.ifCond .ge 67, 3) := by decide +kernel
theorem dX7_nextEntry_24 : decode cX7_nextEntry 24 = .ok (.aload_n 0, 1) := by decide +kernel
theorem dX7_nextEntry_25 : decode cX7_nextEntry 25 = .ok (.bipush 8, 2) := by decide +kernel
theorem dX7_nextEntry_27 : decode cX7_nextEntry 27 = .ok (.iload 4, 2) := by decide +kernel
theorem dX7_nextEntry_29 : decode cX7_nextEntry 29 = .ok (.invokevirtual 114, 3) := by decide +kernel
theorem dX7_nextEntry_32 : decode cX7_nextEntry 32 = .ok (.aload_n 0, 1) := by decide +kernel
theorem dX7_nextEntry_33 : decode cX7_nextEntry 33 = .ok (.bipush 9, 2) := by decide +kernel
theorem dX7_nextEntry_35 : decode cX7_nextEntry 35 = .ok (.iload 4, 2) := by decide +kernel
theorem dX7_nextEntry_37 : decode cX7_nextEntry 37 = .ok (.invokevirtual 114, 3) := by decide +kernel
theorem dX7_nextEntry_40 : decode cX7_nextEntry 40 = .ok (.isub, 1) := by decide +kernel
theorem dX7_nextEntry_41 : decode cX7_nextEntry 41 = .ok (.istore 5, 2) := by decide +kernel
theorem dX7_nextEntry_43 : decode cX7_nextEntry 43 = .ok (.iload 5, 2) := by decide +kernel
theorem dX7_nextEntry_45 : decode cX7_nextEntry 45 = .ok (.ifCond .ge 9, 3) := by decide +kernel
theorem dX7_nextEntry_48 : decode cX7_nextEntry 48 = .ok (.iload 5, 2) := by decide +kernel
theorem dX7_nextEntry_50 : decode cX7_nextEntry 50 = .ok (.ineg, 1) := by decide +kernel
theorem dX7_nextEntry_51 : decode cX7_nextEntry 51 = .ok (.goto 5, 3) := by decide +kernel
theorem dX7_nextEntry_54 : decode cX7_nextEntry 54 = .ok (.iload 5, 2) := by decide +kernel
theorem dX7_nextEntry_56 : decode cX7_nextEntry 56 = .ok (.istore 6, 2) := by decide +kernel
theorem dX7_nextEntry_58 : decode cX7_nextEntry 58 = .ok (.iload_n 2, 1) := by decide +kernel
theorem dX7_nextEntry_59 : decode cX7_nextEntry 59 = .ok (.ifCond .lt 9, 3) := by decide +kernel
theorem dX7_nextEntry_62 : decode cX7_nextEntry 62 = .ok (.iload 6, 2) := by decide +kernel
theorem dX7_nextEntry_64 : decode cX7_nextEntry 64 = .ok (.iload_n 3, 1) := by decide +kernel
theorem dX7_nextEntry_65 : decode cX7_nextEntry 65 = .ok (.if_icmp .le 8, 3) := by decide +kernel
theorem dX7_nextEntry_68 : decode cX7_nextEntry 68 = .ok (.iload 4, 2) := by decide +kernel
theorem dX7_nextEntry_70 : decode cX7_nextEntry 70 = .ok (.goto 4, 3) := by decide +kernel
theorem dX7_nextEntry_73 : decode cX7_nextEntry 73 = .ok (.iload_n 2, 1) := by decide +kernel
theorem dX7_nextEntry_74 : decode cX7_nextEntry 74 = .ok (.istore_n 2, 1) := by decide +kernel
theorem dX7_nextEntry_75 : decode cX7_nextEntry 75 = .ok (.iload 6, 2) := by decide +kernel
theorem dX7_nextEntry_77 : decode cX7_nextEntry 77 = .ok (.iload_n 3, 1) := by decide +kernel
theorem dX7_nextEntry_78 : decode cX7_nextEntry 78 = .ok (.if_icmp .le 8, 3) := by decide +kernel
theorem dX7_nextEntry_81 : decode cX7_nextEntry 81 = .ok (.iload 6, 2) := by decide +kernel
theorem dX7_nextEntry_83 : decode cX7_nextEntry 83 = .ok (.goto 4, 3) := by decide +kernel
theorem dX7_nextEntry_86 : decode cX7_nextEntry 86 = .ok (.iload_n 3, 1) := by decide +kernel
theorem dX7_nextEntry_87 : decode cX7_nextEntry 87 = .ok (.istore_n 3, 1) := by decide +kernel
theorem dX7_nextEntry_88 : decode cX7_nextEntry 88 = .ok (.iinc 4 1, 3) := by decide +kernel
theorem dX7_nextEntry_91 : decode cX7_nextEntry 91 = .ok (.goto (-83), 3) := by decide +kernel
theorem dX7_nextEntry_94 : decode cX7_nextEntry 94 = .ok (.iload_n 2, 1) := by decide +kernel
theorem dX7_nextEntry_95 : decode cX7_nextEntry 95 = .ok (.ireturn, 1) := by decide +kernel
theorem dX7_groups_0 : decode cX7_groups 0 = .ok (.iconst 0, 1) := by decide +kernel
theorem dX7_groups_1 : decode cX7_groups 1 = .ok (.istore_n 2, 1) := by decide +kernel
theorem dX7_groups_2 : decode cX7_groups 2 = .ok (.iload_n 2, 1) := by decide +kernel
theorem dX7_groups_3 : decode cX7_groups 3 = .ok (.iload_n 1, 1) := by decide +kernel
theorem dX7_groups_4 : decode cX7_groups 4 = .ok (.if_icmp .ge 17, 3) := by decide +kernel
theorem dX7_groups_7 : decode cX7_groups 7 = .ok (.aload_n 0, 1) := by decide +kernel
theorem dX7_groups_8 : decode cX7_groups 8 = .ok (.getfield 35, 3) := by decide +kernel
theorem dX7_groups_11 : decode cX7_groups 11 = .ok (.iload_n 2, 1) := by decide +kernel
theorem dX7_groups_12 : decode cX7_groups 12 = .ok (.bipush (-5), 2) := by decide +kernel
theorem dX7_groups_14 : decode cX7_groups 14 = .ok (.iastore, 1) := by decide +kernel
theorem dX7_groups_15 : decode cX7_groups 15 = .ok (.iinc 2 1, 3) := by decide +kernel
theorem dX7_groups_18 : decode cX7_groups 18 = .ok (.goto (-16), 3) := by decide +kernel
theorem dX7_groups_21 : decode cX7_groups 21 = .ok (.aload_n 0, 1) := by decide +kernel
theorem dX7_groups_22 : decode cX7_groups 22 = .ok (.iload_n 1, 1) := by decide +kernel
theorem dX7_groups_23 : decode cX7_groups 23 = .ok (.invokevirtual 149, 3) := by decide +kernel
theorem dX7_groups_26 : decode cX7_groups 26 = .ok (.aload_n 0, 1) := by decide +kernel
theorem dX7_groups_27 : decode cX7_groups 27 = .ok (.getfield 7, 3) := by decide +kernel
theorem dX7_groups_30 : decode cX7_groups 30 = .ok (.iconst 0, 1) := by decide +kernel
theorem dX7_groups_31 : decode cX7_groups 31 = .ok (.iaload, 1) := by decide +kernel
theorem dX7_groups_32 : decode cX7_groups 32 = .ok (.iconst 2, 1) := by decide +kernel
theorem dX7_groups_33 : decode cX7_groups 33 = .ok (.idiv, 1) := by decide +kernel
theorem dX7_groups_34 : decode cX7_groups 34 = .ok (.istore_n 2, 1) := by decide +kernel
theorem dX7_groups_35 : decode cX7_groups 35 = .ok (.iload_n 1, 1) := by decide +kernel
theorem dX7_groups_36 : decode cX7_groups 36 = .ok (.iconst 2, 1) := by decide +kernel
theorem dX7_groups_37 : decode cX7_groups 37 = .ok (.isub, 1) := by decide +kernel
theorem dX7_groups_38 : decode cX7_groups 38 = .ok (.istore_n 3, 1) := by decide +kernel
theorem dX7_groups_39 : decode cX7_groups 39 = .ok (.iload_n 3, 1) := by decide +kernel
theorem dX7_groups_40 : decode cX7_groups 40 = .ok (.ifCond .le 101, 3) := by decide +kernel
theorem dX7_groups_43 : decode cX7_groups 43 = .ok (.aload_n 0, 1) := by decide +kernel
theorem dX7_groups_44 : decode cX7_groups 44 = .ok (.getfield 41, 3) := by decide +kernel
theorem dX7_groups_47 : decode cX7_groups 47 = .ok (.iconst 0, 1) := by decide +kernel
theorem dX7_groups_48 : decode cX7_groups 48 = .ok (.iaload, 1) := by decide +kernel
theorem dX7_groups_49 : decode cX7_groups 49 = .ok (.iload_n 3, 1) := by decide +kernel
theorem dX7_groups_50 : decode cX7_groups 50 = .ok (.iadd, 1) := by decide +kernel
theorem dX7_groups_51 : decode cX7_groups 51 = .ok (.iload_n 2, 1) := by decide +kernel
theorem dX7_groups_52 : decode cX7_groups 52 = .ok (.if_icmp .gt 7, 3) := by decide +kernel
theorem dX7_groups_55 : decode cX7_groups 55 = .ok (.iconst 0, 1) := by decide +kernel
theorem dX7_groups_56 : decode cX7_groups 56 = .ok (.goto 21, 3) := by decide +kernel
theorem dX7_groups_59 : decode cX7_groups 59 = .ok (.aload_n 0, 1) := by decide +kernel
theorem dX7_groups_60 : decode cX7_groups 60 = .ok (.getfield 41, 3) := by decide +kernel
theorem dX7_groups_63 : decode cX7_groups 63 = .ok (.iconst 1, 1) := by decide +kernel
theorem dX7_groups_64 : decode cX7_groups 64 = .ok (.iaload, 1) := by decide +kernel
theorem dX7_groups_65 : decode cX7_groups 65 = .ok (.iload_n 3, 1) := by decide +kernel
theorem dX7_groups_66 : decode cX7_groups 66 = .ok (.iadd, 1) := by decide +kernel
theorem dX7_groups_67 : decode cX7_groups 67 = .ok (.iload_n 2, 1) := by decide +kernel
theorem dX7_groups_68 : decode cX7_groups 68 = .ok (.if_icmp .gt 7, 3) := by decide +kernel
theorem dX7_groups_71 : decode cX7_groups 71 = .ok (.iconst 1, 1) := by decide +kernel
theorem dX7_groups_72 : decode cX7_groups 72 = .ok (.goto 5, 3) := by decide +kernel
theorem dX7_groups_75 : decode cX7_groups 75 = .ok (.bipush (-5), 2) := by decide +kernel
theorem dX7_groups_77 : decode cX7_groups 77 = .ok (.istore 4, 2) := by decide +kernel
theorem dX7_groups_79 : decode cX7_groups 79 = .ok (.iconst 0, 1) := by decide +kernel
theorem dX7_groups_80 : decode cX7_groups 80 = .ok (.istore 5, 2) := by decide +kernel
theorem dX7_groups_82 : decode cX7_groups 82 = .ok (.iload 4, 2) := by decide +kernel
theorem dX7_groups_84 : decode cX7_groups 84 = .ok (.ifCond .ge 13, 3) := by decide +kernel
theorem dX7_groups_87 : decode cX7_groups 87 = .ok (.aload_n 0, 1) := by decide +kernel
theorem dX7_groups_88 : decode cX7_groups 88 = .ok (.iload_n 1, 1) := by decide +kernel
theorem dX7_groups_89 : decode cX7_groups 89 = .ok (.invokevirtual 152, 3) := by decide +kernel
theorem dX7_groups_92 : decode cX7_groups 92 = .ok (.istore 5, 2) := by decide +kernel
theorem dX7_groups_94 : decode cX7_groups 94 = .ok (.goto 19, 3) := by decide +kernel
theorem dX7_groups_97 : decode cX7_groups 97 = .ok (.aload_n 0, 1) := by decide +kernel
theorem dX7_groups_98 : decode cX7_groups 98 = .ok (.getfield 35, 3) := by decide +kernel
theorem dX7_groups_101 : decode cX7_groups 101 = .ok (.iload 5, 2) := by decide +kernel
theorem dX7_groups_103 : decode cX7_groups 103 = .ok (.iaload, 1) := by decide +kernel
theorem dX7_groups_104 : decode cX7_groups 104 = .ok (.ifCond .lt 9, 3) := by decide +kernel
theorem dX7_groups_107 : decode cX7_groups 107 = .ok (.iinc 5 1, 3) := by decide +kernel
theorem dX7_groups_110 : decode cX7_groups 110 = .ok (.goto (-13), 3) := by decide +kernel
theorem dX7_groups_113 : decode cX7_groups 113 = .ok (.aload_n 0, 1) := by decide +kernel
theorem dX7_groups_114 : decode cX7_groups 114 = .ok (.iload 5, 2) := by decide +kernel
theorem dX7_groups_116 : decode cX7_groups 116 = .ok (.iload 4, 2) := by decide +kernel
theorem dX7_groups_118 : decode cX7_groups 118 = .ok (.ifCond .ge 12, 3) := by decide +kernel
theorem dX7_groups_121 : decode cX7_groups 121 = .ok (.aload_n 0, 1) := by decide +kernel
theorem dX7_groups_122 : decode cX7_groups 122 = .ok (.iload 5, 2) := by decide +kernel
theorem dX7_groups_124 : decode cX7_groups 124 = .ok (.invokevirtual 155, 3) := by decide +kernel
theorem dX7_groups_127 : decode cX7_groups 127 = .ok (.goto 5, 3) := by decide +kernel
theorem dX7_groups_130 : decode cX7_groups 130 = .ok (.iload 4, 2) := by decide +kernel
theorem dX7_groups_132 : decode cX7_groups 132 = .ok (.invokevirtual 146, 3) := by decide +kernel
theorem dX7_groups_135 : decode cX7_groups 135 = .ok (.iinc 3 (-1), 3) := by decide +kernel
theorem dX7_groups_138 : decode cX7_groups 138 = .ok (.goto (-99), 3) := by decide +kernel
theorem dX7_groups_141 : decode cX7_groups 141 = .ok (.return_, 1) := by decide +kernel
theorem dX7_lays_0 : decode cX7_lays 0 = .ok (.iload 4, 2) := by decide +kernel
theorem dX7_lays_2 : decode cX7_lays 2 = .ok (.istore 5, 2) := by decide +kernel
theorem dX7_lays_4 : decode cX7_lays 4 = .ok (.aload_n 0, 1) := by decide +kernel
theorem dX7_lays_5 : decode cX7_lays 5 = .ok (.getfield 7, 3) := by decide +kernel
theorem dX7_lays_8 : decode cX7_lays 8 = .ok (.bipush 101, 2) := by decide +kernel
theorem dX7_lays_10 : decode cX7_lays 10 = .ok (.iload 5, 2) := by decide +kernel
theorem dX7_lays_12 : decode cX7_lays 12 = .ok (.iadd, 1) := by decide +kernel
theorem dX7_lays_13 : decode cX7_lays 13 = .ok (.iload_n 3, 1) := by decide +kernel
theorem dX7_lays_14 : decode cX7_lays 14 = .ok (.iastore, 1) := by decide +kernel
theorem dX7_lays_15 : decode cX7_lays 15 = .ok (.iinc 5 1, 3) := by decide +kernel
theorem dX7_lays_18 : decode cX7_lays 18 = .ok (.iconst 0, 1) := by decide +kernel
theorem dX7_lays_19 : decode cX7_lays 19 = .ok (.istore 6, 2) := by decide +kernel
theorem dX7_lays_21 : decode cX7_lays 21 = .ok (.iload 6, 2) := by decide +kernel
theorem dX7_lays_23 : decode cX7_lays 23 = .ok (.aload_n 0, 1) := by decide +kernel
theorem dX7_lays_24 : decode cX7_lays 24 = .ok (.getfield 41, 3) := by decide +kernel
theorem dX7_lays_27 : decode cX7_lays 27 = .ok (.iload_n 1, 1) := by decide +kernel
theorem dX7_lays_28 : decode cX7_lays 28 = .ok (.iaload, 1) := by decide +kernel
theorem dX7_lays_29 : decode cX7_lays 29 = .ok (.if_icmp .ge 96, 3) := by decide +kernel
theorem dX7_lays_32 : decode cX7_lays 32 = .ok (.iconst 0, 1) := by decide +kernel
theorem dX7_lays_33 : decode cX7_lays 33 = .ok (.istore 7, 2) := by decide +kernel
theorem dX7_lays_35 : decode cX7_lays 35 = .ok (.iload 7, 2) := by decide +kernel
theorem dX7_lays_37 : decode cX7_lays 37 = .ok (.iload_n 2, 1) := by decide +kernel
theorem dX7_lays_38 : decode cX7_lays 38 = .ok (.if_icmp .ge 81, 3) := by decide +kernel
theorem dX7_lays_41 : decode cX7_lays 41 = .ok (.aload_n 0, 1) := by decide +kernel
theorem dX7_lays_42 : decode cX7_lays 42 = .ok (.getfield 32, 3) := by decide +kernel
theorem dX7_lays_45 : decode cX7_lays 45 = .ok (.iload 7, 2) := by decide +kernel
theorem dX7_lays_47 : decode cX7_lays 47 = .ok (.iaload, 1) := by decide +kernel
theorem dX7_lays_48 : decode cX7_lays 48 = .ok (.istore 8, 2) := by decide +kernel
theorem dX7_lays_50 : decode cX7_lays 50 = .ok (.iload 8, 2) := by decide +kernel
theorem dX7_lays_52 : decode cX7_lays 52 = .ok (.aload_n 0, 1) := by decide +kernel
theorem dX7_lays_53 : decode cX7_lays 53 = .ok (.getfield 32, 3) := by decide +kernel
theorem dX7_lays_56 : decode cX7_lays 56 = .ok (.iload 7, 2) := by decide +kernel
theorem dX7_lays_58 : decode cX7_lays 58 = .ok (.iconst 1, 1) := by decide +kernel
theorem dX7_lays_59 : decode cX7_lays 59 = .ok (.iadd, 1) := by decide +kernel
theorem dX7_lays_60 : decode cX7_lays 60 = .ok (.iaload, 1) := by decide +kernel
theorem dX7_lays_61 : decode cX7_lays 61 = .ok (.if_icmp .ge 52, 3) := by decide +kernel
theorem dX7_lays_64 : decode cX7_lays 64 = .ok (.aload_n 0, 1) := by decide +kernel
theorem dX7_lays_65 : decode cX7_lays 65 = .ok (.getfield 35, 3) := by decide +kernel
theorem dX7_lays_68 : decode cX7_lays 68 = .ok (.iload 7, 2) := by decide +kernel
theorem dX7_lays_70 : decode cX7_lays 70 = .ok (.iaload, 1) := by decide +kernel
theorem dX7_lays_71 : decode cX7_lays 71 = .ok (.iload_n 1, 1) := by decide +kernel
theorem dX7_lays_72 : decode cX7_lays 72 = .ok (.if_icmp .ne 41, 3) := by decide +kernel
theorem dX7_lays_75 : decode cX7_lays 75 = .ok (.aload_n 0, 1) := by decide +kernel
theorem dX7_lays_76 : decode cX7_lays 76 = .ok (.getfield 38, 3) := by decide +kernel
theorem dX7_lays_79 : decode cX7_lays 79 = .ok (.iload 7, 2) := by decide +kernel
theorem dX7_lays_81 : decode cX7_lays 81 = .ok (.iaload, 1) := by decide +kernel
theorem dX7_lays_82 : decode cX7_lays 82 = .ok (.iload 6, 2) := by decide +kernel
theorem dX7_lays_84 : decode cX7_lays 84 = .ok (.if_icmp .ne 29, 3) := by decide +kernel
theorem dX7_lays_87 : decode cX7_lays 87 = .ok (.aload_n 0, 1) := by decide +kernel
theorem dX7_lays_88 : decode cX7_lays 88 = .ok (.getfield 7, 3) := by decide +kernel
theorem dX7_lays_91 : decode cX7_lays 91 = .ok (.bipush 101, 2) := by decide +kernel
theorem dX7_lays_93 : decode cX7_lays 93 = .ok (.iload 5, 2) := by decide +kernel
theorem dX7_lays_95 : decode cX7_lays 95 = .ok (.iadd, 1) := by decide +kernel
theorem dX7_lays_96 : decode cX7_lays 96 = .ok (.aload_n 0, 1) := by decide +kernel
theorem dX7_lays_97 : decode cX7_lays 97 = .ok (.getfield 44, 3) := by decide +kernel
theorem dX7_lays_100 : decode cX7_lays 100 = .ok (.iload 8, 2) := by decide +kernel
theorem dX7_lays_102 : decode cX7_lays 102 = .ok (.iaload, 1) := by decide +kernel
theorem dX7_lays_103 : decode cX7_lays 103 = .ok (.iastore, 1) := by decide +kernel
theorem dX7_lays_104 : decode cX7_lays 104 = .ok (.iinc 5 1, 3) := by decide +kernel
theorem dX7_lays_107 : decode cX7_lays 107 = .ok (.iinc 8 1, 3) := by decide +kernel
theorem dX7_lays_110 : decode cX7_lays 110 = .ok (.goto (-60), 3) := by decide +kernel
theorem dX7_lays_113 : decode cX7_lays 113 = .ok (.iinc 7 1, 3) := by decide +kernel
theorem dX7_lays_116 : decode cX7_lays 116 = .ok (.goto (-81), 3) := by decide +kernel
theorem dX7_lays_119 : decode cX7_lays 119 = .ok (.iinc 6 1, 3) := by decide +kernel
theorem dX7_lays_122 : decode cX7_lays 122 = .ok (.goto (-101), 3) := by decide +kernel
theorem dX7_lays_125 : decode cX7_lays 125 = .ok (.iload 5, 2) := by decide +kernel
theorem dX7_lays_127 : decode cX7_lays 127 = .ok (.ireturn, 1) := by decide +kernel
theorem dX7_divides_0 : decode cX7_divides 0 = .ok (.aload_n 0, 1) := by decide +kernel
theorem dX7_divides_1 : decode cX7_divides 1 = .ok (.getfield 7, 3) := by decide +kernel
theorem dX7_divides_4 : decode cX7_divides 4 = .ok (.iconst 2, 1) := by decide +kernel
theorem dX7_divides_5 : decode cX7_divides 5 = .ok (.dup2, 1) := by decide +kernel
theorem dX7_divides_6 : decode cX7_divides 6 = .ok (.iaload, 1) := by decide +kernel
theorem dX7_divides_7 : decode cX7_divides 7 = .ok (.iconst 1, 1) := by decide +kernel
theorem dX7_divides_8 : decode cX7_divides 8 = .ok (.iadd, 1) := by decide +kernel
theorem dX7_divides_9 : decode cX7_divides 9 = .ok (.iastore, 1) := by decide +kernel
theorem dX7_divides_10 : decode cX7_divides 10 = .ok (.aload_n 0, 1) := by decide +kernel
theorem dX7_divides_11 : decode cX7_divides 11 = .ok (.iload_n 1, 1) := by decide +kernel
theorem dX7_divides_12 : decode cX7_divides 12 = .ok (.invokevirtual 83, 3) := by decide +kernel
theorem dX7_divides_15 : decode cX7_divides 15 = .ok (.istore_n 2, 1) := by decide +kernel
theorem dX7_divides_16 : decode cX7_divides 16 = .ok (.iconst 0, 1) := by decide +kernel
theorem dX7_divides_17 : decode cX7_divides 17 = .ok (.istore_n 3, 1) := by decide +kernel
theorem dX7_divides_18 : decode cX7_divides 18 = .ok (.iload_n 1, 1) := by decide +kernel
theorem dX7_divides_19 : decode cX7_divides 19 = .ok (.iconst 1, 1) := by decide +kernel
theorem dX7_divides_20 : decode cX7_divides 20 = .ok (.iadd, 1) := by decide +kernel
theorem dX7_divides_21 : decode cX7_divides 21 = .ok (.istore 4, 2) := by decide +kernel
theorem dX7_divides_23 : decode cX7_divides 23 = .ok (.iload 4, 2) := by decide +kernel
theorem dX7_divides_25 : decode cX7_divides 25 = .ok (.iload_n 2, 1) := by decide +kernel
theorem dX7_divides_26 : decode cX7_divides 26 = .ok (.if_icmp .ge 32, 3) := by decide +kernel
theorem dX7_divides_29 : decode cX7_divides 29 = .ok (.aload_n 0, 1) := by decide +kernel
theorem dX7_divides_30 : decode cX7_divides 30 = .ok (.iload 4, 2) := by decide +kernel
theorem dX7_divides_32 : decode cX7_divides 32 = .ok (.iload_n 3, 1) := by decide +kernel
theorem dX7_divides_33 : decode cX7_divides 33 = .ok (.invokevirtual 110, 3) := by decide +kernel
theorem dX7_divides_36 : decode cX7_divides 36 = .ok (.aload_n 0, 1) := by decide +kernel
theorem dX7_divides_37 : decode cX7_divides 37 = .ok (.getfield 32, 3) := by decide +kernel
theorem dX7_divides_40 : decode cX7_divides 40 = .ok (.iload_n 3, 1) := by decide +kernel
theorem dX7_divides_41 : decode cX7_divides 41 = .ok (.iload 4, 2) := by decide +kernel
theorem dX7_divides_43 : decode cX7_divides 43 = .ok (.iastore, 1) := by decide +kernel
theorem dX7_divides_44 : decode cX7_divides 44 = .ok (.iinc 3 1, 3) := by decide +kernel
theorem dX7_divides_47 : decode cX7_divides 47 = .ok (.aload_n 0, 1) := by decide +kernel
theorem dX7_divides_48 : decode cX7_divides 48 = .ok (.iload 4, 2) := by decide +kernel
theorem dX7_divides_50 : decode cX7_divides 50 = .ok (.invokevirtual 83, 3) := by decide +kernel
theorem dX7_divides_53 : decode cX7_divides 53 = .ok (.istore 4, 2) := by decide +kernel
theorem dX7_divides_55 : decode cX7_divides 55 = .ok (.goto (-32), 3) := by decide +kernel
theorem dX7_divides_58 : decode cX7_divides 58 = .ok (.aload_n 0, 1) := by decide +kernel
theorem dX7_divides_59 : decode cX7_divides 59 = .ok (.getfield 32, 3) := by decide +kernel
theorem dX7_divides_62 : decode cX7_divides 62 = .ok (.iload_n 3, 1) := by decide +kernel
theorem dX7_divides_63 : decode cX7_divides 63 = .ok (.iload_n 2, 1) := by decide +kernel
theorem dX7_divides_64 : decode cX7_divides 64 = .ok (.iastore, 1) := by decide +kernel
theorem dX7_divides_65 : decode cX7_divides 65 = .ok (.iload_n 1, 1) := by decide +kernel
theorem dX7_divides_66 : decode cX7_divides 66 = .ok (.istore 4, 2) := by decide +kernel
theorem dX7_divides_68 : decode cX7_divides 68 = .ok (.iload 4, 2) := by decide +kernel
theorem dX7_divides_70 : decode cX7_divides 70 = .ok (.iload_n 2, 1) := by decide +kernel
theorem dX7_divides_71 : decode cX7_divides 71 = .ok (.if_icmp .ge 22, 3) := by decide +kernel
theorem dX7_divides_74 : decode cX7_divides 74 = .ok (.aload_n 0, 1) := by decide +kernel
theorem dX7_divides_75 : decode cX7_divides 75 = .ok (.getfield 44, 3) := by decide +kernel
theorem dX7_divides_78 : decode cX7_divides 78 = .ok (.iload 4, 2) := by decide +kernel
theorem dX7_divides_80 : decode cX7_divides 80 = .ok (.aload_n 0, 1) := by decide +kernel
theorem dX7_divides_81 : decode cX7_divides 81 = .ok (.iload 4, 2) := by decide +kernel
theorem dX7_divides_83 : decode cX7_divides 83 = .ok (.invokevirtual 69, 3) := by decide +kernel
theorem dX7_divides_86 : decode cX7_divides 86 = .ok (.iastore, 1) := by decide +kernel
theorem dX7_divides_87 : decode cX7_divides 87 = .ok (.iinc 4 1, 3) := by decide +kernel
theorem dX7_divides_90 : decode cX7_divides 90 = .ok (.goto (-22), 3) := by decide +kernel
theorem dX7_divides_93 : decode cX7_divides 93 = .ok (.aload_n 0, 1) := by decide +kernel
theorem dX7_divides_94 : decode cX7_divides 94 = .ok (.iload_n 3, 1) := by decide +kernel
theorem dX7_divides_95 : decode cX7_divides 95 = .ok (.invokevirtual 158, 3) := by decide +kernel
theorem dX7_divides_98 : decode cX7_divides 98 = .ok (.aload_n 0, 1) := by decide +kernel
theorem dX7_divides_99 : decode cX7_divides 99 = .ok (.iload_n 1, 1) := by decide +kernel
theorem dX7_divides_100 : decode cX7_divides 100 = .ok (.invokevirtual 69, 3) := by decide +kernel
theorem dX7_divides_103 : decode cX7_divides 103 = .ok (.istore 4, 2) := by decide +kernel
theorem dX7_divides_105 : decode cX7_divides 105 = .ok (.aload_n 0, 1) := by decide +kernel
theorem dX7_divides_106 : decode cX7_divides 106 = .ok (.iload_n 2, 1) := by decide +kernel
theorem dX7_divides_107 : decode cX7_divides 107 = .ok (.iconst 1, 1) := by decide +kernel
theorem dX7_divides_108 : decode cX7_divides 108 = .ok (.invokevirtual 117, 3) := by decide +kernel
theorem dX7_divides_111 : decode cX7_divides 111 = .ok (.aload_n 0, 1) := by decide +kernel
theorem dX7_divides_112 : decode cX7_divides 112 = .ok (.iconst 0, 1) := by decide +kernel
theorem dX7_divides_113 : decode cX7_divides 113 = .ok (.iload_n 3, 1) := by decide +kernel
theorem dX7_divides_114 : decode cX7_divides 114 = .ok (.iload 4, 2) := by decide +kernel
theorem dX7_divides_116 : decode cX7_divides 116 = .ok (.iload_n 1, 1) := by decide +kernel
theorem dX7_divides_117 : decode cX7_divides 117 = .ok (.invokevirtual 161, 3) := by decide +kernel
theorem dX7_divides_120 : decode cX7_divides 120 = .ok (.istore 5, 2) := by decide +kernel
theorem dX7_divides_122 : decode cX7_divides 122 = .ok (.aload_n 0, 1) := by decide +kernel
theorem dX7_divides_123 : decode cX7_divides 123 = .ok (.iconst 1, 1) := by decide +kernel
theorem dX7_divides_124 : decode cX7_divides 124 = .ok (.iload_n 3, 1) := by decide +kernel
theorem dX7_divides_125 : decode cX7_divides 125 = .ok (.iload 4, 2) := by decide +kernel
theorem dX7_divides_127 : decode cX7_divides 127 = .ok (.iload 5, 2) := by decide +kernel
theorem dX7_divides_129 : decode cX7_divides 129 = .ok (.invokevirtual 161, 3) := by decide +kernel
theorem dX7_divides_132 : decode cX7_divides 132 = .ok (.istore 5, 2) := by decide +kernel
theorem dX7_divides_134 : decode cX7_divides 134 = .ok (.iload_n 1, 1) := by decide +kernel
theorem dX7_divides_135 : decode cX7_divides 135 = .ok (.ifCond .le 9, 3) := by decide +kernel
theorem dX7_divides_138 : decode cX7_divides 138 = .ok (.aload_n 0, 1) := by decide +kernel
theorem dX7_divides_139 : decode cX7_divides 139 = .ok (.iload_n 1, 1) := by decide +kernel
theorem dX7_divides_140 : decode cX7_divides 140 = .ok (.invokevirtual 165, 3) := by decide +kernel
theorem dX7_divides_143 : decode cX7_divides 143 = .ok (.ireturn, 1) := by decide +kernel
theorem dX7_divides_144 : decode cX7_divides 144 = .ok (.aload_n 0, 1) := by decide +kernel
theorem dX7_divides_145 : decode cX7_divides 145 = .ok (.iconst 0, 1) := by decide +kernel
theorem dX7_divides_146 : decode cX7_divides 146 = .ok (.iconst 1, 1) := by decide +kernel
theorem dX7_divides_147 : decode cX7_divides 147 = .ok (.invokevirtual 117, 3) := by decide +kernel
theorem dX7_divides_150 : decode cX7_divides 150 = .ok (.aload_n 0, 1) := by decide +kernel
theorem dX7_divides_151 : decode cX7_divides 151 = .ok (.getfield 7, 3) := by decide +kernel
theorem dX7_divides_154 : decode cX7_divides 154 = .ok (.bipush 101, 2) := by decide +kernel
theorem dX7_divides_156 : decode cX7_divides 156 = .ok (.iload 4, 2) := by decide +kernel
theorem dX7_divides_158 : decode cX7_divides 158 = .ok (.iconst 1, 1) := by decide +kernel
theorem dX7_divides_159 : decode cX7_divides 159 = .ok (.isub, 1) := by decide +kernel
theorem dX7_divides_160 : decode cX7_divides 160 = .ok (.iastore, 1) := by decide +kernel
theorem dX7_divides_161 : decode cX7_divides 161 = .ok (.bipush (-5), 2) := by decide +kernel
theorem dX7_divides_163 : decode cX7_divides 163 = .ok (.ireturn, 1) := by decide +kernel
theorem dX7_boxCount_0 : decode cX7_boxCount 0 = .ok (.iconst 0, 1) := by decide +kernel
theorem dX7_boxCount_1 : decode cX7_boxCount 1 = .ok (.istore_n 1, 1) := by decide +kernel
theorem dX7_boxCount_2 : decode cX7_boxCount 2 = .ok (.iconst 0, 1) := by decide +kernel
theorem dX7_boxCount_3 : decode cX7_boxCount 3 = .ok (.istore_n 2, 1) := by decide +kernel
theorem dX7_boxCount_4 : decode cX7_boxCount 4 = .ok (.iload_n 2, 1) := by decide +kernel
theorem dX7_boxCount_5 : decode cX7_boxCount 5 = .ok (.bipush 24, 2) := by decide +kernel
theorem dX7_boxCount_7 : decode cX7_boxCount 7 = .ok (.if_icmp .ge 25, 3) := by decide +kernel
theorem dX7_boxCount_10 : decode cX7_boxCount 10 = .ok (.iload_n 1, 1) := by decide +kernel
theorem dX7_boxCount_11 : decode cX7_boxCount 11 = .ok (.aload_n 0, 1) := by decide +kernel
theorem dX7_boxCount_12 : decode cX7_boxCount 12 = .ok (.iload_n 2, 1) := by decide +kernel
theorem dX7_boxCount_13 : decode cX7_boxCount 13 = .ok (.invokevirtual 168, 3) := by decide +kernel
theorem dX7_boxCount_16 : decode cX7_boxCount 16 = .ok (.ifCond .eq 7, 3) := by decide +kernel
theorem dX7_boxCount_19 : decode cX7_boxCount 19 = .ok (.iconst 1, 1) := by decide +kernel
theorem dX7_boxCount_20 : decode cX7_boxCount 20 = .ok (.goto 4, 3) := by decide +kernel
theorem dX7_boxCount_23 : decode cX7_boxCount 23 = .ok (.iconst 0, 1) := by decide +kernel
theorem dX7_boxCount_24 : decode cX7_boxCount 24 = .ok (.iadd, 1) := by decide +kernel
theorem dX7_boxCount_25 : decode cX7_boxCount 25 = .ok (.istore_n 1, 1) := by decide +kernel
theorem dX7_boxCount_26 : decode cX7_boxCount 26 = .ok (.iinc 2 1, 3) := by decide +kernel
theorem dX7_boxCount_29 : decode cX7_boxCount 29 = .ok (.goto (-25), 3) := by decide +kernel
theorem dX7_boxCount_32 : decode cX7_boxCount 32 = .ok (.iload_n 1, 1) := by decide +kernel
theorem dX7_boxCount_33 : decode cX7_boxCount 33 = .ok (.ireturn, 1) := by decide +kernel
theorem dX7_isBox_0 : decode cX7_isBox 0 = .ok (.iload_n 1, 1) := by decide +kernel
theorem dX7_isBox_1 : decode cX7_isBox 1 = .ok (.iconst 0, 1) := by decide +kernel
theorem dX7_isBox_2 : decode cX7_isBox 2 = .ok (.bipush 23, 2) := by decide +kernel
theorem dX7_isBox_4 : decode cX7_isBox 4 = .ok (.invokestatic 172, 3) := by decide +kernel
theorem dX7_isBox_7 : decode cX7_isBox 7 = .ok (.ifCond .eq 20, 3) := by decide +kernel
theorem dX7_isBox_10 : decode cX7_isBox 10 = .ok (.aload_n 0, 1) := by decide +kernel
theorem dX7_isBox_11 : decode cX7_isBox 11 = .ok (.getfield 7, 3) := by decide +kernel
theorem dX7_isBox_14 : decode cX7_isBox 14 = .ok (.iconst 5, 1) := by decide +kernel
theorem dX7_isBox_15 : decode cX7_isBox 15 = .ok (.iconst 4, 1) := by decide +kernel
theorem dX7_isBox_16 : decode cX7_isBox 16 = .ok (.iload_n 1, 1) := by decide +kernel
theorem dX7_isBox_17 : decode cX7_isBox 17 = .ok (.imul, 1) := by decide +kernel
theorem dX7_isBox_18 : decode cX7_isBox 18 = .ok (.iadd, 1) := by decide +kernel
theorem dX7_isBox_19 : decode cX7_isBox 19 = .ok (.iaload, 1) := by decide +kernel
theorem dX7_isBox_20 : decode cX7_isBox 20 = .ok (.ifCond .lt 7, 3) := by decide +kernel
theorem dX7_isBox_23 : decode cX7_isBox 23 = .ok (.iconst 1, 1) := by decide +kernel
theorem dX7_isBox_24 : decode cX7_isBox 24 = .ok (.goto 4, 3) := by decide +kernel
theorem dX7_isBox_27 : decode cX7_isBox 27 = .ok (.iconst 0, 1) := by decide +kernel
theorem dX7_isBox_28 : decode cX7_isBox 28 = .ok (.ireturn, 1) := by decide +kernel
theorem dX7_isRectangle_0 : decode cX7_isRectangle 0 = .ok (.iload_n 0, 1) := by decide +kernel
theorem dX7_isRectangle_1 : decode cX7_isRectangle 1 = .ok (.iconst 0, 1) := by decide +kernel
theorem dX7_isRectangle_2 : decode cX7_isRectangle 2 = .ok (.bipush 99, 2) := by decide +kernel
theorem dX7_isRectangle_4 : decode cX7_isRectangle 4 = .ok (.invokestatic 172, 3) := by decide +kernel
theorem dX7_isRectangle_7 : decode cX7_isRectangle 7 = .ok (.ifCond .eq 37, 3) := by decide +kernel
theorem dX7_isRectangle_10 : decode cX7_isRectangle 10 = .ok (.iload_n 1, 1) := by decide +kernel
theorem dX7_isRectangle_11 : decode cX7_isRectangle 11 = .ok (.iconst 0, 1) := by decide +kernel
theorem dX7_isRectangle_12 : decode cX7_isRectangle 12 = .ok (.bipush 99, 2) := by decide +kernel
theorem dX7_isRectangle_14 : decode cX7_isRectangle 14 = .ok (.invokestatic 172, 3) := by decide +kernel
theorem dX7_isRectangle_17 : decode cX7_isRectangle 17 = .ok (.ifCond .eq 27, 3) := by decide +kernel
theorem dX7_isRectangle_20 : decode cX7_isRectangle 20 = .ok (.iload_n 2, 1) := by decide +kernel
theorem dX7_isRectangle_21 : decode cX7_isRectangle 21 = .ok (.iload_n 0, 1) := by decide +kernel
theorem dX7_isRectangle_22 : decode cX7_isRectangle 22 = .ok (.bipush 99, 2) := by decide +kernel
theorem dX7_isRectangle_24 : decode cX7_isRectangle 24 = .ok (.invokestatic 172, 3) := by decide +kernel
theorem dX7_isRectangle_27 : decode cX7_isRectangle 27 = .ok (.ifCond .eq 17, 3) := by decide +kernel
theorem dX7_isRectangle_30 : decode cX7_isRectangle 30 = .ok (.iload_n 3, 1) := by decide +kernel
theorem dX7_isRectangle_31 : decode cX7_isRectangle 31 = .ok (.iload_n 1, 1) := by decide +kernel
theorem dX7_isRectangle_32 : decode cX7_isRectangle 32 = .ok (.bipush 99, 2) := by decide +kernel
theorem dX7_isRectangle_34 : decode cX7_isRectangle 34 = .ok (.invokestatic 172, 3) := by decide +kernel
theorem dX7_isRectangle_37 : decode cX7_isRectangle 37 = .ok (.ifCond .eq 7, 3) := by decide +kernel
theorem dX7_isRectangle_40 : decode cX7_isRectangle 40 = .ok (.iconst 1, 1) := by decide +kernel
theorem dX7_isRectangle_41 : decode cX7_isRectangle 41 = .ok (.goto 4, 3) := by decide +kernel
theorem dX7_isRectangle_44 : decode cX7_isRectangle 44 = .ok (.iconst 0, 1) := by decide +kernel
theorem dX7_isRectangle_45 : decode cX7_isRectangle 45 = .ok (.ireturn, 1) := by decide +kernel
theorem dX7_adds_0 : decode cX7_adds 0 = .ok (.iconst 0, 1) := by decide +kernel
theorem dX7_adds_1 : decode cX7_adds 1 = .ok (.istore 5, 2) := by decide +kernel
theorem dX7_adds_3 : decode cX7_adds 3 = .ok (.aload_n 0, 1) := by decide +kernel
theorem dX7_adds_4 : decode cX7_adds 4 = .ok (.iload 5, 2) := by decide +kernel
theorem dX7_adds_6 : decode cX7_adds 6 = .ok (.invokevirtual 168, 3) := by decide +kernel
theorem dX7_adds_9 : decode cX7_adds 9 = .ok (.ifCond .eq 9, 3) := by decide +kernel
theorem dX7_adds_12 : decode cX7_adds 12 = .ok (.iinc 5 1, 3) := by decide +kernel
theorem dX7_adds_15 : decode cX7_adds 15 = .ok (.goto (-12), 3) := by decide +kernel
theorem dX7_adds_18 : decode cX7_adds 18 = .ok (.iconst 5, 1) := by decide +kernel
theorem dX7_adds_19 : decode cX7_adds 19 = .ok (.iconst 4, 1) := by decide +kernel
theorem dX7_adds_20 : decode cX7_adds 20 = .ok (.iload 5, 2) := by decide +kernel
theorem dX7_adds_22 : decode cX7_adds 22 = .ok (.imul, 1) := by decide +kernel
theorem dX7_adds_23 : decode cX7_adds 23 = .ok (.iadd, 1) := by decide +kernel
theorem dX7_adds_24 : decode cX7_adds 24 = .ok (.istore 6, 2) := by decide +kernel
theorem dX7_adds_26 : decode cX7_adds 26 = .ok (.aload_n 0, 1) := by decide +kernel
theorem dX7_adds_27 : decode cX7_adds 27 = .ok (.getfield 7, 3) := by decide +kernel
theorem dX7_adds_30 : decode cX7_adds 30 = .ok (.iload 6, 2) := by decide +kernel
theorem dX7_adds_32 : decode cX7_adds 32 = .ok (.iload_n 1, 1) := by decide +kernel
theorem dX7_adds_33 : decode cX7_adds 33 = .ok (.iastore, 1) := by decide +kernel
theorem dX7_adds_34 : decode cX7_adds 34 = .ok (.aload_n 0, 1) := by decide +kernel
theorem dX7_adds_35 : decode cX7_adds 35 = .ok (.getfield 7, 3) := by decide +kernel
theorem dX7_adds_38 : decode cX7_adds 38 = .ok (.iload 6, 2) := by decide +kernel
theorem dX7_adds_40 : decode cX7_adds 40 = .ok (.iconst 1, 1) := by decide +kernel
theorem dX7_adds_41 : decode cX7_adds 41 = .ok (.iadd, 1) := by decide +kernel
theorem dX7_adds_42 : decode cX7_adds 42 = .ok (.iload_n 2, 1) := by decide +kernel
theorem dX7_adds_43 : decode cX7_adds 43 = .ok (.iastore, 1) := by decide +kernel
theorem dX7_adds_44 : decode cX7_adds 44 = .ok (.aload_n 0, 1) := by decide +kernel
theorem dX7_adds_45 : decode cX7_adds 45 = .ok (.getfield 7, 3) := by decide +kernel
theorem dX7_adds_48 : decode cX7_adds 48 = .ok (.iload 6, 2) := by decide +kernel
theorem dX7_adds_50 : decode cX7_adds 50 = .ok (.iconst 2, 1) := by decide +kernel
theorem dX7_adds_51 : decode cX7_adds 51 = .ok (.iadd, 1) := by decide +kernel
theorem dX7_adds_52 : decode cX7_adds 52 = .ok (.iload_n 3, 1) := by decide +kernel
theorem dX7_adds_53 : decode cX7_adds 53 = .ok (.iastore, 1) := by decide +kernel
theorem dX7_adds_54 : decode cX7_adds 54 = .ok (.aload_n 0, 1) := by decide +kernel
theorem dX7_adds_55 : decode cX7_adds 55 = .ok (.getfield 7, 3) := by decide +kernel
theorem dX7_adds_58 : decode cX7_adds 58 = .ok (.iload 6, 2) := by decide +kernel
theorem dX7_adds_60 : decode cX7_adds 60 = .ok (.iconst 3, 1) := by decide +kernel
theorem dX7_adds_61 : decode cX7_adds 61 = .ok (.iadd, 1) := by decide +kernel
theorem dX7_adds_62 : decode cX7_adds 62 = .ok (.iload 4, 2) := by decide +kernel
theorem dX7_adds_64 : decode cX7_adds 64 = .ok (.iastore, 1) := by decide +kernel
theorem dX7_adds_65 : decode cX7_adds 65 = .ok (.aload_n 0, 1) := by decide +kernel
theorem dX7_adds_66 : decode cX7_adds 66 = .ok (.getfield 25, 3) := by decide +kernel
theorem dX7_adds_69 : decode cX7_adds 69 = .ok (.iconst 0, 1) := by decide +kernel
theorem dX7_adds_70 : decode cX7_adds 70 = .ok (.iload 5, 2) := by decide +kernel
theorem dX7_adds_72 : decode cX7_adds 72 = .ok (.iastore, 1) := by decide +kernel
theorem dX7_adds_73 : decode cX7_adds 73 = .ok (.aload_n 0, 1) := by decide +kernel
theorem dX7_adds_74 : decode cX7_adds 74 = .ok (.iconst 1, 1) := by decide +kernel
theorem dX7_adds_75 : decode cX7_adds 75 = .ok (.putfield 104, 3) := by decide +kernel
theorem dX7_adds_78 : decode cX7_adds 78 = .ok (.aload_n 0, 1) := by decide +kernel
theorem dX7_adds_79 : decode cX7_adds 79 = .ok (.iconst 0, 1) := by decide +kernel
theorem dX7_adds_80 : decode cX7_adds 80 = .ok (.putfield 107, 3) := by decide +kernel
theorem dX7_adds_83 : decode cX7_adds 83 = .ok (.aload_n 0, 1) := by decide +kernel
theorem dX7_adds_84 : decode cX7_adds 84 = .ok (.invokevirtual 176, 3) := by decide +kernel
theorem dX7_adds_87 : decode cX7_adds 87 = .ok (.iload 5, 2) := by decide +kernel
theorem dX7_adds_89 : decode cX7_adds 89 = .ok (.ireturn, 1) := by decide +kernel
theorem dX7_insert_0 : decode cX7_insert 0 = .ok (.iload_n 1, 1) := by decide +kernel
theorem dX7_insert_1 : decode cX7_insert 1 = .ok (.iload_n 2, 1) := by decide +kernel
theorem dX7_insert_2 : decode cX7_insert 2 = .ok (.iload_n 3, 1) := by decide +kernel
theorem dX7_insert_3 : decode cX7_insert 3 = .ok (.iload 4, 2) := by decide +kernel
theorem dX7_insert_5 : decode cX7_insert 5 = .ok (.invokestatic 179, 3) := by decide +kernel
theorem dX7_insert_8 : decode cX7_insert 8 = .ok (.ifCond .ne 6, 3) := by decide +kernel
theorem dX7_insert_11 : decode cX7_insert 11 = .ok (.bipush (-2), 2) := by decide +kernel
theorem dX7_insert_13 : decode cX7_insert 13 = .ok (.ireturn, 1) := by decide +kernel
theorem dX7_insert_14 : decode cX7_insert 14 = .ok (.aload_n 0, 1) := by decide +kernel
theorem dX7_insert_15 : decode cX7_insert 15 = .ok (.invokevirtual 183, 3) := by decide +kernel
theorem dX7_insert_18 : decode cX7_insert 18 = .ok (.bipush 24, 2) := by decide +kernel
theorem dX7_insert_20 : decode cX7_insert 20 = .ok (.if_icmp .ne 6, 3) := by decide +kernel
theorem dX7_insert_23 : decode cX7_insert 23 = .ok (.bipush (-3), 2) := by decide +kernel
theorem dX7_insert_25 : decode cX7_insert 25 = .ok (.ireturn, 1) := by decide +kernel
theorem dX7_insert_26 : decode cX7_insert 26 = .ok (.aload_n 0, 1) := by decide +kernel
theorem dX7_insert_27 : decode cX7_insert 27 = .ok (.invokevirtual 186, 3) := by decide +kernel
theorem dX7_insert_30 : decode cX7_insert 30 = .ok (.aload_n 0, 1) := by decide +kernel
theorem dX7_insert_31 : decode cX7_insert 31 = .ok (.iload_n 1, 1) := by decide +kernel
theorem dX7_insert_32 : decode cX7_insert 32 = .ok (.iload_n 2, 1) := by decide +kernel
theorem dX7_insert_33 : decode cX7_insert 33 = .ok (.iload_n 3, 1) := by decide +kernel
theorem dX7_insert_34 : decode cX7_insert 34 = .ok (.iload 4, 2) := by decide +kernel
theorem dX7_insert_36 : decode cX7_insert 36 = .ok (.invokevirtual 189, 3) := by decide +kernel
theorem dX7_insert_39 : decode cX7_insert 39 = .ok (.ireturn, 1) := by decide +kernel
theorem dX7_keepsAside_0 : decode cX7_keepsAside 0 = .ok (.aload_n 0, 1) := by decide +kernel
theorem dX7_keepsAside_1 : decode cX7_keepsAside 1 = .ok (.iload_n 1, 1) := by decide +kernel
theorem dX7_keepsAside_2 : decode cX7_keepsAside 2 = .ok (.invokevirtual 83, 3) := by decide +kernel
theorem dX7_keepsAside_5 : decode cX7_keepsAside 5 = .ok (.istore_n 2, 1) := by decide +kernel
theorem dX7_keepsAside_6 : decode cX7_keepsAside 6 = .ok (.iload_n 1, 1) := by decide +kernel
theorem dX7_keepsAside_7 : decode cX7_keepsAside 7 = .ok (.iconst 1, 1) := by decide +kernel
theorem dX7_keepsAside_8 : decode cX7_keepsAside 8 = .ok (.iadd, 1) := by decide +kernel
theorem dX7_keepsAside_9 : decode cX7_keepsAside 9 = .ok (.istore_n 3, 1) := by decide +kernel
theorem dX7_keepsAside_10 : decode cX7_keepsAside 10 = .ok (.iload_n 3, 1) := by decide +kernel
theorem dX7_keepsAside_11 : decode cX7_keepsAside 11 = .ok (.iload_n 2, 1) := by decide +kernel
theorem dX7_keepsAside_12 : decode cX7_keepsAside 12 = .ok (.if_icmp .ge 104, 3) := by decide +kernel
theorem dX7_keepsAside_15 : decode cX7_keepsAside 15 = .ok (.aload_n 0, 1) := by decide +kernel
theorem dX7_keepsAside_16 : decode cX7_keepsAside 16 = .ok (.iload_n 3, 1) := by decide +kernel
theorem dX7_keepsAside_17 : decode cX7_keepsAside 17 = .ok (.invokevirtual 83, 3) := by decide +kernel
theorem dX7_keepsAside_20 : decode cX7_keepsAside 20 = .ok (.istore 4, 2) := by decide +kernel
theorem dX7_keepsAside_22 : decode cX7_keepsAside 22 = .ok (.aload_n 0, 1) := by decide +kernel
theorem dX7_keepsAside_23 : decode cX7_keepsAside 23 = .ok (.getfield 50, 3) := by decide +kernel
theorem dX7_keepsAside_26 : decode cX7_keepsAside 26 = .ok (.aload_n 0, 1) := by decide +kernel
theorem dX7_keepsAside_27 : decode cX7_keepsAside 27 = .ok (.getfield 192, 3) := by decide +kernel
theorem dX7_keepsAside_30 : decode cX7_keepsAside 30 = .ok (.iaload, 1) := by decide +kernel
theorem dX7_keepsAside_31 : decode cX7_keepsAside 31 = .ok (.istore 5, 2) := by decide +kernel
theorem dX7_keepsAside_33 : decode cX7_keepsAside 33 = .ok (.iload_n 3, 1) := by decide +kernel
theorem dX7_keepsAside_34 : decode cX7_keepsAside 34 = .ok (.istore 6, 2) := by decide +kernel
theorem dX7_keepsAside_36 : decode cX7_keepsAside 36 = .ok (.iload 6, 2) := by decide +kernel
theorem dX7_keepsAside_38 : decode cX7_keepsAside 38 = .ok (.iload 4, 2) := by decide +kernel
theorem dX7_keepsAside_40 : decode cX7_keepsAside 40 = .ok (.if_icmp .ge 27, 3) := by decide +kernel
theorem dX7_keepsAside_43 : decode cX7_keepsAside 43 = .ok (.aload_n 0, 1) := by decide +kernel
theorem dX7_keepsAside_44 : decode cX7_keepsAside 44 = .ok (.getfield 47, 3) := by decide +kernel
theorem dX7_keepsAside_47 : decode cX7_keepsAside 47 = .ok (.iload 5, 2) := by decide +kernel
theorem dX7_keepsAside_49 : decode cX7_keepsAside 49 = .ok (.iload 6, 2) := by decide +kernel
theorem dX7_keepsAside_51 : decode cX7_keepsAside 51 = .ok (.iadd, 1) := by decide +kernel
theorem dX7_keepsAside_52 : decode cX7_keepsAside 52 = .ok (.iload_n 3, 1) := by decide +kernel
theorem dX7_keepsAside_53 : decode cX7_keepsAside 53 = .ok (.isub, 1) := by decide +kernel
theorem dX7_keepsAside_54 : decode cX7_keepsAside 54 = .ok (.aload_n 0, 1) := by decide +kernel
theorem dX7_keepsAside_55 : decode cX7_keepsAside 55 = .ok (.iload 6, 2) := by decide +kernel
theorem dX7_keepsAside_57 : decode cX7_keepsAside 57 = .ok (.invokevirtual 69, 3) := by decide +kernel
theorem dX7_keepsAside_60 : decode cX7_keepsAside 60 = .ok (.iastore, 1) := by decide +kernel
theorem dX7_keepsAside_61 : decode cX7_keepsAside 61 = .ok (.iinc 6 1, 3) := by decide +kernel
theorem dX7_keepsAside_64 : decode cX7_keepsAside 64 = .ok (.goto (-28), 3) := by decide +kernel
theorem dX7_keepsAside_67 : decode cX7_keepsAside 67 = .ok (.aload_n 0, 1) := by decide +kernel
theorem dX7_keepsAside_68 : decode cX7_keepsAside 68 = .ok (.getfield 53, 3) := by decide +kernel
theorem dX7_keepsAside_71 : decode cX7_keepsAside 71 = .ok (.aload_n 0, 1) := by decide +kernel
theorem dX7_keepsAside_72 : decode cX7_keepsAside 72 = .ok (.getfield 192, 3) := by decide +kernel
theorem dX7_keepsAside_75 : decode cX7_keepsAside 75 = .ok (.aload_n 0, 1) := by decide +kernel
theorem dX7_keepsAside_76 : decode cX7_keepsAside 76 = .ok (.iload_n 1, 1) := by decide +kernel
theorem dX7_keepsAside_77 : decode cX7_keepsAside 77 = .ok (.invokevirtual 80, 3) := by decide +kernel
theorem dX7_keepsAside_80 : decode cX7_keepsAside 80 = .ok (.iastore, 1) := by decide +kernel
theorem dX7_keepsAside_81 : decode cX7_keepsAside 81 = .ok (.aload_n 0, 1) := by decide +kernel
theorem dX7_keepsAside_82 : decode cX7_keepsAside 82 = .ok (.dup, 1) := by decide +kernel
theorem dX7_keepsAside_83 : decode cX7_keepsAside 83 = .ok (.getfield 192, 3) := by decide +kernel
theorem dX7_keepsAside_86 : decode cX7_keepsAside 86 = .ok (.iconst 1, 1) := by decide +kernel
theorem dX7_keepsAside_87 : decode cX7_keepsAside 87 = .ok (.iadd, 1) := by decide +kernel
theorem dX7_keepsAside_88 : decode cX7_keepsAside 88 = .ok (.putfield 192, 3) := by decide +kernel
theorem dX7_keepsAside_91 : decode cX7_keepsAside 91 = .ok (.aload_n 0, 1) := by decide +kernel
theorem dX7_keepsAside_92 : decode cX7_keepsAside 92 = .ok (.getfield 50, 3) := by decide +kernel
theorem dX7_keepsAside_95 : decode cX7_keepsAside 95 = .ok (.aload_n 0, 1) := by decide +kernel
theorem dX7_keepsAside_96 : decode cX7_keepsAside 96 = .ok (.getfield 192, 3) := by decide +kernel
theorem dX7_keepsAside_99 : decode cX7_keepsAside 99 = .ok (.iload 5, 2) := by decide +kernel
theorem dX7_keepsAside_101 : decode cX7_keepsAside 101 = .ok (.iload 4, 2) := by decide +kernel
theorem dX7_keepsAside_103 : decode cX7_keepsAside 103 = .ok (.iadd, 1) := by decide +kernel
theorem dX7_keepsAside_104 : decode cX7_keepsAside 104 = .ok (.iload_n 3, 1) := by decide +kernel
theorem dX7_keepsAside_105 : decode cX7_keepsAside 105 = .ok (.isub, 1) := by decide +kernel
theorem dX7_keepsAside_106 : decode cX7_keepsAside 106 = .ok (.iastore, 1) := by decide +kernel
theorem dX7_keepsAside_107 : decode cX7_keepsAside 107 = .ok (.aload_n 0, 1) := by decide +kernel
theorem dX7_keepsAside_108 : decode cX7_keepsAside 108 = .ok (.iload_n 3, 1) := by decide +kernel
theorem dX7_keepsAside_109 : decode cX7_keepsAside 109 = .ok (.invokevirtual 83, 3) := by decide +kernel
theorem dX7_keepsAside_112 : decode cX7_keepsAside 112 = .ok (.istore_n 3, 1) := by decide +kernel
theorem dX7_keepsAside_113 : decode cX7_keepsAside 113 = .ok (.goto (-103), 3) := by decide +kernel
theorem dX7_keepsAside_116 : decode cX7_keepsAside 116 = .ok (.aload_n 0, 1) := by decide +kernel
theorem dX7_keepsAside_117 : decode cX7_keepsAside 117 = .ok (.iload_n 1, 1) := by decide +kernel
theorem dX7_keepsAside_118 : decode cX7_keepsAside 118 = .ok (.iload_n 2, 1) := by decide +kernel
theorem dX7_keepsAside_119 : decode cX7_keepsAside 119 = .ok (.invokevirtual 127, 3) := by decide +kernel
theorem dX7_keepsAside_122 : decode cX7_keepsAside 122 = .ok (.return_, 1) := by decide +kernel
theorem dX7_shrinks_0 : decode cX7_shrinks 0 = .ok (.aload_n 0, 1) := by decide +kernel
theorem dX7_shrinks_1 : decode cX7_shrinks 1 = .ok (.invokevirtual 76, 3) := by decide +kernel
theorem dX7_shrinks_4 : decode cX7_shrinks 4 = .ok (.iconst 1, 1) := by decide +kernel
theorem dX7_shrinks_5 : decode cX7_shrinks 5 = .ok (.if_icmp .le 30, 3) := by decide +kernel
theorem dX7_shrinks_8 : decode cX7_shrinks 8 = .ok (.aload_n 0, 1) := by decide +kernel
theorem dX7_shrinks_9 : decode cX7_shrinks 9 = .ok (.iconst 0, 1) := by decide +kernel
theorem dX7_shrinks_10 : decode cX7_shrinks 10 = .ok (.invokevirtual 69, 3) := by decide +kernel
theorem dX7_shrinks_13 : decode cX7_shrinks 13 = .ok (.iconst (-1), 1) := by decide +kernel
theorem dX7_shrinks_14 : decode cX7_shrinks 14 = .ok (.if_icmp .ge 21, 3) := by decide +kernel
theorem dX7_shrinks_17 : decode cX7_shrinks 17 = .ok (.aload_n 0, 1) := by decide +kernel
theorem dX7_shrinks_18 : decode cX7_shrinks 18 = .ok (.iconst 0, 1) := by decide +kernel
theorem dX7_shrinks_19 : decode cX7_shrinks 19 = .ok (.invokevirtual 137, 3) := by decide +kernel
theorem dX7_shrinks_22 : decode cX7_shrinks 22 = .ok (.iconst 1, 1) := by decide +kernel
theorem dX7_shrinks_23 : decode cX7_shrinks 23 = .ok (.if_icmp .ne 12, 3) := by decide +kernel
theorem dX7_shrinks_26 : decode cX7_shrinks 26 = .ok (.aload_n 0, 1) := by decide +kernel
theorem dX7_shrinks_27 : decode cX7_shrinks 27 = .ok (.iconst 0, 1) := by decide +kernel
theorem dX7_shrinks_28 : decode cX7_shrinks 28 = .ok (.iconst 1, 1) := by decide +kernel
theorem dX7_shrinks_29 : decode cX7_shrinks 29 = .ok (.invokevirtual 127, 3) := by decide +kernel
theorem dX7_shrinks_32 : decode cX7_shrinks 32 = .ok (.goto (-32), 3) := by decide +kernel
theorem dX7_shrinks_35 : decode cX7_shrinks 35 = .ok (.aload_n 0, 1) := by decide +kernel
theorem dX7_shrinks_36 : decode cX7_shrinks 36 = .ok (.invokevirtual 76, 3) := by decide +kernel
theorem dX7_shrinks_39 : decode cX7_shrinks 39 = .ok (.iconst 1, 1) := by decide +kernel
theorem dX7_shrinks_40 : decode cX7_shrinks 40 = .ok (.if_icmp .ne 11, 3) := by decide +kernel
theorem dX7_shrinks_43 : decode cX7_shrinks 43 = .ok (.aload_n 0, 1) := by decide +kernel
theorem dX7_shrinks_44 : decode cX7_shrinks 44 = .ok (.getfield 7, 3) := by decide +kernel
theorem dX7_shrinks_47 : decode cX7_shrinks 47 = .ok (.bipush 101, 2) := by decide +kernel
theorem dX7_shrinks_49 : decode cX7_shrinks 49 = .ok (.iconst (-1), 1) := by decide +kernel
theorem dX7_shrinks_50 : decode cX7_shrinks 50 = .ok (.iastore, 1) := by decide +kernel
theorem dX7_shrinks_51 : decode cX7_shrinks 51 = .ok (.return_, 1) := by decide +kernel
theorem dX7_insertsAside_0 : decode cX7_insertsAside 0 = .ok (.aload_n 0, 1) := by decide +kernel
theorem dX7_insertsAside_1 : decode cX7_insertsAside 1 = .ok (.getfield 53, 3) := by decide +kernel
theorem dX7_insertsAside_4 : decode cX7_insertsAside 4 = .ok (.iload_n 1, 1) := by decide +kernel
theorem dX7_insertsAside_5 : decode cX7_insertsAside 5 = .ok (.iaload, 1) := by decide +kernel
theorem dX7_insertsAside_6 : decode cX7_insertsAside 6 = .ok (.aload_n 0, 1) := by decide +kernel
theorem dX7_insertsAside_7 : decode cX7_insertsAside 7 = .ok (.iconst 0, 1) := by decide +kernel
theorem dX7_insertsAside_8 : decode cX7_insertsAside 8 = .ok (.invokevirtual 80, 3) := by decide +kernel
theorem dX7_insertsAside_11 : decode cX7_insertsAside 11 = .ok (.if_icmp .gt 40, 3) := by decide +kernel
theorem dX7_insertsAside_14 : decode cX7_insertsAside 14 = .ok (.aload_n 0, 1) := by decide +kernel
theorem dX7_insertsAside_15 : decode cX7_insertsAside 15 = .ok (.aload_n 0, 1) := by decide +kernel
theorem dX7_insertsAside_16 : decode cX7_insertsAside 16 = .ok (.getfield 47, 3) := by decide +kernel
theorem dX7_insertsAside_19 : decode cX7_insertsAside 19 = .ok (.aload_n 0, 1) := by decide +kernel
theorem dX7_insertsAside_20 : decode cX7_insertsAside 20 = .ok (.getfield 50, 3) := by decide +kernel
theorem dX7_insertsAside_23 : decode cX7_insertsAside 23 = .ok (.iload_n 1, 1) := by decide +kernel
theorem dX7_insertsAside_24 : decode cX7_insertsAside 24 = .ok (.iaload, 1) := by decide +kernel
theorem dX7_insertsAside_25 : decode cX7_insertsAside 25 = .ok (.aload_n 0, 1) := by decide +kernel
theorem dX7_insertsAside_26 : decode cX7_insertsAside 26 = .ok (.getfield 50, 3) := by decide +kernel
theorem dX7_insertsAside_29 : decode cX7_insertsAside 29 = .ok (.iload_n 1, 1) := by decide +kernel
theorem dX7_insertsAside_30 : decode cX7_insertsAside 30 = .ok (.iconst 1, 1) := by decide +kernel
theorem dX7_insertsAside_31 : decode cX7_insertsAside 31 = .ok (.iadd, 1) := by decide +kernel
theorem dX7_insertsAside_32 : decode cX7_insertsAside 32 = .ok (.iaload, 1) := by decide +kernel
theorem dX7_insertsAside_33 : decode cX7_insertsAside 33 = .ok (.invokevirtual 123, 3) := by decide +kernel
theorem dX7_insertsAside_36 : decode cX7_insertsAside 36 = .ok (.aload_n 0, 1) := by decide +kernel
theorem dX7_insertsAside_37 : decode cX7_insertsAside 37 = .ok (.aload_n 0, 1) := by decide +kernel
theorem dX7_insertsAside_38 : decode cX7_insertsAside 38 = .ok (.getfield 53, 3) := by decide +kernel
theorem dX7_insertsAside_41 : decode cX7_insertsAside 41 = .ok (.iload_n 1, 1) := by decide +kernel
theorem dX7_insertsAside_42 : decode cX7_insertsAside 42 = .ok (.iaload, 1) := by decide +kernel
theorem dX7_insertsAside_43 : decode cX7_insertsAside 43 = .ok (.putfield 107, 3) := by decide +kernel
theorem dX7_insertsAside_46 : decode cX7_insertsAside 46 = .ok (.aload_n 0, 1) := by decide +kernel
theorem dX7_insertsAside_47 : decode cX7_insertsAside 47 = .ok (.invokevirtual 176, 3) := by decide +kernel
theorem dX7_insertsAside_50 : decode cX7_insertsAside 50 = .ok (.return_, 1) := by decide +kernel
theorem dX7_insertsAside_51 : decode cX7_insertsAside 51 = .ok (.aload_n 0, 1) := by decide +kernel
theorem dX7_insertsAside_52 : decode cX7_insertsAside 52 = .ok (.getfield 50, 3) := by decide +kernel
theorem dX7_insertsAside_55 : decode cX7_insertsAside 55 = .ok (.iload_n 1, 1) := by decide +kernel
theorem dX7_insertsAside_56 : decode cX7_insertsAside 56 = .ok (.iaload, 1) := by decide +kernel
theorem dX7_insertsAside_57 : decode cX7_insertsAside 57 = .ok (.istore_n 2, 1) := by decide +kernel
theorem dX7_insertsAside_58 : decode cX7_insertsAside 58 = .ok (.iload_n 2, 1) := by decide +kernel
theorem dX7_insertsAside_59 : decode cX7_insertsAside 59 = .ok (.aload_n 0, 1) := by decide +kernel
theorem dX7_insertsAside_60 : decode cX7_insertsAside 60 = .ok (.getfield 50, 3) := by decide +kernel
theorem dX7_insertsAside_63 : decode cX7_insertsAside 63 = .ok (.iload_n 1, 1) := by decide +kernel
theorem dX7_insertsAside_64 : decode cX7_insertsAside 64 = .ok (.iconst 1, 1) := by decide +kernel
theorem dX7_insertsAside_65 : decode cX7_insertsAside 65 = .ok (.iadd, 1) := by decide +kernel
theorem dX7_insertsAside_66 : decode cX7_insertsAside 66 = .ok (.iaload, 1) := by decide +kernel
theorem dX7_insertsAside_67 : decode cX7_insertsAside 67 = .ok (.if_icmp .ge 44, 3) := by decide +kernel
theorem dX7_insertsAside_70 : decode cX7_insertsAside 70 = .ok (.aload_n 0, 1) := by decide +kernel
theorem dX7_insertsAside_71 : decode cX7_insertsAside 71 = .ok (.getfield 47, 3) := by decide +kernel
theorem dX7_insertsAside_74 : decode cX7_insertsAside 74 = .ok (.iload_n 2, 1) := by decide +kernel
theorem dX7_insertsAside_75 : decode cX7_insertsAside 75 = .ok (.iaload, 1) := by decide +kernel
theorem dX7_insertsAside_76 : decode cX7_insertsAside 76 = .ok (.ifCond .lt 29, 3) := by decide +kernel
theorem dX7_insertsAside_79 : decode cX7_insertsAside 79 = .ok (.aload_n 0, 1) := by decide +kernel
theorem dX7_insertsAside_80 : decode cX7_insertsAside 80 = .ok (.getfield 25, 3) := by decide +kernel
theorem dX7_insertsAside_83 : decode cX7_insertsAside 83 = .ok (.iconst 0, 1) := by decide +kernel
theorem dX7_insertsAside_84 : decode cX7_insertsAside 84 = .ok (.aload_n 0, 1) := by decide +kernel
theorem dX7_insertsAside_85 : decode cX7_insertsAside 85 = .ok (.getfield 47, 3) := by decide +kernel
theorem dX7_insertsAside_88 : decode cX7_insertsAside 88 = .ok (.iload_n 2, 1) := by decide +kernel
theorem dX7_insertsAside_89 : decode cX7_insertsAside 89 = .ok (.iaload, 1) := by decide +kernel
theorem dX7_insertsAside_90 : decode cX7_insertsAside 90 = .ok (.iastore, 1) := by decide +kernel
theorem dX7_insertsAside_91 : decode cX7_insertsAside 91 = .ok (.aload_n 0, 1) := by decide +kernel
theorem dX7_insertsAside_92 : decode cX7_insertsAside 92 = .ok (.iconst 1, 1) := by decide +kernel
theorem dX7_insertsAside_93 : decode cX7_insertsAside 93 = .ok (.putfield 104, 3) := by decide +kernel
theorem dX7_insertsAside_96 : decode cX7_insertsAside 96 = .ok (.aload_n 0, 1) := by decide +kernel
theorem dX7_insertsAside_97 : decode cX7_insertsAside 97 = .ok (.iconst 0, 1) := by decide +kernel
theorem dX7_insertsAside_98 : decode cX7_insertsAside 98 = .ok (.putfield 107, 3) := by decide +kernel
theorem dX7_insertsAside_101 : decode cX7_insertsAside 101 = .ok (.aload_n 0, 1) := by decide +kernel
theorem dX7_insertsAside_102 : decode cX7_insertsAside 102 = .ok (.invokevirtual 176, 3) := by decide +kernel
theorem dX7_insertsAside_105 : decode cX7_insertsAside 105 = .ok (.iinc 2 1, 3) := by decide +kernel
theorem dX7_insertsAside_108 : decode cX7_insertsAside 108 = .ok (.goto (-50), 3) := by decide +kernel
theorem dX7_insertsAside_111 : decode cX7_insertsAside 111 = .ok (.return_, 1) := by decide +kernel
theorem dX7_remove_0 : decode cX7_remove 0 = .ok (.aload_n 0, 1) := by decide +kernel
theorem dX7_remove_1 : decode cX7_remove 1 = .ok (.iload_n 1, 1) := by decide +kernel
theorem dX7_remove_2 : decode cX7_remove 2 = .ok (.invokevirtual 168, 3) := by decide +kernel
theorem dX7_remove_5 : decode cX7_remove 5 = .ok (.ifCond .ne 5, 3) := by decide +kernel
theorem dX7_remove_8 : decode cX7_remove 8 = .ok (.iconst (-1), 1) := by decide +kernel
theorem dX7_remove_9 : decode cX7_remove 9 = .ok (.ireturn, 1) := by decide +kernel
theorem dX7_remove_10 : decode cX7_remove 10 = .ok (.aload_n 0, 1) := by decide +kernel
theorem dX7_remove_11 : decode cX7_remove 11 = .ok (.invokevirtual 186, 3) := by decide +kernel
theorem dX7_remove_14 : decode cX7_remove 14 = .ok (.aload_n 0, 1) := by decide +kernel
theorem dX7_remove_15 : decode cX7_remove 15 = .ok (.iload_n 1, 1) := by decide +kernel
theorem dX7_remove_16 : decode cX7_remove 16 = .ok (.invokevirtual 195, 3) := by decide +kernel
theorem dX7_remove_19 : decode cX7_remove 19 = .ok (.istore_n 2, 1) := by decide +kernel
theorem dX7_remove_20 : decode cX7_remove 20 = .ok (.aload_n 0, 1) := by decide +kernel
theorem dX7_remove_21 : decode cX7_remove 21 = .ok (.iload_n 2, 1) := by decide +kernel
theorem dX7_remove_22 : decode cX7_remove 22 = .ok (.invokevirtual 165, 3) := by decide +kernel
theorem dX7_remove_25 : decode cX7_remove 25 = .ok (.istore_n 3, 1) := by decide +kernel
theorem dX7_remove_26 : decode cX7_remove 26 = .ok (.aload_n 0, 1) := by decide +kernel
theorem dX7_remove_27 : decode cX7_remove 27 = .ok (.iload_n 2, 1) := by decide +kernel
theorem dX7_remove_28 : decode cX7_remove 28 = .ok (.iload_n 2, 1) := by decide +kernel
theorem dX7_remove_29 : decode cX7_remove 29 = .ok (.iconst 1, 1) := by decide +kernel
theorem dX7_remove_30 : decode cX7_remove 30 = .ok (.iadd, 1) := by decide +kernel
theorem dX7_remove_31 : decode cX7_remove 31 = .ok (.invokevirtual 127, 3) := by decide +kernel
theorem dX7_remove_34 : decode cX7_remove 34 = .ok (.aload_n 0, 1) := by decide +kernel
theorem dX7_remove_35 : decode cX7_remove 35 = .ok (.getfield 7, 3) := by decide +kernel
theorem dX7_remove_38 : decode cX7_remove 38 = .ok (.iconst 5, 1) := by decide +kernel
theorem dX7_remove_39 : decode cX7_remove 39 = .ok (.iconst 4, 1) := by decide +kernel
theorem dX7_remove_40 : decode cX7_remove 40 = .ok (.iload_n 1, 1) := by decide +kernel
theorem dX7_remove_41 : decode cX7_remove 41 = .ok (.imul, 1) := by decide +kernel
theorem dX7_remove_42 : decode cX7_remove 42 = .ok (.iadd, 1) := by decide +kernel
theorem dX7_remove_43 : decode cX7_remove 43 = .ok (.iconst (-1), 1) := by decide +kernel
theorem dX7_remove_44 : decode cX7_remove 44 = .ok (.iastore, 1) := by decide +kernel
theorem dX7_remove_45 : decode cX7_remove 45 = .ok (.aload_n 0, 1) := by decide +kernel
theorem dX7_remove_46 : decode cX7_remove 46 = .ok (.iconst 0, 1) := by decide +kernel
theorem dX7_remove_47 : decode cX7_remove 47 = .ok (.putfield 192, 3) := by decide +kernel
theorem dX7_remove_50 : decode cX7_remove 50 = .ok (.aload_n 0, 1) := by decide +kernel
theorem dX7_remove_51 : decode cX7_remove 51 = .ok (.getfield 50, 3) := by decide +kernel
theorem dX7_remove_54 : decode cX7_remove 54 = .ok (.iconst 0, 1) := by decide +kernel
theorem dX7_remove_55 : decode cX7_remove 55 = .ok (.iconst 0, 1) := by decide +kernel
theorem dX7_remove_56 : decode cX7_remove 56 = .ok (.iastore, 1) := by decide +kernel
theorem dX7_remove_57 : decode cX7_remove 57 = .ok (.iload_n 3, 1) := by decide +kernel
theorem dX7_remove_58 : decode cX7_remove 58 = .ok (.ifCond .le 37, 3) := by decide +kernel
theorem dX7_remove_61 : decode cX7_remove 61 = .ok (.aload_n 0, 1) := by decide +kernel
theorem dX7_remove_62 : decode cX7_remove 62 = .ok (.iload_n 3, 1) := by decide +kernel
theorem dX7_remove_63 : decode cX7_remove 63 = .ok (.invokevirtual 165, 3) := by decide +kernel
theorem dX7_remove_66 : decode cX7_remove 66 = .ok (.istore 4, 2) := by decide +kernel
theorem dX7_remove_68 : decode cX7_remove 68 = .ok (.aload_n 0, 1) := by decide +kernel
theorem dX7_remove_69 : decode cX7_remove 69 = .ok (.iload_n 3, 1) := by decide +kernel
theorem dX7_remove_70 : decode cX7_remove 70 = .ok (.invokevirtual 137, 3) := by decide +kernel
theorem dX7_remove_73 : decode cX7_remove 73 = .ok (.aload_n 0, 1) := by decide +kernel
theorem dX7_remove_74 : decode cX7_remove 74 = .ok (.getfield 7, 3) := by decide +kernel
theorem dX7_remove_77 : decode cX7_remove 77 = .ok (.iconst 0, 1) := by decide +kernel
theorem dX7_remove_78 : decode cX7_remove 78 = .ok (.iaload, 1) := by decide +kernel
theorem dX7_remove_79 : decode cX7_remove 79 = .ok (.iconst 2, 1) := by decide +kernel
theorem dX7_remove_80 : decode cX7_remove 80 = .ok (.idiv, 1) := by decide +kernel
theorem dX7_remove_81 : decode cX7_remove 81 = .ok (.if_icmp .ge 8, 3) := by decide +kernel
theorem dX7_remove_84 : decode cX7_remove 84 = .ok (.aload_n 0, 1) := by decide +kernel
theorem dX7_remove_85 : decode cX7_remove 85 = .ok (.iload_n 3, 1) := by decide +kernel
theorem dX7_remove_86 : decode cX7_remove 86 = .ok (.invokevirtual 198, 3) := by decide +kernel
theorem dX7_remove_89 : decode cX7_remove 89 = .ok (.iload 4, 2) := by decide +kernel
theorem dX7_remove_91 : decode cX7_remove 91 = .ok (.istore_n 3, 1) := by decide +kernel
theorem dX7_remove_92 : decode cX7_remove 92 = .ok (.goto (-35), 3) := by decide +kernel
theorem dX7_remove_95 : decode cX7_remove 95 = .ok (.aload_n 0, 1) := by decide +kernel
theorem dX7_remove_96 : decode cX7_remove 96 = .ok (.invokevirtual 201, 3) := by decide +kernel
theorem dX7_remove_99 : decode cX7_remove 99 = .ok (.iconst 0, 1) := by decide +kernel
theorem dX7_remove_100 : decode cX7_remove 100 = .ok (.istore 4, 2) := by decide +kernel
theorem dX7_remove_102 : decode cX7_remove 102 = .ok (.iload 4, 2) := by decide +kernel
theorem dX7_remove_104 : decode cX7_remove 104 = .ok (.aload_n 0, 1) := by decide +kernel
theorem dX7_remove_105 : decode cX7_remove 105 = .ok (.getfield 192, 3) := by decide +kernel
theorem dX7_remove_108 : decode cX7_remove 108 = .ok (.if_icmp .ge 15, 3) := by decide +kernel
theorem dX7_remove_111 : decode cX7_remove 111 = .ok (.aload_n 0, 1) := by decide +kernel
theorem dX7_remove_112 : decode cX7_remove 112 = .ok (.iload 4, 2) := by decide +kernel
theorem dX7_remove_114 : decode cX7_remove 114 = .ok (.invokevirtual 204, 3) := by decide +kernel
theorem dX7_remove_117 : decode cX7_remove 117 = .ok (.iinc 4 1, 3) := by decide +kernel
theorem dX7_remove_120 : decode cX7_remove 120 = .ok (.goto (-18), 3) := by decide +kernel
theorem dX7_remove_123 : decode cX7_remove 123 = .ok (.aload_n 0, 1) := by decide +kernel
theorem dX7_remove_124 : decode cX7_remove 124 = .ok (.invokevirtual 183, 3) := by decide +kernel
theorem dX7_remove_127 : decode cX7_remove 127 = .ok (.ireturn, 1) := by decide +kernel
theorem dX7_key_0 : decode cX7_key 0 = .ok (.bipush 24, 2) := by decide +kernel
theorem dX7_key_2 : decode cX7_key 2 = .ok (.aload_n 0, 1) := by decide +kernel
theorem dX7_key_3 : decode cX7_key 3 = .ok (.getfield 7, 3) := by decide +kernel
theorem dX7_key_6 : decode cX7_key 6 = .ok (.iconst 5, 1) := by decide +kernel
theorem dX7_key_7 : decode cX7_key 7 = .ok (.iconst 4, 1) := by decide +kernel
theorem dX7_key_8 : decode cX7_key 8 = .ok (.iload_n 1, 1) := by decide +kernel
theorem dX7_key_9 : decode cX7_key 9 = .ok (.imul, 1) := by decide +kernel
theorem dX7_key_10 : decode cX7_key 10 = .ok (.iadd, 1) := by decide +kernel
theorem dX7_key_11 : decode cX7_key 11 = .ok (.iload_n 2, 1) := by decide +kernel
theorem dX7_key_12 : decode cX7_key 12 = .ok (.iadd, 1) := by decide +kernel
theorem dX7_key_13 : decode cX7_key 13 = .ok (.iaload, 1) := by decide +kernel
theorem dX7_key_14 : decode cX7_key 14 = .ok (.aload_n 0, 1) := by decide +kernel
theorem dX7_key_15 : decode cX7_key 15 = .ok (.getfield 7, 3) := by decide +kernel
theorem dX7_key_18 : decode cX7_key 18 = .ok (.iconst 5, 1) := by decide +kernel
theorem dX7_key_19 : decode cX7_key 19 = .ok (.iconst 4, 1) := by decide +kernel
theorem dX7_key_20 : decode cX7_key 20 = .ok (.iload_n 1, 1) := by decide +kernel
theorem dX7_key_21 : decode cX7_key 21 = .ok (.imul, 1) := by decide +kernel
theorem dX7_key_22 : decode cX7_key 22 = .ok (.iadd, 1) := by decide +kernel
theorem dX7_key_23 : decode cX7_key 23 = .ok (.iload_n 2, 1) := by decide +kernel
theorem dX7_key_24 : decode cX7_key 24 = .ok (.iadd, 1) := by decide +kernel
theorem dX7_key_25 : decode cX7_key 25 = .ok (.iconst 2, 1) := by decide +kernel
theorem dX7_key_26 : decode cX7_key 26 = .ok (.iadd, 1) := by decide +kernel
theorem dX7_key_27 : decode cX7_key 27 = .ok (.iaload, 1) := by decide +kernel
theorem dX7_key_28 : decode cX7_key 28 = .ok (.iadd, 1) := by decide +kernel
theorem dX7_key_29 : decode cX7_key 29 = .ok (.imul, 1) := by decide +kernel
theorem dX7_key_30 : decode cX7_key 30 = .ok (.iload_n 1, 1) := by decide +kernel
theorem dX7_key_31 : decode cX7_key 31 = .ok (.iadd, 1) := by decide +kernel
theorem dX7_key_32 : decode cX7_key 32 = .ok (.ireturn, 1) := by decide +kernel
theorem dX7_sorts_0 : decode cX7_sorts 0 = .ok (.iload_n 1, 1) := by decide +kernel
theorem dX7_sorts_1 : decode cX7_sorts 1 = .ok (.istore 4, 2) := by decide +kernel
theorem dX7_sorts_3 : decode cX7_sorts 3 = .ok (.iload 4, 2) := by decide +kernel
theorem dX7_sorts_5 : decode cX7_sorts 5 = .ok (.iload_n 2, 1) := by decide +kernel
theorem dX7_sorts_6 : decode cX7_sorts 6 = .ok (.if_icmp .ge 86, 3) := by decide +kernel
theorem dX7_sorts_9 : decode cX7_sorts 9 = .ok (.iload 4, 2) := by decide +kernel
theorem dX7_sorts_11 : decode cX7_sorts 11 = .ok (.iconst 1, 1) := by decide +kernel
theorem dX7_sorts_12 : decode cX7_sorts 12 = .ok (.iadd, 1) := by decide +kernel
theorem dX7_sorts_13 : decode cX7_sorts 13 = .ok (.istore 5, 2) := by decide +kernel
theorem dX7_sorts_15 : decode cX7_sorts 15 = .ok (.iload 5, 2) := by decide +kernel
theorem dX7_sorts_17 : decode cX7_sorts 17 = .ok (.iload_n 2, 1) := by decide +kernel
theorem dX7_sorts_18 : decode cX7_sorts 18 = .ok (.if_icmp .ge 68, 3) := by decide +kernel
theorem dX7_sorts_21 : decode cX7_sorts 21 = .ok (.aload_n 0, 1) := by decide +kernel
theorem dX7_sorts_22 : decode cX7_sorts 22 = .ok (.aload_n 0, 1) := by decide +kernel
theorem dX7_sorts_23 : decode cX7_sorts 23 = .ok (.getfield 56, 3) := by decide +kernel
theorem dX7_sorts_26 : decode cX7_sorts 26 = .ok (.iload 5, 2) := by decide +kernel
theorem dX7_sorts_28 : decode cX7_sorts 28 = .ok (.iaload, 1) := by decide +kernel
theorem dX7_sorts_29 : decode cX7_sorts 29 = .ok (.iload_n 3, 1) := by decide +kernel
theorem dX7_sorts_30 : decode cX7_sorts 30 = .ok (.invokevirtual 207, 3) := by decide +kernel
theorem dX7_sorts_33 : decode cX7_sorts 33 = .ok (.aload_n 0, 1) := by decide +kernel
theorem dX7_sorts_34 : decode cX7_sorts 34 = .ok (.aload_n 0, 1) := by decide +kernel
theorem dX7_sorts_35 : decode cX7_sorts 35 = .ok (.getfield 56, 3) := by decide +kernel
theorem dX7_sorts_38 : decode cX7_sorts 38 = .ok (.iload 4, 2) := by decide +kernel
theorem dX7_sorts_40 : decode cX7_sorts 40 = .ok (.iaload, 1) := by decide +kernel
theorem dX7_sorts_41 : decode cX7_sorts 41 = .ok (.iload_n 3, 1) := by decide +kernel
theorem dX7_sorts_42 : decode cX7_sorts 42 = .ok (.invokevirtual 207, 3) := by decide +kernel
theorem dX7_sorts_45 : decode cX7_sorts 45 = .ok (.if_icmp .ge 35, 3) := by decide +kernel
theorem dX7_sorts_48 : decode cX7_sorts 48 = .ok (.aload_n 0, 1) := by decide +kernel
theorem dX7_sorts_49 : decode cX7_sorts 49 = .ok (.getfield 56, 3) := by decide +kernel
theorem dX7_sorts_52 : decode cX7_sorts 52 = .ok (.iload 4, 2) := by decide +kernel
theorem dX7_sorts_54 : decode cX7_sorts 54 = .ok (.iaload, 1) := by decide +kernel
theorem dX7_sorts_55 : decode cX7_sorts 55 = .ok (.istore 6, 2) := by decide +kernel
theorem dX7_sorts_57 : decode cX7_sorts 57 = .ok (.aload_n 0, 1) := by decide +kernel
theorem dX7_sorts_58 : decode cX7_sorts 58 = .ok (.getfield 56, 3) := by decide +kernel
theorem dX7_sorts_61 : decode cX7_sorts 61 = .ok (.iload 4, 2) := by decide +kernel
theorem dX7_sorts_63 : decode cX7_sorts 63 = .ok (.aload_n 0, 1) := by decide +kernel
theorem dX7_sorts_64 : decode cX7_sorts 64 = .ok (.getfield 56, 3) := by decide +kernel
theorem dX7_sorts_67 : decode cX7_sorts 67 = .ok (.iload 5, 2) := by decide +kernel
theorem dX7_sorts_69 : decode cX7_sorts 69 = .ok (.iaload, 1) := by decide +kernel
theorem dX7_sorts_70 : decode cX7_sorts 70 = .ok (.iastore, 1) := by decide +kernel
theorem dX7_sorts_71 : decode cX7_sorts 71 = .ok (.aload_n 0, 1) := by decide +kernel
theorem dX7_sorts_72 : decode cX7_sorts 72 = .ok (.getfield 56, 3) := by decide +kernel
theorem dX7_sorts_75 : decode cX7_sorts 75 = .ok (.iload 5, 2) := by decide +kernel
theorem dX7_sorts_77 : decode cX7_sorts 77 = .ok (.iload 6, 2) := by decide +kernel
theorem dX7_sorts_79 : decode cX7_sorts 79 = .ok (.iastore, 1) := by decide +kernel
theorem dX7_sorts_80 : decode cX7_sorts 80 = .ok (.iinc 5 1, 3) := by decide +kernel
theorem dX7_sorts_83 : decode cX7_sorts 83 = .ok (.goto (-68), 3) := by decide +kernel
theorem dX7_sorts_86 : decode cX7_sorts 86 = .ok (.iinc 4 1, 3) := by decide +kernel
theorem dX7_sorts_89 : decode cX7_sorts 89 = .ok (.goto (-86), 3) := by decide +kernel
theorem dX7_sorts_92 : decode cX7_sorts 92 = .ok (.return_, 1) := by decide +kernel
theorem dX7_appends_0 : decode cX7_appends 0 = .ok (.aload_n 0, 1) := by decide +kernel
theorem dX7_appends_1 : decode cX7_appends 1 = .ok (.getfield 7, 3) := by decide +kernel
theorem dX7_appends_4 : decode cX7_appends 4 = .ok (.bipush 101, 2) := by decide +kernel
theorem dX7_appends_6 : decode cX7_appends 6 = .ok (.aload_n 0, 1) := by decide +kernel
theorem dX7_appends_7 : decode cX7_appends 7 = .ok (.getfield 7, 3) := by decide +kernel
theorem dX7_appends_10 : decode cX7_appends 10 = .ok (.iconst 4, 1) := by decide +kernel
theorem dX7_appends_11 : decode cX7_appends 11 = .ok (.iaload, 1) := by decide +kernel
theorem dX7_appends_12 : decode cX7_appends 12 = .ok (.iadd, 1) := by decide +kernel
theorem dX7_appends_13 : decode cX7_appends 13 = .ok (.iload_n 1, 1) := by decide +kernel
theorem dX7_appends_14 : decode cX7_appends 14 = .ok (.iastore, 1) := by decide +kernel
theorem dX7_appends_15 : decode cX7_appends 15 = .ok (.aload_n 0, 1) := by decide +kernel
theorem dX7_appends_16 : decode cX7_appends 16 = .ok (.getfield 7, 3) := by decide +kernel
theorem dX7_appends_19 : decode cX7_appends 19 = .ok (.iconst 4, 1) := by decide +kernel
theorem dX7_appends_20 : decode cX7_appends 20 = .ok (.dup2, 1) := by decide +kernel
theorem dX7_appends_21 : decode cX7_appends 21 = .ok (.iaload, 1) := by decide +kernel
theorem dX7_appends_22 : decode cX7_appends 22 = .ok (.iconst 1, 1) := by decide +kernel
theorem dX7_appends_23 : decode cX7_appends 23 = .ok (.iadd, 1) := by decide +kernel
theorem dX7_appends_24 : decode cX7_appends 24 = .ok (.iastore, 1) := by decide +kernel
theorem dX7_appends_25 : decode cX7_appends 25 = .ok (.return_, 1) := by decide +kernel
theorem dX7_slice_0 : decode cX7_slice 0 = .ok (.iload_n 1, 1) := by decide +kernel
theorem dX7_slice_1 : decode cX7_slice 1 = .ok (.aload_n 0, 1) := by decide +kernel
theorem dX7_slice_2 : decode cX7_slice 2 = .ok (.getfield 7, 3) := by decide +kernel
theorem dX7_slice_5 : decode cX7_slice 5 = .ok (.iconst 0, 1) := by decide +kernel
theorem dX7_slice_6 : decode cX7_slice 6 = .ok (.iaload, 1) := by decide +kernel
theorem dX7_slice_7 : decode cX7_slice 7 = .ok (.iadd, 1) := by decide +kernel
theorem dX7_slice_8 : decode cX7_slice 8 = .ok (.iconst 1, 1) := by decide +kernel
theorem dX7_slice_9 : decode cX7_slice 9 = .ok (.isub, 1) := by decide +kernel
theorem dX7_slice_10 : decode cX7_slice 10 = .ok (.aload_n 0, 1) := by decide +kernel
theorem dX7_slice_11 : decode cX7_slice 11 = .ok (.getfield 7, 3) := by decide +kernel
theorem dX7_slice_14 : decode cX7_slice 14 = .ok (.iconst 0, 1) := by decide +kernel
theorem dX7_slice_15 : decode cX7_slice 15 = .ok (.iaload, 1) := by decide +kernel
theorem dX7_slice_16 : decode cX7_slice 16 = .ok (.idiv, 1) := by decide +kernel
theorem dX7_slice_17 : decode cX7_slice 17 = .ok (.istore_n 2, 1) := by decide +kernel
theorem dX7_slice_18 : decode cX7_slice 18 = .ok (.iconst 1, 1) := by decide +kernel
theorem dX7_slice_19 : decode cX7_slice 19 = .ok (.istore_n 3, 1) := by decide +kernel
theorem dX7_slice_20 : decode cX7_slice 20 = .ok (.iload_n 3, 1) := by decide +kernel
theorem dX7_slice_21 : decode cX7_slice 21 = .ok (.iload_n 3, 1) := by decide +kernel
theorem dX7_slice_22 : decode cX7_slice 22 = .ok (.imul, 1) := by decide +kernel
theorem dX7_slice_23 : decode cX7_slice 23 = .ok (.iload_n 2, 1) := by decide +kernel
theorem dX7_slice_24 : decode cX7_slice 24 = .ok (.if_icmp .ge 9, 3) := by decide +kernel
theorem dX7_slice_27 : decode cX7_slice 27 = .ok (.iinc 3 1, 3) := by decide +kernel
theorem dX7_slice_30 : decode cX7_slice 30 = .ok (.goto (-10), 3) := by decide +kernel
theorem dX7_slice_33 : decode cX7_slice 33 = .ok (.iload_n 3, 1) := by decide +kernel
theorem dX7_slice_34 : decode cX7_slice 34 = .ok (.aload_n 0, 1) := by decide +kernel
theorem dX7_slice_35 : decode cX7_slice 35 = .ok (.getfield 7, 3) := by decide +kernel
theorem dX7_slice_38 : decode cX7_slice 38 = .ok (.iconst 0, 1) := by decide +kernel
theorem dX7_slice_39 : decode cX7_slice 39 = .ok (.iaload, 1) := by decide +kernel
theorem dX7_slice_40 : decode cX7_slice 40 = .ok (.imul, 1) := by decide +kernel
theorem dX7_slice_41 : decode cX7_slice 41 = .ok (.ireturn, 1) := by decide +kernel
theorem dX7_packsLeaves_0 : decode cX7_packsLeaves 0 = .ok (.aload_n 0, 1) := by decide +kernel
theorem dX7_packsLeaves_1 : decode cX7_packsLeaves 1 = .ok (.iload_n 1, 1) := by decide +kernel
theorem dX7_packsLeaves_2 : decode cX7_packsLeaves 2 = .ok (.invokevirtual 210, 3) := by decide +kernel
theorem dX7_packsLeaves_5 : decode cX7_packsLeaves 5 = .ok (.istore_n 2, 1) := by decide +kernel
theorem dX7_packsLeaves_6 : decode cX7_packsLeaves 6 = .ok (.aload_n 0, 1) := by decide +kernel
theorem dX7_packsLeaves_7 : decode cX7_packsLeaves 7 = .ok (.iconst 0, 1) := by decide +kernel
theorem dX7_packsLeaves_8 : decode cX7_packsLeaves 8 = .ok (.iload_n 1, 1) := by decide +kernel
theorem dX7_packsLeaves_9 : decode cX7_packsLeaves 9 = .ok (.iconst 0, 1) := by decide +kernel
theorem dX7_packsLeaves_10 : decode cX7_packsLeaves 10 = .ok (.invokevirtual 213, 3) := by decide +kernel
theorem dX7_packsLeaves_13 : decode cX7_packsLeaves 13 = .ok (.iconst 0, 1) := by decide +kernel
theorem dX7_packsLeaves_14 : decode cX7_packsLeaves 14 = .ok (.istore_n 3, 1) := by decide +kernel
theorem dX7_packsLeaves_15 : decode cX7_packsLeaves 15 = .ok (.iload_n 3, 1) := by decide +kernel
theorem dX7_packsLeaves_16 : decode cX7_packsLeaves 16 = .ok (.iload_n 1, 1) := by decide +kernel
theorem dX7_packsLeaves_17 : decode cX7_packsLeaves 17 = .ok (.if_icmp .ge 23, 3) := by decide +kernel
theorem dX7_packsLeaves_20 : decode cX7_packsLeaves 20 = .ok (.aload_n 0, 1) := by decide +kernel
theorem dX7_packsLeaves_21 : decode cX7_packsLeaves 21 = .ok (.iload_n 3, 1) := by decide +kernel
theorem dX7_packsLeaves_22 : decode cX7_packsLeaves 22 = .ok (.iload_n 3, 1) := by decide +kernel
theorem dX7_packsLeaves_23 : decode cX7_packsLeaves 23 = .ok (.iload_n 2, 1) := by decide +kernel
theorem dX7_packsLeaves_24 : decode cX7_packsLeaves 24 = .ok (.iadd, 1) := by decide +kernel
end
section
theorem dX7_packsLeaves_25 : decode cX7_packsLeaves 25 = .ok (.iload_n 1, 1) := by decide +kernel
theorem dX7_packsLeaves_26 : decode cX7_packsLeaves 26 = .ok (.invokestatic 86, 3) := by decide +kernel
theorem dX7_packsLeaves_29 : decode cX7_packsLeaves 29 = .ok (.iconst 1, 1) := by decide +kernel
theorem dX7_packsLeaves_30 : decode cX7_packsLeaves 30 = .ok (.invokevirtual 213, 3) := by decide +kernel
theorem dX7_packsLeaves_33 : decode cX7_packsLeaves 33 = .ok (.iload_n 3, 1) := by decide +kernel
theorem dX7_packsLeaves_34 : decode cX7_packsLeaves 34 = .ok (.iload_n 2, 1) := by decide +kernel
theorem dX7_packsLeaves_35 : decode cX7_packsLeaves 35 = .ok (.iadd, 1) := by decide +kernel
theorem dX7_packsLeaves_36 : decode cX7_packsLeaves 36 = .ok (.istore_n 3, 1) := by decide +kernel
theorem dX7_packsLeaves_37 : decode cX7_packsLeaves 37 = .ok (.goto (-22), 3) := by decide +kernel
theorem dX7_packsLeaves_40 : decode cX7_packsLeaves 40 = .ok (.aload_n 0, 1) := by decide +kernel
theorem dX7_packsLeaves_41 : decode cX7_packsLeaves 41 = .ok (.getfield 7, 3) := by decide +kernel
theorem dX7_packsLeaves_44 : decode cX7_packsLeaves 44 = .ok (.iconst 4, 1) := by decide +kernel
theorem dX7_packsLeaves_45 : decode cX7_packsLeaves 45 = .ok (.iconst 0, 1) := by decide +kernel
theorem dX7_packsLeaves_46 : decode cX7_packsLeaves 46 = .ok (.iastore, 1) := by decide +kernel
theorem dX7_packsLeaves_47 : decode cX7_packsLeaves 47 = .ok (.iconst 0, 1) := by decide +kernel
theorem dX7_packsLeaves_48 : decode cX7_packsLeaves 48 = .ok (.istore_n 3, 1) := by decide +kernel
theorem dX7_packsLeaves_49 : decode cX7_packsLeaves 49 = .ok (.iload_n 3, 1) := by decide +kernel
theorem dX7_packsLeaves_50 : decode cX7_packsLeaves 50 = .ok (.iload_n 1, 1) := by decide +kernel
theorem dX7_packsLeaves_51 : decode cX7_packsLeaves 51 = .ok (.if_icmp .ge 37, 3) := by decide +kernel
theorem dX7_packsLeaves_54 : decode cX7_packsLeaves 54 = .ok (.iload_n 3, 1) := by decide +kernel
theorem dX7_packsLeaves_55 : decode cX7_packsLeaves 55 = .ok (.iload_n 2, 1) := by decide +kernel
theorem dX7_packsLeaves_56 : decode cX7_packsLeaves 56 = .ok (.irem, 1) := by decide +kernel
theorem dX7_packsLeaves_57 : decode cX7_packsLeaves 57 = .ok (.aload_n 0, 1) := by decide +kernel
theorem dX7_packsLeaves_58 : decode cX7_packsLeaves 58 = .ok (.getfield 7, 3) := by decide +kernel
theorem dX7_packsLeaves_61 : decode cX7_packsLeaves 61 = .ok (.iconst 0, 1) := by decide +kernel
theorem dX7_packsLeaves_62 : decode cX7_packsLeaves 62 = .ok (.iaload, 1) := by decide +kernel
theorem dX7_packsLeaves_63 : decode cX7_packsLeaves 63 = .ok (.irem, 1) := by decide +kernel
theorem dX7_packsLeaves_64 : decode cX7_packsLeaves 64 = .ok (.ifCond .ne 8, 3) := by decide +kernel
theorem dX7_packsLeaves_67 : decode cX7_packsLeaves 67 = .ok (.aload_n 0, 1) := by decide +kernel
theorem dX7_packsLeaves_68 : decode cX7_packsLeaves 68 = .ok (.iconst (-1), 1) := by decide +kernel
theorem dX7_packsLeaves_69 : decode cX7_packsLeaves 69 = .ok (.invokevirtual 216, 3) := by decide +kernel
theorem dX7_packsLeaves_72 : decode cX7_packsLeaves 72 = .ok (.aload_n 0, 1) := by decide +kernel
theorem dX7_packsLeaves_73 : decode cX7_packsLeaves 73 = .ok (.aload_n 0, 1) := by decide +kernel
theorem dX7_packsLeaves_74 : decode cX7_packsLeaves 74 = .ok (.getfield 56, 3) := by decide +kernel
theorem dX7_packsLeaves_77 : decode cX7_packsLeaves 77 = .ok (.iload_n 3, 1) := by decide +kernel
theorem dX7_packsLeaves_78 : decode cX7_packsLeaves 78 = .ok (.iaload, 1) := by decide +kernel
theorem dX7_packsLeaves_79 : decode cX7_packsLeaves 79 = .ok (.invokevirtual 216, 3) := by decide +kernel
theorem dX7_packsLeaves_82 : decode cX7_packsLeaves 82 = .ok (.iinc 3 1, 3) := by decide +kernel
theorem dX7_packsLeaves_85 : decode cX7_packsLeaves 85 = .ok (.goto (-36), 3) := by decide +kernel
theorem dX7_packsLeaves_88 : decode cX7_packsLeaves 88 = .ok (.return_, 1) := by decide +kernel
theorem dX7_packsAbove_0 : decode cX7_packsAbove 0 = .ok (.iconst 0, 1) := by decide +kernel
theorem dX7_packsAbove_1 : decode cX7_packsAbove 1 = .ok (.istore_n 2, 1) := by decide +kernel
theorem dX7_packsAbove_2 : decode cX7_packsAbove 2 = .ok (.iconst 0, 1) := by decide +kernel
theorem dX7_packsAbove_3 : decode cX7_packsAbove 3 = .ok (.istore_n 3, 1) := by decide +kernel
theorem dX7_packsAbove_4 : decode cX7_packsAbove 4 = .ok (.iconst 0, 1) := by decide +kernel
theorem dX7_packsAbove_5 : decode cX7_packsAbove 5 = .ok (.istore 4, 2) := by decide +kernel
theorem dX7_packsAbove_7 : decode cX7_packsAbove 7 = .ok (.iload 4, 2) := by decide +kernel
theorem dX7_packsAbove_9 : decode cX7_packsAbove 9 = .ok (.aload_n 0, 1) := by decide +kernel
theorem dX7_packsAbove_10 : decode cX7_packsAbove 10 = .ok (.invokevirtual 76, 3) := by decide +kernel
theorem dX7_packsAbove_13 : decode cX7_packsAbove 13 = .ok (.if_icmp .ge 60, 3) := by decide +kernel
theorem dX7_packsAbove_16 : decode cX7_packsAbove 16 = .ok (.aload_n 0, 1) := by decide +kernel
theorem dX7_packsAbove_17 : decode cX7_packsAbove 17 = .ok (.iload 4, 2) := by decide +kernel
theorem dX7_packsAbove_19 : decode cX7_packsAbove 19 = .ok (.invokevirtual 80, 3) := by decide +kernel
theorem dX7_packsAbove_22 : decode cX7_packsAbove 22 = .ok (.iload_n 1, 1) := by decide +kernel
theorem dX7_packsAbove_23 : decode cX7_packsAbove 23 = .ok (.if_icmp .ne 44, 3) := by decide +kernel
theorem dX7_packsAbove_26 : decode cX7_packsAbove 26 = .ok (.iload_n 2, 1) := by decide +kernel
theorem dX7_packsAbove_27 : decode cX7_packsAbove 27 = .ok (.aload_n 0, 1) := by decide +kernel
theorem dX7_packsAbove_28 : decode cX7_packsAbove 28 = .ok (.getfield 7, 3) := by decide +kernel
theorem dX7_packsAbove_31 : decode cX7_packsAbove 31 = .ok (.iconst 0, 1) := by decide +kernel
theorem dX7_packsAbove_32 : decode cX7_packsAbove 32 = .ok (.iaload, 1) := by decide +kernel
theorem dX7_packsAbove_33 : decode cX7_packsAbove 33 = .ok (.irem, 1) := by decide +kernel
theorem dX7_packsAbove_34 : decode cX7_packsAbove 34 = .ok (.ifCond .ne 30, 3) := by decide +kernel
theorem dX7_packsAbove_37 : decode cX7_packsAbove 37 = .ok (.aload_n 0, 1) := by decide +kernel
theorem dX7_packsAbove_38 : decode cX7_packsAbove 38 = .ok (.iload 4, 2) := by decide +kernel
theorem dX7_packsAbove_40 : decode cX7_packsAbove 40 = .ok (.iconst 1, 1) := by decide +kernel
theorem dX7_packsAbove_41 : decode cX7_packsAbove 41 = .ok (.invokevirtual 117, 3) := by decide +kernel
theorem dX7_packsAbove_44 : decode cX7_packsAbove 44 = .ok (.aload_n 0, 1) := by decide +kernel
theorem dX7_packsAbove_45 : decode cX7_packsAbove 45 = .ok (.getfield 7, 3) := by decide +kernel
theorem dX7_packsAbove_48 : decode cX7_packsAbove 48 = .ok (.bipush 101, 2) := by decide +kernel
theorem dX7_packsAbove_50 : decode cX7_packsAbove 50 = .ok (.iload 4, 2) := by decide +kernel
theorem dX7_packsAbove_52 : decode cX7_packsAbove 52 = .ok (.iadd, 1) := by decide +kernel
theorem dX7_packsAbove_53 : decode cX7_packsAbove 53 = .ok (.bipush (-2), 2) := by decide +kernel
theorem dX7_packsAbove_55 : decode cX7_packsAbove 55 = .ok (.iload_n 1, 1) := by decide +kernel
theorem dX7_packsAbove_56 : decode cX7_packsAbove 56 = .ok (.isub, 1) := by decide +kernel
theorem dX7_packsAbove_57 : decode cX7_packsAbove 57 = .ok (.iastore, 1) := by decide +kernel
theorem dX7_packsAbove_58 : decode cX7_packsAbove 58 = .ok (.iinc 3 1, 3) := by decide +kernel
theorem dX7_packsAbove_61 : decode cX7_packsAbove 61 = .ok (.iinc 4 1, 3) := by decide +kernel
theorem dX7_packsAbove_64 : decode cX7_packsAbove 64 = .ok (.iinc 2 1, 3) := by decide +kernel
theorem dX7_packsAbove_67 : decode cX7_packsAbove 67 = .ok (.iinc 4 1, 3) := by decide +kernel
theorem dX7_packsAbove_70 : decode cX7_packsAbove 70 = .ok (.goto (-63), 3) := by decide +kernel
theorem dX7_packsAbove_73 : decode cX7_packsAbove 73 = .ok (.iload_n 3, 1) := by decide +kernel
theorem dX7_packsAbove_74 : decode cX7_packsAbove 74 = .ok (.ireturn, 1) := by decide +kernel
theorem dX7_pack_0 : decode cX7_pack 0 = .ok (.aload_n 0, 1) := by decide +kernel
theorem dX7_pack_1 : decode cX7_pack 1 = .ok (.invokevirtual 186, 3) := by decide +kernel
theorem dX7_pack_4 : decode cX7_pack 4 = .ok (.iconst 0, 1) := by decide +kernel
theorem dX7_pack_5 : decode cX7_pack 5 = .ok (.istore_n 1, 1) := by decide +kernel
theorem dX7_pack_6 : decode cX7_pack 6 = .ok (.iconst 0, 1) := by decide +kernel
theorem dX7_pack_7 : decode cX7_pack 7 = .ok (.istore_n 2, 1) := by decide +kernel
theorem dX7_pack_8 : decode cX7_pack 8 = .ok (.iload_n 2, 1) := by decide +kernel
theorem dX7_pack_9 : decode cX7_pack 9 = .ok (.bipush 24, 2) := by decide +kernel
theorem dX7_pack_11 : decode cX7_pack 11 = .ok (.if_icmp .ge 27, 3) := by decide +kernel
theorem dX7_pack_14 : decode cX7_pack 14 = .ok (.aload_n 0, 1) := by decide +kernel
theorem dX7_pack_15 : decode cX7_pack 15 = .ok (.iload_n 2, 1) := by decide +kernel
theorem dX7_pack_16 : decode cX7_pack 16 = .ok (.invokevirtual 168, 3) := by decide +kernel
theorem dX7_pack_19 : decode cX7_pack 19 = .ok (.ifCond .eq 13, 3) := by decide +kernel
theorem dX7_pack_22 : decode cX7_pack 22 = .ok (.aload_n 0, 1) := by decide +kernel
theorem dX7_pack_23 : decode cX7_pack 23 = .ok (.getfield 56, 3) := by decide +kernel
theorem dX7_pack_26 : decode cX7_pack 26 = .ok (.iload_n 1, 1) := by decide +kernel
theorem dX7_pack_27 : decode cX7_pack 27 = .ok (.iload_n 2, 1) := by decide +kernel
theorem dX7_pack_28 : decode cX7_pack 28 = .ok (.iastore, 1) := by decide +kernel
theorem dX7_pack_29 : decode cX7_pack 29 = .ok (.iinc 1 1, 3) := by decide +kernel
theorem dX7_pack_32 : decode cX7_pack 32 = .ok (.iinc 2 1, 3) := by decide +kernel
theorem dX7_pack_35 : decode cX7_pack 35 = .ok (.goto (-27), 3) := by decide +kernel
theorem dX7_pack_38 : decode cX7_pack 38 = .ok (.iload_n 1, 1) := by decide +kernel
theorem dX7_pack_39 : decode cX7_pack 39 = .ok (.ifCond .ne 20, 3) := by decide +kernel
theorem dX7_pack_42 : decode cX7_pack 42 = .ok (.aload_n 0, 1) := by decide +kernel
theorem dX7_pack_43 : decode cX7_pack 43 = .ok (.getfield 7, 3) := by decide +kernel
theorem dX7_pack_46 : decode cX7_pack 46 = .ok (.iconst 4, 1) := by decide +kernel
theorem dX7_pack_47 : decode cX7_pack 47 = .ok (.iconst 1, 1) := by decide +kernel
theorem dX7_pack_48 : decode cX7_pack 48 = .ok (.iastore, 1) := by decide +kernel
theorem dX7_pack_49 : decode cX7_pack 49 = .ok (.aload_n 0, 1) := by decide +kernel
theorem dX7_pack_50 : decode cX7_pack 50 = .ok (.getfield 7, 3) := by decide +kernel
theorem dX7_pack_53 : decode cX7_pack 53 = .ok (.bipush 101, 2) := by decide +kernel
theorem dX7_pack_55 : decode cX7_pack 55 = .ok (.iconst (-1), 1) := by decide +kernel
theorem dX7_pack_56 : decode cX7_pack 56 = .ok (.iastore, 1) := by decide +kernel
theorem dX7_pack_57 : decode cX7_pack 57 = .ok (.iconst 1, 1) := by decide +kernel
theorem dX7_pack_58 : decode cX7_pack 58 = .ok (.ireturn, 1) := by decide +kernel
theorem dX7_pack_59 : decode cX7_pack 59 = .ok (.aload_n 0, 1) := by decide +kernel
theorem dX7_pack_60 : decode cX7_pack 60 = .ok (.iload_n 1, 1) := by decide +kernel
theorem dX7_pack_61 : decode cX7_pack 61 = .ok (.invokevirtual 219, 3) := by decide +kernel
theorem dX7_pack_64 : decode cX7_pack 64 = .ok (.aload_n 0, 1) := by decide +kernel
theorem dX7_pack_65 : decode cX7_pack 65 = .ok (.invokevirtual 222, 3) := by decide +kernel
theorem dX7_pack_68 : decode cX7_pack 68 = .ok (.istore_n 2, 1) := by decide +kernel
theorem dX7_pack_69 : decode cX7_pack 69 = .ok (.iconst 0, 1) := by decide +kernel
theorem dX7_pack_70 : decode cX7_pack 70 = .ok (.istore_n 3, 1) := by decide +kernel
theorem dX7_pack_71 : decode cX7_pack 71 = .ok (.iload_n 2, 1) := by decide +kernel
theorem dX7_pack_72 : decode cX7_pack 72 = .ok (.iconst 1, 1) := by decide +kernel
theorem dX7_pack_73 : decode cX7_pack 73 = .ok (.if_icmp .le 15, 3) := by decide +kernel
theorem dX7_pack_76 : decode cX7_pack 76 = .ok (.aload_n 0, 1) := by decide +kernel
theorem dX7_pack_77 : decode cX7_pack 77 = .ok (.iload_n 3, 1) := by decide +kernel
theorem dX7_pack_78 : decode cX7_pack 78 = .ok (.invokevirtual 225, 3) := by decide +kernel
theorem dX7_pack_81 : decode cX7_pack 81 = .ok (.istore_n 2, 1) := by decide +kernel
theorem dX7_pack_82 : decode cX7_pack 82 = .ok (.iinc 3 1, 3) := by decide +kernel
theorem dX7_pack_85 : decode cX7_pack 85 = .ok (.goto (-14), 3) := by decide +kernel
theorem dX7_pack_88 : decode cX7_pack 88 = .ok (.aload_n 0, 1) := by decide +kernel
theorem dX7_pack_89 : decode cX7_pack 89 = .ok (.invokevirtual 222, 3) := by decide +kernel
theorem dX7_pack_92 : decode cX7_pack 92 = .ok (.ireturn, 1) := by decide +kernel
theorem dX7_setSetting_0 : decode cX7_setSetting 0 = .ok (.iload_n 1, 1) := by decide +kernel
theorem dX7_setSetting_1 : decode cX7_setSetting 1 = .ok (.iconst 0, 1) := by decide +kernel
theorem dX7_setSetting_2 : decode cX7_setSetting 2 = .ok (.iconst 1, 1) := by decide +kernel
theorem dX7_setSetting_3 : decode cX7_setSetting 3 = .ok (.invokestatic 172, 3) := by decide +kernel
theorem dX7_setSetting_6 : decode cX7_setSetting 6 = .ok (.ifCond .ne 5, 3) := by decide +kernel
theorem dX7_setSetting_9 : decode cX7_setSetting 9 = .ok (.iconst (-1), 1) := by decide +kernel
theorem dX7_setSetting_10 : decode cX7_setSetting 10 = .ok (.ireturn, 1) := by decide +kernel
theorem dX7_setSetting_11 : decode cX7_setSetting 11 = .ok (.iload_n 2, 1) := by decide +kernel
theorem dX7_setSetting_12 : decode cX7_setSetting 12 = .ok (.iload_n 1, 1) := by decide +kernel
theorem dX7_setSetting_13 : decode cX7_setSetting 13 = .ok (.ifCond .ne 7, 3) := by decide +kernel
theorem dX7_setSetting_16 : decode cX7_setSetting 16 = .ok (.iconst 3, 1) := by decide +kernel
theorem dX7_setSetting_17 : decode cX7_setSetting 17 = .ok (.goto 4, 3) := by decide +kernel
theorem dX7_setSetting_20 : decode cX7_setSetting 20 = .ok (.iconst 0, 1) := by decide +kernel
theorem dX7_setSetting_21 : decode cX7_setSetting 21 = .ok (.iload_n 1, 1) := by decide +kernel
theorem dX7_setSetting_22 : decode cX7_setSetting 22 = .ok (.ifCond .ne 7, 3) := by decide +kernel
theorem dX7_setSetting_25 : decode cX7_setSetting 25 = .ok (.iconst 5, 1) := by decide +kernel
theorem dX7_setSetting_26 : decode cX7_setSetting 26 = .ok (.goto 4, 3) := by decide +kernel
theorem dX7_setSetting_29 : decode cX7_setSetting 29 = .ok (.iconst 1, 1) := by decide +kernel
theorem dX7_setSetting_30 : decode cX7_setSetting 30 = .ok (.invokestatic 172, 3) := by decide +kernel
theorem dX7_setSetting_33 : decode cX7_setSetting 33 = .ok (.ifCond .ne 6, 3) := by decide +kernel
theorem dX7_setSetting_36 : decode cX7_setSetting 36 = .ok (.bipush (-2), 2) := by decide +kernel
theorem dX7_setSetting_38 : decode cX7_setSetting 38 = .ok (.ireturn, 1) := by decide +kernel
theorem dX7_setSetting_39 : decode cX7_setSetting 39 = .ok (.aload_n 0, 1) := by decide +kernel
theorem dX7_setSetting_40 : decode cX7_setSetting 40 = .ok (.invokevirtual 186, 3) := by decide +kernel
theorem dX7_setSetting_43 : decode cX7_setSetting 43 = .ok (.aload_n 0, 1) := by decide +kernel
theorem dX7_setSetting_44 : decode cX7_setSetting 44 = .ok (.getfield 7, 3) := by decide +kernel
theorem dX7_setSetting_47 : decode cX7_setSetting 47 = .ok (.iload_n 1, 1) := by decide +kernel
theorem dX7_setSetting_48 : decode cX7_setSetting 48 = .ok (.iaload, 1) := by decide +kernel
theorem dX7_setSetting_49 : decode cX7_setSetting 49 = .ok (.istore_n 3, 1) := by decide +kernel
theorem dX7_setSetting_50 : decode cX7_setSetting 50 = .ok (.aload_n 0, 1) := by decide +kernel
theorem dX7_setSetting_51 : decode cX7_setSetting 51 = .ok (.getfield 7, 3) := by decide +kernel
theorem dX7_setSetting_54 : decode cX7_setSetting 54 = .ok (.iload_n 1, 1) := by decide +kernel
theorem dX7_setSetting_55 : decode cX7_setSetting 55 = .ok (.iload_n 2, 1) := by decide +kernel
theorem dX7_setSetting_56 : decode cX7_setSetting 56 = .ok (.iastore, 1) := by decide +kernel
theorem dX7_setSetting_57 : decode cX7_setSetting 57 = .ok (.iload_n 3, 1) := by decide +kernel
theorem dX7_setSetting_58 : decode cX7_setSetting 58 = .ok (.ireturn, 1) := by decide +kernel
theorem dX7_append_0 : decode cX7_append 0 = .ok (.iload_n 1, 1) := by decide +kernel
theorem dX7_append_1 : decode cX7_append 1 = .ok (.bipush 32, 2) := by decide +kernel
theorem dX7_append_3 : decode cX7_append 3 = .ok (.bipush 126, 2) := by decide +kernel
theorem dX7_append_5 : decode cX7_append 5 = .ok (.invokestatic 172, 3) := by decide +kernel
theorem dX7_append_8 : decode cX7_append 8 = .ok (.ifCond .ne 6, 3) := by decide +kernel
theorem dX7_append_11 : decode cX7_append 11 = .ok (.bipush (-2), 2) := by decide +kernel
theorem dX7_append_13 : decode cX7_append 13 = .ok (.ireturn, 1) := by decide +kernel
theorem dX7_append_14 : decode cX7_append 14 = .ok (.aload_n 0, 1) := by decide +kernel
theorem dX7_append_15 : decode cX7_append 15 = .ok (.getfield 228, 3) := by decide +kernel
theorem dX7_append_18 : decode cX7_append 18 = .ok (.bipush 80, 2) := by decide +kernel
theorem dX7_append_20 : decode cX7_append 20 = .ok (.if_icmp .ne 6, 3) := by decide +kernel
theorem dX7_append_23 : decode cX7_append 23 = .ok (.bipush (-3), 2) := by decide +kernel
theorem dX7_append_25 : decode cX7_append 25 = .ok (.ireturn, 1) := by decide +kernel
theorem dX7_append_26 : decode cX7_append 26 = .ok (.aload_n 0, 1) := by decide +kernel
theorem dX7_append_27 : decode cX7_append 27 = .ok (.getfield 19, 3) := by decide +kernel
theorem dX7_append_30 : decode cX7_append 30 = .ok (.aload_n 0, 1) := by decide +kernel
theorem dX7_append_31 : decode cX7_append 31 = .ok (.getfield 228, 3) := by decide +kernel
theorem dX7_append_34 : decode cX7_append 34 = .ok (.iload_n 1, 1) := by decide +kernel
theorem dX7_append_35 : decode cX7_append 35 = .ok (.iastore, 1) := by decide +kernel
theorem dX7_append_36 : decode cX7_append 36 = .ok (.aload_n 0, 1) := by decide +kernel
theorem dX7_append_37 : decode cX7_append 37 = .ok (.dup, 1) := by decide +kernel
theorem dX7_append_38 : decode cX7_append 38 = .ok (.getfield 228, 3) := by decide +kernel
theorem dX7_append_41 : decode cX7_append 41 = .ok (.iconst 1, 1) := by decide +kernel
theorem dX7_append_42 : decode cX7_append 42 = .ok (.iadd, 1) := by decide +kernel
theorem dX7_append_43 : decode cX7_append 43 = .ok (.putfield 228, 3) := by decide +kernel
theorem dX7_append_46 : decode cX7_append 46 = .ok (.aload_n 0, 1) := by decide +kernel
theorem dX7_append_47 : decode cX7_append 47 = .ok (.getfield 228, 3) := by decide +kernel
theorem dX7_append_50 : decode cX7_append 50 = .ok (.ireturn, 1) := by decide +kernel
theorem dX7_clearText_0 : decode cX7_clearText 0 = .ok (.aload_n 0, 1) := by decide +kernel
theorem dX7_clearText_1 : decode cX7_clearText 1 = .ok (.getfield 228, 3) := by decide +kernel
theorem dX7_clearText_4 : decode cX7_clearText 4 = .ok (.istore_n 1, 1) := by decide +kernel
theorem dX7_clearText_5 : decode cX7_clearText 5 = .ok (.aload_n 0, 1) := by decide +kernel
theorem dX7_clearText_6 : decode cX7_clearText 6 = .ok (.iconst 0, 1) := by decide +kernel
theorem dX7_clearText_7 : decode cX7_clearText 7 = .ok (.putfield 228, 3) := by decide +kernel
theorem dX7_clearText_10 : decode cX7_clearText 10 = .ok (.iload_n 1, 1) := by decide +kernel
theorem dX7_clearText_11 : decode cX7_clearText 11 = .ok (.ireturn, 1) := by decide +kernel
theorem dX7_isDigit_0 : decode cX7_isDigit 0 = .ok (.aload_n 0, 1) := by decide +kernel
theorem dX7_isDigit_1 : decode cX7_isDigit 1 = .ok (.getfield 231, 3) := by decide +kernel
theorem dX7_isDigit_4 : decode cX7_isDigit 4 = .ok (.aload_n 0, 1) := by decide +kernel
theorem dX7_isDigit_5 : decode cX7_isDigit 5 = .ok (.getfield 228, 3) := by decide +kernel
theorem dX7_isDigit_8 : decode cX7_isDigit 8 = .ok (.if_icmp .ge 26, 3) := by decide +kernel
theorem dX7_isDigit_11 : decode cX7_isDigit 11 = .ok (.aload_n 0, 1) := by decide +kernel
theorem dX7_isDigit_12 : decode cX7_isDigit 12 = .ok (.getfield 19, 3) := by decide +kernel
theorem dX7_isDigit_15 : decode cX7_isDigit 15 = .ok (.aload_n 0, 1) := by decide +kernel
theorem dX7_isDigit_16 : decode cX7_isDigit 16 = .ok (.getfield 231, 3) := by decide +kernel
theorem dX7_isDigit_19 : decode cX7_isDigit 19 = .ok (.iaload, 1) := by decide +kernel
theorem dX7_isDigit_20 : decode cX7_isDigit 20 = .ok (.bipush 48, 2) := by decide +kernel
theorem dX7_isDigit_22 : decode cX7_isDigit 22 = .ok (.bipush 57, 2) := by decide +kernel
theorem dX7_isDigit_24 : decode cX7_isDigit 24 = .ok (.invokestatic 172, 3) := by decide +kernel
theorem dX7_isDigit_27 : decode cX7_isDigit 27 = .ok (.ifCond .eq 7, 3) := by decide +kernel
theorem dX7_isDigit_30 : decode cX7_isDigit 30 = .ok (.iconst 1, 1) := by decide +kernel
theorem dX7_isDigit_31 : decode cX7_isDigit 31 = .ok (.goto 4, 3) := by decide +kernel
theorem dX7_isDigit_34 : decode cX7_isDigit 34 = .ok (.iconst 0, 1) := by decide +kernel
theorem dX7_isDigit_35 : decode cX7_isDigit 35 = .ok (.ireturn, 1) := by decide +kernel
theorem dX7_reads_0 : decode cX7_reads 0 = .ok (.aload_n 0, 1) := by decide +kernel
theorem dX7_reads_1 : decode cX7_reads 1 = .ok (.invokevirtual 234, 3) := by decide +kernel
theorem dX7_reads_4 : decode cX7_reads 4 = .ok (.ifCond .ne 5, 3) := by decide +kernel
theorem dX7_reads_7 : decode cX7_reads 7 = .ok (.iconst 0, 1) := by decide +kernel
theorem dX7_reads_8 : decode cX7_reads 8 = .ok (.ireturn, 1) := by decide +kernel
theorem dX7_reads_9 : decode cX7_reads 9 = .ok (.aload_n 0, 1) := by decide +kernel
theorem dX7_reads_10 : decode cX7_reads 10 = .ok (.getfield 19, 3) := by decide +kernel
theorem dX7_reads_13 : decode cX7_reads 13 = .ok (.aload_n 0, 1) := by decide +kernel
theorem dX7_reads_14 : decode cX7_reads 14 = .ok (.getfield 231, 3) := by decide +kernel
theorem dX7_reads_17 : decode cX7_reads 17 = .ok (.iaload, 1) := by decide +kernel
theorem dX7_reads_18 : decode cX7_reads 18 = .ok (.bipush 48, 2) := by decide +kernel
theorem dX7_reads_20 : decode cX7_reads 20 = .ok (.isub, 1) := by decide +kernel
theorem dX7_reads_21 : decode cX7_reads 21 = .ok (.istore_n 3, 1) := by decide +kernel
theorem dX7_reads_22 : decode cX7_reads 22 = .ok (.iload_n 3, 1) := by decide +kernel
theorem dX7_reads_23 : decode cX7_reads 23 = .ok (.ifCond .ne 10, 3) := by decide +kernel
theorem dX7_reads_26 : decode cX7_reads 26 = .ok (.iload_n 2, 1) := by decide +kernel
theorem dX7_reads_27 : decode cX7_reads 27 = .ok (.ifCond .le 19, 3) := by decide +kernel
theorem dX7_reads_30 : decode cX7_reads 30 = .ok (.goto 14, 3) := by decide +kernel
theorem dX7_reads_33 : decode cX7_reads 33 = .ok (.bipush 10, 2) := by decide +kernel
theorem dX7_reads_35 : decode cX7_reads 35 = .ok (.iload_n 3, 1) := by decide +kernel
theorem dX7_reads_36 : decode cX7_reads 36 = .ok (.imul, 1) := by decide +kernel
theorem dX7_reads_37 : decode cX7_reads 37 = .ok (.bipush 9, 2) := by decide +kernel
theorem dX7_reads_39 : decode cX7_reads 39 = .ok (.iadd, 1) := by decide +kernel
theorem dX7_reads_40 : decode cX7_reads 40 = .ok (.iload_n 2, 1) := by decide +kernel
theorem dX7_reads_41 : decode cX7_reads 41 = .ok (.if_icmp .ge 5, 3) := by decide +kernel
theorem dX7_reads_44 : decode cX7_reads 44 = .ok (.iconst 0, 1) := by decide +kernel
theorem dX7_reads_45 : decode cX7_reads 45 = .ok (.ireturn, 1) := by decide +kernel
theorem dX7_reads_46 : decode cX7_reads 46 = .ok (.aload_n 0, 1) := by decide +kernel
theorem dX7_reads_47 : decode cX7_reads 47 = .ok (.dup, 1) := by decide +kernel
theorem dX7_reads_48 : decode cX7_reads 48 = .ok (.getfield 231, 3) := by decide +kernel
theorem dX7_reads_51 : decode cX7_reads 51 = .ok (.iconst 1, 1) := by decide +kernel
theorem dX7_reads_52 : decode cX7_reads 52 = .ok (.iadd, 1) := by decide +kernel
theorem dX7_reads_53 : decode cX7_reads 53 = .ok (.putfield 231, 3) := by decide +kernel
theorem dX7_reads_56 : decode cX7_reads 56 = .ok (.iload_n 3, 1) := by decide +kernel
theorem dX7_reads_57 : decode cX7_reads 57 = .ok (.ifCond .le 45, 3) := by decide +kernel
theorem dX7_reads_60 : decode cX7_reads 60 = .ok (.aload_n 0, 1) := by decide +kernel
theorem dX7_reads_61 : decode cX7_reads 61 = .ok (.invokevirtual 234, 3) := by decide +kernel
theorem dX7_reads_64 : decode cX7_reads 64 = .ok (.ifCond .eq 38, 3) := by decide +kernel
theorem dX7_reads_67 : decode cX7_reads 67 = .ok (.bipush 10, 2) := by decide +kernel
theorem dX7_reads_69 : decode cX7_reads 69 = .ok (.iload_n 3, 1) := by decide +kernel
theorem dX7_reads_70 : decode cX7_reads 70 = .ok (.imul, 1) := by decide +kernel
theorem dX7_reads_71 : decode cX7_reads 71 = .ok (.aload_n 0, 1) := by decide +kernel
theorem dX7_reads_72 : decode cX7_reads 72 = .ok (.getfield 19, 3) := by decide +kernel
theorem dX7_reads_75 : decode cX7_reads 75 = .ok (.aload_n 0, 1) := by decide +kernel
theorem dX7_reads_76 : decode cX7_reads 76 = .ok (.getfield 231, 3) := by decide +kernel
theorem dX7_reads_79 : decode cX7_reads 79 = .ok (.iaload, 1) := by decide +kernel
theorem dX7_reads_80 : decode cX7_reads 80 = .ok (.iadd, 1) := by decide +kernel
theorem dX7_reads_81 : decode cX7_reads 81 = .ok (.bipush 48, 2) := by decide +kernel
theorem dX7_reads_83 : decode cX7_reads 83 = .ok (.isub, 1) := by decide +kernel
theorem dX7_reads_84 : decode cX7_reads 84 = .ok (.istore_n 3, 1) := by decide +kernel
theorem dX7_reads_85 : decode cX7_reads 85 = .ok (.iload_n 3, 1) := by decide +kernel
theorem dX7_reads_86 : decode cX7_reads 86 = .ok (.iload_n 2, 1) := by decide +kernel
theorem dX7_reads_87 : decode cX7_reads 87 = .ok (.if_icmp .ge 5, 3) := by decide +kernel
theorem dX7_reads_90 : decode cX7_reads 90 = .ok (.iconst 0, 1) := by decide +kernel
theorem dX7_reads_91 : decode cX7_reads 91 = .ok (.ireturn, 1) := by decide +kernel
theorem dX7_reads_92 : decode cX7_reads 92 = .ok (.aload_n 0, 1) := by decide +kernel
theorem dX7_reads_93 : decode cX7_reads 93 = .ok (.dup, 1) := by decide +kernel
theorem dX7_reads_94 : decode cX7_reads 94 = .ok (.getfield 231, 3) := by decide +kernel
theorem dX7_reads_97 : decode cX7_reads 97 = .ok (.iconst 1, 1) := by decide +kernel
theorem dX7_reads_98 : decode cX7_reads 98 = .ok (.iadd, 1) := by decide +kernel
theorem dX7_reads_99 : decode cX7_reads 99 = .ok (.putfield 231, 3) := by decide +kernel
theorem dX7_reads_102 : decode cX7_reads 102 = .ok (.aload_n 0, 1) := by decide +kernel
theorem dX7_reads_103 : decode cX7_reads 103 = .ok (.getfield 59, 3) := by decide +kernel
theorem dX7_reads_106 : decode cX7_reads 106 = .ok (.iconst 4, 1) := by decide +kernel
theorem dX7_reads_107 : decode cX7_reads 107 = .ok (.aload_n 0, 1) := by decide +kernel
theorem dX7_reads_108 : decode cX7_reads 108 = .ok (.getfield 238, 3) := by decide +kernel
theorem dX7_reads_111 : decode cX7_reads 111 = .ok (.imul, 1) := by decide +kernel
theorem dX7_reads_112 : decode cX7_reads 112 = .ok (.iload_n 1, 1) := by decide +kernel
theorem dX7_reads_113 : decode cX7_reads 113 = .ok (.iadd, 1) := by decide +kernel
theorem dX7_reads_114 : decode cX7_reads 114 = .ok (.iload_n 3, 1) := by decide +kernel
theorem dX7_reads_115 : decode cX7_reads 115 = .ok (.iastore, 1) := by decide +kernel
theorem dX7_reads_116 : decode cX7_reads 116 = .ok (.iload_n 3, 1) := by decide +kernel
theorem dX7_reads_117 : decode cX7_reads 117 = .ok (.iload_n 2, 1) := by decide +kernel
theorem dX7_reads_118 : decode cX7_reads 118 = .ok (.if_icmp .lt 7, 3) := by decide +kernel
theorem dX7_reads_121 : decode cX7_reads 121 = .ok (.iconst 1, 1) := by decide +kernel
theorem dX7_reads_122 : decode cX7_reads 122 = .ok (.goto 4, 3) := by decide +kernel
theorem dX7_reads_125 : decode cX7_reads 125 = .ok (.iconst 0, 1) := by decide +kernel
theorem dX7_reads_126 : decode cX7_reads 126 = .ok (.ireturn, 1) := by decide +kernel
theorem dX7_readsRectangle_0 : decode cX7_readsRectangle 0 = .ok (.iconst 0, 1) := by decide +kernel
theorem dX7_readsRectangle_1 : decode cX7_readsRectangle 1 = .ok (.istore_n 1, 1) := by decide +kernel
theorem dX7_readsRectangle_2 : decode cX7_readsRectangle 2 = .ok (.iload_n 1, 1) := by decide +kernel
theorem dX7_readsRectangle_3 : decode cX7_readsRectangle 3 = .ok (.iconst 4, 1) := by decide +kernel
theorem dX7_readsRectangle_4 : decode cX7_readsRectangle 4 = .ok (.if_icmp .ge 84, 3) := by decide +kernel
theorem dX7_readsRectangle_7 : decode cX7_readsRectangle 7 = .ok (.iload_n 1, 1) := by decide +kernel
theorem dX7_readsRectangle_8 : decode cX7_readsRectangle 8 = .ok (.ifCond .le 40, 3) := by decide +kernel
theorem dX7_readsRectangle_11 : decode cX7_readsRectangle 11 = .ok (.aload_n 0, 1) := by decide +kernel
theorem dX7_readsRectangle_12 : decode cX7_readsRectangle 12 = .ok (.getfield 231, 3) := by decide +kernel
theorem dX7_readsRectangle_15 : decode cX7_readsRectangle 15 = .ok (.aload_n 0, 1) := by decide +kernel
theorem dX7_readsRectangle_16 : decode cX7_readsRectangle 16 = .ok (.getfield 228, 3) := by decide +kernel
theorem dX7_readsRectangle_19 : decode cX7_readsRectangle 19 = .ok (.if_icmp .eq 17, 3) := by decide +kernel
theorem dX7_readsRectangle_22 : decode cX7_readsRectangle 22 = .ok (.aload_n 0, 1) := by decide +kernel
theorem dX7_readsRectangle_23 : decode cX7_readsRectangle 23 = .ok (.getfield 19, 3) := by decide +kernel
theorem dX7_readsRectangle_26 : decode cX7_readsRectangle 26 = .ok (.aload_n 0, 1) := by decide +kernel
theorem dX7_readsRectangle_27 : decode cX7_readsRectangle 27 = .ok (.getfield 231, 3) := by decide +kernel
theorem dX7_readsRectangle_30 : decode cX7_readsRectangle 30 = .ok (.iaload, 1) := by decide +kernel
theorem dX7_readsRectangle_31 : decode cX7_readsRectangle 31 = .ok (.bipush 44, 2) := by decide +kernel
theorem dX7_readsRectangle_33 : decode cX7_readsRectangle 33 = .ok (.if_icmp .eq 5, 3) := by decide +kernel
theorem dX7_readsRectangle_36 : decode cX7_readsRectangle 36 = .ok (.iconst 0, 1) := by decide +kernel
theorem dX7_readsRectangle_37 : decode cX7_readsRectangle 37 = .ok (.ireturn, 1) := by decide +kernel
theorem dX7_readsRectangle_38 : decode cX7_readsRectangle 38 = .ok (.aload_n 0, 1) := by decide +kernel
theorem dX7_readsRectangle_39 : decode cX7_readsRectangle 39 = .ok (.dup, 1) := by decide +kernel
theorem dX7_readsRectangle_40 : decode cX7_readsRectangle 40 = .ok (.getfield 231, 3) := by decide +kernel
theorem dX7_readsRectangle_43 : decode cX7_readsRectangle 43 = .ok (.iconst 1, 1) := by decide +kernel
theorem dX7_readsRectangle_44 : decode cX7_readsRectangle 44 = .ok (.iadd, 1) := by decide +kernel
theorem dX7_readsRectangle_45 : decode cX7_readsRectangle 45 = .ok (.putfield 231, 3) := by decide +kernel
theorem dX7_readsRectangle_48 : decode cX7_readsRectangle 48 = .ok (.aload_n 0, 1) := by decide +kernel
theorem dX7_readsRectangle_49 : decode cX7_readsRectangle 49 = .ok (.iload_n 1, 1) := by decide +kernel
theorem dX7_readsRectangle_50 : decode cX7_readsRectangle 50 = .ok (.iload_n 1, 1) := by decide +kernel
theorem dX7_readsRectangle_51 : decode cX7_readsRectangle 51 = .ok (.iconst 2, 1) := by decide +kernel
theorem dX7_readsRectangle_52 : decode cX7_readsRectangle 52 = .ok (.if_icmp .ge 7, 3) := by decide +kernel
theorem dX7_readsRectangle_55 : decode cX7_readsRectangle 55 = .ok (.iconst 0, 1) := by decide +kernel
theorem dX7_readsRectangle_56 : decode cX7_readsRectangle 56 = .ok (.goto 18, 3) := by decide +kernel
theorem dX7_readsRectangle_59 : decode cX7_readsRectangle 59 = .ok (.aload_n 0, 1) := by decide +kernel
theorem dX7_readsRectangle_60 : decode cX7_readsRectangle 60 = .ok (.getfield 59, 3) := by decide +kernel
theorem dX7_readsRectangle_63 : decode cX7_readsRectangle 63 = .ok (.iconst 4, 1) := by decide +kernel
theorem dX7_readsRectangle_64 : decode cX7_readsRectangle 64 = .ok (.aload_n 0, 1) := by decide +kernel
theorem dX7_readsRectangle_65 : decode cX7_readsRectangle 65 = .ok (.getfield 238, 3) := by decide +kernel
theorem dX7_readsRectangle_68 : decode cX7_readsRectangle 68 = .ok (.imul, 1) := by decide +kernel
theorem dX7_readsRectangle_69 : decode cX7_readsRectangle 69 = .ok (.iload_n 1, 1) := by decide +kernel
theorem dX7_readsRectangle_70 : decode cX7_readsRectangle 70 = .ok (.iadd, 1) := by decide +kernel
theorem dX7_readsRectangle_71 : decode cX7_readsRectangle 71 = .ok (.iconst 2, 1) := by decide +kernel
theorem dX7_readsRectangle_72 : decode cX7_readsRectangle 72 = .ok (.isub, 1) := by decide +kernel
theorem dX7_readsRectangle_73 : decode cX7_readsRectangle 73 = .ok (.iaload, 1) := by decide +kernel
theorem dX7_readsRectangle_74 : decode cX7_readsRectangle 74 = .ok (.invokevirtual 241, 3) := by decide +kernel
theorem dX7_readsRectangle_77 : decode cX7_readsRectangle 77 = .ok (.ifCond .ne 5, 3) := by decide +kernel
theorem dX7_readsRectangle_80 : decode cX7_readsRectangle 80 = .ok (.iconst 0, 1) := by decide +kernel
theorem dX7_readsRectangle_81 : decode cX7_readsRectangle 81 = .ok (.ireturn, 1) := by decide +kernel
theorem dX7_readsRectangle_82 : decode cX7_readsRectangle 82 = .ok (.iinc 1 1, 3) := by decide +kernel
theorem dX7_readsRectangle_85 : decode cX7_readsRectangle 85 = .ok (.goto (-83), 3) := by decide +kernel
theorem dX7_readsRectangle_88 : decode cX7_readsRectangle 88 = .ok (.aload_n 0, 1) := by decide +kernel
theorem dX7_readsRectangle_89 : decode cX7_readsRectangle 89 = .ok (.dup, 1) := by decide +kernel
theorem dX7_readsRectangle_90 : decode cX7_readsRectangle 90 = .ok (.getfield 238, 3) := by decide +kernel
theorem dX7_readsRectangle_93 : decode cX7_readsRectangle 93 = .ok (.iconst 1, 1) := by decide +kernel
theorem dX7_readsRectangle_94 : decode cX7_readsRectangle 94 = .ok (.iadd, 1) := by decide +kernel
theorem dX7_readsRectangle_95 : decode cX7_readsRectangle 95 = .ok (.putfield 238, 3) := by decide +kernel
theorem dX7_readsRectangle_98 : decode cX7_readsRectangle 98 = .ok (.iconst 1, 1) := by decide +kernel
theorem dX7_readsRectangle_99 : decode cX7_readsRectangle 99 = .ok (.ireturn, 1) := by decide +kernel
theorem dX7_isList_0 : decode cX7_isList 0 = .ok (.aload_n 0, 1) := by decide +kernel
theorem dX7_isList_1 : decode cX7_isList 1 = .ok (.iconst 0, 1) := by decide +kernel
theorem dX7_isList_2 : decode cX7_isList 2 = .ok (.putfield 231, 3) := by decide +kernel
theorem dX7_isList_5 : decode cX7_isList 5 = .ok (.aload_n 0, 1) := by decide +kernel
theorem dX7_isList_6 : decode cX7_isList 6 = .ok (.iconst 0, 1) := by decide +kernel
theorem dX7_isList_7 : decode cX7_isList 7 = .ok (.putfield 238, 3) := by decide +kernel
theorem dX7_isList_10 : decode cX7_isList 10 = .ok (.iconst 1, 1) := by decide +kernel
theorem dX7_isList_11 : decode cX7_isList 11 = .ok (.istore_n 1, 1) := by decide +kernel
theorem dX7_isList_12 : decode cX7_isList 12 = .ok (.iload_n 1, 1) := by decide +kernel
theorem dX7_isList_13 : decode cX7_isList 13 = .ok (.ifCond .eq 64, 3) := by decide +kernel
theorem dX7_isList_16 : decode cX7_isList 16 = .ok (.aload_n 0, 1) := by decide +kernel
theorem dX7_isList_17 : decode cX7_isList 17 = .ok (.invokevirtual 245, 3) := by decide +kernel
theorem dX7_isList_20 : decode cX7_isList 20 = .ok (.ifCond .ne 5, 3) := by decide +kernel
theorem dX7_isList_23 : decode cX7_isList 23 = .ok (.iconst 0, 1) := by decide +kernel
theorem dX7_isList_24 : decode cX7_isList 24 = .ok (.ireturn, 1) := by decide +kernel
theorem dX7_isList_25 : decode cX7_isList 25 = .ok (.aload_n 0, 1) := by decide +kernel
theorem dX7_isList_26 : decode cX7_isList 26 = .ok (.getfield 231, 3) := by decide +kernel
theorem dX7_isList_29 : decode cX7_isList 29 = .ok (.aload_n 0, 1) := by decide +kernel
theorem dX7_isList_30 : decode cX7_isList 30 = .ok (.getfield 228, 3) := by decide +kernel
theorem dX7_isList_33 : decode cX7_isList 33 = .ok (.if_icmp .ge 21, 3) := by decide +kernel
theorem dX7_isList_36 : decode cX7_isList 36 = .ok (.aload_n 0, 1) := by decide +kernel
theorem dX7_isList_37 : decode cX7_isList 37 = .ok (.getfield 19, 3) := by decide +kernel
theorem dX7_isList_40 : decode cX7_isList 40 = .ok (.aload_n 0, 1) := by decide +kernel
theorem dX7_isList_41 : decode cX7_isList 41 = .ok (.getfield 231, 3) := by decide +kernel
theorem dX7_isList_44 : decode cX7_isList 44 = .ok (.iaload, 1) := by decide +kernel
theorem dX7_isList_45 : decode cX7_isList 45 = .ok (.bipush 59, 2) := by decide +kernel
theorem dX7_isList_47 : decode cX7_isList 47 = .ok (.if_icmp .ne 7, 3) := by decide +kernel
theorem dX7_isList_50 : decode cX7_isList 50 = .ok (.iconst 1, 1) := by decide +kernel
theorem dX7_isList_51 : decode cX7_isList 51 = .ok (.goto 4, 3) := by decide +kernel
theorem dX7_isList_54 : decode cX7_isList 54 = .ok (.iconst 0, 1) := by decide +kernel
theorem dX7_isList_55 : decode cX7_isList 55 = .ok (.istore_n 1, 1) := by decide +kernel
theorem dX7_isList_56 : decode cX7_isList 56 = .ok (.aload_n 0, 1) := by decide +kernel
theorem dX7_isList_57 : decode cX7_isList 57 = .ok (.dup, 1) := by decide +kernel
theorem dX7_isList_58 : decode cX7_isList 58 = .ok (.getfield 231, 3) := by decide +kernel
theorem dX7_isList_61 : decode cX7_isList 61 = .ok (.iload_n 1, 1) := by decide +kernel
theorem dX7_isList_62 : decode cX7_isList 62 = .ok (.ifCond .eq 7, 3) := by decide +kernel
theorem dX7_isList_65 : decode cX7_isList 65 = .ok (.iconst 1, 1) := by decide +kernel
theorem dX7_isList_66 : decode cX7_isList 66 = .ok (.goto 4, 3) := by decide +kernel
theorem dX7_isList_69 : decode cX7_isList 69 = .ok (.iconst 0, 1) := by decide +kernel
theorem dX7_isList_70 : decode cX7_isList 70 = .ok (.iadd, 1) := by decide +kernel
theorem dX7_isList_71 : decode cX7_isList 71 = .ok (.putfield 231, 3) := by decide +kernel
theorem dX7_isList_74 : decode cX7_isList 74 = .ok (.goto (-62), 3) := by decide +kernel
theorem dX7_isList_77 : decode cX7_isList 77 = .ok (.aload_n 0, 1) := by decide +kernel
theorem dX7_isList_78 : decode cX7_isList 78 = .ok (.getfield 231, 3) := by decide +kernel
theorem dX7_isList_81 : decode cX7_isList 81 = .ok (.aload_n 0, 1) := by decide +kernel
theorem dX7_isList_82 : decode cX7_isList 82 = .ok (.getfield 228, 3) := by decide +kernel
theorem dX7_isList_85 : decode cX7_isList 85 = .ok (.if_icmp .ne 7, 3) := by decide +kernel
theorem dX7_isList_88 : decode cX7_isList 88 = .ok (.iconst 1, 1) := by decide +kernel
theorem dX7_isList_89 : decode cX7_isList 89 = .ok (.goto 4, 3) := by decide +kernel
theorem dX7_isList_92 : decode cX7_isList 92 = .ok (.iconst 0, 1) := by decide +kernel
theorem dX7_isList_93 : decode cX7_isList 93 = .ok (.ireturn, 1) := by decide +kernel
theorem dX7_fault_0 : decode cX7_fault 0 = .ok (.aload_n 0, 1) := by decide +kernel
theorem dX7_fault_1 : decode cX7_fault 1 = .ok (.invokevirtual 248, 3) := by decide +kernel
theorem dX7_fault_4 : decode cX7_fault 4 = .ok (.ifCond .eq 8, 3) := by decide +kernel
theorem dX7_fault_7 : decode cX7_fault 7 = .ok (.bipush (-5), 2) := by decide +kernel
theorem dX7_fault_9 : decode cX7_fault 9 = .ok (.goto 7, 3) := by decide +kernel
theorem dX7_fault_12 : decode cX7_fault 12 = .ok (.aload_n 0, 1) := by decide +kernel
theorem dX7_fault_13 : decode cX7_fault 13 = .ok (.getfield 231, 3) := by decide +kernel
theorem dX7_fault_16 : decode cX7_fault 16 = .ok (.ireturn, 1) := by decide +kernel
theorem dX7_read_0 : decode cX7_read 0 = .ok (.aload_n 0, 1) := by decide +kernel
theorem dX7_read_1 : decode cX7_read 1 = .ok (.invokevirtual 248, 3) := by decide +kernel
theorem dX7_read_4 : decode cX7_read 4 = .ok (.ifCond .ne 11, 3) := by decide +kernel
theorem dX7_read_7 : decode cX7_read 7 = .ok (.bipush (-100), 2) := by decide +kernel
theorem dX7_read_9 : decode cX7_read 9 = .ok (.aload_n 0, 1) := by decide +kernel
theorem dX7_read_10 : decode cX7_read 10 = .ok (.getfield 231, 3) := by decide +kernel
theorem dX7_read_13 : decode cX7_read 13 = .ok (.isub, 1) := by decide +kernel
theorem dX7_read_14 : decode cX7_read 14 = .ok (.ireturn, 1) := by decide +kernel
theorem dX7_read_15 : decode cX7_read 15 = .ok (.aload_n 0, 1) := by decide +kernel
theorem dX7_read_16 : decode cX7_read 16 = .ok (.invokevirtual 183, 3) := by decide +kernel
theorem dX7_read_19 : decode cX7_read 19 = .ok (.aload_n 0, 1) := by decide +kernel
theorem dX7_read_20 : decode cX7_read 20 = .ok (.getfield 238, 3) := by decide +kernel
theorem dX7_read_23 : decode cX7_read 23 = .ok (.iadd, 1) := by decide +kernel
theorem dX7_read_24 : decode cX7_read 24 = .ok (.bipush 24, 2) := by decide +kernel
theorem dX7_read_26 : decode cX7_read 26 = .ok (.if_icmp .le 6, 3) := by decide +kernel
theorem dX7_read_29 : decode cX7_read 29 = .ok (.bipush (-3), 2) := by decide +kernel
theorem dX7_read_31 : decode cX7_read 31 = .ok (.ireturn, 1) := by decide +kernel
theorem dX7_read_32 : decode cX7_read 32 = .ok (.aload_n 0, 1) := by decide +kernel
theorem dX7_read_33 : decode cX7_read 33 = .ok (.invokevirtual 186, 3) := by decide +kernel
theorem dX7_read_36 : decode cX7_read 36 = .ok (.iconst 0, 1) := by decide +kernel
theorem dX7_read_37 : decode cX7_read 37 = .ok (.istore_n 1, 1) := by decide +kernel
theorem dX7_read_38 : decode cX7_read 38 = .ok (.iload_n 1, 1) := by decide +kernel
theorem dX7_read_39 : decode cX7_read 39 = .ok (.aload_n 0, 1) := by decide +kernel
theorem dX7_read_40 : decode cX7_read 40 = .ok (.getfield 238, 3) := by decide +kernel
theorem dX7_read_43 : decode cX7_read 43 = .ok (.if_icmp .ge 52, 3) := by decide +kernel
theorem dX7_read_46 : decode cX7_read 46 = .ok (.aload_n 0, 1) := by decide +kernel
theorem dX7_read_47 : decode cX7_read 47 = .ok (.aload_n 0, 1) := by decide +kernel
theorem dX7_read_48 : decode cX7_read 48 = .ok (.getfield 59, 3) := by decide +kernel
theorem dX7_read_51 : decode cX7_read 51 = .ok (.iconst 4, 1) := by decide +kernel
theorem dX7_read_52 : decode cX7_read 52 = .ok (.iload_n 1, 1) := by decide +kernel
theorem dX7_read_53 : decode cX7_read 53 = .ok (.imul, 1) := by decide +kernel
theorem dX7_read_54 : decode cX7_read 54 = .ok (.iaload, 1) := by decide +kernel
theorem dX7_read_55 : decode cX7_read 55 = .ok (.aload_n 0, 1) := by decide +kernel
theorem dX7_read_56 : decode cX7_read 56 = .ok (.getfield 59, 3) := by decide +kernel
theorem dX7_read_59 : decode cX7_read 59 = .ok (.iconst 4, 1) := by decide +kernel
theorem dX7_read_60 : decode cX7_read 60 = .ok (.iload_n 1, 1) := by decide +kernel
theorem dX7_read_61 : decode cX7_read 61 = .ok (.imul, 1) := by decide +kernel
theorem dX7_read_62 : decode cX7_read 62 = .ok (.iconst 1, 1) := by decide +kernel
theorem dX7_read_63 : decode cX7_read 63 = .ok (.iadd, 1) := by decide +kernel
theorem dX7_read_64 : decode cX7_read 64 = .ok (.iaload, 1) := by decide +kernel
theorem dX7_read_65 : decode cX7_read 65 = .ok (.aload_n 0, 1) := by decide +kernel
theorem dX7_read_66 : decode cX7_read 66 = .ok (.getfield 59, 3) := by decide +kernel
theorem dX7_read_69 : decode cX7_read 69 = .ok (.iconst 4, 1) := by decide +kernel
theorem dX7_read_70 : decode cX7_read 70 = .ok (.iload_n 1, 1) := by decide +kernel
theorem dX7_read_71 : decode cX7_read 71 = .ok (.imul, 1) := by decide +kernel
theorem dX7_read_72 : decode cX7_read 72 = .ok (.iconst 2, 1) := by decide +kernel
theorem dX7_read_73 : decode cX7_read 73 = .ok (.iadd, 1) := by decide +kernel
theorem dX7_read_74 : decode cX7_read 74 = .ok (.iaload, 1) := by decide +kernel
theorem dX7_read_75 : decode cX7_read 75 = .ok (.aload_n 0, 1) := by decide +kernel
theorem dX7_read_76 : decode cX7_read 76 = .ok (.getfield 59, 3) := by decide +kernel
theorem dX7_read_79 : decode cX7_read 79 = .ok (.iconst 4, 1) := by decide +kernel
theorem dX7_read_80 : decode cX7_read 80 = .ok (.iload_n 1, 1) := by decide +kernel
theorem dX7_read_81 : decode cX7_read 81 = .ok (.imul, 1) := by decide +kernel
theorem dX7_read_82 : decode cX7_read 82 = .ok (.iconst 3, 1) := by decide +kernel
theorem dX7_read_83 : decode cX7_read 83 = .ok (.iadd, 1) := by decide +kernel
theorem dX7_read_84 : decode cX7_read 84 = .ok (.iaload, 1) := by decide +kernel
theorem dX7_read_85 : decode cX7_read 85 = .ok (.invokevirtual 189, 3) := by decide +kernel
theorem dX7_read_88 : decode cX7_read 88 = .ok (.istore_n 2, 1) := by decide +kernel
theorem dX7_read_89 : decode cX7_read 89 = .ok (.iinc 1 1, 3) := by decide +kernel
theorem dX7_read_92 : decode cX7_read 92 = .ok (.goto (-54), 3) := by decide +kernel
theorem dX7_read_95 : decode cX7_read 95 = .ok (.aload_n 0, 1) := by decide +kernel
theorem dX7_read_96 : decode cX7_read 96 = .ok (.getfield 238, 3) := by decide +kernel
theorem dX7_read_99 : decode cX7_read 99 = .ok (.ireturn, 1) := by decide +kernel
theorem dX7_undo_0 : decode cX7_undo 0 = .ok (.aload_n 0, 1) := by decide +kernel
theorem dX7_undo_1 : decode cX7_undo 1 = .ok (.getfield 65, 3) := by decide +kernel
theorem dX7_undo_4 : decode cX7_undo 4 = .ok (.ifCond .ne 6, 3) := by decide +kernel
theorem dX7_undo_7 : decode cX7_undo 7 = .ok (.bipush (-5), 2) := by decide +kernel
theorem dX7_undo_9 : decode cX7_undo 9 = .ok (.ireturn, 1) := by decide +kernel
theorem dX7_undo_10 : decode cX7_undo 10 = .ok (.aload_n 0, 1) := by decide +kernel
theorem dX7_undo_11 : decode cX7_undo 11 = .ok (.dup, 1) := by decide +kernel
theorem dX7_undo_12 : decode cX7_undo 12 = .ok (.getfield 65, 3) := by decide +kernel
theorem dX7_undo_15 : decode cX7_undo 15 = .ok (.iconst 1, 1) := by decide +kernel
theorem dX7_undo_16 : decode cX7_undo 16 = .ok (.isub, 1) := by decide +kernel
theorem dX7_undo_17 : decode cX7_undo 17 = .ok (.putfield 65, 3) := by decide +kernel
theorem dX7_undo_20 : decode cX7_undo 20 = .ok (.iconst 0, 1) := by decide +kernel
theorem dX7_undo_21 : decode cX7_undo 21 = .ok (.istore_n 1, 1) := by decide +kernel
theorem dX7_undo_22 : decode cX7_undo 22 = .ok (.iload_n 1, 1) := by decide +kernel
theorem dX7_undo_23 : decode cX7_undo 23 = .ok (.sipush 461, 3) := by decide +kernel
theorem dX7_undo_26 : decode cX7_undo 26 = .ok (.if_icmp .ge 30, 3) := by decide +kernel
theorem dX7_undo_29 : decode cX7_undo 29 = .ok (.aload_n 0, 1) := by decide +kernel
theorem dX7_undo_30 : decode cX7_undo 30 = .ok (.getfield 7, 3) := by decide +kernel
theorem dX7_undo_33 : decode cX7_undo 33 = .ok (.iload_n 1, 1) := by decide +kernel
theorem dX7_undo_34 : decode cX7_undo 34 = .ok (.aload_n 0, 1) := by decide +kernel
theorem dX7_undo_35 : decode cX7_undo 35 = .ok (.getfield 13, 3) := by decide +kernel
theorem dX7_undo_38 : decode cX7_undo 38 = .ok (.sipush 461, 3) := by decide +kernel
theorem dX7_undo_41 : decode cX7_undo 41 = .ok (.aload_n 0, 1) := by decide +kernel
theorem dX7_undo_42 : decode cX7_undo 42 = .ok (.getfield 65, 3) := by decide +kernel
theorem dX7_undo_45 : decode cX7_undo 45 = .ok (.imul, 1) := by decide +kernel
theorem dX7_undo_46 : decode cX7_undo 46 = .ok (.iload_n 1, 1) := by decide +kernel
theorem dX7_undo_47 : decode cX7_undo 47 = .ok (.iadd, 1) := by decide +kernel
theorem dX7_undo_48 : decode cX7_undo 48 = .ok (.iaload, 1) := by decide +kernel
theorem dX7_undo_49 : decode cX7_undo 49 = .ok (.iastore, 1) := by decide +kernel
theorem dX7_undo_50 : decode cX7_undo 50 = .ok (.iinc 1 1, 3) := by decide +kernel
theorem dX7_undo_53 : decode cX7_undo 53 = .ok (.goto (-31), 3) := by decide +kernel
theorem dX7_undo_56 : decode cX7_undo 56 = .ok (.aload_n 0, 1) := by decide +kernel
theorem dX7_undo_57 : decode cX7_undo 57 = .ok (.getfield 65, 3) := by decide +kernel
theorem dX7_undo_60 : decode cX7_undo 60 = .ok (.ireturn, 1) := by decide +kernel
theorem dX7_save_0 : decode cX7_save 0 = .ok (.aload_n 0, 1) := by decide +kernel
theorem dX7_save_1 : decode cX7_save 1 = .ok (.iconst 1, 1) := by decide +kernel
theorem dX7_save_2 : decode cX7_save 2 = .ok (.putfield 251, 3) := by decide +kernel
theorem dX7_save_5 : decode cX7_save 5 = .ok (.iconst 0, 1) := by decide +kernel
theorem dX7_save_6 : decode cX7_save 6 = .ok (.istore_n 1, 1) := by decide +kernel
theorem dX7_save_7 : decode cX7_save 7 = .ok (.iload_n 1, 1) := by decide +kernel
theorem dX7_save_8 : decode cX7_save 8 = .ok (.sipush 461, 3) := by decide +kernel
theorem dX7_save_11 : decode cX7_save 11 = .ok (.if_icmp .ge 21, 3) := by decide +kernel
theorem dX7_save_14 : decode cX7_save 14 = .ok (.aload_n 0, 1) := by decide +kernel
theorem dX7_save_15 : decode cX7_save 15 = .ok (.getfield 16, 3) := by decide +kernel
theorem dX7_save_18 : decode cX7_save 18 = .ok (.iload_n 1, 1) := by decide +kernel
theorem dX7_save_19 : decode cX7_save 19 = .ok (.aload_n 0, 1) := by decide +kernel
theorem dX7_save_20 : decode cX7_save 20 = .ok (.getfield 7, 3) := by decide +kernel
theorem dX7_save_23 : decode cX7_save 23 = .ok (.iload_n 1, 1) := by decide +kernel
theorem dX7_save_24 : decode cX7_save 24 = .ok (.iaload, 1) := by decide +kernel
theorem dX7_save_25 : decode cX7_save 25 = .ok (.iastore, 1) := by decide +kernel
theorem dX7_save_26 : decode cX7_save 26 = .ok (.iinc 1 1, 3) := by decide +kernel
theorem dX7_save_29 : decode cX7_save 29 = .ok (.goto (-22), 3) := by decide +kernel
theorem dX7_save_32 : decode cX7_save 32 = .ok (.aload_n 0, 1) := by decide +kernel
theorem dX7_save_33 : decode cX7_save 33 = .ok (.invokevirtual 183, 3) := by decide +kernel
theorem dX7_save_36 : decode cX7_save 36 = .ok (.ireturn, 1) := by decide +kernel
theorem dX7_restore_0 : decode cX7_restore 0 = .ok (.aload_n 0, 1) := by decide +kernel
theorem dX7_restore_1 : decode cX7_restore 1 = .ok (.getfield 251, 3) := by decide +kernel
theorem dX7_restore_4 : decode cX7_restore 4 = .ok (.ifCond .ne 6, 3) := by decide +kernel
theorem dX7_restore_7 : decode cX7_restore 7 = .ok (.bipush (-4), 2) := by decide +kernel
theorem dX7_restore_9 : decode cX7_restore 9 = .ok (.ireturn, 1) := by decide +kernel
theorem dX7_restore_10 : decode cX7_restore 10 = .ok (.aload_n 0, 1) := by decide +kernel
theorem dX7_restore_11 : decode cX7_restore 11 = .ok (.invokevirtual 186, 3) := by decide +kernel
theorem dX7_restore_14 : decode cX7_restore 14 = .ok (.iconst 0, 1) := by decide +kernel
theorem dX7_restore_15 : decode cX7_restore 15 = .ok (.istore_n 1, 1) := by decide +kernel
theorem dX7_restore_16 : decode cX7_restore 16 = .ok (.iload_n 1, 1) := by decide +kernel
theorem dX7_restore_17 : decode cX7_restore 17 = .ok (.sipush 461, 3) := by decide +kernel
theorem dX7_restore_20 : decode cX7_restore 20 = .ok (.if_icmp .ge 21, 3) := by decide +kernel
theorem dX7_restore_23 : decode cX7_restore 23 = .ok (.aload_n 0, 1) := by decide +kernel
theorem dX7_restore_24 : decode cX7_restore 24 = .ok (.getfield 7, 3) := by decide +kernel
theorem dX7_restore_27 : decode cX7_restore 27 = .ok (.iload_n 1, 1) := by decide +kernel
theorem dX7_restore_28 : decode cX7_restore 28 = .ok (.aload_n 0, 1) := by decide +kernel
theorem dX7_restore_29 : decode cX7_restore 29 = .ok (.getfield 16, 3) := by decide +kernel
theorem dX7_restore_32 : decode cX7_restore 32 = .ok (.iload_n 1, 1) := by decide +kernel
theorem dX7_restore_33 : decode cX7_restore 33 = .ok (.iaload, 1) := by decide +kernel
theorem dX7_restore_34 : decode cX7_restore 34 = .ok (.iastore, 1) := by decide +kernel
theorem dX7_restore_35 : decode cX7_restore 35 = .ok (.iinc 1 1, 3) := by decide +kernel
theorem dX7_restore_38 : decode cX7_restore 38 = .ok (.goto (-22), 3) := by decide +kernel
theorem dX7_restore_41 : decode cX7_restore 41 = .ok (.aload_n 0, 1) := by decide +kernel
theorem dX7_restore_42 : decode cX7_restore 42 = .ok (.invokevirtual 183, 3) := by decide +kernel
theorem dX7_restore_45 : decode cX7_restore 45 = .ok (.ireturn, 1) := by decide +kernel
theorem dX7_boxes_0 : decode cX7_boxes 0 = .ok (.iconst 0, 1) := by decide +kernel
theorem dX7_boxes_1 : decode cX7_boxes 1 = .ok (.istore_n 1, 1) := by decide +kernel
theorem dX7_boxes_2 : decode cX7_boxes 2 = .ok (.iconst 0, 1) := by decide +kernel
theorem dX7_boxes_3 : decode cX7_boxes 3 = .ok (.istore_n 2, 1) := by decide +kernel
theorem dX7_boxes_4 : decode cX7_boxes 4 = .ok (.iload_n 2, 1) := by decide +kernel
theorem dX7_boxes_5 : decode cX7_boxes 5 = .ok (.bipush 24, 2) := by decide +kernel
theorem dX7_boxes_7 : decode cX7_boxes 7 = .ok (.if_icmp .ge 27, 3) := by decide +kernel
theorem dX7_boxes_10 : decode cX7_boxes 10 = .ok (.iload_n 1, 1) := by decide +kernel
theorem dX7_boxes_11 : decode cX7_boxes 11 = .ok (.aload_n 0, 1) := by decide +kernel
theorem dX7_boxes_12 : decode cX7_boxes 12 = .ok (.iload_n 2, 1) := by decide +kernel
theorem dX7_boxes_13 : decode cX7_boxes 13 = .ok (.invokevirtual 168, 3) := by decide +kernel
theorem dX7_boxes_16 : decode cX7_boxes 16 = .ok (.ifCond .eq 9, 3) := by decide +kernel
theorem dX7_boxes_19 : decode cX7_boxes 19 = .ok (.iconst 1, 1) := by decide +kernel
theorem dX7_boxes_20 : decode cX7_boxes 20 = .ok (.iload_n 2, 1) := by decide +kernel
theorem dX7_boxes_21 : decode cX7_boxes 21 = .ok (.ishl, 1) := by decide +kernel
theorem dX7_boxes_22 : decode cX7_boxes 22 = .ok (.goto 4, 3) := by decide +kernel
theorem dX7_boxes_25 : decode cX7_boxes 25 = .ok (.iconst 0, 1) := by decide +kernel
theorem dX7_boxes_26 : decode cX7_boxes 26 = .ok (.ior, 1) := by decide +kernel
theorem dX7_boxes_27 : decode cX7_boxes 27 = .ok (.istore_n 1, 1) := by decide +kernel
theorem dX7_boxes_28 : decode cX7_boxes 28 = .ok (.iinc 2 1, 3) := by decide +kernel
theorem dX7_boxes_31 : decode cX7_boxes 31 = .ok (.goto (-27), 3) := by decide +kernel
theorem dX7_boxes_34 : decode cX7_boxes 34 = .ok (.iload_n 1, 1) := by decide +kernel
theorem dX7_boxes_35 : decode cX7_boxes 35 = .ok (.ireturn, 1) := by decide +kernel
theorem dX7_side_0 : decode cX7_side 0 = .ok (.aload_n 0, 1) := by decide +kernel
theorem dX7_side_1 : decode cX7_side 1 = .ok (.iload_n 1, 1) := by decide +kernel
theorem dX7_side_2 : decode cX7_side 2 = .ok (.invokevirtual 168, 3) := by decide +kernel
theorem dX7_side_5 : decode cX7_side 5 = .ok (.ifCond .ne 7, 3) := by decide +kernel
theorem dX7_side_8 : decode cX7_side 8 = .ok (.iconst (-1), 1) := by decide +kernel
theorem dX7_side_9 : decode cX7_side 9 = .ok (.goto 29, 3) := by decide +kernel
theorem dX7_side_12 : decode cX7_side 12 = .ok (.iload_n 2, 1) := by decide +kernel
theorem dX7_side_13 : decode cX7_side 13 = .ok (.iconst 0, 1) := by decide +kernel
theorem dX7_side_14 : decode cX7_side 14 = .ok (.iconst 3, 1) := by decide +kernel
theorem dX7_side_15 : decode cX7_side 15 = .ok (.invokestatic 172, 3) := by decide +kernel
theorem dX7_side_18 : decode cX7_side 18 = .ok (.ifCond .eq 18, 3) := by decide +kernel
theorem dX7_side_21 : decode cX7_side 21 = .ok (.aload_n 0, 1) := by decide +kernel
theorem dX7_side_22 : decode cX7_side 22 = .ok (.getfield 7, 3) := by decide +kernel
theorem dX7_side_25 : decode cX7_side 25 = .ok (.iconst 5, 1) := by decide +kernel
theorem dX7_side_26 : decode cX7_side 26 = .ok (.iconst 4, 1) := by decide +kernel
theorem dX7_side_27 : decode cX7_side 27 = .ok (.iload_n 1, 1) := by decide +kernel
theorem dX7_side_28 : decode cX7_side 28 = .ok (.imul, 1) := by decide +kernel
theorem dX7_side_29 : decode cX7_side 29 = .ok (.iadd, 1) := by decide +kernel
theorem dX7_side_30 : decode cX7_side 30 = .ok (.iload_n 2, 1) := by decide +kernel
theorem dX7_side_31 : decode cX7_side 31 = .ok (.iadd, 1) := by decide +kernel
theorem dX7_side_32 : decode cX7_side 32 = .ok (.iaload, 1) := by decide +kernel
theorem dX7_side_33 : decode cX7_side 33 = .ok (.goto 5, 3) := by decide +kernel
theorem dX7_side_36 : decode cX7_side 36 = .ok (.bipush (-2), 2) := by decide +kernel
theorem dX7_side_38 : decode cX7_side 38 = .ok (.ireturn, 1) := by decide +kernel
theorem dX7_nodes_0 : decode cX7_nodes 0 = .ok (.aload_n 0, 1) := by decide +kernel
theorem dX7_nodes_1 : decode cX7_nodes 1 = .ok (.aload_n 0, 1) := by decide +kernel
theorem dX7_nodes_2 : decode cX7_nodes 2 = .ok (.invokevirtual 76, 3) := by decide +kernel
theorem dX7_nodes_5 : decode cX7_nodes 5 = .ok (.invokevirtual 255, 3) := by decide +kernel
theorem dX7_nodes_8 : decode cX7_nodes 8 = .ok (.ireturn, 1) := by decide +kernel
theorem dX7_height_0 : decode cX7_height 0 = .ok (.aload_n 0, 1) := by decide +kernel
theorem dX7_height_1 : decode cX7_height 1 = .ok (.iconst 0, 1) := by decide +kernel
theorem dX7_height_2 : decode cX7_height 2 = .ok (.invokevirtual 80, 3) := by decide +kernel
theorem dX7_height_5 : decode cX7_height 5 = .ok (.ireturn, 1) := by decide +kernel
theorem dX7_level_0 : decode cX7_level 0 = .ok (.aload_n 0, 1) := by decide +kernel
theorem dX7_level_1 : decode cX7_level 1 = .ok (.iload_n 1, 1) := by decide +kernel
theorem dX7_level_2 : decode cX7_level 2 = .ok (.invokevirtual 258, 3) := by decide +kernel
theorem dX7_level_5 : decode cX7_level 5 = .ok (.istore_n 2, 1) := by decide +kernel
theorem dX7_level_6 : decode cX7_level 6 = .ok (.iload_n 2, 1) := by decide +kernel
theorem dX7_level_7 : decode cX7_level 7 = .ok (.ifCond .ge 7, 3) := by decide +kernel
theorem dX7_level_10 : decode cX7_level 10 = .ok (.iconst (-1), 1) := by decide +kernel
theorem dX7_level_11 : decode cX7_level 11 = .ok (.goto 8, 3) := by decide +kernel
theorem dX7_level_14 : decode cX7_level 14 = .ok (.aload_n 0, 1) := by decide +kernel
theorem dX7_level_15 : decode cX7_level 15 = .ok (.iload_n 2, 1) := by decide +kernel
theorem dX7_level_16 : decode cX7_level 16 = .ok (.invokevirtual 80, 3) := by decide +kernel
theorem dX7_level_19 : decode cX7_level 19 = .ok (.ireturn, 1) := by decide +kernel
theorem dX7_entries_0 : decode cX7_entries 0 = .ok (.aload_n 0, 1) := by decide +kernel
theorem dX7_entries_1 : decode cX7_entries 1 = .ok (.iload_n 1, 1) := by decide +kernel
theorem dX7_entries_2 : decode cX7_entries 2 = .ok (.invokevirtual 258, 3) := by decide +kernel
theorem dX7_entries_5 : decode cX7_entries 5 = .ok (.istore_n 2, 1) := by decide +kernel
theorem dX7_entries_6 : decode cX7_entries 6 = .ok (.iload_n 2, 1) := by decide +kernel
theorem dX7_entries_7 : decode cX7_entries 7 = .ok (.ifCond .ge 7, 3) := by decide +kernel
theorem dX7_entries_10 : decode cX7_entries 10 = .ok (.iconst (-1), 1) := by decide +kernel
theorem dX7_entries_11 : decode cX7_entries 11 = .ok (.goto 8, 3) := by decide +kernel
theorem dX7_entries_14 : decode cX7_entries 14 = .ok (.aload_n 0, 1) := by decide +kernel
theorem dX7_entries_15 : decode cX7_entries 15 = .ok (.iload_n 2, 1) := by decide +kernel
theorem dX7_entries_16 : decode cX7_entries 16 = .ok (.invokevirtual 137, 3) := by decide +kernel
theorem dX7_entries_19 : decode cX7_entries 19 = .ok (.ireturn, 1) := by decide +kernel
theorem dX7_entry_0 : decode cX7_entry 0 = .ok (.aload_n 0, 1) := by decide +kernel
theorem dX7_entry_1 : decode cX7_entry 1 = .ok (.iload_n 1, 1) := by decide +kernel
theorem dX7_entry_2 : decode cX7_entry 2 = .ok (.invokevirtual 258, 3) := by decide +kernel
theorem dX7_entry_5 : decode cX7_entry 5 = .ok (.istore_n 3, 1) := by decide +kernel
theorem dX7_entry_6 : decode cX7_entry 6 = .ok (.iload_n 3, 1) := by decide +kernel
theorem dX7_entry_7 : decode cX7_entry 7 = .ok (.ifCond .lt 18, 3) := by decide +kernel
theorem dX7_entry_10 : decode cX7_entry 10 = .ok (.iload_n 2, 1) := by decide +kernel
theorem dX7_entry_11 : decode cX7_entry 11 = .ok (.iconst 0, 1) := by decide +kernel
theorem dX7_entry_12 : decode cX7_entry 12 = .ok (.aload_n 0, 1) := by decide +kernel
theorem dX7_entry_13 : decode cX7_entry 13 = .ok (.iload_n 3, 1) := by decide +kernel
theorem dX7_entry_14 : decode cX7_entry 14 = .ok (.invokevirtual 137, 3) := by decide +kernel
theorem dX7_entry_17 : decode cX7_entry 17 = .ok (.iconst 1, 1) := by decide +kernel
theorem dX7_entry_18 : decode cX7_entry 18 = .ok (.isub, 1) := by decide +kernel
theorem dX7_entry_19 : decode cX7_entry 19 = .ok (.invokestatic 172, 3) := by decide +kernel
theorem dX7_entry_22 : decode cX7_entry 22 = .ok (.ifCond .ne 5, 3) := by decide +kernel
theorem dX7_entry_25 : decode cX7_entry 25 = .ok (.iconst (-1), 1) := by decide +kernel
theorem dX7_entry_26 : decode cX7_entry 26 = .ok (.ireturn, 1) := by decide +kernel
theorem dX7_entry_27 : decode cX7_entry 27 = .ok (.iload_n 3, 1) := by decide +kernel
theorem dX7_entry_28 : decode cX7_entry 28 = .ok (.iconst 1, 1) := by decide +kernel
theorem dX7_entry_29 : decode cX7_entry 29 = .ok (.iadd, 1) := by decide +kernel
theorem dX7_entry_30 : decode cX7_entry 30 = .ok (.istore 4, 2) := by decide +kernel
theorem dX7_entry_32 : decode cX7_entry 32 = .ok (.iconst 0, 1) := by decide +kernel
theorem dX7_entry_33 : decode cX7_entry 33 = .ok (.istore 5, 2) := by decide +kernel
theorem dX7_entry_35 : decode cX7_entry 35 = .ok (.iload 5, 2) := by decide +kernel
theorem dX7_entry_37 : decode cX7_entry 37 = .ok (.iload_n 2, 1) := by decide +kernel
theorem dX7_entry_38 : decode cX7_entry 38 = .ok (.if_icmp .ge 17, 3) := by decide +kernel
theorem dX7_entry_41 : decode cX7_entry 41 = .ok (.aload_n 0, 1) := by decide +kernel
theorem dX7_entry_42 : decode cX7_entry 42 = .ok (.iload 4, 2) := by decide +kernel
theorem dX7_entry_44 : decode cX7_entry 44 = .ok (.invokevirtual 83, 3) := by decide +kernel
theorem dX7_entry_47 : decode cX7_entry 47 = .ok (.istore 4, 2) := by decide +kernel
theorem dX7_entry_49 : decode cX7_entry 49 = .ok (.iinc 5 1, 3) := by decide +kernel
theorem dX7_entry_52 : decode cX7_entry 52 = .ok (.goto (-17), 3) := by decide +kernel
theorem dX7_entry_55 : decode cX7_entry 55 = .ok (.aload_n 0, 1) := by decide +kernel
theorem dX7_entry_56 : decode cX7_entry 56 = .ok (.iload 4, 2) := by decide +kernel
theorem dX7_entry_58 : decode cX7_entry 58 = .ok (.invokevirtual 69, 3) := by decide +kernel
theorem dX7_entry_61 : decode cX7_entry 61 = .ok (.ifCond .lt 12, 3) := by decide +kernel
theorem dX7_entry_64 : decode cX7_entry 64 = .ok (.aload_n 0, 1) := by decide +kernel
theorem dX7_entry_65 : decode cX7_entry 65 = .ok (.iload 4, 2) := by decide +kernel
theorem dX7_entry_67 : decode cX7_entry 67 = .ok (.invokevirtual 69, 3) := by decide +kernel
theorem dX7_entry_70 : decode cX7_entry 70 = .ok (.goto 9, 3) := by decide +kernel
theorem dX7_entry_73 : decode cX7_entry 73 = .ok (.aload_n 0, 1) := by decide +kernel
theorem dX7_entry_74 : decode cX7_entry 74 = .ok (.iload 4, 2) := by decide +kernel
theorem dX7_entry_76 : decode cX7_entry 76 = .ok (.invokevirtual 255, 3) := by decide +kernel
theorem dX7_entry_79 : decode cX7_entry 79 = .ok (.ireturn, 1) := by decide +kernel
theorem dX7_bound_0 : decode cX7_bound 0 = .ok (.aload_n 0, 1) := by decide +kernel
theorem dX7_bound_1 : decode cX7_bound 1 = .ok (.iload_n 1, 1) := by decide +kernel
theorem dX7_bound_2 : decode cX7_bound 2 = .ok (.invokevirtual 258, 3) := by decide +kernel
theorem dX7_bound_5 : decode cX7_bound 5 = .ok (.istore_n 3, 1) := by decide +kernel
theorem dX7_bound_6 : decode cX7_bound 6 = .ok (.iload_n 3, 1) := by decide +kernel
theorem dX7_bound_7 : decode cX7_bound 7 = .ok (.ifCond .ge 5, 3) := by decide +kernel
theorem dX7_bound_10 : decode cX7_bound 10 = .ok (.iconst (-1), 1) := by decide +kernel
theorem dX7_bound_11 : decode cX7_bound 11 = .ok (.ireturn, 1) := by decide +kernel
theorem dX7_bound_12 : decode cX7_bound 12 = .ok (.iload_n 2, 1) := by decide +kernel
theorem dX7_bound_13 : decode cX7_bound 13 = .ok (.iconst 0, 1) := by decide +kernel
theorem dX7_bound_14 : decode cX7_bound 14 = .ok (.iconst 3, 1) := by decide +kernel
theorem dX7_bound_15 : decode cX7_bound 15 = .ok (.invokestatic 172, 3) := by decide +kernel
theorem dX7_bound_18 : decode cX7_bound 18 = .ok (.ifCond .ne 6, 3) := by decide +kernel
theorem dX7_bound_21 : decode cX7_bound 21 = .ok (.bipush (-2), 2) := by decide +kernel
theorem dX7_bound_23 : decode cX7_bound 23 = .ok (.ireturn, 1) := by decide +kernel
theorem dX7_bound_24 : decode cX7_bound 24 = .ok (.aload_n 0, 1) := by decide +kernel
theorem dX7_bound_25 : decode cX7_bound 25 = .ok (.invokevirtual 76, 3) := by decide +kernel
theorem dX7_bound_28 : decode cX7_bound 28 = .ok (.iconst 1, 1) := by decide +kernel
theorem dX7_bound_29 : decode cX7_bound 29 = .ok (.if_icmp .ne 6, 3) := by decide +kernel
theorem dX7_bound_32 : decode cX7_bound 32 = .ok (.bipush (-5), 2) := by decide +kernel
theorem dX7_bound_34 : decode cX7_bound 34 = .ok (.ireturn, 1) := by decide +kernel
theorem dX7_bound_35 : decode cX7_bound 35 = .ok (.aload_n 0, 1) := by decide +kernel
theorem dX7_bound_36 : decode cX7_bound 36 = .ok (.iload_n 3, 1) := by decide +kernel
theorem dX7_bound_37 : decode cX7_bound 37 = .ok (.iconst 0, 1) := by decide +kernel
theorem dX7_bound_38 : decode cX7_bound 38 = .ok (.invokevirtual 110, 3) := by decide +kernel
theorem dX7_bound_41 : decode cX7_bound 41 = .ok (.aload_n 0, 1) := by decide +kernel
theorem dX7_bound_42 : decode cX7_bound 42 = .ok (.getfield 22, 3) := by decide +kernel
theorem dX7_bound_45 : decode cX7_bound 45 = .ok (.iload_n 2, 1) := by decide +kernel
theorem dX7_bound_46 : decode cX7_bound 46 = .ok (.iaload, 1) := by decide +kernel
theorem dX7_bound_47 : decode cX7_bound 47 = .ok (.ireturn, 1) := by decide +kernel
theorem dX7_leafOf_0 : decode cX7_leafOf 0 = .ok (.aload_n 0, 1) := by decide +kernel
theorem dX7_leafOf_1 : decode cX7_leafOf 1 = .ok (.iload_n 1, 1) := by decide +kernel
theorem dX7_leafOf_2 : decode cX7_leafOf 2 = .ok (.invokevirtual 168, 3) := by decide +kernel
theorem dX7_leafOf_5 : decode cX7_leafOf 5 = .ok (.ifCond .eq 17, 3) := by decide +kernel
theorem dX7_leafOf_8 : decode cX7_leafOf 8 = .ok (.aload_n 0, 1) := by decide +kernel
theorem dX7_leafOf_9 : decode cX7_leafOf 9 = .ok (.aload_n 0, 1) := by decide +kernel
theorem dX7_leafOf_10 : decode cX7_leafOf 10 = .ok (.iload_n 1, 1) := by decide +kernel
theorem dX7_leafOf_11 : decode cX7_leafOf 11 = .ok (.invokevirtual 195, 3) := by decide +kernel
theorem dX7_leafOf_14 : decode cX7_leafOf 14 = .ok (.invokevirtual 255, 3) := by decide +kernel
theorem dX7_leafOf_17 : decode cX7_leafOf 17 = .ok (.iconst 1, 1) := by decide +kernel
theorem dX7_leafOf_18 : decode cX7_leafOf 18 = .ok (.isub, 1) := by decide +kernel
theorem dX7_leafOf_19 : decode cX7_leafOf 19 = .ok (.goto 4, 3) := by decide +kernel
theorem dX7_leafOf_22 : decode cX7_leafOf 22 = .ok (.iconst (-1), 1) := by decide +kernel
theorem dX7_leafOf_23 : decode cX7_leafOf 23 = .ok (.ireturn, 1) := by decide +kernel
theorem dX7_setting_0 : decode cX7_setting 0 = .ok (.iload_n 1, 1) := by decide +kernel
theorem dX7_setting_1 : decode cX7_setting 1 = .ok (.iconst 0, 1) := by decide +kernel
theorem dX7_setting_2 : decode cX7_setting 2 = .ok (.iconst 1, 1) := by decide +kernel
theorem dX7_setting_3 : decode cX7_setting 3 = .ok (.invokestatic 172, 3) := by decide +kernel
theorem dX7_setting_6 : decode cX7_setting 6 = .ok (.ifCond .eq 12, 3) := by decide +kernel
theorem dX7_setting_9 : decode cX7_setting 9 = .ok (.aload_n 0, 1) := by decide +kernel
theorem dX7_setting_10 : decode cX7_setting 10 = .ok (.getfield 7, 3) := by decide +kernel
theorem dX7_setting_13 : decode cX7_setting 13 = .ok (.iload_n 1, 1) := by decide +kernel
theorem dX7_setting_14 : decode cX7_setting 14 = .ok (.iaload, 1) := by decide +kernel
theorem dX7_setting_15 : decode cX7_setting 15 = .ok (.goto 4, 3) := by decide +kernel
theorem dX7_setting_18 : decode cX7_setting 18 = .ok (.iconst (-1), 1) := by decide +kernel
theorem dX7_setting_19 : decode cX7_setting 19 = .ok (.ireturn, 1) := by decide +kernel
theorem dX7_splits_0 : decode cX7_splits 0 = .ok (.aload_n 0, 1) := by decide +kernel
theorem dX7_splits_1 : decode cX7_splits 1 = .ok (.getfield 7, 3) := by decide +kernel
theorem dX7_splits_4 : decode cX7_splits 4 = .ok (.iconst 2, 1) := by decide +kernel
theorem dX7_splits_5 : decode cX7_splits 5 = .ok (.iaload, 1) := by decide +kernel
theorem dX7_splits_6 : decode cX7_splits 6 = .ok (.ireturn, 1) := by decide +kernel
theorem dX7_reinsertions_0 : decode cX7_reinsertions 0 = .ok (.aload_n 0, 1) := by decide +kernel
theorem dX7_reinsertions_1 : decode cX7_reinsertions 1 = .ok (.getfield 7, 3) := by decide +kernel
theorem dX7_reinsertions_4 : decode cX7_reinsertions 4 = .ok (.iconst 3, 1) := by decide +kernel
theorem dX7_reinsertions_5 : decode cX7_reinsertions 5 = .ok (.iaload, 1) := by decide +kernel
theorem dX7_reinsertions_6 : decode cX7_reinsertions 6 = .ok (.ireturn, 1) := by decide +kernel
theorem dX7_frames_0 : decode cX7_frames 0 = .ok (.aload_n 0, 1) := by decide +kernel
theorem dX7_frames_1 : decode cX7_frames 1 = .ok (.getfield 22, 3) := by decide +kernel
theorem dX7_frames_4 : decode cX7_frames 4 = .ok (.bipush 40, 2) := by decide +kernel
theorem dX7_frames_6 : decode cX7_frames 6 = .ok (.iload_n 1, 1) := by decide +kernel
theorem dX7_frames_7 : decode cX7_frames 7 = .ok (.iastore, 1) := by decide +kernel
theorem dX7_frames_8 : decode cX7_frames 8 = .ok (.aload_n 0, 1) := by decide +kernel
theorem dX7_frames_9 : decode cX7_frames 9 = .ok (.getfield 22, 3) := by decide +kernel
theorem dX7_frames_12 : decode cX7_frames 12 = .ok (.bipush 41, 2) := by decide +kernel
theorem dX7_frames_14 : decode cX7_frames 14 = .ok (.iload_n 2, 1) := by decide +kernel
theorem dX7_frames_15 : decode cX7_frames 15 = .ok (.iastore, 1) := by decide +kernel
theorem dX7_frames_16 : decode cX7_frames 16 = .ok (.aload_n 0, 1) := by decide +kernel
theorem dX7_frames_17 : decode cX7_frames 17 = .ok (.getfield 22, 3) := by decide +kernel
theorem dX7_frames_20 : decode cX7_frames 20 = .ok (.bipush 42, 2) := by decide +kernel
theorem dX7_frames_22 : decode cX7_frames 22 = .ok (.iload_n 3, 1) := by decide +kernel
theorem dX7_frames_23 : decode cX7_frames 23 = .ok (.iastore, 1) := by decide +kernel
theorem dX7_frames_24 : decode cX7_frames 24 = .ok (.aload_n 0, 1) := by decide +kernel
theorem dX7_frames_25 : decode cX7_frames 25 = .ok (.getfield 22, 3) := by decide +kernel
theorem dX7_frames_28 : decode cX7_frames 28 = .ok (.bipush 43, 2) := by decide +kernel
theorem dX7_frames_30 : decode cX7_frames 30 = .ok (.iload 4, 2) := by decide +kernel
theorem dX7_frames_32 : decode cX7_frames 32 = .ok (.iastore, 1) := by decide +kernel
theorem dX7_frames_33 : decode cX7_frames 33 = .ok (.return_, 1) := by decide +kernel
theorem dX7_meets_0 : decode cX7_meets 0 = .ok (.aload_n 0, 1) := by decide +kernel
theorem dX7_meets_1 : decode cX7_meets 1 = .ok (.iload_n 1, 1) := by decide +kernel
theorem dX7_meets_2 : decode cX7_meets 2 = .ok (.iconst 0, 1) := by decide +kernel
theorem dX7_meets_3 : decode cX7_meets 3 = .ok (.invokevirtual 110, 3) := by decide +kernel
theorem dX7_meets_6 : decode cX7_meets 6 = .ok (.aload_n 0, 1) := by decide +kernel
theorem dX7_meets_7 : decode cX7_meets 7 = .ok (.iconst 0, 1) := by decide +kernel
theorem dX7_meets_8 : decode cX7_meets 8 = .ok (.bipush 10, 2) := by decide +kernel
theorem dX7_meets_10 : decode cX7_meets 10 = .ok (.invokevirtual 261, 3) := by decide +kernel
theorem dX7_meets_13 : decode cX7_meets 13 = .ok (.ifCond .le 7, 3) := by decide +kernel
theorem dX7_meets_16 : decode cX7_meets 16 = .ok (.iconst 1, 1) := by decide +kernel
theorem dX7_meets_17 : decode cX7_meets 17 = .ok (.goto 4, 3) := by decide +kernel
theorem dX7_meets_20 : decode cX7_meets 20 = .ok (.iconst 0, 1) := by decide +kernel
theorem dX7_meets_21 : decode cX7_meets 21 = .ok (.ireturn, 1) := by decide +kernel
theorem dX7_meeting_0 : decode cX7_meeting 0 = .ok (.iload_n 1, 1) := by decide +kernel
theorem dX7_meeting_1 : decode cX7_meeting 1 = .ok (.iload_n 2, 1) := by decide +kernel
theorem dX7_meeting_2 : decode cX7_meeting 2 = .ok (.iload_n 3, 1) := by decide +kernel
theorem dX7_meeting_3 : decode cX7_meeting 3 = .ok (.iload 4, 2) := by decide +kernel
theorem dX7_meeting_5 : decode cX7_meeting 5 = .ok (.invokestatic 179, 3) := by decide +kernel
theorem dX7_meeting_8 : decode cX7_meeting 8 = .ok (.ifCond .ne 6, 3) := by decide +kernel
theorem dX7_meeting_11 : decode cX7_meeting 11 = .ok (.bipush (-2), 2) := by decide +kernel
theorem dX7_meeting_13 : decode cX7_meeting 13 = .ok (.ireturn, 1) := by decide +kernel
theorem dX7_meeting_14 : decode cX7_meeting 14 = .ok (.aload_n 0, 1) := by decide +kernel
theorem dX7_meeting_15 : decode cX7_meeting 15 = .ok (.iload_n 1, 1) := by decide +kernel
theorem dX7_meeting_16 : decode cX7_meeting 16 = .ok (.iload_n 2, 1) := by decide +kernel
theorem dX7_meeting_17 : decode cX7_meeting 17 = .ok (.iload_n 3, 1) := by decide +kernel
theorem dX7_meeting_18 : decode cX7_meeting 18 = .ok (.iload 4, 2) := by decide +kernel
theorem dX7_meeting_20 : decode cX7_meeting 20 = .ok (.invokevirtual 264, 3) := by decide +kernel
theorem dX7_meeting_23 : decode cX7_meeting 23 = .ok (.iconst 0, 1) := by decide +kernel
theorem dX7_meeting_24 : decode cX7_meeting 24 = .ok (.istore 5, 2) := by decide +kernel
theorem dX7_meeting_26 : decode cX7_meeting 26 = .ok (.iconst 0, 1) := by decide +kernel
theorem dX7_meeting_27 : decode cX7_meeting 27 = .ok (.istore 6, 2) := by decide +kernel
theorem dX7_meeting_29 : decode cX7_meeting 29 = .ok (.iload 6, 2) := by decide +kernel
theorem dX7_meeting_31 : decode cX7_meeting 31 = .ok (.aload_n 0, 1) := by decide +kernel
theorem dX7_meeting_32 : decode cX7_meeting 32 = .ok (.invokevirtual 76, 3) := by decide +kernel
theorem dX7_meeting_35 : decode cX7_meeting 35 = .ok (.if_icmp .ge 37, 3) := by decide +kernel
theorem dX7_meeting_38 : decode cX7_meeting 38 = .ok (.iload 5, 2) := by decide +kernel
theorem dX7_meeting_40 : decode cX7_meeting 40 = .ok (.aload_n 0, 1) := by decide +kernel
theorem dX7_meeting_41 : decode cX7_meeting 41 = .ok (.iload 6, 2) := by decide +kernel
theorem dX7_meeting_43 : decode cX7_meeting 43 = .ok (.invokevirtual 69, 3) := by decide +kernel
theorem dX7_meeting_46 : decode cX7_meeting 46 = .ok (.ifCond .lt 16, 3) := by decide +kernel
theorem dX7_meeting_49 : decode cX7_meeting 49 = .ok (.aload_n 0, 1) := by decide +kernel
theorem dX7_meeting_50 : decode cX7_meeting 50 = .ok (.iload 6, 2) := by decide +kernel
theorem dX7_meeting_52 : decode cX7_meeting 52 = .ok (.invokevirtual 268, 3) := by decide +kernel
theorem dX7_meeting_55 : decode cX7_meeting 55 = .ok (.ifCond .eq 7, 3) := by decide +kernel
theorem dX7_meeting_58 : decode cX7_meeting 58 = .ok (.iconst 1, 1) := by decide +kernel
theorem dX7_meeting_59 : decode cX7_meeting 59 = .ok (.goto 4, 3) := by decide +kernel
theorem dX7_meeting_62 : decode cX7_meeting 62 = .ok (.iconst 0, 1) := by decide +kernel
theorem dX7_meeting_63 : decode cX7_meeting 63 = .ok (.iadd, 1) := by decide +kernel
theorem dX7_meeting_64 : decode cX7_meeting 64 = .ok (.istore 5, 2) := by decide +kernel
theorem dX7_meeting_66 : decode cX7_meeting 66 = .ok (.iinc 6 1, 3) := by decide +kernel
theorem dX7_meeting_69 : decode cX7_meeting 69 = .ok (.goto (-40), 3) := by decide +kernel
theorem dX7_meeting_72 : decode cX7_meeting 72 = .ok (.iload 5, 2) := by decide +kernel
theorem dX7_meeting_74 : decode cX7_meeting 74 = .ok (.ireturn, 1) := by decide +kernel
theorem dX7_inside_0 : decode cX7_inside 0 = .ok (.iload_n 1, 1) := by decide +kernel
theorem dX7_inside_1 : decode cX7_inside 1 = .ok (.iload_n 2, 1) := by decide +kernel
theorem dX7_inside_2 : decode cX7_inside 2 = .ok (.iload_n 3, 1) := by decide +kernel
theorem dX7_inside_3 : decode cX7_inside 3 = .ok (.iload 4, 2) := by decide +kernel
theorem dX7_inside_5 : decode cX7_inside 5 = .ok (.invokestatic 179, 3) := by decide +kernel
theorem dX7_inside_8 : decode cX7_inside 8 = .ok (.ifCond .ne 6, 3) := by decide +kernel
theorem dX7_inside_11 : decode cX7_inside 11 = .ok (.bipush (-2), 2) := by decide +kernel
theorem dX7_inside_13 : decode cX7_inside 13 = .ok (.ireturn, 1) := by decide +kernel
theorem dX7_inside_14 : decode cX7_inside 14 = .ok (.iconst 0, 1) := by decide +kernel
theorem dX7_inside_15 : decode cX7_inside 15 = .ok (.istore 5, 2) := by decide +kernel
theorem dX7_inside_17 : decode cX7_inside 17 = .ok (.iconst 0, 1) := by decide +kernel
theorem dX7_inside_18 : decode cX7_inside 18 = .ok (.istore 6, 2) := by decide +kernel
theorem dX7_inside_20 : decode cX7_inside 20 = .ok (.iload 6, 2) := by decide +kernel
theorem dX7_inside_22 : decode cX7_inside 22 = .ok (.bipush 24, 2) := by decide +kernel
theorem dX7_inside_24 : decode cX7_inside 24 = .ok (.if_icmp .ge 102, 3) := by decide +kernel
theorem dX7_inside_27 : decode cX7_inside 27 = .ok (.iconst 5, 1) := by decide +kernel
theorem dX7_inside_28 : decode cX7_inside 28 = .ok (.iconst 4, 1) := by decide +kernel
theorem dX7_inside_29 : decode cX7_inside 29 = .ok (.iload 6, 2) := by decide +kernel
theorem dX7_inside_31 : decode cX7_inside 31 = .ok (.imul, 1) := by decide +kernel
theorem dX7_inside_32 : decode cX7_inside 32 = .ok (.iadd, 1) := by decide +kernel
theorem dX7_inside_33 : decode cX7_inside 33 = .ok (.istore 7, 2) := by decide +kernel
theorem dX7_inside_35 : decode cX7_inside 35 = .ok (.aload_n 0, 1) := by decide +kernel
theorem dX7_inside_36 : decode cX7_inside 36 = .ok (.iload 6, 2) := by decide +kernel
theorem dX7_inside_38 : decode cX7_inside 38 = .ok (.invokevirtual 168, 3) := by decide +kernel
theorem dX7_inside_41 : decode cX7_inside 41 = .ok (.ifCond .eq 58, 3) := by decide +kernel
theorem dX7_inside_44 : decode cX7_inside 44 = .ok (.aload_n 0, 1) := by decide +kernel
theorem dX7_inside_45 : decode cX7_inside 45 = .ok (.getfield 7, 3) := by decide +kernel
theorem dX7_inside_48 : decode cX7_inside 48 = .ok (.iload 7, 2) := by decide +kernel
theorem dX7_inside_50 : decode cX7_inside 50 = .ok (.iaload, 1) := by decide +kernel
theorem dX7_inside_51 : decode cX7_inside 51 = .ok (.iload_n 1, 1) := by decide +kernel
theorem dX7_inside_52 : decode cX7_inside 52 = .ok (.if_icmp .lt 47, 3) := by decide +kernel
theorem dX7_inside_55 : decode cX7_inside 55 = .ok (.aload_n 0, 1) := by decide +kernel
theorem dX7_inside_56 : decode cX7_inside 56 = .ok (.getfield 7, 3) := by decide +kernel
theorem dX7_inside_59 : decode cX7_inside 59 = .ok (.iload 7, 2) := by decide +kernel
theorem dX7_inside_61 : decode cX7_inside 61 = .ok (.iconst 1, 1) := by decide +kernel
theorem dX7_inside_62 : decode cX7_inside 62 = .ok (.iadd, 1) := by decide +kernel
theorem dX7_inside_63 : decode cX7_inside 63 = .ok (.iaload, 1) := by decide +kernel
theorem dX7_inside_64 : decode cX7_inside 64 = .ok (.iload_n 2, 1) := by decide +kernel
theorem dX7_inside_65 : decode cX7_inside 65 = .ok (.if_icmp .lt 34, 3) := by decide +kernel
theorem dX7_inside_68 : decode cX7_inside 68 = .ok (.aload_n 0, 1) := by decide +kernel
theorem dX7_inside_69 : decode cX7_inside 69 = .ok (.getfield 7, 3) := by decide +kernel
theorem dX7_inside_72 : decode cX7_inside 72 = .ok (.iload 7, 2) := by decide +kernel
theorem dX7_inside_74 : decode cX7_inside 74 = .ok (.iconst 2, 1) := by decide +kernel
theorem dX7_inside_75 : decode cX7_inside 75 = .ok (.iadd, 1) := by decide +kernel
theorem dX7_inside_76 : decode cX7_inside 76 = .ok (.iaload, 1) := by decide +kernel
theorem dX7_inside_77 : decode cX7_inside 77 = .ok (.iload_n 3, 1) := by decide +kernel
theorem dX7_inside_78 : decode cX7_inside 78 = .ok (.if_icmp .gt 21, 3) := by decide +kernel
theorem dX7_inside_81 : decode cX7_inside 81 = .ok (.aload_n 0, 1) := by decide +kernel
theorem dX7_inside_82 : decode cX7_inside 82 = .ok (.getfield 7, 3) := by decide +kernel
theorem dX7_inside_85 : decode cX7_inside 85 = .ok (.iload 7, 2) := by decide +kernel
theorem dX7_inside_87 : decode cX7_inside 87 = .ok (.iconst 3, 1) := by decide +kernel
theorem dX7_inside_88 : decode cX7_inside 88 = .ok (.iadd, 1) := by decide +kernel
theorem dX7_inside_89 : decode cX7_inside 89 = .ok (.iaload, 1) := by decide +kernel
theorem dX7_inside_90 : decode cX7_inside 90 = .ok (.iload 4, 2) := by decide +kernel
theorem dX7_inside_92 : decode cX7_inside 92 = .ok (.if_icmp .gt 7, 3) := by decide +kernel
theorem dX7_inside_95 : decode cX7_inside 95 = .ok (.iconst 1, 1) := by decide +kernel
theorem dX7_inside_96 : decode cX7_inside 96 = .ok (.goto 4, 3) := by decide +kernel
theorem dX7_inside_99 : decode cX7_inside 99 = .ok (.iconst 0, 1) := by decide +kernel
theorem dX7_inside_100 : decode cX7_inside 100 = .ok (.istore 8, 2) := by decide +kernel
theorem dX7_inside_102 : decode cX7_inside 102 = .ok (.iload 5, 2) := by decide +kernel
theorem dX7_inside_104 : decode cX7_inside 104 = .ok (.iload 8, 2) := by decide +kernel
theorem dX7_inside_106 : decode cX7_inside 106 = .ok (.ifCond .eq 10, 3) := by decide +kernel
theorem dX7_inside_109 : decode cX7_inside 109 = .ok (.iconst 1, 1) := by decide +kernel
theorem dX7_inside_110 : decode cX7_inside 110 = .ok (.iload 6, 2) := by decide +kernel
theorem dX7_inside_112 : decode cX7_inside 112 = .ok (.ishl, 1) := by decide +kernel
theorem dX7_inside_113 : decode cX7_inside 113 = .ok (.goto 4, 3) := by decide +kernel
theorem dX7_inside_116 : decode cX7_inside 116 = .ok (.iconst 0, 1) := by decide +kernel
theorem dX7_inside_117 : decode cX7_inside 117 = .ok (.ior, 1) := by decide +kernel
theorem dX7_inside_118 : decode cX7_inside 118 = .ok (.istore 5, 2) := by decide +kernel
theorem dX7_inside_120 : decode cX7_inside 120 = .ok (.iinc 6 1, 3) := by decide +kernel
theorem dX7_inside_123 : decode cX7_inside 123 = .ok (.goto (-103), 3) := by decide +kernel
theorem dX7_inside_126 : decode cX7_inside 126 = .ok (.iload 5, 2) := by decide +kernel
theorem dX7_inside_128 : decode cX7_inside 128 = .ok (.ireturn, 1) := by decide +kernel
theorem dX7_visits_0 : decode cX7_visits 0 = .ok (.iload_n 1, 1) := by decide +kernel
theorem dX7_visits_1 : decode cX7_visits 1 = .ok (.iload_n 2, 1) := by decide +kernel
theorem dX7_visits_2 : decode cX7_visits 2 = .ok (.iload_n 3, 1) := by decide +kernel
theorem dX7_visits_3 : decode cX7_visits 3 = .ok (.iload 4, 2) := by decide +kernel
theorem dX7_visits_5 : decode cX7_visits 5 = .ok (.invokestatic 179, 3) := by decide +kernel
theorem dX7_visits_8 : decode cX7_visits 8 = .ok (.ifCond .ne 6, 3) := by decide +kernel
theorem dX7_visits_11 : decode cX7_visits 11 = .ok (.bipush (-2), 2) := by decide +kernel
theorem dX7_visits_13 : decode cX7_visits 13 = .ok (.ireturn, 1) := by decide +kernel
theorem dX7_visits_14 : decode cX7_visits 14 = .ok (.aload_n 0, 1) := by decide +kernel
theorem dX7_visits_15 : decode cX7_visits 15 = .ok (.iload_n 1, 1) := by decide +kernel
theorem dX7_visits_16 : decode cX7_visits 16 = .ok (.iload_n 2, 1) := by decide +kernel
theorem dX7_visits_17 : decode cX7_visits 17 = .ok (.iload_n 3, 1) := by decide +kernel
theorem dX7_visits_18 : decode cX7_visits 18 = .ok (.iload 4, 2) := by decide +kernel
theorem dX7_visits_20 : decode cX7_visits 20 = .ok (.invokevirtual 264, 3) := by decide +kernel
theorem dX7_visits_23 : decode cX7_visits 23 = .ok (.iconst 0, 1) := by decide +kernel
theorem dX7_visits_24 : decode cX7_visits 24 = .ok (.istore 5, 2) := by decide +kernel
theorem dX7_visits_26 : decode cX7_visits 26 = .ok (.iconst 0, 1) := by decide +kernel
theorem dX7_visits_27 : decode cX7_visits 27 = .ok (.istore 6, 2) := by decide +kernel
theorem dX7_visits_29 : decode cX7_visits 29 = .ok (.iload 6, 2) := by decide +kernel
theorem dX7_visits_31 : decode cX7_visits 31 = .ok (.aload_n 0, 1) := by decide +kernel
theorem dX7_visits_32 : decode cX7_visits 32 = .ok (.invokevirtual 76, 3) := by decide +kernel
theorem dX7_visits_35 : decode cX7_visits 35 = .ok (.if_icmp .ge 78, 3) := by decide +kernel
theorem dX7_visits_38 : decode cX7_visits 38 = .ok (.aload_n 0, 1) := by decide +kernel
theorem dX7_visits_39 : decode cX7_visits 39 = .ok (.getfield 62, 3) := by decide +kernel
theorem dX7_visits_42 : decode cX7_visits 42 = .ok (.iload 6, 2) := by decide +kernel
theorem dX7_visits_44 : decode cX7_visits 44 = .ok (.aload_n 0, 1) := by decide +kernel
theorem dX7_visits_45 : decode cX7_visits 45 = .ok (.iload 6, 2) := by decide +kernel
theorem dX7_visits_47 : decode cX7_visits 47 = .ok (.invokevirtual 69, 3) := by decide +kernel
theorem dX7_visits_50 : decode cX7_visits 50 = .ok (.ifCond .ge 35, 3) := by decide +kernel
theorem dX7_visits_53 : decode cX7_visits 53 = .ok (.iload 6, 2) := by decide +kernel
theorem dX7_visits_55 : decode cX7_visits 55 = .ok (.ifCond .eq 26, 3) := by decide +kernel
theorem dX7_visits_58 : decode cX7_visits 58 = .ok (.aload_n 0, 1) := by decide +kernel
theorem dX7_visits_59 : decode cX7_visits 59 = .ok (.getfield 62, 3) := by decide +kernel
theorem dX7_visits_62 : decode cX7_visits 62 = .ok (.aload_n 0, 1) := by decide +kernel
theorem dX7_visits_63 : decode cX7_visits 63 = .ok (.iload 6, 2) := by decide +kernel
theorem dX7_visits_65 : decode cX7_visits 65 = .ok (.invokevirtual 165, 3) := by decide +kernel
theorem dX7_visits_68 : decode cX7_visits 68 = .ok (.baload, 1) := by decide +kernel
theorem dX7_visits_69 : decode cX7_visits 69 = .ok (.ifCond .eq 16, 3) := by decide +kernel
theorem dX7_visits_72 : decode cX7_visits 72 = .ok (.aload_n 0, 1) := by decide +kernel
theorem dX7_visits_73 : decode cX7_visits 73 = .ok (.iload 6, 2) := by decide +kernel
theorem dX7_visits_75 : decode cX7_visits 75 = .ok (.invokevirtual 268, 3) := by decide +kernel
theorem dX7_visits_78 : decode cX7_visits 78 = .ok (.ifCond .eq 7, 3) := by decide +kernel
theorem dX7_visits_81 : decode cX7_visits 81 = .ok (.iconst 1, 1) := by decide +kernel
theorem dX7_visits_82 : decode cX7_visits 82 = .ok (.goto 4, 3) := by decide +kernel
theorem dX7_visits_85 : decode cX7_visits 85 = .ok (.iconst 0, 1) := by decide +kernel
theorem dX7_visits_86 : decode cX7_visits 86 = .ok (.bastore, 1) := by decide +kernel
theorem dX7_visits_87 : decode cX7_visits 87 = .ok (.iload 5, 2) := by decide +kernel
theorem dX7_visits_89 : decode cX7_visits 89 = .ok (.aload_n 0, 1) := by decide +kernel
theorem dX7_visits_90 : decode cX7_visits 90 = .ok (.getfield 62, 3) := by decide +kernel
theorem dX7_visits_93 : decode cX7_visits 93 = .ok (.iload 6, 2) := by decide +kernel
theorem dX7_visits_95 : decode cX7_visits 95 = .ok (.baload, 1) := by decide +kernel
theorem dX7_visits_96 : decode cX7_visits 96 = .ok (.ifCond .eq 7, 3) := by decide +kernel
theorem dX7_visits_99 : decode cX7_visits 99 = .ok (.iconst 1, 1) := by decide +kernel
theorem dX7_visits_100 : decode cX7_visits 100 = .ok (.goto 4, 3) := by decide +kernel
theorem dX7_visits_103 : decode cX7_visits 103 = .ok (.iconst 0, 1) := by decide +kernel
theorem dX7_visits_104 : decode cX7_visits 104 = .ok (.iadd, 1) := by decide +kernel
theorem dX7_visits_105 : decode cX7_visits 105 = .ok (.istore 5, 2) := by decide +kernel
theorem dX7_visits_107 : decode cX7_visits 107 = .ok (.iinc 6 1, 3) := by decide +kernel
theorem dX7_visits_110 : decode cX7_visits 110 = .ok (.goto (-81), 3) := by decide +kernel
theorem dX7_visits_113 : decode cX7_visits 113 = .ok (.iload 5, 2) := by decide +kernel
theorem dX7_visits_115 : decode cX7_visits 115 = .ok (.ireturn, 1) := by decide +kernel
theorem dX7_off_0 : decode cX7_off 0 = .ok (.iload_n 0, 1) := by decide +kernel
theorem dX7_off_1 : decode cX7_off 1 = .ok (.iload_n 1, 1) := by decide +kernel
theorem dX7_off_2 : decode cX7_off 2 = .ok (.if_icmp .ge 9, 3) := by decide +kernel
theorem dX7_off_5 : decode cX7_off 5 = .ok (.iload_n 1, 1) := by decide +kernel
theorem dX7_off_6 : decode cX7_off 6 = .ok (.iload_n 0, 1) := by decide +kernel
theorem dX7_off_7 : decode cX7_off 7 = .ok (.isub, 1) := by decide +kernel
theorem dX7_off_8 : decode cX7_off 8 = .ok (.goto 15, 3) := by decide +kernel
theorem dX7_off_11 : decode cX7_off 11 = .ok (.iload_n 0, 1) := by decide +kernel
theorem dX7_off_12 : decode cX7_off 12 = .ok (.iload_n 2, 1) := by decide +kernel
theorem dX7_off_13 : decode cX7_off 13 = .ok (.if_icmp .le 9, 3) := by decide +kernel
theorem dX7_off_16 : decode cX7_off 16 = .ok (.iload_n 0, 1) := by decide +kernel
theorem dX7_off_17 : decode cX7_off 17 = .ok (.iload_n 2, 1) := by decide +kernel
theorem dX7_off_18 : decode cX7_off 18 = .ok (.isub, 1) := by decide +kernel
theorem dX7_off_19 : decode cX7_off 19 = .ok (.goto 4, 3) := by decide +kernel
theorem dX7_off_22 : decode cX7_off 22 = .ok (.iconst 0, 1) := by decide +kernel
theorem dX7_off_23 : decode cX7_off 23 = .ok (.ireturn, 1) := by decide +kernel
theorem dX7_nearest_0 : decode cX7_nearest 0 = .ok (.iload_n 1, 1) := by decide +kernel
theorem dX7_nearest_1 : decode cX7_nearest 1 = .ok (.iconst 0, 1) := by decide +kernel
theorem dX7_nearest_2 : decode cX7_nearest 2 = .ok (.bipush 99, 2) := by decide +kernel
theorem dX7_nearest_4 : decode cX7_nearest 4 = .ok (.invokestatic 172, 3) := by decide +kernel
theorem dX7_nearest_7 : decode cX7_nearest 7 = .ok (.ifCond .eq 13, 3) := by decide +kernel
theorem dX7_nearest_10 : decode cX7_nearest 10 = .ok (.iload_n 2, 1) := by decide +kernel
theorem dX7_nearest_11 : decode cX7_nearest 11 = .ok (.iconst 0, 1) := by decide +kernel
theorem dX7_nearest_12 : decode cX7_nearest 12 = .ok (.bipush 99, 2) := by decide +kernel
theorem dX7_nearest_14 : decode cX7_nearest 14 = .ok (.invokestatic 172, 3) := by decide +kernel
theorem dX7_nearest_17 : decode cX7_nearest 17 = .ok (.ifCond .ne 6, 3) := by decide +kernel
theorem dX7_nearest_20 : decode cX7_nearest 20 = .ok (.bipush (-2), 2) := by decide +kernel
theorem dX7_nearest_22 : decode cX7_nearest 22 = .ok (.ireturn, 1) := by decide +kernel
theorem dX7_nearest_23 : decode cX7_nearest 23 = .ok (.bipush (-5), 2) := by decide +kernel
theorem dX7_nearest_25 : decode cX7_nearest 25 = .ok (.istore_n 3, 1) := by decide +kernel
theorem dX7_nearest_26 : decode cX7_nearest 26 = .ok (.iconst 0, 1) := by decide +kernel
theorem dX7_nearest_27 : decode cX7_nearest 27 = .ok (.istore 4, 2) := by decide +kernel
theorem dX7_nearest_29 : decode cX7_nearest 29 = .ok (.iconst 0, 1) := by decide +kernel
theorem dX7_nearest_30 : decode cX7_nearest 30 = .ok (.istore 5, 2) := by decide +kernel
theorem dX7_nearest_32 : decode cX7_nearest 32 = .ok (.iload 5, 2) := by decide +kernel
theorem dX7_nearest_34 : decode cX7_nearest 34 = .ok (.bipush 24, 2) := by decide +kernel
theorem dX7_nearest_36 : decode cX7_nearest 36 = .ok (.if_icmp .ge 129, 3) := by decide +kernel
theorem dX7_nearest_39 : decode cX7_nearest 39 = .ok (.iconst 5, 1) := by decide +kernel
theorem dX7_nearest_40 : decode cX7_nearest 40 = .ok (.iconst 4, 1) := by decide +kernel
theorem dX7_nearest_41 : decode cX7_nearest 41 = .ok (.iload 5, 2) := by decide +kernel
theorem dX7_nearest_43 : decode cX7_nearest 43 = .ok (.imul, 1) := by decide +kernel
theorem dX7_nearest_44 : decode cX7_nearest 44 = .ok (.iadd, 1) := by decide +kernel
theorem dX7_nearest_45 : decode cX7_nearest 45 = .ok (.istore 6, 2) := by decide +kernel
theorem dX7_nearest_47 : decode cX7_nearest 47 = .ok (.iload_n 1, 1) := by decide +kernel
theorem dX7_nearest_48 : decode cX7_nearest 48 = .ok (.aload_n 0, 1) := by decide +kernel
theorem dX7_nearest_49 : decode cX7_nearest 49 = .ok (.getfield 7, 3) := by decide +kernel
theorem dX7_nearest_52 : decode cX7_nearest 52 = .ok (.iload 6, 2) := by decide +kernel
theorem dX7_nearest_54 : decode cX7_nearest 54 = .ok (.iaload, 1) := by decide +kernel
theorem dX7_nearest_55 : decode cX7_nearest 55 = .ok (.aload_n 0, 1) := by decide +kernel
theorem dX7_nearest_56 : decode cX7_nearest 56 = .ok (.getfield 7, 3) := by decide +kernel
theorem dX7_nearest_59 : decode cX7_nearest 59 = .ok (.iload 6, 2) := by decide +kernel
theorem dX7_nearest_61 : decode cX7_nearest 61 = .ok (.iconst 2, 1) := by decide +kernel
theorem dX7_nearest_62 : decode cX7_nearest 62 = .ok (.iadd, 1) := by decide +kernel
theorem dX7_nearest_63 : decode cX7_nearest 63 = .ok (.iaload, 1) := by decide +kernel
theorem dX7_nearest_64 : decode cX7_nearest 64 = .ok (.invokestatic 271, 3) := by decide +kernel
theorem dX7_nearest_67 : decode cX7_nearest 67 = .ok (.istore 7, 2) := by decide +kernel
theorem dX7_nearest_69 : decode cX7_nearest 69 = .ok (.iload_n 2, 1) := by decide +kernel
theorem dX7_nearest_70 : decode cX7_nearest 70 = .ok (.aload_n 0, 1) := by decide +kernel
theorem dX7_nearest_71 : decode cX7_nearest 71 = .ok (.getfield 7, 3) := by decide +kernel
theorem dX7_nearest_74 : decode cX7_nearest 74 = .ok (.iload 6, 2) := by decide +kernel
theorem dX7_nearest_76 : decode cX7_nearest 76 = .ok (.iconst 1, 1) := by decide +kernel
theorem dX7_nearest_77 : decode cX7_nearest 77 = .ok (.iadd, 1) := by decide +kernel
theorem dX7_nearest_78 : decode cX7_nearest 78 = .ok (.iaload, 1) := by decide +kernel
theorem dX7_nearest_79 : decode cX7_nearest 79 = .ok (.aload_n 0, 1) := by decide +kernel
theorem dX7_nearest_80 : decode cX7_nearest 80 = .ok (.getfield 7, 3) := by decide +kernel
theorem dX7_nearest_83 : decode cX7_nearest 83 = .ok (.iload 6, 2) := by decide +kernel
theorem dX7_nearest_85 : decode cX7_nearest 85 = .ok (.iconst 3, 1) := by decide +kernel
theorem dX7_nearest_86 : decode cX7_nearest 86 = .ok (.iadd, 1) := by decide +kernel
theorem dX7_nearest_87 : decode cX7_nearest 87 = .ok (.iaload, 1) := by decide +kernel
theorem dX7_nearest_88 : decode cX7_nearest 88 = .ok (.invokestatic 271, 3) := by decide +kernel
theorem dX7_nearest_91 : decode cX7_nearest 91 = .ok (.istore 8, 2) := by decide +kernel
theorem dX7_nearest_93 : decode cX7_nearest 93 = .ok (.iload 7, 2) := by decide +kernel
theorem dX7_nearest_95 : decode cX7_nearest 95 = .ok (.iload 7, 2) := by decide +kernel
theorem dX7_nearest_97 : decode cX7_nearest 97 = .ok (.imul, 1) := by decide +kernel
theorem dX7_nearest_98 : decode cX7_nearest 98 = .ok (.iload 8, 2) := by decide +kernel
theorem dX7_nearest_100 : decode cX7_nearest 100 = .ok (.iload 8, 2) := by decide +kernel
theorem dX7_nearest_102 : decode cX7_nearest 102 = .ok (.imul, 1) := by decide +kernel
theorem dX7_nearest_103 : decode cX7_nearest 103 = .ok (.iadd, 1) := by decide +kernel
theorem dX7_nearest_104 : decode cX7_nearest 104 = .ok (.istore 9, 2) := by decide +kernel
theorem dX7_nearest_106 : decode cX7_nearest 106 = .ok (.aload_n 0, 1) := by decide +kernel
theorem dX7_nearest_107 : decode cX7_nearest 107 = .ok (.iload 5, 2) := by decide +kernel
theorem dX7_nearest_109 : decode cX7_nearest 109 = .ok (.invokevirtual 168, 3) := by decide +kernel
theorem dX7_nearest_112 : decode cX7_nearest 112 = .ok (.ifCond .eq 18, 3) := by decide +kernel
theorem dX7_nearest_115 : decode cX7_nearest 115 = .ok (.iload_n 3, 1) := by decide +kernel
theorem dX7_nearest_116 : decode cX7_nearest 116 = .ok (.ifCond .lt 10, 3) := by decide +kernel
theorem dX7_nearest_119 : decode cX7_nearest 119 = .ok (.iload 9, 2) := by decide +kernel
theorem dX7_nearest_121 : decode cX7_nearest 121 = .ok (.iload 4, 2) := by decide +kernel
theorem dX7_nearest_123 : decode cX7_nearest 123 = .ok (.if_icmp .ge 7, 3) := by decide +kernel
theorem dX7_nearest_126 : decode cX7_nearest 126 = .ok (.iconst 1, 1) := by decide +kernel
theorem dX7_nearest_127 : decode cX7_nearest 127 = .ok (.goto 4, 3) := by decide +kernel
theorem dX7_nearest_130 : decode cX7_nearest 130 = .ok (.iconst 0, 1) := by decide +kernel
theorem dX7_nearest_131 : decode cX7_nearest 131 = .ok (.istore 10, 2) := by decide +kernel
theorem dX7_nearest_133 : decode cX7_nearest 133 = .ok (.iload 10, 2) := by decide +kernel
theorem dX7_nearest_135 : decode cX7_nearest 135 = .ok (.ifCond .eq 8, 3) := by decide +kernel
theorem dX7_nearest_138 : decode cX7_nearest 138 = .ok (.iload 5, 2) := by decide +kernel
theorem dX7_nearest_140 : decode cX7_nearest 140 = .ok (.goto 4, 3) := by decide +kernel
theorem dX7_nearest_143 : decode cX7_nearest 143 = .ok (.iload_n 3, 1) := by decide +kernel
theorem dX7_nearest_144 : decode cX7_nearest 144 = .ok (.istore_n 3, 1) := by decide +kernel
theorem dX7_nearest_145 : decode cX7_nearest 145 = .ok (.iload 10, 2) := by decide +kernel
theorem dX7_nearest_147 : decode cX7_nearest 147 = .ok (.ifCond .eq 8, 3) := by decide +kernel
theorem dX7_nearest_150 : decode cX7_nearest 150 = .ok (.iload 9, 2) := by decide +kernel
theorem dX7_nearest_152 : decode cX7_nearest 152 = .ok (.goto 5, 3) := by decide +kernel
theorem dX7_nearest_155 : decode cX7_nearest 155 = .ok (.iload 4, 2) := by decide +kernel
theorem dX7_nearest_157 : decode cX7_nearest 157 = .ok (.istore 4, 2) := by decide +kernel
theorem dX7_nearest_159 : decode cX7_nearest 159 = .ok (.iinc 5 1, 3) := by decide +kernel
theorem dX7_nearest_162 : decode cX7_nearest 162 = .ok (.goto (-130), 3) := by decide +kernel
theorem dX7_nearest_165 : decode cX7_nearest 165 = .ok (.iload_n 3, 1) := by decide +kernel
theorem dX7_nearest_166 : decode cX7_nearest 166 = .ok (.ireturn, 1) := by decide +kernel
theorem dX7_area_0 : decode cX7_area 0 = .ok (.iload_n 1, 1) := by decide +kernel
theorem dX7_area_1 : decode cX7_area 1 = .ok (.iconst 0, 1) := by decide +kernel
theorem dX7_area_2 : decode cX7_area 2 = .ok (.aload_n 0, 1) := by decide +kernel
theorem dX7_area_3 : decode cX7_area 3 = .ok (.iconst 0, 1) := by decide +kernel
theorem dX7_area_4 : decode cX7_area 4 = .ok (.invokevirtual 80, 3) := by decide +kernel
theorem dX7_area_7 : decode cX7_area 7 = .ok (.invokestatic 172, 3) := by decide +kernel
theorem dX7_area_10 : decode cX7_area 10 = .ok (.ifCond .ne 5, 3) := by decide +kernel
theorem dX7_area_13 : decode cX7_area 13 = .ok (.iconst (-1), 1) := by decide +kernel
theorem dX7_area_14 : decode cX7_area 14 = .ok (.ireturn, 1) := by decide +kernel
theorem dX7_area_15 : decode cX7_area 15 = .ok (.iconst 0, 1) := by decide +kernel
theorem dX7_area_16 : decode cX7_area 16 = .ok (.istore_n 2, 1) := by decide +kernel
theorem dX7_area_17 : decode cX7_area 17 = .ok (.iconst 0, 1) := by decide +kernel
theorem dX7_area_18 : decode cX7_area 18 = .ok (.istore_n 3, 1) := by decide +kernel
theorem dX7_area_19 : decode cX7_area 19 = .ok (.iload_n 3, 1) := by decide +kernel
theorem dX7_area_20 : decode cX7_area 20 = .ok (.aload_n 0, 1) := by decide +kernel
theorem dX7_area_21 : decode cX7_area 21 = .ok (.invokevirtual 76, 3) := by decide +kernel
theorem dX7_area_24 : decode cX7_area 24 = .ok (.if_icmp .ge 40, 3) := by decide +kernel
theorem dX7_area_27 : decode cX7_area 27 = .ok (.aload_n 0, 1) := by decide +kernel
theorem dX7_area_28 : decode cX7_area 28 = .ok (.invokevirtual 76, 3) := by decide +kernel
theorem dX7_area_31 : decode cX7_area 31 = .ok (.iconst 1, 1) := by decide +kernel
theorem dX7_area_32 : decode cX7_area 32 = .ok (.if_icmp .le 32, 3) := by decide +kernel
theorem dX7_area_35 : decode cX7_area 35 = .ok (.aload_n 0, 1) := by decide +kernel
theorem dX7_area_36 : decode cX7_area 36 = .ok (.iload_n 3, 1) := by decide +kernel
theorem dX7_area_37 : decode cX7_area 37 = .ok (.invokevirtual 80, 3) := by decide +kernel
theorem dX7_area_40 : decode cX7_area 40 = .ok (.iload_n 1, 1) := by decide +kernel
theorem dX7_area_41 : decode cX7_area 41 = .ok (.if_icmp .ne 17, 3) := by decide +kernel
theorem dX7_area_44 : decode cX7_area 44 = .ok (.aload_n 0, 1) := by decide +kernel
theorem dX7_area_45 : decode cX7_area 45 = .ok (.iload_n 3, 1) := by decide +kernel
theorem dX7_area_46 : decode cX7_area 46 = .ok (.iconst 0, 1) := by decide +kernel
theorem dX7_area_47 : decode cX7_area 47 = .ok (.invokevirtual 110, 3) := by decide +kernel
theorem dX7_area_50 : decode cX7_area 50 = .ok (.iload_n 2, 1) := by decide +kernel
theorem dX7_area_51 : decode cX7_area 51 = .ok (.aload_n 0, 1) := by decide +kernel
theorem dX7_area_52 : decode cX7_area 52 = .ok (.iconst 0, 1) := by decide +kernel
theorem dX7_area_53 : decode cX7_area 53 = .ok (.invokevirtual 101, 3) := by decide +kernel
theorem dX7_area_56 : decode cX7_area 56 = .ok (.iadd, 1) := by decide +kernel
theorem dX7_area_57 : decode cX7_area 57 = .ok (.istore_n 2, 1) := by decide +kernel
theorem dX7_area_58 : decode cX7_area 58 = .ok (.iinc 3 1, 3) := by decide +kernel
theorem dX7_area_61 : decode cX7_area 61 = .ok (.goto (-42), 3) := by decide +kernel
theorem dX7_area_64 : decode cX7_area 64 = .ok (.iload_n 2, 1) := by decide +kernel
theorem dX7_area_65 : decode cX7_area 65 = .ok (.ireturn, 1) := by decide +kernel
theorem dX7_overlap_0 : decode cX7_overlap 0 = .ok (.iload_n 1, 1) := by decide +kernel
theorem dX7_overlap_1 : decode cX7_overlap 1 = .ok (.iconst 0, 1) := by decide +kernel
theorem dX7_overlap_2 : decode cX7_overlap 2 = .ok (.aload_n 0, 1) := by decide +kernel
theorem dX7_overlap_3 : decode cX7_overlap 3 = .ok (.iconst 0, 1) := by decide +kernel
theorem dX7_overlap_4 : decode cX7_overlap 4 = .ok (.invokevirtual 80, 3) := by decide +kernel
theorem dX7_overlap_7 : decode cX7_overlap 7 = .ok (.invokestatic 172, 3) := by decide +kernel
theorem dX7_overlap_10 : decode cX7_overlap 10 = .ok (.ifCond .ne 5, 3) := by decide +kernel
theorem dX7_overlap_13 : decode cX7_overlap 13 = .ok (.iconst (-1), 1) := by decide +kernel
theorem dX7_overlap_14 : decode cX7_overlap 14 = .ok (.ireturn, 1) := by decide +kernel
theorem dX7_overlap_15 : decode cX7_overlap 15 = .ok (.iconst 0, 1) := by decide +kernel
theorem dX7_overlap_16 : decode cX7_overlap 16 = .ok (.istore_n 2, 1) := by decide +kernel
theorem dX7_overlap_17 : decode cX7_overlap 17 = .ok (.iconst 0, 1) := by decide +kernel
theorem dX7_overlap_18 : decode cX7_overlap 18 = .ok (.istore_n 3, 1) := by decide +kernel
theorem dX7_overlap_19 : decode cX7_overlap 19 = .ok (.iload_n 3, 1) := by decide +kernel
theorem dX7_overlap_20 : decode cX7_overlap 20 = .ok (.aload_n 0, 1) := by decide +kernel
theorem dX7_overlap_21 : decode cX7_overlap 21 = .ok (.invokevirtual 76, 3) := by decide +kernel
theorem dX7_overlap_24 : decode cX7_overlap 24 = .ok (.if_icmp .ge 70, 3) := by decide +kernel
theorem dX7_overlap_27 : decode cX7_overlap 27 = .ok (.iload_n 3, 1) := by decide +kernel
theorem dX7_overlap_28 : decode cX7_overlap 28 = .ok (.iconst 1, 1) := by decide +kernel
theorem dX7_overlap_29 : decode cX7_overlap 29 = .ok (.iadd, 1) := by decide +kernel
theorem dX7_overlap_30 : decode cX7_overlap 30 = .ok (.istore 4, 2) := by decide +kernel
theorem dX7_overlap_32 : decode cX7_overlap 32 = .ok (.iload 4, 2) := by decide +kernel
theorem dX7_overlap_34 : decode cX7_overlap 34 = .ok (.aload_n 0, 1) := by decide +kernel
theorem dX7_overlap_35 : decode cX7_overlap 35 = .ok (.invokevirtual 76, 3) := by decide +kernel
theorem dX7_overlap_38 : decode cX7_overlap 38 = .ok (.if_icmp .ge 50, 3) := by decide +kernel
theorem dX7_overlap_41 : decode cX7_overlap 41 = .ok (.aload_n 0, 1) := by decide +kernel
theorem dX7_overlap_42 : decode cX7_overlap 42 = .ok (.iload_n 3, 1) := by decide +kernel
theorem dX7_overlap_43 : decode cX7_overlap 43 = .ok (.invokevirtual 80, 3) := by decide +kernel
theorem dX7_overlap_46 : decode cX7_overlap 46 = .ok (.iload_n 1, 1) := by decide +kernel
theorem dX7_overlap_47 : decode cX7_overlap 47 = .ok (.if_icmp .ne 41, 3) := by decide +kernel
theorem dX7_overlap_50 : decode cX7_overlap 50 = .ok (.aload_n 0, 1) := by decide +kernel
theorem dX7_overlap_51 : decode cX7_overlap 51 = .ok (.iload 4, 2) := by decide +kernel
theorem dX7_overlap_53 : decode cX7_overlap 53 = .ok (.invokevirtual 80, 3) := by decide +kernel
theorem dX7_overlap_56 : decode cX7_overlap 56 = .ok (.iload_n 1, 1) := by decide +kernel
theorem dX7_overlap_57 : decode cX7_overlap 57 = .ok (.if_icmp .ne 25, 3) := by decide +kernel
theorem dX7_overlap_60 : decode cX7_overlap 60 = .ok (.aload_n 0, 1) := by decide +kernel
theorem dX7_overlap_61 : decode cX7_overlap 61 = .ok (.iload_n 3, 1) := by decide +kernel
theorem dX7_overlap_62 : decode cX7_overlap 62 = .ok (.iconst 0, 1) := by decide +kernel
theorem dX7_overlap_63 : decode cX7_overlap 63 = .ok (.invokevirtual 110, 3) := by decide +kernel
theorem dX7_overlap_66 : decode cX7_overlap 66 = .ok (.aload_n 0, 1) := by decide +kernel
theorem dX7_overlap_67 : decode cX7_overlap 67 = .ok (.iload 4, 2) := by decide +kernel
theorem dX7_overlap_69 : decode cX7_overlap 69 = .ok (.iconst 1, 1) := by decide +kernel
theorem dX7_overlap_70 : decode cX7_overlap 70 = .ok (.invokevirtual 110, 3) := by decide +kernel
theorem dX7_overlap_73 : decode cX7_overlap 73 = .ok (.iload_n 2, 1) := by decide +kernel
theorem dX7_overlap_74 : decode cX7_overlap 74 = .ok (.aload_n 0, 1) := by decide +kernel
theorem dX7_overlap_75 : decode cX7_overlap 75 = .ok (.iconst 0, 1) := by decide +kernel
theorem dX7_overlap_76 : decode cX7_overlap 76 = .ok (.iconst 1, 1) := by decide +kernel
theorem dX7_overlap_77 : decode cX7_overlap 77 = .ok (.invokevirtual 261, 3) := by decide +kernel
theorem dX7_overlap_80 : decode cX7_overlap 80 = .ok (.iadd, 1) := by decide +kernel
theorem dX7_overlap_81 : decode cX7_overlap 81 = .ok (.istore_n 2, 1) := by decide +kernel
theorem dX7_overlap_82 : decode cX7_overlap 82 = .ok (.iinc 4 1, 3) := by decide +kernel
theorem dX7_overlap_85 : decode cX7_overlap 85 = .ok (.goto (-53), 3) := by decide +kernel
theorem dX7_overlap_88 : decode cX7_overlap 88 = .ok (.iinc 3 1, 3) := by decide +kernel
theorem dX7_overlap_91 : decode cX7_overlap 91 = .ok (.goto (-72), 3) := by decide +kernel
theorem dX7_overlap_94 : decode cX7_overlap 94 = .ok (.iload_n 2, 1) := by decide +kernel
theorem dX7_overlap_95 : decode cX7_overlap 95 = .ok (.ireturn, 1) := by decide +kernel
theorem dX7_fill_0 : decode cX7_fill 0 = .ok (.aload_n 0, 1) := by decide +kernel
theorem dX7_fill_1 : decode cX7_fill 1 = .ok (.invokevirtual 76, 3) := by decide +kernel
theorem dX7_fill_4 : decode cX7_fill 4 = .ok (.iconst 1, 1) := by decide +kernel
theorem dX7_fill_5 : decode cX7_fill 5 = .ok (.isub, 1) := by decide +kernel
theorem dX7_fill_6 : decode cX7_fill 6 = .ok (.i2f, 1) := by decide +kernel
theorem dX7_fill_7 : decode cX7_fill 7 = .ok (.fstore_n 1, 1) := by decide +kernel
theorem dX7_fill_8 : decode cX7_fill 8 = .ok (.aload_n 0, 1) := by decide +kernel
theorem dX7_fill_9 : decode cX7_fill 9 = .ok (.invokevirtual 222, 3) := by decide +kernel
theorem dX7_fill_12 : decode cX7_fill 12 = .ok (.aload_n 0, 1) := by decide +kernel
theorem dX7_fill_13 : decode cX7_fill 13 = .ok (.getfield 7, 3) := by decide +kernel
theorem dX7_fill_16 : decode cX7_fill 16 = .ok (.iconst 0, 1) := by decide +kernel
theorem dX7_fill_17 : decode cX7_fill 17 = .ok (.iaload, 1) := by decide +kernel
theorem dX7_fill_18 : decode cX7_fill 18 = .ok (.imul, 1) := by decide +kernel
theorem dX7_fill_19 : decode cX7_fill 19 = .ok (.i2f, 1) := by decide +kernel
theorem dX7_fill_20 : decode cX7_fill 20 = .ok (.fstore_n 2, 1) := by decide +kernel
theorem dX7_fill_21 : decode cX7_fill 21 = .ok (.fload_n 1, 1) := by decide +kernel
theorem dX7_fill_22 : decode cX7_fill 22 = .ok (.fload_n 2, 1) := by decide +kernel
theorem dX7_fill_23 : decode cX7_fill 23 = .ok (.fdiv, 1) := by decide +kernel
theorem dX7_fill_24 : decode cX7_fill 24 = .ok (.freturn, 1) := by decide +kernel
theorem dJ9_abs_0f7a4_0 : decode cJ9_abs_0f7a4 0 = .ok (.iload_n 0, 1) := by decide +kernel
theorem dJ9_abs_0f7a4_1 : decode cJ9_abs_0f7a4 1 = .ok (.ifCond .ge 8, 3) := by decide +kernel
theorem dJ9_abs_0f7a4_4 : decode cJ9_abs_0f7a4 4 = .ok (.iload_n 0, 1) := by decide +kernel
theorem dJ9_abs_0f7a4_5 : decode cJ9_abs_0f7a4 5 = .ok (.ineg, 1) := by decide +kernel
theorem dJ9_abs_0f7a4_6 : decode cJ9_abs_0f7a4 6 = .ok (.goto 4, 3) := by decide +kernel
theorem dJ9_abs_0f7a4_9 : decode cJ9_abs_0f7a4 9 = .ok (.iload_n 0, 1) := by decide +kernel
theorem dJ9_abs_0f7a4_10 : decode cJ9_abs_0f7a4 10 = .ok (.ireturn, 1) := by decide +kernel
theorem dJ9_max_7cf53_0 : decode cJ9_max_7cf53 0 = .ok (.iload_n 0, 1) := by decide +kernel
theorem dJ9_max_7cf53_1 : decode cJ9_max_7cf53 1 = .ok (.iload_n 1, 1) := by decide +kernel
theorem dJ9_max_7cf53_2 : decode cJ9_max_7cf53 2 = .ok (.if_icmp .lt 7, 3) := by decide +kernel
theorem dJ9_max_7cf53_5 : decode cJ9_max_7cf53 5 = .ok (.iload_n 0, 1) := by decide +kernel
theorem dJ9_max_7cf53_6 : decode cJ9_max_7cf53 6 = .ok (.goto 4, 3) := by decide +kernel
theorem dJ9_max_7cf53_9 : decode cJ9_max_7cf53 9 = .ok (.iload_n 1, 1) := by decide +kernel
theorem dJ9_max_7cf53_10 : decode cJ9_max_7cf53 10 = .ok (.ireturn, 1) := by decide +kernel
theorem dJ9_min_7cf53_0 : decode cJ9_min_7cf53 0 = .ok (.iload_n 0, 1) := by decide +kernel
theorem dJ9_min_7cf53_1 : decode cJ9_min_7cf53 1 = .ok (.iload_n 1, 1) := by decide +kernel
theorem dJ9_min_7cf53_2 : decode cJ9_min_7cf53 2 = .ok (.if_icmp .gt 7, 3) := by decide +kernel
theorem dJ9_min_7cf53_5 : decode cJ9_min_7cf53 5 = .ok (.iload_n 0, 1) := by decide +kernel
theorem dJ9_min_7cf53_6 : decode cJ9_min_7cf53 6 = .ok (.goto 4, 3) := by decide +kernel
theorem dJ9_min_7cf53_9 : decode cJ9_min_7cf53 9 = .ok (.iload_n 1, 1) := by decide +kernel
theorem dJ9_min_7cf53_10 : decode cJ9_min_7cf53 10 = .ok (.ireturn, 1) := by decide +kernel
theorem dJ7_fill_53178_0 : decode cJ7_fill_53178 0 = .ok (.iconst 0, 1) := by decide +kernel
theorem dJ7_fill_53178_1 : decode cJ7_fill_53178 1 = .ok (.istore_n 2, 1) := by decide +kernel
theorem dJ7_fill_53178_2 : decode cJ7_fill_53178 2 = .ok (.aload_n 0, 1) := by decide +kernel
theorem dJ7_fill_53178_3 : decode cJ7_fill_53178 3 = .ok (.arraylength, 1) := by decide +kernel
theorem dJ7_fill_53178_4 : decode cJ7_fill_53178 4 = .ok (.istore_n 3, 1) := by decide +kernel
theorem dJ7_fill_53178_5 : decode cJ7_fill_53178 5 = .ok (.iload_n 2, 1) := by decide +kernel
theorem dJ7_fill_53178_6 : decode cJ7_fill_53178 6 = .ok (.iload_n 3, 1) := by decide +kernel
theorem dJ7_fill_53178_7 : decode cJ7_fill_53178 7 = .ok (.if_icmp .ge 13, 3) := by decide +kernel
theorem dJ7_fill_53178_10 : decode cJ7_fill_53178 10 = .ok (.aload_n 0, 1) := by decide +kernel
theorem dJ7_fill_53178_11 : decode cJ7_fill_53178 11 = .ok (.iload_n 2, 1) := by decide +kernel
theorem dJ7_fill_53178_12 : decode cJ7_fill_53178 12 = .ok (.iload_n 1, 1) := by decide +kernel
theorem dJ7_fill_53178_13 : decode cJ7_fill_53178 13 = .ok (.iastore, 1) := by decide +kernel
theorem dJ7_fill_53178_14 : decode cJ7_fill_53178 14 = .ok (.iinc 2 1, 3) := by decide +kernel
theorem dJ7_fill_53178_17 : decode cJ7_fill_53178 17 = .ok (.goto (-12), 3) := by decide +kernel
theorem dJ7_fill_53178_20 : decode cJ7_fill_53178 20 = .ok (.return_, 1) := by decide +kernel
theorem dJ7_copyOf_59c91_0 : decode cJ7_copyOf_59c91 0 = .ok (.iload_n 1, 1) := by decide +kernel
theorem dJ7_copyOf_59c91_1 : decode cJ7_copyOf_59c91 1 = .ok (.aload_n 0, 1) := by decide +kernel
theorem dJ7_copyOf_59c91_2 : decode cJ7_copyOf_59c91 2 = .ok (.arraylength, 1) := by decide +kernel
theorem dJ7_copyOf_59c91_3 : decode cJ7_copyOf_59c91 3 = .ok (.if_icmp .ne 11, 3) := by decide +kernel
theorem dJ7_copyOf_59c91_6 : decode cJ7_copyOf_59c91 6 = .ok (.aload_n 0, 1) := by decide +kernel
theorem dJ7_copyOf_59c91_7 : decode cJ7_copyOf_59c91 7 = .ok (.invokevirtual 316, 3) := by decide +kernel
theorem dJ7_copyOf_59c91_10 : decode cJ7_copyOf_59c91 10 = .ok (.checkcast 317, 3) := by decide +kernel
theorem dJ7_copyOf_59c91_13 : decode cJ7_copyOf_59c91 13 = .ok (.areturn, 1) := by decide +kernel
theorem dJ7_copyOf_59c91_14 : decode cJ7_copyOf_59c91 14 = .ok (.iload_n 1, 1) := by decide +kernel
theorem dJ7_copyOf_59c91_15 : decode cJ7_copyOf_59c91 15 = .ok (.newarray .int, 2) := by decide +kernel
theorem dJ7_copyOf_59c91_17 : decode cJ7_copyOf_59c91 17 = .ok (.astore_n 2, 1) := by decide +kernel
theorem dJ7_copyOf_59c91_18 : decode cJ7_copyOf_59c91 18 = .ok (.aload_n 0, 1) := by decide +kernel
theorem dJ7_copyOf_59c91_19 : decode cJ7_copyOf_59c91 19 = .ok (.iconst 0, 1) := by decide +kernel
theorem dJ7_copyOf_59c91_20 : decode cJ7_copyOf_59c91 20 = .ok (.aload_n 2, 1) := by decide +kernel
theorem dJ7_copyOf_59c91_21 : decode cJ7_copyOf_59c91 21 = .ok (.iconst 0, 1) := by decide +kernel
theorem dJ7_copyOf_59c91_22 : decode cJ7_copyOf_59c91 22 = .ok (.aload_n 0, 1) := by decide +kernel
theorem dJ7_copyOf_59c91_23 : decode cJ7_copyOf_59c91 23 = .ok (.arraylength, 1) := by decide +kernel
theorem dJ7_copyOf_59c91_24 : decode cJ7_copyOf_59c91 24 = .ok (.iload_n 1, 1) := by decide +kernel
theorem dJ7_copyOf_59c91_25 : decode cJ7_copyOf_59c91 25 = .ok (.invokestatic 304, 3) := by decide +kernel
theorem dJ7_copyOf_59c91_28 : decode cJ7_copyOf_59c91 28 = .ok (.invokestatic 150, 3) := by decide +kernel
theorem dJ7_copyOf_59c91_31 : decode cJ7_copyOf_59c91 31 = .ok (.aload_n 2, 1) := by decide +kernel
theorem dJ7_copyOf_59c91_32 : decode cJ7_copyOf_59c91 32 = .ok (.areturn, 1) := by decide +kernel
theorem dL_law_0 : decode cL_law 0 = .ok (.new 7, 3) := by decide +kernel
theorem dL_law_3 : decode cL_law 3 = .ok (.dup, 1) := by decide +kernel
theorem dL_law_4 : decode cL_law 4 = .ok (.invokespecial 9, 3) := by decide +kernel
theorem dL_law_7 : decode cL_law 7 = .ok (.astore_n 1, 1) := by decide +kernel
theorem dL_law_8 : decode cL_law 8 = .ok (.new 10, 3) := by decide +kernel
theorem dL_law_11 : decode cL_law 11 = .ok (.dup, 1) := by decide +kernel
theorem dL_law_12 : decode cL_law 12 = .ok (.invokespecial 12, 3) := by decide +kernel
theorem dL_law_15 : decode cL_law 15 = .ok (.astore_n 2, 1) := by decide +kernel
theorem dL_law_16 : decode cL_law 16 = .ok (.iconst 0, 1) := by decide +kernel
theorem dL_law_17 : decode cL_law 17 = .ok (.istore_n 3, 1) := by decide +kernel
theorem dL_law_18 : decode cL_law 18 = .ok (.iload_n 3, 1) := by decide +kernel
theorem dL_law_19 : decode cL_law 19 = .ok (.aload_n 0, 1) := by decide +kernel
theorem dL_law_20 : decode cL_law 20 = .ok (.arraylength, 1) := by decide +kernel
theorem dL_law_21 : decode cL_law 21 = .ok (.iconst 5, 1) := by decide +kernel
theorem dL_law_22 : decode cL_law 22 = .ok (.isub, 1) := by decide +kernel
theorem dL_law_23 : decode cL_law 23 = .ok (.if_icmp .gt 911, 3) := by decide +kernel
theorem dL_law_26 : decode cL_law 26 = .ok (.aload_n 0, 1) := by decide +kernel
theorem dL_law_27 : decode cL_law 27 = .ok (.iload_n 3, 1) := by decide +kernel
theorem dL_law_28 : decode cL_law 28 = .ok (.iaload, 1) := by decide +kernel
theorem dL_law_29 : decode cL_law 29 = .ok (.bipush 31, 2) := by decide +kernel
theorem dL_law_31 : decode cL_law 31 = .ok (.iand, 1) := by decide +kernel
theorem dL_law_32 : decode cL_law 32 = .ok (.tableswitch 896 0 29 #[136, 189, 212, 225, 258, 281, 294, 307, 320, 333, 346, 359, 372, 405, 418, 431, 454, 477, 510, 543, 566, 589, 602, 615, 668, 721, 774, 807, 830, 853], 136) := by decide +kernel
theorem dL_law_168 : decode cL_law 168 = .ok (.aload_n 1, 1) := by decide +kernel
theorem dL_law_169 : decode cL_law 169 = .ok (.aload_n 0, 1) := by decide +kernel
theorem dL_law_170 : decode cL_law 170 = .ok (.iload_n 3, 1) := by decide +kernel
theorem dL_law_171 : decode cL_law 171 = .ok (.iconst 1, 1) := by decide +kernel
theorem dL_law_172 : decode cL_law 172 = .ok (.iadd, 1) := by decide +kernel
theorem dL_law_173 : decode cL_law 173 = .ok (.iaload, 1) := by decide +kernel
theorem dL_law_174 : decode cL_law 174 = .ok (.aload_n 0, 1) := by decide +kernel
theorem dL_law_175 : decode cL_law 175 = .ok (.iload_n 3, 1) := by decide +kernel
theorem dL_law_176 : decode cL_law 176 = .ok (.iconst 2, 1) := by decide +kernel
theorem dL_law_177 : decode cL_law 177 = .ok (.iadd, 1) := by decide +kernel
theorem dL_law_178 : decode cL_law 178 = .ok (.iaload, 1) := by decide +kernel
theorem dL_law_179 : decode cL_law 179 = .ok (.aload_n 0, 1) := by decide +kernel
theorem dL_law_180 : decode cL_law 180 = .ok (.iload_n 3, 1) := by decide +kernel
theorem dL_law_181 : decode cL_law 181 = .ok (.iconst 3, 1) := by decide +kernel
theorem dL_law_182 : decode cL_law 182 = .ok (.iadd, 1) := by decide +kernel
theorem dL_law_183 : decode cL_law 183 = .ok (.iaload, 1) := by decide +kernel
theorem dL_law_184 : decode cL_law 184 = .ok (.aload_n 0, 1) := by decide +kernel
theorem dL_law_185 : decode cL_law 185 = .ok (.iload_n 3, 1) := by decide +kernel
theorem dL_law_186 : decode cL_law 186 = .ok (.iconst 4, 1) := by decide +kernel
theorem dL_law_187 : decode cL_law 187 = .ok (.iadd, 1) := by decide +kernel
theorem dL_law_188 : decode cL_law 188 = .ok (.iaload, 1) := by decide +kernel
theorem dL_law_189 : decode cL_law 189 = .ok (.invokevirtual 13, 3) := by decide +kernel
theorem dL_law_192 : decode cL_law 192 = .ok (.aload_n 2, 1) := by decide +kernel
theorem dL_law_193 : decode cL_law 193 = .ok (.aload_n 0, 1) := by decide +kernel
theorem dL_law_194 : decode cL_law 194 = .ok (.iload_n 3, 1) := by decide +kernel
theorem dL_law_195 : decode cL_law 195 = .ok (.iconst 1, 1) := by decide +kernel
theorem dL_law_196 : decode cL_law 196 = .ok (.iadd, 1) := by decide +kernel
theorem dL_law_197 : decode cL_law 197 = .ok (.iaload, 1) := by decide +kernel
theorem dL_law_198 : decode cL_law 198 = .ok (.aload_n 0, 1) := by decide +kernel
theorem dL_law_199 : decode cL_law 199 = .ok (.iload_n 3, 1) := by decide +kernel
theorem dL_law_200 : decode cL_law 200 = .ok (.iconst 2, 1) := by decide +kernel
theorem dL_law_201 : decode cL_law 201 = .ok (.iadd, 1) := by decide +kernel
theorem dL_law_202 : decode cL_law 202 = .ok (.iaload, 1) := by decide +kernel
theorem dL_law_203 : decode cL_law 203 = .ok (.aload_n 0, 1) := by decide +kernel
theorem dL_law_204 : decode cL_law 204 = .ok (.iload_n 3, 1) := by decide +kernel
theorem dL_law_205 : decode cL_law 205 = .ok (.iconst 3, 1) := by decide +kernel
theorem dL_law_206 : decode cL_law 206 = .ok (.iadd, 1) := by decide +kernel
theorem dL_law_207 : decode cL_law 207 = .ok (.iaload, 1) := by decide +kernel
theorem dL_law_208 : decode cL_law 208 = .ok (.aload_n 0, 1) := by decide +kernel
theorem dL_law_209 : decode cL_law 209 = .ok (.iload_n 3, 1) := by decide +kernel
theorem dL_law_210 : decode cL_law 210 = .ok (.iconst 4, 1) := by decide +kernel
theorem dL_law_211 : decode cL_law 211 = .ok (.iadd, 1) := by decide +kernel
theorem dL_law_212 : decode cL_law 212 = .ok (.iaload, 1) := by decide +kernel
theorem dL_law_213 : decode cL_law 213 = .ok (.invokevirtual 17, 3) := by decide +kernel
theorem dL_law_216 : decode cL_law 216 = .ok (.if_icmp .eq 712, 3) := by decide +kernel
theorem dL_law_219 : decode cL_law 219 = .ok (.iconst 0, 1) := by decide +kernel
theorem dL_law_220 : decode cL_law 220 = .ok (.ireturn, 1) := by decide +kernel
theorem dL_law_221 : decode cL_law 221 = .ok (.aload_n 1, 1) := by decide +kernel
theorem dL_law_222 : decode cL_law 222 = .ok (.aload_n 0, 1) := by decide +kernel
theorem dL_law_223 : decode cL_law 223 = .ok (.iload_n 3, 1) := by decide +kernel
theorem dL_law_224 : decode cL_law 224 = .ok (.iconst 1, 1) := by decide +kernel
theorem dL_law_225 : decode cL_law 225 = .ok (.iadd, 1) := by decide +kernel
theorem dL_law_226 : decode cL_law 226 = .ok (.iaload, 1) := by decide +kernel
theorem dL_law_227 : decode cL_law 227 = .ok (.invokevirtual 18, 3) := by decide +kernel
theorem dL_law_230 : decode cL_law 230 = .ok (.aload_n 2, 1) := by decide +kernel
theorem dL_law_231 : decode cL_law 231 = .ok (.aload_n 0, 1) := by decide +kernel
theorem dL_law_232 : decode cL_law 232 = .ok (.iload_n 3, 1) := by decide +kernel
theorem dL_law_233 : decode cL_law 233 = .ok (.iconst 1, 1) := by decide +kernel
theorem dL_law_234 : decode cL_law 234 = .ok (.iadd, 1) := by decide +kernel
theorem dL_law_235 : decode cL_law 235 = .ok (.iaload, 1) := by decide +kernel
theorem dL_law_236 : decode cL_law 236 = .ok (.invokevirtual 22, 3) := by decide +kernel
theorem dL_law_239 : decode cL_law 239 = .ok (.if_icmp .eq 689, 3) := by decide +kernel
theorem dL_law_242 : decode cL_law 242 = .ok (.iconst 0, 1) := by decide +kernel
theorem dL_law_243 : decode cL_law 243 = .ok (.ireturn, 1) := by decide +kernel
theorem dL_law_244 : decode cL_law 244 = .ok (.aload_n 1, 1) := by decide +kernel
theorem dL_law_245 : decode cL_law 245 = .ok (.invokevirtual 23, 3) := by decide +kernel
theorem dL_law_248 : decode cL_law 248 = .ok (.aload_n 2, 1) := by decide +kernel
theorem dL_law_249 : decode cL_law 249 = .ok (.invokevirtual 27, 3) := by decide +kernel
theorem dL_law_252 : decode cL_law 252 = .ok (.if_icmp .eq 676, 3) := by decide +kernel
theorem dL_law_255 : decode cL_law 255 = .ok (.iconst 0, 1) := by decide +kernel
theorem dL_law_256 : decode cL_law 256 = .ok (.ireturn, 1) := by decide +kernel
theorem dL_law_257 : decode cL_law 257 = .ok (.aload_n 1, 1) := by decide +kernel
theorem dL_law_258 : decode cL_law 258 = .ok (.aload_n 0, 1) := by decide +kernel
theorem dL_law_259 : decode cL_law 259 = .ok (.iload_n 3, 1) := by decide +kernel
theorem dL_law_260 : decode cL_law 260 = .ok (.iconst 1, 1) := by decide +kernel
theorem dL_law_261 : decode cL_law 261 = .ok (.iadd, 1) := by decide +kernel
theorem dL_law_262 : decode cL_law 262 = .ok (.iaload, 1) := by decide +kernel
theorem dL_law_263 : decode cL_law 263 = .ok (.aload_n 0, 1) := by decide +kernel
theorem dL_law_264 : decode cL_law 264 = .ok (.iload_n 3, 1) := by decide +kernel
theorem dL_law_265 : decode cL_law 265 = .ok (.iconst 2, 1) := by decide +kernel
theorem dL_law_266 : decode cL_law 266 = .ok (.iadd, 1) := by decide +kernel
theorem dL_law_267 : decode cL_law 267 = .ok (.iaload, 1) := by decide +kernel
theorem dL_law_268 : decode cL_law 268 = .ok (.invokevirtual 28, 3) := by decide +kernel
theorem dL_law_271 : decode cL_law 271 = .ok (.aload_n 2, 1) := by decide +kernel
theorem dL_law_272 : decode cL_law 272 = .ok (.aload_n 0, 1) := by decide +kernel
theorem dL_law_273 : decode cL_law 273 = .ok (.iload_n 3, 1) := by decide +kernel
theorem dL_law_274 : decode cL_law 274 = .ok (.iconst 1, 1) := by decide +kernel
theorem dL_law_275 : decode cL_law 275 = .ok (.iadd, 1) := by decide +kernel
theorem dL_law_276 : decode cL_law 276 = .ok (.iaload, 1) := by decide +kernel
theorem dL_law_277 : decode cL_law 277 = .ok (.aload_n 0, 1) := by decide +kernel
theorem dL_law_278 : decode cL_law 278 = .ok (.iload_n 3, 1) := by decide +kernel
theorem dL_law_279 : decode cL_law 279 = .ok (.iconst 2, 1) := by decide +kernel
theorem dL_law_280 : decode cL_law 280 = .ok (.iadd, 1) := by decide +kernel
theorem dL_law_281 : decode cL_law 281 = .ok (.iaload, 1) := by decide +kernel
theorem dL_law_282 : decode cL_law 282 = .ok (.invokevirtual 32, 3) := by decide +kernel
theorem dL_law_285 : decode cL_law 285 = .ok (.if_icmp .eq 643, 3) := by decide +kernel
theorem dL_law_288 : decode cL_law 288 = .ok (.iconst 0, 1) := by decide +kernel
theorem dL_law_289 : decode cL_law 289 = .ok (.ireturn, 1) := by decide +kernel
theorem dL_law_290 : decode cL_law 290 = .ok (.aload_n 1, 1) := by decide +kernel
theorem dL_law_291 : decode cL_law 291 = .ok (.aload_n 0, 1) := by decide +kernel
theorem dL_law_292 : decode cL_law 292 = .ok (.iload_n 3, 1) := by decide +kernel
theorem dL_law_293 : decode cL_law 293 = .ok (.iconst 1, 1) := by decide +kernel
theorem dL_law_294 : decode cL_law 294 = .ok (.iadd, 1) := by decide +kernel
theorem dL_law_295 : decode cL_law 295 = .ok (.iaload, 1) := by decide +kernel
theorem dL_law_296 : decode cL_law 296 = .ok (.invokevirtual 33, 3) := by decide +kernel
theorem dL_law_299 : decode cL_law 299 = .ok (.aload_n 2, 1) := by decide +kernel
theorem dL_law_300 : decode cL_law 300 = .ok (.aload_n 0, 1) := by decide +kernel
theorem dL_law_301 : decode cL_law 301 = .ok (.iload_n 3, 1) := by decide +kernel
theorem dL_law_302 : decode cL_law 302 = .ok (.iconst 1, 1) := by decide +kernel
theorem dL_law_303 : decode cL_law 303 = .ok (.iadd, 1) := by decide +kernel
theorem dL_law_304 : decode cL_law 304 = .ok (.iaload, 1) := by decide +kernel
theorem dL_law_305 : decode cL_law 305 = .ok (.invokevirtual 36, 3) := by decide +kernel
theorem dL_law_308 : decode cL_law 308 = .ok (.if_icmp .eq 620, 3) := by decide +kernel
theorem dL_law_311 : decode cL_law 311 = .ok (.iconst 0, 1) := by decide +kernel
theorem dL_law_312 : decode cL_law 312 = .ok (.ireturn, 1) := by decide +kernel
theorem dL_law_313 : decode cL_law 313 = .ok (.aload_n 1, 1) := by decide +kernel
theorem dL_law_314 : decode cL_law 314 = .ok (.invokevirtual 37, 3) := by decide +kernel
theorem dL_law_317 : decode cL_law 317 = .ok (.aload_n 2, 1) := by decide +kernel
theorem dL_law_318 : decode cL_law 318 = .ok (.invokevirtual 40, 3) := by decide +kernel
theorem dL_law_321 : decode cL_law 321 = .ok (.if_icmp .eq 607, 3) := by decide +kernel
theorem dL_law_324 : decode cL_law 324 = .ok (.iconst 0, 1) := by decide +kernel
theorem dL_law_325 : decode cL_law 325 = .ok (.ireturn, 1) := by decide +kernel
theorem dL_law_326 : decode cL_law 326 = .ok (.aload_n 1, 1) := by decide +kernel
theorem dL_law_327 : decode cL_law 327 = .ok (.invokevirtual 41, 3) := by decide +kernel
theorem dL_law_330 : decode cL_law 330 = .ok (.aload_n 2, 1) := by decide +kernel
theorem dL_law_331 : decode cL_law 331 = .ok (.invokevirtual 44, 3) := by decide +kernel
theorem dL_law_334 : decode cL_law 334 = .ok (.if_icmp .eq 594, 3) := by decide +kernel
theorem dL_law_337 : decode cL_law 337 = .ok (.iconst 0, 1) := by decide +kernel
theorem dL_law_338 : decode cL_law 338 = .ok (.ireturn, 1) := by decide +kernel
theorem dL_law_339 : decode cL_law 339 = .ok (.aload_n 1, 1) := by decide +kernel
theorem dL_law_340 : decode cL_law 340 = .ok (.invokevirtual 45, 3) := by decide +kernel
theorem dL_law_343 : decode cL_law 343 = .ok (.aload_n 2, 1) := by decide +kernel
theorem dL_law_344 : decode cL_law 344 = .ok (.invokevirtual 48, 3) := by decide +kernel
theorem dL_law_347 : decode cL_law 347 = .ok (.if_icmp .eq 581, 3) := by decide +kernel
theorem dL_law_350 : decode cL_law 350 = .ok (.iconst 0, 1) := by decide +kernel
theorem dL_law_351 : decode cL_law 351 = .ok (.ireturn, 1) := by decide +kernel
theorem dL_law_352 : decode cL_law 352 = .ok (.aload_n 1, 1) := by decide +kernel
theorem dL_law_353 : decode cL_law 353 = .ok (.invokevirtual 49, 3) := by decide +kernel
theorem dL_law_356 : decode cL_law 356 = .ok (.aload_n 2, 1) := by decide +kernel
theorem dL_law_357 : decode cL_law 357 = .ok (.invokevirtual 52, 3) := by decide +kernel
theorem dL_law_360 : decode cL_law 360 = .ok (.if_icmp .eq 568, 3) := by decide +kernel
theorem dL_law_363 : decode cL_law 363 = .ok (.iconst 0, 1) := by decide +kernel
theorem dL_law_364 : decode cL_law 364 = .ok (.ireturn, 1) := by decide +kernel
theorem dL_law_365 : decode cL_law 365 = .ok (.aload_n 1, 1) := by decide +kernel
theorem dL_law_366 : decode cL_law 366 = .ok (.invokevirtual 53, 3) := by decide +kernel
theorem dL_law_369 : decode cL_law 369 = .ok (.aload_n 2, 1) := by decide +kernel
theorem dL_law_370 : decode cL_law 370 = .ok (.invokevirtual 56, 3) := by decide +kernel
theorem dL_law_373 : decode cL_law 373 = .ok (.if_icmp .eq 555, 3) := by decide +kernel
theorem dL_law_376 : decode cL_law 376 = .ok (.iconst 0, 1) := by decide +kernel
theorem dL_law_377 : decode cL_law 377 = .ok (.ireturn, 1) := by decide +kernel
theorem dL_law_378 : decode cL_law 378 = .ok (.aload_n 1, 1) := by decide +kernel
theorem dL_law_379 : decode cL_law 379 = .ok (.invokevirtual 57, 3) := by decide +kernel
theorem dL_law_382 : decode cL_law 382 = .ok (.aload_n 2, 1) := by decide +kernel
theorem dL_law_383 : decode cL_law 383 = .ok (.invokevirtual 60, 3) := by decide +kernel
theorem dL_law_386 : decode cL_law 386 = .ok (.if_icmp .eq 542, 3) := by decide +kernel
theorem dL_law_389 : decode cL_law 389 = .ok (.iconst 0, 1) := by decide +kernel
theorem dL_law_390 : decode cL_law 390 = .ok (.ireturn, 1) := by decide +kernel
theorem dL_law_391 : decode cL_law 391 = .ok (.aload_n 1, 1) := by decide +kernel
theorem dL_law_392 : decode cL_law 392 = .ok (.invokevirtual 61, 3) := by decide +kernel
theorem dL_law_395 : decode cL_law 395 = .ok (.aload_n 2, 1) := by decide +kernel
theorem dL_law_396 : decode cL_law 396 = .ok (.invokevirtual 64, 3) := by decide +kernel
theorem dL_law_399 : decode cL_law 399 = .ok (.if_icmp .eq 529, 3) := by decide +kernel
theorem dL_law_402 : decode cL_law 402 = .ok (.iconst 0, 1) := by decide +kernel
theorem dL_law_403 : decode cL_law 403 = .ok (.ireturn, 1) := by decide +kernel
theorem dL_law_404 : decode cL_law 404 = .ok (.aload_n 1, 1) := by decide +kernel
theorem dL_law_405 : decode cL_law 405 = .ok (.aload_n 0, 1) := by decide +kernel
theorem dL_law_406 : decode cL_law 406 = .ok (.iload_n 3, 1) := by decide +kernel
theorem dL_law_407 : decode cL_law 407 = .ok (.iconst 1, 1) := by decide +kernel
theorem dL_law_408 : decode cL_law 408 = .ok (.iadd, 1) := by decide +kernel
theorem dL_law_409 : decode cL_law 409 = .ok (.iaload, 1) := by decide +kernel
theorem dL_law_410 : decode cL_law 410 = .ok (.aload_n 0, 1) := by decide +kernel
theorem dL_law_411 : decode cL_law 411 = .ok (.iload_n 3, 1) := by decide +kernel
theorem dL_law_412 : decode cL_law 412 = .ok (.iconst 2, 1) := by decide +kernel
theorem dL_law_413 : decode cL_law 413 = .ok (.iadd, 1) := by decide +kernel
theorem dL_law_414 : decode cL_law 414 = .ok (.iaload, 1) := by decide +kernel
theorem dL_law_415 : decode cL_law 415 = .ok (.invokevirtual 65, 3) := by decide +kernel
theorem dL_law_418 : decode cL_law 418 = .ok (.aload_n 2, 1) := by decide +kernel
theorem dL_law_419 : decode cL_law 419 = .ok (.aload_n 0, 1) := by decide +kernel
theorem dL_law_420 : decode cL_law 420 = .ok (.iload_n 3, 1) := by decide +kernel
theorem dL_law_421 : decode cL_law 421 = .ok (.iconst 1, 1) := by decide +kernel
theorem dL_law_422 : decode cL_law 422 = .ok (.iadd, 1) := by decide +kernel
theorem dL_law_423 : decode cL_law 423 = .ok (.iaload, 1) := by decide +kernel
theorem dL_law_424 : decode cL_law 424 = .ok (.aload_n 0, 1) := by decide +kernel
theorem dL_law_425 : decode cL_law 425 = .ok (.iload_n 3, 1) := by decide +kernel
theorem dL_law_426 : decode cL_law 426 = .ok (.iconst 2, 1) := by decide +kernel
theorem dL_law_427 : decode cL_law 427 = .ok (.iadd, 1) := by decide +kernel
theorem dL_law_428 : decode cL_law 428 = .ok (.iaload, 1) := by decide +kernel
theorem dL_law_429 : decode cL_law 429 = .ok (.invokevirtual 68, 3) := by decide +kernel
theorem dL_law_432 : decode cL_law 432 = .ok (.if_icmp .eq 496, 3) := by decide +kernel
theorem dL_law_435 : decode cL_law 435 = .ok (.iconst 0, 1) := by decide +kernel
theorem dL_law_436 : decode cL_law 436 = .ok (.ireturn, 1) := by decide +kernel
theorem dL_law_437 : decode cL_law 437 = .ok (.aload_n 1, 1) := by decide +kernel
theorem dL_law_438 : decode cL_law 438 = .ok (.invokevirtual 69, 3) := by decide +kernel
theorem dL_law_441 : decode cL_law 441 = .ok (.aload_n 2, 1) := by decide +kernel
theorem dL_law_442 : decode cL_law 442 = .ok (.invokevirtual 72, 3) := by decide +kernel
theorem dL_law_445 : decode cL_law 445 = .ok (.if_icmp .eq 483, 3) := by decide +kernel
theorem dL_law_448 : decode cL_law 448 = .ok (.iconst 0, 1) := by decide +kernel
theorem dL_law_449 : decode cL_law 449 = .ok (.ireturn, 1) := by decide +kernel
theorem dL_law_450 : decode cL_law 450 = .ok (.aload_n 1, 1) := by decide +kernel
theorem dL_law_451 : decode cL_law 451 = .ok (.invokevirtual 73, 3) := by decide +kernel
theorem dL_law_454 : decode cL_law 454 = .ok (.aload_n 2, 1) := by decide +kernel
theorem dL_law_455 : decode cL_law 455 = .ok (.invokevirtual 76, 3) := by decide +kernel
theorem dL_law_458 : decode cL_law 458 = .ok (.if_icmp .eq 470, 3) := by decide +kernel
theorem dL_law_461 : decode cL_law 461 = .ok (.iconst 0, 1) := by decide +kernel
theorem dL_law_462 : decode cL_law 462 = .ok (.ireturn, 1) := by decide +kernel
theorem dL_law_463 : decode cL_law 463 = .ok (.aload_n 1, 1) := by decide +kernel
theorem dL_law_464 : decode cL_law 464 = .ok (.aload_n 0, 1) := by decide +kernel
theorem dL_law_465 : decode cL_law 465 = .ok (.iload_n 3, 1) := by decide +kernel
theorem dL_law_466 : decode cL_law 466 = .ok (.iconst 1, 1) := by decide +kernel
theorem dL_law_467 : decode cL_law 467 = .ok (.iadd, 1) := by decide +kernel
theorem dL_law_468 : decode cL_law 468 = .ok (.iaload, 1) := by decide +kernel
theorem dL_law_469 : decode cL_law 469 = .ok (.invokevirtual 77, 3) := by decide +kernel
theorem dL_law_472 : decode cL_law 472 = .ok (.aload_n 2, 1) := by decide +kernel
theorem dL_law_473 : decode cL_law 473 = .ok (.aload_n 0, 1) := by decide +kernel
theorem dL_law_474 : decode cL_law 474 = .ok (.iload_n 3, 1) := by decide +kernel
theorem dL_law_475 : decode cL_law 475 = .ok (.iconst 1, 1) := by decide +kernel
theorem dL_law_476 : decode cL_law 476 = .ok (.iadd, 1) := by decide +kernel
theorem dL_law_477 : decode cL_law 477 = .ok (.iaload, 1) := by decide +kernel
theorem dL_law_478 : decode cL_law 478 = .ok (.invokevirtual 80, 3) := by decide +kernel
theorem dL_law_481 : decode cL_law 481 = .ok (.if_icmp .eq 447, 3) := by decide +kernel
theorem dL_law_484 : decode cL_law 484 = .ok (.iconst 0, 1) := by decide +kernel
theorem dL_law_485 : decode cL_law 485 = .ok (.ireturn, 1) := by decide +kernel
theorem dL_law_486 : decode cL_law 486 = .ok (.aload_n 1, 1) := by decide +kernel
theorem dL_law_487 : decode cL_law 487 = .ok (.aload_n 0, 1) := by decide +kernel
theorem dL_law_488 : decode cL_law 488 = .ok (.iload_n 3, 1) := by decide +kernel
theorem dL_law_489 : decode cL_law 489 = .ok (.iconst 1, 1) := by decide +kernel
theorem dL_law_490 : decode cL_law 490 = .ok (.iadd, 1) := by decide +kernel
theorem dL_law_491 : decode cL_law 491 = .ok (.iaload, 1) := by decide +kernel
theorem dL_law_492 : decode cL_law 492 = .ok (.invokevirtual 81, 3) := by decide +kernel
theorem dL_law_495 : decode cL_law 495 = .ok (.aload_n 2, 1) := by decide +kernel
theorem dL_law_496 : decode cL_law 496 = .ok (.aload_n 0, 1) := by decide +kernel
theorem dL_law_497 : decode cL_law 497 = .ok (.iload_n 3, 1) := by decide +kernel
theorem dL_law_498 : decode cL_law 498 = .ok (.iconst 1, 1) := by decide +kernel
theorem dL_law_499 : decode cL_law 499 = .ok (.iadd, 1) := by decide +kernel
theorem dL_law_500 : decode cL_law 500 = .ok (.iaload, 1) := by decide +kernel
theorem dL_law_501 : decode cL_law 501 = .ok (.invokevirtual 84, 3) := by decide +kernel
theorem dL_law_504 : decode cL_law 504 = .ok (.if_icmp .eq 424, 3) := by decide +kernel
theorem dL_law_507 : decode cL_law 507 = .ok (.iconst 0, 1) := by decide +kernel
theorem dL_law_508 : decode cL_law 508 = .ok (.ireturn, 1) := by decide +kernel
theorem dL_law_509 : decode cL_law 509 = .ok (.aload_n 1, 1) := by decide +kernel
theorem dL_law_510 : decode cL_law 510 = .ok (.aload_n 0, 1) := by decide +kernel
theorem dL_law_511 : decode cL_law 511 = .ok (.iload_n 3, 1) := by decide +kernel
theorem dL_law_512 : decode cL_law 512 = .ok (.iconst 1, 1) := by decide +kernel
theorem dL_law_513 : decode cL_law 513 = .ok (.iadd, 1) := by decide +kernel
theorem dL_law_514 : decode cL_law 514 = .ok (.iaload, 1) := by decide +kernel
theorem dL_law_515 : decode cL_law 515 = .ok (.aload_n 0, 1) := by decide +kernel
theorem dL_law_516 : decode cL_law 516 = .ok (.iload_n 3, 1) := by decide +kernel
theorem dL_law_517 : decode cL_law 517 = .ok (.iconst 2, 1) := by decide +kernel
theorem dL_law_518 : decode cL_law 518 = .ok (.iadd, 1) := by decide +kernel
theorem dL_law_519 : decode cL_law 519 = .ok (.iaload, 1) := by decide +kernel
theorem dL_law_520 : decode cL_law 520 = .ok (.invokevirtual 85, 3) := by decide +kernel
theorem dL_law_523 : decode cL_law 523 = .ok (.aload_n 2, 1) := by decide +kernel
theorem dL_law_524 : decode cL_law 524 = .ok (.aload_n 0, 1) := by decide +kernel
theorem dL_law_525 : decode cL_law 525 = .ok (.iload_n 3, 1) := by decide +kernel
theorem dL_law_526 : decode cL_law 526 = .ok (.iconst 1, 1) := by decide +kernel
theorem dL_law_527 : decode cL_law 527 = .ok (.iadd, 1) := by decide +kernel
theorem dL_law_528 : decode cL_law 528 = .ok (.iaload, 1) := by decide +kernel
theorem dL_law_529 : decode cL_law 529 = .ok (.aload_n 0, 1) := by decide +kernel
theorem dL_law_530 : decode cL_law 530 = .ok (.iload_n 3, 1) := by decide +kernel
theorem dL_law_531 : decode cL_law 531 = .ok (.iconst 2, 1) := by decide +kernel
theorem dL_law_532 : decode cL_law 532 = .ok (.iadd, 1) := by decide +kernel
theorem dL_law_533 : decode cL_law 533 = .ok (.iaload, 1) := by decide +kernel
theorem dL_law_534 : decode cL_law 534 = .ok (.invokevirtual 88, 3) := by decide +kernel
theorem dL_law_537 : decode cL_law 537 = .ok (.if_icmp .eq 391, 3) := by decide +kernel
theorem dL_law_540 : decode cL_law 540 = .ok (.iconst 0, 1) := by decide +kernel
theorem dL_law_541 : decode cL_law 541 = .ok (.ireturn, 1) := by decide +kernel
theorem dL_law_542 : decode cL_law 542 = .ok (.aload_n 1, 1) := by decide +kernel
theorem dL_law_543 : decode cL_law 543 = .ok (.aload_n 0, 1) := by decide +kernel
theorem dL_law_544 : decode cL_law 544 = .ok (.iload_n 3, 1) := by decide +kernel
theorem dL_law_545 : decode cL_law 545 = .ok (.iconst 1, 1) := by decide +kernel
theorem dL_law_546 : decode cL_law 546 = .ok (.iadd, 1) := by decide +kernel
theorem dL_law_547 : decode cL_law 547 = .ok (.iaload, 1) := by decide +kernel
theorem dL_law_548 : decode cL_law 548 = .ok (.aload_n 0, 1) := by decide +kernel
theorem dL_law_549 : decode cL_law 549 = .ok (.iload_n 3, 1) := by decide +kernel
theorem dL_law_550 : decode cL_law 550 = .ok (.iconst 2, 1) := by decide +kernel
theorem dL_law_551 : decode cL_law 551 = .ok (.iadd, 1) := by decide +kernel
theorem dL_law_552 : decode cL_law 552 = .ok (.iaload, 1) := by decide +kernel
theorem dL_law_553 : decode cL_law 553 = .ok (.invokevirtual 89, 3) := by decide +kernel
theorem dL_law_556 : decode cL_law 556 = .ok (.aload_n 2, 1) := by decide +kernel
theorem dL_law_557 : decode cL_law 557 = .ok (.aload_n 0, 1) := by decide +kernel
theorem dL_law_558 : decode cL_law 558 = .ok (.iload_n 3, 1) := by decide +kernel
theorem dL_law_559 : decode cL_law 559 = .ok (.iconst 1, 1) := by decide +kernel
theorem dL_law_560 : decode cL_law 560 = .ok (.iadd, 1) := by decide +kernel
theorem dL_law_561 : decode cL_law 561 = .ok (.iaload, 1) := by decide +kernel
theorem dL_law_562 : decode cL_law 562 = .ok (.aload_n 0, 1) := by decide +kernel
theorem dL_law_563 : decode cL_law 563 = .ok (.iload_n 3, 1) := by decide +kernel
theorem dL_law_564 : decode cL_law 564 = .ok (.iconst 2, 1) := by decide +kernel
theorem dL_law_565 : decode cL_law 565 = .ok (.iadd, 1) := by decide +kernel
theorem dL_law_566 : decode cL_law 566 = .ok (.iaload, 1) := by decide +kernel
theorem dL_law_567 : decode cL_law 567 = .ok (.invokevirtual 92, 3) := by decide +kernel
theorem dL_law_570 : decode cL_law 570 = .ok (.if_icmp .eq 358, 3) := by decide +kernel
theorem dL_law_573 : decode cL_law 573 = .ok (.iconst 0, 1) := by decide +kernel
theorem dL_law_574 : decode cL_law 574 = .ok (.ireturn, 1) := by decide +kernel
theorem dL_law_575 : decode cL_law 575 = .ok (.aload_n 1, 1) := by decide +kernel
theorem dL_law_576 : decode cL_law 576 = .ok (.aload_n 0, 1) := by decide +kernel
theorem dL_law_577 : decode cL_law 577 = .ok (.iload_n 3, 1) := by decide +kernel
theorem dL_law_578 : decode cL_law 578 = .ok (.iconst 1, 1) := by decide +kernel
theorem dL_law_579 : decode cL_law 579 = .ok (.iadd, 1) := by decide +kernel
theorem dL_law_580 : decode cL_law 580 = .ok (.iaload, 1) := by decide +kernel
theorem dL_law_581 : decode cL_law 581 = .ok (.invokevirtual 93, 3) := by decide +kernel
theorem dL_law_584 : decode cL_law 584 = .ok (.aload_n 2, 1) := by decide +kernel
theorem dL_law_585 : decode cL_law 585 = .ok (.aload_n 0, 1) := by decide +kernel
theorem dL_law_586 : decode cL_law 586 = .ok (.iload_n 3, 1) := by decide +kernel
theorem dL_law_587 : decode cL_law 587 = .ok (.iconst 1, 1) := by decide +kernel
theorem dL_law_588 : decode cL_law 588 = .ok (.iadd, 1) := by decide +kernel
theorem dL_law_589 : decode cL_law 589 = .ok (.iaload, 1) := by decide +kernel
theorem dL_law_590 : decode cL_law 590 = .ok (.invokevirtual 96, 3) := by decide +kernel
theorem dL_law_593 : decode cL_law 593 = .ok (.if_icmp .eq 335, 3) := by decide +kernel
theorem dL_law_596 : decode cL_law 596 = .ok (.iconst 0, 1) := by decide +kernel
theorem dL_law_597 : decode cL_law 597 = .ok (.ireturn, 1) := by decide +kernel
theorem dL_law_598 : decode cL_law 598 = .ok (.aload_n 1, 1) := by decide +kernel
theorem dL_law_599 : decode cL_law 599 = .ok (.aload_n 0, 1) := by decide +kernel
theorem dL_law_600 : decode cL_law 600 = .ok (.iload_n 3, 1) := by decide +kernel
theorem dL_law_601 : decode cL_law 601 = .ok (.iconst 1, 1) := by decide +kernel
theorem dL_law_602 : decode cL_law 602 = .ok (.iadd, 1) := by decide +kernel
theorem dL_law_603 : decode cL_law 603 = .ok (.iaload, 1) := by decide +kernel
theorem dL_law_604 : decode cL_law 604 = .ok (.invokevirtual 97, 3) := by decide +kernel
theorem dL_law_607 : decode cL_law 607 = .ok (.aload_n 2, 1) := by decide +kernel
theorem dL_law_608 : decode cL_law 608 = .ok (.aload_n 0, 1) := by decide +kernel
theorem dL_law_609 : decode cL_law 609 = .ok (.iload_n 3, 1) := by decide +kernel
theorem dL_law_610 : decode cL_law 610 = .ok (.iconst 1, 1) := by decide +kernel
theorem dL_law_611 : decode cL_law 611 = .ok (.iadd, 1) := by decide +kernel
theorem dL_law_612 : decode cL_law 612 = .ok (.iaload, 1) := by decide +kernel
theorem dL_law_613 : decode cL_law 613 = .ok (.invokevirtual 100, 3) := by decide +kernel
theorem dL_law_616 : decode cL_law 616 = .ok (.if_icmp .eq 312, 3) := by decide +kernel
theorem dL_law_619 : decode cL_law 619 = .ok (.iconst 0, 1) := by decide +kernel
theorem dL_law_620 : decode cL_law 620 = .ok (.ireturn, 1) := by decide +kernel
theorem dL_law_621 : decode cL_law 621 = .ok (.aload_n 1, 1) := by decide +kernel
theorem dL_law_622 : decode cL_law 622 = .ok (.invokevirtual 101, 3) := by decide +kernel
theorem dL_law_625 : decode cL_law 625 = .ok (.aload_n 2, 1) := by decide +kernel
theorem dL_law_626 : decode cL_law 626 = .ok (.invokevirtual 104, 3) := by decide +kernel
theorem dL_law_629 : decode cL_law 629 = .ok (.if_icmp .eq 299, 3) := by decide +kernel
theorem dL_law_632 : decode cL_law 632 = .ok (.iconst 0, 1) := by decide +kernel
theorem dL_law_633 : decode cL_law 633 = .ok (.ireturn, 1) := by decide +kernel
theorem dL_law_634 : decode cL_law 634 = .ok (.aload_n 1, 1) := by decide +kernel
theorem dL_law_635 : decode cL_law 635 = .ok (.invokevirtual 105, 3) := by decide +kernel
theorem dL_law_638 : decode cL_law 638 = .ok (.aload_n 2, 1) := by decide +kernel
theorem dL_law_639 : decode cL_law 639 = .ok (.invokevirtual 108, 3) := by decide +kernel
theorem dL_law_642 : decode cL_law 642 = .ok (.if_icmp .eq 286, 3) := by decide +kernel
theorem dL_law_645 : decode cL_law 645 = .ok (.iconst 0, 1) := by decide +kernel
theorem dL_law_646 : decode cL_law 646 = .ok (.ireturn, 1) := by decide +kernel
theorem dL_law_647 : decode cL_law 647 = .ok (.aload_n 1, 1) := by decide +kernel
theorem dL_law_648 : decode cL_law 648 = .ok (.aload_n 0, 1) := by decide +kernel
theorem dL_law_649 : decode cL_law 649 = .ok (.iload_n 3, 1) := by decide +kernel
theorem dL_law_650 : decode cL_law 650 = .ok (.iconst 1, 1) := by decide +kernel
theorem dL_law_651 : decode cL_law 651 = .ok (.iadd, 1) := by decide +kernel
theorem dL_law_652 : decode cL_law 652 = .ok (.iaload, 1) := by decide +kernel
theorem dL_law_653 : decode cL_law 653 = .ok (.aload_n 0, 1) := by decide +kernel
theorem dL_law_654 : decode cL_law 654 = .ok (.iload_n 3, 1) := by decide +kernel
theorem dL_law_655 : decode cL_law 655 = .ok (.iconst 2, 1) := by decide +kernel
theorem dL_law_656 : decode cL_law 656 = .ok (.iadd, 1) := by decide +kernel
theorem dL_law_657 : decode cL_law 657 = .ok (.iaload, 1) := by decide +kernel
theorem dL_law_658 : decode cL_law 658 = .ok (.aload_n 0, 1) := by decide +kernel
theorem dL_law_659 : decode cL_law 659 = .ok (.iload_n 3, 1) := by decide +kernel
theorem dL_law_660 : decode cL_law 660 = .ok (.iconst 3, 1) := by decide +kernel
theorem dL_law_661 : decode cL_law 661 = .ok (.iadd, 1) := by decide +kernel
theorem dL_law_662 : decode cL_law 662 = .ok (.iaload, 1) := by decide +kernel
theorem dL_law_663 : decode cL_law 663 = .ok (.aload_n 0, 1) := by decide +kernel
theorem dL_law_664 : decode cL_law 664 = .ok (.iload_n 3, 1) := by decide +kernel
theorem dL_law_665 : decode cL_law 665 = .ok (.iconst 4, 1) := by decide +kernel
theorem dL_law_666 : decode cL_law 666 = .ok (.iadd, 1) := by decide +kernel
theorem dL_law_667 : decode cL_law 667 = .ok (.iaload, 1) := by decide +kernel
theorem dL_law_668 : decode cL_law 668 = .ok (.invokevirtual 109, 3) := by decide +kernel
theorem dL_law_671 : decode cL_law 671 = .ok (.aload_n 2, 1) := by decide +kernel
theorem dL_law_672 : decode cL_law 672 = .ok (.aload_n 0, 1) := by decide +kernel
theorem dL_law_673 : decode cL_law 673 = .ok (.iload_n 3, 1) := by decide +kernel
theorem dL_law_674 : decode cL_law 674 = .ok (.iconst 1, 1) := by decide +kernel
theorem dL_law_675 : decode cL_law 675 = .ok (.iadd, 1) := by decide +kernel
theorem dL_law_676 : decode cL_law 676 = .ok (.iaload, 1) := by decide +kernel
theorem dL_law_677 : decode cL_law 677 = .ok (.aload_n 0, 1) := by decide +kernel
theorem dL_law_678 : decode cL_law 678 = .ok (.iload_n 3, 1) := by decide +kernel
theorem dL_law_679 : decode cL_law 679 = .ok (.iconst 2, 1) := by decide +kernel
theorem dL_law_680 : decode cL_law 680 = .ok (.iadd, 1) := by decide +kernel
theorem dL_law_681 : decode cL_law 681 = .ok (.iaload, 1) := by decide +kernel
theorem dL_law_682 : decode cL_law 682 = .ok (.aload_n 0, 1) := by decide +kernel
theorem dL_law_683 : decode cL_law 683 = .ok (.iload_n 3, 1) := by decide +kernel
theorem dL_law_684 : decode cL_law 684 = .ok (.iconst 3, 1) := by decide +kernel
theorem dL_law_685 : decode cL_law 685 = .ok (.iadd, 1) := by decide +kernel
theorem dL_law_686 : decode cL_law 686 = .ok (.iaload, 1) := by decide +kernel
theorem dL_law_687 : decode cL_law 687 = .ok (.aload_n 0, 1) := by decide +kernel
theorem dL_law_688 : decode cL_law 688 = .ok (.iload_n 3, 1) := by decide +kernel
theorem dL_law_689 : decode cL_law 689 = .ok (.iconst 4, 1) := by decide +kernel
theorem dL_law_690 : decode cL_law 690 = .ok (.iadd, 1) := by decide +kernel
theorem dL_law_691 : decode cL_law 691 = .ok (.iaload, 1) := by decide +kernel
theorem dL_law_692 : decode cL_law 692 = .ok (.invokevirtual 112, 3) := by decide +kernel
theorem dL_law_695 : decode cL_law 695 = .ok (.if_icmp .eq 233, 3) := by decide +kernel
theorem dL_law_698 : decode cL_law 698 = .ok (.iconst 0, 1) := by decide +kernel
theorem dL_law_699 : decode cL_law 699 = .ok (.ireturn, 1) := by decide +kernel
theorem dL_law_700 : decode cL_law 700 = .ok (.aload_n 1, 1) := by decide +kernel
theorem dL_law_701 : decode cL_law 701 = .ok (.aload_n 0, 1) := by decide +kernel
theorem dL_law_702 : decode cL_law 702 = .ok (.iload_n 3, 1) := by decide +kernel
theorem dL_law_703 : decode cL_law 703 = .ok (.iconst 1, 1) := by decide +kernel
theorem dL_law_704 : decode cL_law 704 = .ok (.iadd, 1) := by decide +kernel
theorem dL_law_705 : decode cL_law 705 = .ok (.iaload, 1) := by decide +kernel
theorem dL_law_706 : decode cL_law 706 = .ok (.aload_n 0, 1) := by decide +kernel
theorem dL_law_707 : decode cL_law 707 = .ok (.iload_n 3, 1) := by decide +kernel
theorem dL_law_708 : decode cL_law 708 = .ok (.iconst 2, 1) := by decide +kernel
theorem dL_law_709 : decode cL_law 709 = .ok (.iadd, 1) := by decide +kernel
theorem dL_law_710 : decode cL_law 710 = .ok (.iaload, 1) := by decide +kernel
theorem dL_law_711 : decode cL_law 711 = .ok (.aload_n 0, 1) := by decide +kernel
theorem dL_law_712 : decode cL_law 712 = .ok (.iload_n 3, 1) := by decide +kernel
theorem dL_law_713 : decode cL_law 713 = .ok (.iconst 3, 1) := by decide +kernel
theorem dL_law_714 : decode cL_law 714 = .ok (.iadd, 1) := by decide +kernel
theorem dL_law_715 : decode cL_law 715 = .ok (.iaload, 1) := by decide +kernel
theorem dL_law_716 : decode cL_law 716 = .ok (.aload_n 0, 1) := by decide +kernel
theorem dL_law_717 : decode cL_law 717 = .ok (.iload_n 3, 1) := by decide +kernel
theorem dL_law_718 : decode cL_law 718 = .ok (.iconst 4, 1) := by decide +kernel
theorem dL_law_719 : decode cL_law 719 = .ok (.iadd, 1) := by decide +kernel
theorem dL_law_720 : decode cL_law 720 = .ok (.iaload, 1) := by decide +kernel
theorem dL_law_721 : decode cL_law 721 = .ok (.invokevirtual 113, 3) := by decide +kernel
theorem dL_law_724 : decode cL_law 724 = .ok (.aload_n 2, 1) := by decide +kernel
theorem dL_law_725 : decode cL_law 725 = .ok (.aload_n 0, 1) := by decide +kernel
theorem dL_law_726 : decode cL_law 726 = .ok (.iload_n 3, 1) := by decide +kernel
theorem dL_law_727 : decode cL_law 727 = .ok (.iconst 1, 1) := by decide +kernel
theorem dL_law_728 : decode cL_law 728 = .ok (.iadd, 1) := by decide +kernel
theorem dL_law_729 : decode cL_law 729 = .ok (.iaload, 1) := by decide +kernel
theorem dL_law_730 : decode cL_law 730 = .ok (.aload_n 0, 1) := by decide +kernel
theorem dL_law_731 : decode cL_law 731 = .ok (.iload_n 3, 1) := by decide +kernel
theorem dL_law_732 : decode cL_law 732 = .ok (.iconst 2, 1) := by decide +kernel
theorem dL_law_733 : decode cL_law 733 = .ok (.iadd, 1) := by decide +kernel
theorem dL_law_734 : decode cL_law 734 = .ok (.iaload, 1) := by decide +kernel
theorem dL_law_735 : decode cL_law 735 = .ok (.aload_n 0, 1) := by decide +kernel
theorem dL_law_736 : decode cL_law 736 = .ok (.iload_n 3, 1) := by decide +kernel
theorem dL_law_737 : decode cL_law 737 = .ok (.iconst 3, 1) := by decide +kernel
theorem dL_law_738 : decode cL_law 738 = .ok (.iadd, 1) := by decide +kernel
theorem dL_law_739 : decode cL_law 739 = .ok (.iaload, 1) := by decide +kernel
theorem dL_law_740 : decode cL_law 740 = .ok (.aload_n 0, 1) := by decide +kernel
theorem dL_law_741 : decode cL_law 741 = .ok (.iload_n 3, 1) := by decide +kernel
theorem dL_law_742 : decode cL_law 742 = .ok (.iconst 4, 1) := by decide +kernel
theorem dL_law_743 : decode cL_law 743 = .ok (.iadd, 1) := by decide +kernel
theorem dL_law_744 : decode cL_law 744 = .ok (.iaload, 1) := by decide +kernel
theorem dL_law_745 : decode cL_law 745 = .ok (.invokevirtual 116, 3) := by decide +kernel
theorem dL_law_748 : decode cL_law 748 = .ok (.if_icmp .eq 180, 3) := by decide +kernel
theorem dL_law_751 : decode cL_law 751 = .ok (.iconst 0, 1) := by decide +kernel
theorem dL_law_752 : decode cL_law 752 = .ok (.ireturn, 1) := by decide +kernel
theorem dL_law_753 : decode cL_law 753 = .ok (.aload_n 1, 1) := by decide +kernel
theorem dL_law_754 : decode cL_law 754 = .ok (.aload_n 0, 1) := by decide +kernel
theorem dL_law_755 : decode cL_law 755 = .ok (.iload_n 3, 1) := by decide +kernel
theorem dL_law_756 : decode cL_law 756 = .ok (.iconst 1, 1) := by decide +kernel
theorem dL_law_757 : decode cL_law 757 = .ok (.iadd, 1) := by decide +kernel
theorem dL_law_758 : decode cL_law 758 = .ok (.iaload, 1) := by decide +kernel
theorem dL_law_759 : decode cL_law 759 = .ok (.aload_n 0, 1) := by decide +kernel
theorem dL_law_760 : decode cL_law 760 = .ok (.iload_n 3, 1) := by decide +kernel
theorem dL_law_761 : decode cL_law 761 = .ok (.iconst 2, 1) := by decide +kernel
theorem dL_law_762 : decode cL_law 762 = .ok (.iadd, 1) := by decide +kernel
theorem dL_law_763 : decode cL_law 763 = .ok (.iaload, 1) := by decide +kernel
theorem dL_law_764 : decode cL_law 764 = .ok (.aload_n 0, 1) := by decide +kernel
theorem dL_law_765 : decode cL_law 765 = .ok (.iload_n 3, 1) := by decide +kernel
theorem dL_law_766 : decode cL_law 766 = .ok (.iconst 3, 1) := by decide +kernel
theorem dL_law_767 : decode cL_law 767 = .ok (.iadd, 1) := by decide +kernel
theorem dL_law_768 : decode cL_law 768 = .ok (.iaload, 1) := by decide +kernel
theorem dL_law_769 : decode cL_law 769 = .ok (.aload_n 0, 1) := by decide +kernel
theorem dL_law_770 : decode cL_law 770 = .ok (.iload_n 3, 1) := by decide +kernel
theorem dL_law_771 : decode cL_law 771 = .ok (.iconst 4, 1) := by decide +kernel
theorem dL_law_772 : decode cL_law 772 = .ok (.iadd, 1) := by decide +kernel
theorem dL_law_773 : decode cL_law 773 = .ok (.iaload, 1) := by decide +kernel
theorem dL_law_774 : decode cL_law 774 = .ok (.invokevirtual 117, 3) := by decide +kernel
theorem dL_law_777 : decode cL_law 777 = .ok (.aload_n 2, 1) := by decide +kernel
theorem dL_law_778 : decode cL_law 778 = .ok (.aload_n 0, 1) := by decide +kernel
theorem dL_law_779 : decode cL_law 779 = .ok (.iload_n 3, 1) := by decide +kernel
theorem dL_law_780 : decode cL_law 780 = .ok (.iconst 1, 1) := by decide +kernel
theorem dL_law_781 : decode cL_law 781 = .ok (.iadd, 1) := by decide +kernel
theorem dL_law_782 : decode cL_law 782 = .ok (.iaload, 1) := by decide +kernel
theorem dL_law_783 : decode cL_law 783 = .ok (.aload_n 0, 1) := by decide +kernel
theorem dL_law_784 : decode cL_law 784 = .ok (.iload_n 3, 1) := by decide +kernel
theorem dL_law_785 : decode cL_law 785 = .ok (.iconst 2, 1) := by decide +kernel
theorem dL_law_786 : decode cL_law 786 = .ok (.iadd, 1) := by decide +kernel
theorem dL_law_787 : decode cL_law 787 = .ok (.iaload, 1) := by decide +kernel
theorem dL_law_788 : decode cL_law 788 = .ok (.aload_n 0, 1) := by decide +kernel
theorem dL_law_789 : decode cL_law 789 = .ok (.iload_n 3, 1) := by decide +kernel
theorem dL_law_790 : decode cL_law 790 = .ok (.iconst 3, 1) := by decide +kernel
theorem dL_law_791 : decode cL_law 791 = .ok (.iadd, 1) := by decide +kernel
theorem dL_law_792 : decode cL_law 792 = .ok (.iaload, 1) := by decide +kernel
theorem dL_law_793 : decode cL_law 793 = .ok (.aload_n 0, 1) := by decide +kernel
theorem dL_law_794 : decode cL_law 794 = .ok (.iload_n 3, 1) := by decide +kernel
theorem dL_law_795 : decode cL_law 795 = .ok (.iconst 4, 1) := by decide +kernel
theorem dL_law_796 : decode cL_law 796 = .ok (.iadd, 1) := by decide +kernel
theorem dL_law_797 : decode cL_law 797 = .ok (.iaload, 1) := by decide +kernel
theorem dL_law_798 : decode cL_law 798 = .ok (.invokevirtual 120, 3) := by decide +kernel
theorem dL_law_801 : decode cL_law 801 = .ok (.if_icmp .eq 127, 3) := by decide +kernel
theorem dL_law_804 : decode cL_law 804 = .ok (.iconst 0, 1) := by decide +kernel
theorem dL_law_805 : decode cL_law 805 = .ok (.ireturn, 1) := by decide +kernel
theorem dL_law_806 : decode cL_law 806 = .ok (.aload_n 1, 1) := by decide +kernel
theorem dL_law_807 : decode cL_law 807 = .ok (.aload_n 0, 1) := by decide +kernel
theorem dL_law_808 : decode cL_law 808 = .ok (.iload_n 3, 1) := by decide +kernel
theorem dL_law_809 : decode cL_law 809 = .ok (.iconst 1, 1) := by decide +kernel
theorem dL_law_810 : decode cL_law 810 = .ok (.iadd, 1) := by decide +kernel
theorem dL_law_811 : decode cL_law 811 = .ok (.iaload, 1) := by decide +kernel
theorem dL_law_812 : decode cL_law 812 = .ok (.aload_n 0, 1) := by decide +kernel
theorem dL_law_813 : decode cL_law 813 = .ok (.iload_n 3, 1) := by decide +kernel
theorem dL_law_814 : decode cL_law 814 = .ok (.iconst 2, 1) := by decide +kernel
theorem dL_law_815 : decode cL_law 815 = .ok (.iadd, 1) := by decide +kernel
theorem dL_law_816 : decode cL_law 816 = .ok (.iaload, 1) := by decide +kernel
theorem dL_law_817 : decode cL_law 817 = .ok (.invokevirtual 121, 3) := by decide +kernel
theorem dL_law_820 : decode cL_law 820 = .ok (.aload_n 2, 1) := by decide +kernel
theorem dL_law_821 : decode cL_law 821 = .ok (.aload_n 0, 1) := by decide +kernel
theorem dL_law_822 : decode cL_law 822 = .ok (.iload_n 3, 1) := by decide +kernel
theorem dL_law_823 : decode cL_law 823 = .ok (.iconst 1, 1) := by decide +kernel
theorem dL_law_824 : decode cL_law 824 = .ok (.iadd, 1) := by decide +kernel
theorem dL_law_825 : decode cL_law 825 = .ok (.iaload, 1) := by decide +kernel
theorem dL_law_826 : decode cL_law 826 = .ok (.aload_n 0, 1) := by decide +kernel
theorem dL_law_827 : decode cL_law 827 = .ok (.iload_n 3, 1) := by decide +kernel
theorem dL_law_828 : decode cL_law 828 = .ok (.iconst 2, 1) := by decide +kernel
theorem dL_law_829 : decode cL_law 829 = .ok (.iadd, 1) := by decide +kernel
theorem dL_law_830 : decode cL_law 830 = .ok (.iaload, 1) := by decide +kernel
theorem dL_law_831 : decode cL_law 831 = .ok (.invokevirtual 124, 3) := by decide +kernel
theorem dL_law_834 : decode cL_law 834 = .ok (.if_icmp .eq 94, 3) := by decide +kernel
theorem dL_law_837 : decode cL_law 837 = .ok (.iconst 0, 1) := by decide +kernel
theorem dL_law_838 : decode cL_law 838 = .ok (.ireturn, 1) := by decide +kernel
theorem dL_law_839 : decode cL_law 839 = .ok (.aload_n 1, 1) := by decide +kernel
theorem dL_law_840 : decode cL_law 840 = .ok (.aload_n 0, 1) := by decide +kernel
theorem dL_law_841 : decode cL_law 841 = .ok (.iload_n 3, 1) := by decide +kernel
theorem dL_law_842 : decode cL_law 842 = .ok (.iconst 1, 1) := by decide +kernel
theorem dL_law_843 : decode cL_law 843 = .ok (.iadd, 1) := by decide +kernel
theorem dL_law_844 : decode cL_law 844 = .ok (.iaload, 1) := by decide +kernel
theorem dL_law_845 : decode cL_law 845 = .ok (.invokevirtual 125, 3) := by decide +kernel
theorem dL_law_848 : decode cL_law 848 = .ok (.aload_n 2, 1) := by decide +kernel
theorem dL_law_849 : decode cL_law 849 = .ok (.aload_n 0, 1) := by decide +kernel
theorem dL_law_850 : decode cL_law 850 = .ok (.iload_n 3, 1) := by decide +kernel
theorem dL_law_851 : decode cL_law 851 = .ok (.iconst 1, 1) := by decide +kernel
theorem dL_law_852 : decode cL_law 852 = .ok (.iadd, 1) := by decide +kernel
theorem dL_law_853 : decode cL_law 853 = .ok (.iaload, 1) := by decide +kernel
theorem dL_law_854 : decode cL_law 854 = .ok (.invokevirtual 128, 3) := by decide +kernel
theorem dL_law_857 : decode cL_law 857 = .ok (.if_icmp .eq 71, 3) := by decide +kernel
theorem dL_law_860 : decode cL_law 860 = .ok (.iconst 0, 1) := by decide +kernel
theorem dL_law_861 : decode cL_law 861 = .ok (.ireturn, 1) := by decide +kernel
theorem dL_law_862 : decode cL_law 862 = .ok (.aload_n 1, 1) := by decide +kernel
theorem dL_law_863 : decode cL_law 863 = .ok (.aload_n 0, 1) := by decide +kernel
theorem dL_law_864 : decode cL_law 864 = .ok (.iload_n 3, 1) := by decide +kernel
theorem dL_law_865 : decode cL_law 865 = .ok (.iconst 1, 1) := by decide +kernel
theorem dL_law_866 : decode cL_law 866 = .ok (.iadd, 1) := by decide +kernel
theorem dL_law_867 : decode cL_law 867 = .ok (.iaload, 1) := by decide +kernel
theorem dL_law_868 : decode cL_law 868 = .ok (.invokevirtual 129, 3) := by decide +kernel
theorem dL_law_871 : decode cL_law 871 = .ok (.aload_n 2, 1) := by decide +kernel
theorem dL_law_872 : decode cL_law 872 = .ok (.aload_n 0, 1) := by decide +kernel
theorem dL_law_873 : decode cL_law 873 = .ok (.iload_n 3, 1) := by decide +kernel
theorem dL_law_874 : decode cL_law 874 = .ok (.iconst 1, 1) := by decide +kernel
theorem dL_law_875 : decode cL_law 875 = .ok (.iadd, 1) := by decide +kernel
theorem dL_law_876 : decode cL_law 876 = .ok (.iaload, 1) := by decide +kernel
theorem dL_law_877 : decode cL_law 877 = .ok (.invokevirtual 132, 3) := by decide +kernel
theorem dL_law_880 : decode cL_law 880 = .ok (.if_icmp .eq 48, 3) := by decide +kernel
theorem dL_law_883 : decode cL_law 883 = .ok (.iconst 0, 1) := by decide +kernel
theorem dL_law_884 : decode cL_law 884 = .ok (.ireturn, 1) := by decide +kernel
theorem dL_law_885 : decode cL_law 885 = .ok (.aload_n 1, 1) := by decide +kernel
theorem dL_law_886 : decode cL_law 886 = .ok (.invokevirtual 133, 3) := by decide +kernel
theorem dL_law_889 : decode cL_law 889 = .ok (.f2d, 1) := by decide +kernel
theorem dL_law_890 : decode cL_law 890 = .ok (.dstore 4, 2) := by decide +kernel
theorem dL_law_892 : decode cL_law 892 = .ok (.aload_n 2, 1) := by decide +kernel
theorem dL_law_893 : decode cL_law 893 = .ok (.invokevirtual 137, 3) := by decide +kernel
theorem dL_law_896 : decode cL_law 896 = .ok (.f2d, 1) := by decide +kernel
theorem dL_law_897 : decode cL_law 897 = .ok (.dstore 6, 2) := by decide +kernel
theorem dL_law_899 : decode cL_law 899 = .ok (.dload 4, 2) := by decide +kernel
theorem dL_law_901 : decode cL_law 901 = .ok (.dload 6, 2) := by decide +kernel
theorem dL_law_903 : decode cL_law 903 = .ok (.dcmp .l, 1) := by decide +kernel
theorem dL_law_904 : decode cL_law 904 = .ok (.ifCond .eq 21, 3) := by decide +kernel
theorem dL_law_907 : decode cL_law 907 = .ok (.dload 4, 2) := by decide +kernel
theorem dL_law_909 : decode cL_law 909 = .ok (.dload 4, 2) := by decide +kernel
theorem dL_law_911 : decode cL_law 911 = .ok (.dcmp .l, 1) := by decide +kernel
theorem dL_law_912 : decode cL_law 912 = .ok (.ifCond .eq 11, 3) := by decide +kernel
theorem dL_law_915 : decode cL_law 915 = .ok (.dload 6, 2) := by decide +kernel
theorem dL_law_917 : decode cL_law 917 = .ok (.dload 6, 2) := by decide +kernel
theorem dL_law_919 : decode cL_law 919 = .ok (.dcmp .l, 1) := by decide +kernel
theorem dL_law_920 : decode cL_law 920 = .ok (.ifCond .ne 5, 3) := by decide +kernel
theorem dL_law_923 : decode cL_law 923 = .ok (.iconst 0, 1) := by decide +kernel
theorem dL_law_924 : decode cL_law 924 = .ok (.ireturn, 1) := by decide +kernel
theorem dL_law_925 : decode cL_law 925 = .ok (.goto 3, 3) := by decide +kernel
theorem dL_law_928 : decode cL_law 928 = .ok (.iinc 3 5, 3) := by decide +kernel
theorem dL_law_931 : decode cL_law 931 = .ok (.goto (-913), 3) := by decide +kernel
theorem dL_law_934 : decode cL_law 934 = .ok (.iconst 1, 1) := by decide +kernel
theorem dL_law_935 : decode cL_law 935 = .ok (.ireturn, 1) := by decide +kernel
end
section
/-! ===== rows of this claim's own: whole numbers (Int) beside Int32, one list of words, worlds in and out ===== -/
abbrev ck (e : Int) : Prop := -2147483648 ≤ e ∧ e ≤ 2147483647
abbrev vI (e : Int) : Value := .int (Int32.ofInt e)
abbrev ia (f : Nat → Int) : Nat → Int32 := fun k => Int32.ofInt (f k)
def up (f : Nat → Int) (i : Nat) (x : Int) : Nat → Int := fun j => if j = i then x else f j
theorem ia_up (f : Nat → Int) (i : Nat) (x : Int) : upd (ia f) i (Int32.ofInt x) = ia (up f i x) := by
  funext j
  simp only [upd, ia, up]
  split <;> rfl
theorem ck_toInt {x : Int} (h : ck x) : (Int32.ofInt x).toInt = x := Int32.toInt_ofInt_of_le (Int.le_trans (by decide) h.1) (Int.lt_of_le_of_lt h.2 (by decide))
theorem ck_lt {x y : Int} (hx : ck x) (hy : ck y) : Int32.ofInt x < Int32.ofInt y ↔ x < y := by
  rw [Int32.lt_iff_toInt_lt, ck_toInt hx, ck_toInt hy]
theorem ck_le {x y : Int} (hx : ck x) (hy : ck y) : Int32.ofInt x ≤ Int32.ofInt y ↔ x ≤ y := by
  rw [Int32.le_iff_toInt_le, ck_toInt hx, ck_toInt hy]
theorem ck_eq {x y : Int} (hx : ck x) (hy : ck y) : Int32.ofInt x = Int32.ofInt y ↔ x = y := by
  rw [← Int32.toInt_inj, ck_toInt hx, ck_toInt hy]
theorem ck_0 : ck 0 := by decide
theorem ck_nat {i : Int} (h0 : 0 ≤ i) (h : i ≤ 2147483647) : (Int32.ofInt i).toNatClampNeg = i.toNat := by
  show (Int32.ofInt i).toInt.toNat = _
  rw [ck_toInt ⟨by omega, h⟩]
theorem ck_in {i : Int} {n : Nat} (h0 : 0 ≤ i) (h : i ≤ 2147483647) (hn : i < (n : Int)) : vp_in (Int32.ofInt i) n := by
  rw [vp_in_iff, ck_toInt ⟨by omega, h⟩]
  exact ⟨h0, hn⟩
theorem ofInt_nat (n : Nat) : Int32.ofNat n = Int32.ofInt (n : Int) := Int32.ofInt_eq_ofNat.symm
/-- the partial functions that the methods compute -/
def gd {α : Type} (c : Prop) [Decidable c] (x : Option α) : Option α := if c then x else none
theorem gd_e {α : Type} {c : Prop} [Decidable c] {x : Option α} {r : α} (h : gd c x = some r) : c ∧ x = some r := by
  unfold gd at h
  split at h
  · exact ⟨by assumption, h⟩
  · cases h
theorem gd_p {α : Type} {c : Prop} [Decidable c] {x : Option α} (h : c) : gd c x = x := if_pos h
theorem it_p {α : Type} {c : Prop} [Decidable c] {a b r : α} (hc : c) (h : (if c then a else b) = r) : a = r := by rw [if_pos hc] at h; exact h
theorem it_n {α : Type} {c : Prop} [Decidable c] {a b r : α} (hc : ¬ c) (h : (if c then a else b) = r) : b = r := by rw [if_neg hc] at h; exact h
def FU : Nat := 4096
def bd1 {A0 B : Type} (x : Option (A0)) (f : A0 → Option B) : Option B := x.bind (fun q => f q)
theorem bd1_e {A0 B : Type} {x : Option (A0)} {f : A0 → Option B} {r : B} (h : bd1 x f = some r) : ∃ x0, x = some x0 ∧ f x0 = some r := by
  unfold bd1 at h
  obtain ⟨q, h1, h2⟩ := Option.bind_eq_some_iff.mp h
  exact ⟨q, h1, h2⟩
theorem bd1_p {A0 B : Type} {x : Option (A0)} {f : A0 → Option B} {x0 : A0} (h : x = some x0) : bd1 x f = f x0 := by subst h; rfl
def bd2 {A0 A1 B : Type} (x : Option (A0 × A1)) (f : A0 → A1 → Option B) : Option B := x.bind (fun q => f q.1 q.2)
theorem bd2_e {A0 A1 B : Type} {x : Option (A0 × A1)} {f : A0 → A1 → Option B} {r : B} (h : bd2 x f = some r) : ∃ x0 x1, x = some (x0, x1) ∧ f x0 x1 = some r := by
  unfold bd2 at h
  obtain ⟨q, h1, h2⟩ := Option.bind_eq_some_iff.mp h
  exact ⟨q.1, q.2, h1, h2⟩
theorem bd2_p {A0 A1 B : Type} {x : Option (A0 × A1)} {f : A0 → A1 → Option B} {x0 : A0} {x1 : A1} (h : x = some (x0, x1)) : bd2 x f = f x0 x1 := by subst h; rfl
def bd3 {A0 A1 A2 B : Type} (x : Option (A0 × A1 × A2)) (f : A0 → A1 → A2 → Option B) : Option B := x.bind (fun q => f q.1 q.2.1 q.2.2)
theorem bd3_e {A0 A1 A2 B : Type} {x : Option (A0 × A1 × A2)} {f : A0 → A1 → A2 → Option B} {r : B} (h : bd3 x f = some r) : ∃ x0 x1 x2, x = some (x0, x1, x2) ∧ f x0 x1 x2 = some r := by
  unfold bd3 at h
  obtain ⟨q, h1, h2⟩ := Option.bind_eq_some_iff.mp h
  exact ⟨q.1, q.2.1, q.2.2, h1, h2⟩
theorem bd3_p {A0 A1 A2 B : Type} {x : Option (A0 × A1 × A2)} {f : A0 → A1 → A2 → Option B} {x0 : A0} {x1 : A1} {x2 : A2} (h : x = some (x0, x1, x2)) : bd3 x f = f x0 x1 x2 := by subst h; rfl
def bd4 {A0 A1 A2 A3 B : Type} (x : Option (A0 × A1 × A2 × A3)) (f : A0 → A1 → A2 → A3 → Option B) : Option B := x.bind (fun q => f q.1 q.2.1 q.2.2.1 q.2.2.2)
theorem bd4_e {A0 A1 A2 A3 B : Type} {x : Option (A0 × A1 × A2 × A3)} {f : A0 → A1 → A2 → A3 → Option B} {r : B} (h : bd4 x f = some r) : ∃ x0 x1 x2 x3, x = some (x0, x1, x2, x3) ∧ f x0 x1 x2 x3 = some r := by
  unfold bd4 at h
  obtain ⟨q, h1, h2⟩ := Option.bind_eq_some_iff.mp h
  exact ⟨q.1, q.2.1, q.2.2.1, q.2.2.2, h1, h2⟩
theorem bd4_p {A0 A1 A2 A3 B : Type} {x : Option (A0 × A1 × A2 × A3)} {f : A0 → A1 → A2 → A3 → Option B} {x0 : A0} {x1 : A1} {x2 : A2} {x3 : A3} (h : x = some (x0, x1, x2, x3)) : bd4 x f = f x0 x1 x2 x3 := by subst h; rfl
def bd5 {A0 A1 A2 A3 A4 B : Type} (x : Option (A0 × A1 × A2 × A3 × A4)) (f : A0 → A1 → A2 → A3 → A4 → Option B) : Option B := x.bind (fun q => f q.1 q.2.1 q.2.2.1 q.2.2.2.1 q.2.2.2.2)
theorem bd5_e {A0 A1 A2 A3 A4 B : Type} {x : Option (A0 × A1 × A2 × A3 × A4)} {f : A0 → A1 → A2 → A3 → A4 → Option B} {r : B} (h : bd5 x f = some r) : ∃ x0 x1 x2 x3 x4, x = some (x0, x1, x2, x3, x4) ∧ f x0 x1 x2 x3 x4 = some r := by
  unfold bd5 at h
  obtain ⟨q, h1, h2⟩ := Option.bind_eq_some_iff.mp h
  exact ⟨q.1, q.2.1, q.2.2.1, q.2.2.2.1, q.2.2.2.2, h1, h2⟩
theorem bd5_p {A0 A1 A2 A3 A4 B : Type} {x : Option (A0 × A1 × A2 × A3 × A4)} {f : A0 → A1 → A2 → A3 → A4 → Option B} {x0 : A0} {x1 : A1} {x2 : A2} {x3 : A3} {x4 : A4} (h : x = some (x0, x1, x2, x3, x4)) : bd5 x f = f x0 x1 x2 x3 x4 := by subst h; rfl
def bd6 {A0 A1 A2 A3 A4 A5 B : Type} (x : Option (A0 × A1 × A2 × A3 × A4 × A5)) (f : A0 → A1 → A2 → A3 → A4 → A5 → Option B) : Option B := x.bind (fun q => f q.1 q.2.1 q.2.2.1 q.2.2.2.1 q.2.2.2.2.1 q.2.2.2.2.2)
theorem bd6_e {A0 A1 A2 A3 A4 A5 B : Type} {x : Option (A0 × A1 × A2 × A3 × A4 × A5)} {f : A0 → A1 → A2 → A3 → A4 → A5 → Option B} {r : B} (h : bd6 x f = some r) : ∃ x0 x1 x2 x3 x4 x5, x = some (x0, x1, x2, x3, x4, x5) ∧ f x0 x1 x2 x3 x4 x5 = some r := by
  unfold bd6 at h
  obtain ⟨q, h1, h2⟩ := Option.bind_eq_some_iff.mp h
  exact ⟨q.1, q.2.1, q.2.2.1, q.2.2.2.1, q.2.2.2.2.1, q.2.2.2.2.2, h1, h2⟩
theorem bd6_p {A0 A1 A2 A3 A4 A5 B : Type} {x : Option (A0 × A1 × A2 × A3 × A4 × A5)} {f : A0 → A1 → A2 → A3 → A4 → A5 → Option B} {x0 : A0} {x1 : A1} {x2 : A2} {x3 : A3} {x4 : A4} {x5 : A5} (h : x = some (x0, x1, x2, x3, x4, x5)) : bd6 x f = f x0 x1 x2 x3 x4 x5 := by subst h; rfl
def bd7 {A0 A1 A2 A3 A4 A5 A6 B : Type} (x : Option (A0 × A1 × A2 × A3 × A4 × A5 × A6)) (f : A0 → A1 → A2 → A3 → A4 → A5 → A6 → Option B) : Option B := x.bind (fun q => f q.1 q.2.1 q.2.2.1 q.2.2.2.1 q.2.2.2.2.1 q.2.2.2.2.2.1 q.2.2.2.2.2.2)
theorem bd7_e {A0 A1 A2 A3 A4 A5 A6 B : Type} {x : Option (A0 × A1 × A2 × A3 × A4 × A5 × A6)} {f : A0 → A1 → A2 → A3 → A4 → A5 → A6 → Option B} {r : B} (h : bd7 x f = some r) : ∃ x0 x1 x2 x3 x4 x5 x6, x = some (x0, x1, x2, x3, x4, x5, x6) ∧ f x0 x1 x2 x3 x4 x5 x6 = some r := by
  unfold bd7 at h
  obtain ⟨q, h1, h2⟩ := Option.bind_eq_some_iff.mp h
  exact ⟨q.1, q.2.1, q.2.2.1, q.2.2.2.1, q.2.2.2.2.1, q.2.2.2.2.2.1, q.2.2.2.2.2.2, h1, h2⟩
theorem bd7_p {A0 A1 A2 A3 A4 A5 A6 B : Type} {x : Option (A0 × A1 × A2 × A3 × A4 × A5 × A6)} {f : A0 → A1 → A2 → A3 → A4 → A5 → A6 → Option B} {x0 : A0} {x1 : A1} {x2 : A2} {x3 : A3} {x4 : A4} {x5 : A5} {x6 : A6} (h : x = some (x0, x1, x2, x3, x4, x5, x6)) : bd7 x f = f x0 x1 x2 x3 x4 x5 x6 := by subst h; rfl
def bd8 {A0 A1 A2 A3 A4 A5 A6 A7 B : Type} (x : Option (A0 × A1 × A2 × A3 × A4 × A5 × A6 × A7)) (f : A0 → A1 → A2 → A3 → A4 → A5 → A6 → A7 → Option B) : Option B := x.bind (fun q => f q.1 q.2.1 q.2.2.1 q.2.2.2.1 q.2.2.2.2.1 q.2.2.2.2.2.1 q.2.2.2.2.2.2.1 q.2.2.2.2.2.2.2)
theorem bd8_e {A0 A1 A2 A3 A4 A5 A6 A7 B : Type} {x : Option (A0 × A1 × A2 × A3 × A4 × A5 × A6 × A7)} {f : A0 → A1 → A2 → A3 → A4 → A5 → A6 → A7 → Option B} {r : B} (h : bd8 x f = some r) : ∃ x0 x1 x2 x3 x4 x5 x6 x7, x = some (x0, x1, x2, x3, x4, x5, x6, x7) ∧ f x0 x1 x2 x3 x4 x5 x6 x7 = some r := by
  unfold bd8 at h
  obtain ⟨q, h1, h2⟩ := Option.bind_eq_some_iff.mp h
  exact ⟨q.1, q.2.1, q.2.2.1, q.2.2.2.1, q.2.2.2.2.1, q.2.2.2.2.2.1, q.2.2.2.2.2.2.1, q.2.2.2.2.2.2.2, h1, h2⟩
theorem bd8_p {A0 A1 A2 A3 A4 A5 A6 A7 B : Type} {x : Option (A0 × A1 × A2 × A3 × A4 × A5 × A6 × A7)} {f : A0 → A1 → A2 → A3 → A4 → A5 → A6 → A7 → Option B} {x0 : A0} {x1 : A1} {x2 : A2} {x3 : A3} {x4 : A4} {x5 : A5} {x6 : A6} {x7 : A7} (h : x = some (x0, x1, x2, x3, x4, x5, x6, x7)) : bd8 x f = f x0 x1 x2 x3 x4 x5 x6 x7 := by subst h; rfl
def bd9 {A0 A1 A2 A3 A4 A5 A6 A7 A8 B : Type} (x : Option (A0 × A1 × A2 × A3 × A4 × A5 × A6 × A7 × A8)) (f : A0 → A1 → A2 → A3 → A4 → A5 → A6 → A7 → A8 → Option B) : Option B := x.bind (fun q => f q.1 q.2.1 q.2.2.1 q.2.2.2.1 q.2.2.2.2.1 q.2.2.2.2.2.1 q.2.2.2.2.2.2.1 q.2.2.2.2.2.2.2.1 q.2.2.2.2.2.2.2.2)
theorem bd9_e {A0 A1 A2 A3 A4 A5 A6 A7 A8 B : Type} {x : Option (A0 × A1 × A2 × A3 × A4 × A5 × A6 × A7 × A8)} {f : A0 → A1 → A2 → A3 → A4 → A5 → A6 → A7 → A8 → Option B} {r : B} (h : bd9 x f = some r) : ∃ x0 x1 x2 x3 x4 x5 x6 x7 x8, x = some (x0, x1, x2, x3, x4, x5, x6, x7, x8) ∧ f x0 x1 x2 x3 x4 x5 x6 x7 x8 = some r := by
  unfold bd9 at h
  obtain ⟨q, h1, h2⟩ := Option.bind_eq_some_iff.mp h
  exact ⟨q.1, q.2.1, q.2.2.1, q.2.2.2.1, q.2.2.2.2.1, q.2.2.2.2.2.1, q.2.2.2.2.2.2.1, q.2.2.2.2.2.2.2.1, q.2.2.2.2.2.2.2.2, h1, h2⟩
theorem bd9_p {A0 A1 A2 A3 A4 A5 A6 A7 A8 B : Type} {x : Option (A0 × A1 × A2 × A3 × A4 × A5 × A6 × A7 × A8)} {f : A0 → A1 → A2 → A3 → A4 → A5 → A6 → A7 → A8 → Option B} {x0 : A0} {x1 : A1} {x2 : A2} {x3 : A3} {x4 : A4} {x5 : A5} {x6 : A6} {x7 : A7} {x8 : A8} (h : x = some (x0, x1, x2, x3, x4, x5, x6, x7, x8)) : bd9 x f = f x0 x1 x2 x3 x4 x5 x6 x7 x8 := by subst h; rfl
def bd10 {A0 A1 A2 A3 A4 A5 A6 A7 A8 A9 B : Type} (x : Option (A0 × A1 × A2 × A3 × A4 × A5 × A6 × A7 × A8 × A9)) (f : A0 → A1 → A2 → A3 → A4 → A5 → A6 → A7 → A8 → A9 → Option B) : Option B := x.bind (fun q => f q.1 q.2.1 q.2.2.1 q.2.2.2.1 q.2.2.2.2.1 q.2.2.2.2.2.1 q.2.2.2.2.2.2.1 q.2.2.2.2.2.2.2.1 q.2.2.2.2.2.2.2.2.1 q.2.2.2.2.2.2.2.2.2)
theorem bd10_e {A0 A1 A2 A3 A4 A5 A6 A7 A8 A9 B : Type} {x : Option (A0 × A1 × A2 × A3 × A4 × A5 × A6 × A7 × A8 × A9)} {f : A0 → A1 → A2 → A3 → A4 → A5 → A6 → A7 → A8 → A9 → Option B} {r : B} (h : bd10 x f = some r) : ∃ x0 x1 x2 x3 x4 x5 x6 x7 x8 x9, x = some (x0, x1, x2, x3, x4, x5, x6, x7, x8, x9) ∧ f x0 x1 x2 x3 x4 x5 x6 x7 x8 x9 = some r := by
  unfold bd10 at h
  obtain ⟨q, h1, h2⟩ := Option.bind_eq_some_iff.mp h
  exact ⟨q.1, q.2.1, q.2.2.1, q.2.2.2.1, q.2.2.2.2.1, q.2.2.2.2.2.1, q.2.2.2.2.2.2.1, q.2.2.2.2.2.2.2.1, q.2.2.2.2.2.2.2.2.1, q.2.2.2.2.2.2.2.2.2, h1, h2⟩
theorem bd10_p {A0 A1 A2 A3 A4 A5 A6 A7 A8 A9 B : Type} {x : Option (A0 × A1 × A2 × A3 × A4 × A5 × A6 × A7 × A8 × A9)} {f : A0 → A1 → A2 → A3 → A4 → A5 → A6 → A7 → A8 → A9 → Option B} {x0 : A0} {x1 : A1} {x2 : A2} {x3 : A3} {x4 : A4} {x5 : A5} {x6 : A6} {x7 : A7} {x8 : A8} {x9 : A9} (h : x = some (x0, x1, x2, x3, x4, x5, x6, x7, x8, x9)) : bd10 x f = f x0 x1 x2 x3 x4 x5 x6 x7 x8 x9 := by subst h; rfl
def bd11 {A0 A1 A2 A3 A4 A5 A6 A7 A8 A9 A10 B : Type} (x : Option (A0 × A1 × A2 × A3 × A4 × A5 × A6 × A7 × A8 × A9 × A10)) (f : A0 → A1 → A2 → A3 → A4 → A5 → A6 → A7 → A8 → A9 → A10 → Option B) : Option B := x.bind (fun q => f q.1 q.2.1 q.2.2.1 q.2.2.2.1 q.2.2.2.2.1 q.2.2.2.2.2.1 q.2.2.2.2.2.2.1 q.2.2.2.2.2.2.2.1 q.2.2.2.2.2.2.2.2.1 q.2.2.2.2.2.2.2.2.2.1 q.2.2.2.2.2.2.2.2.2.2)
theorem bd11_e {A0 A1 A2 A3 A4 A5 A6 A7 A8 A9 A10 B : Type} {x : Option (A0 × A1 × A2 × A3 × A4 × A5 × A6 × A7 × A8 × A9 × A10)} {f : A0 → A1 → A2 → A3 → A4 → A5 → A6 → A7 → A8 → A9 → A10 → Option B} {r : B} (h : bd11 x f = some r) : ∃ x0 x1 x2 x3 x4 x5 x6 x7 x8 x9 x10, x = some (x0, x1, x2, x3, x4, x5, x6, x7, x8, x9, x10) ∧ f x0 x1 x2 x3 x4 x5 x6 x7 x8 x9 x10 = some r := by
  unfold bd11 at h
  obtain ⟨q, h1, h2⟩ := Option.bind_eq_some_iff.mp h
  exact ⟨q.1, q.2.1, q.2.2.1, q.2.2.2.1, q.2.2.2.2.1, q.2.2.2.2.2.1, q.2.2.2.2.2.2.1, q.2.2.2.2.2.2.2.1, q.2.2.2.2.2.2.2.2.1, q.2.2.2.2.2.2.2.2.2.1, q.2.2.2.2.2.2.2.2.2.2, h1, h2⟩
theorem bd11_p {A0 A1 A2 A3 A4 A5 A6 A7 A8 A9 A10 B : Type} {x : Option (A0 × A1 × A2 × A3 × A4 × A5 × A6 × A7 × A8 × A9 × A10)} {f : A0 → A1 → A2 → A3 → A4 → A5 → A6 → A7 → A8 → A9 → A10 → Option B} {x0 : A0} {x1 : A1} {x2 : A2} {x3 : A3} {x4 : A4} {x5 : A5} {x6 : A6} {x7 : A7} {x8 : A8} {x9 : A9} {x10 : A10} (h : x = some (x0, x1, x2, x3, x4, x5, x6, x7, x8, x9, x10)) : bd11 x f = f x0 x1 x2 x3 x4 x5 x6 x7 x8 x9 x10 := by subst h; rfl
def bd12 {A0 A1 A2 A3 A4 A5 A6 A7 A8 A9 A10 A11 B : Type} (x : Option (A0 × A1 × A2 × A3 × A4 × A5 × A6 × A7 × A8 × A9 × A10 × A11)) (f : A0 → A1 → A2 → A3 → A4 → A5 → A6 → A7 → A8 → A9 → A10 → A11 → Option B) : Option B := x.bind (fun q => f q.1 q.2.1 q.2.2.1 q.2.2.2.1 q.2.2.2.2.1 q.2.2.2.2.2.1 q.2.2.2.2.2.2.1 q.2.2.2.2.2.2.2.1 q.2.2.2.2.2.2.2.2.1 q.2.2.2.2.2.2.2.2.2.1 q.2.2.2.2.2.2.2.2.2.2.1 q.2.2.2.2.2.2.2.2.2.2.2)
theorem bd12_e {A0 A1 A2 A3 A4 A5 A6 A7 A8 A9 A10 A11 B : Type} {x : Option (A0 × A1 × A2 × A3 × A4 × A5 × A6 × A7 × A8 × A9 × A10 × A11)} {f : A0 → A1 → A2 → A3 → A4 → A5 → A6 → A7 → A8 → A9 → A10 → A11 → Option B} {r : B} (h : bd12 x f = some r) : ∃ x0 x1 x2 x3 x4 x5 x6 x7 x8 x9 x10 x11, x = some (x0, x1, x2, x3, x4, x5, x6, x7, x8, x9, x10, x11) ∧ f x0 x1 x2 x3 x4 x5 x6 x7 x8 x9 x10 x11 = some r := by
  unfold bd12 at h
  obtain ⟨q, h1, h2⟩ := Option.bind_eq_some_iff.mp h
  exact ⟨q.1, q.2.1, q.2.2.1, q.2.2.2.1, q.2.2.2.2.1, q.2.2.2.2.2.1, q.2.2.2.2.2.2.1, q.2.2.2.2.2.2.2.1, q.2.2.2.2.2.2.2.2.1, q.2.2.2.2.2.2.2.2.2.1, q.2.2.2.2.2.2.2.2.2.2.1, q.2.2.2.2.2.2.2.2.2.2.2, h1, h2⟩
theorem bd12_p {A0 A1 A2 A3 A4 A5 A6 A7 A8 A9 A10 A11 B : Type} {x : Option (A0 × A1 × A2 × A3 × A4 × A5 × A6 × A7 × A8 × A9 × A10 × A11)} {f : A0 → A1 → A2 → A3 → A4 → A5 → A6 → A7 → A8 → A9 → A10 → A11 → Option B} {x0 : A0} {x1 : A1} {x2 : A2} {x3 : A3} {x4 : A4} {x5 : A5} {x6 : A6} {x7 : A7} {x8 : A8} {x9 : A9} {x10 : A10} {x11 : A11} (h : x = some (x0, x1, x2, x3, x4, x5, x6, x7, x8, x9, x10, x11)) : bd12 x f = f x0 x1 x2 x3 x4 x5 x6 x7 x8 x9 x10 x11 := by subst h; rfl
def bd13 {A0 A1 A2 A3 A4 A5 A6 A7 A8 A9 A10 A11 A12 B : Type} (x : Option (A0 × A1 × A2 × A3 × A4 × A5 × A6 × A7 × A8 × A9 × A10 × A11 × A12)) (f : A0 → A1 → A2 → A3 → A4 → A5 → A6 → A7 → A8 → A9 → A10 → A11 → A12 → Option B) : Option B := x.bind (fun q => f q.1 q.2.1 q.2.2.1 q.2.2.2.1 q.2.2.2.2.1 q.2.2.2.2.2.1 q.2.2.2.2.2.2.1 q.2.2.2.2.2.2.2.1 q.2.2.2.2.2.2.2.2.1 q.2.2.2.2.2.2.2.2.2.1 q.2.2.2.2.2.2.2.2.2.2.1 q.2.2.2.2.2.2.2.2.2.2.2.1 q.2.2.2.2.2.2.2.2.2.2.2.2)
theorem bd13_e {A0 A1 A2 A3 A4 A5 A6 A7 A8 A9 A10 A11 A12 B : Type} {x : Option (A0 × A1 × A2 × A3 × A4 × A5 × A6 × A7 × A8 × A9 × A10 × A11 × A12)} {f : A0 → A1 → A2 → A3 → A4 → A5 → A6 → A7 → A8 → A9 → A10 → A11 → A12 → Option B} {r : B} (h : bd13 x f = some r) : ∃ x0 x1 x2 x3 x4 x5 x6 x7 x8 x9 x10 x11 x12, x = some (x0, x1, x2, x3, x4, x5, x6, x7, x8, x9, x10, x11, x12) ∧ f x0 x1 x2 x3 x4 x5 x6 x7 x8 x9 x10 x11 x12 = some r := by
  unfold bd13 at h
  obtain ⟨q, h1, h2⟩ := Option.bind_eq_some_iff.mp h
  exact ⟨q.1, q.2.1, q.2.2.1, q.2.2.2.1, q.2.2.2.2.1, q.2.2.2.2.2.1, q.2.2.2.2.2.2.1, q.2.2.2.2.2.2.2.1, q.2.2.2.2.2.2.2.2.1, q.2.2.2.2.2.2.2.2.2.1, q.2.2.2.2.2.2.2.2.2.2.1, q.2.2.2.2.2.2.2.2.2.2.2.1, q.2.2.2.2.2.2.2.2.2.2.2.2, h1, h2⟩
theorem bd13_p {A0 A1 A2 A3 A4 A5 A6 A7 A8 A9 A10 A11 A12 B : Type} {x : Option (A0 × A1 × A2 × A3 × A4 × A5 × A6 × A7 × A8 × A9 × A10 × A11 × A12)} {f : A0 → A1 → A2 → A3 → A4 → A5 → A6 → A7 → A8 → A9 → A10 → A11 → A12 → Option B} {x0 : A0} {x1 : A1} {x2 : A2} {x3 : A3} {x4 : A4} {x5 : A5} {x6 : A6} {x7 : A7} {x8 : A8} {x9 : A9} {x10 : A10} {x11 : A11} {x12 : A12} (h : x = some (x0, x1, x2, x3, x4, x5, x6, x7, x8, x9, x10, x11, x12)) : bd13 x f = f x0 x1 x2 x3 x4 x5 x6 x7 x8 x9 x10 x11 x12 := by subst h; rfl
def bd14 {A0 A1 A2 A3 A4 A5 A6 A7 A8 A9 A10 A11 A12 A13 B : Type} (x : Option (A0 × A1 × A2 × A3 × A4 × A5 × A6 × A7 × A8 × A9 × A10 × A11 × A12 × A13)) (f : A0 → A1 → A2 → A3 → A4 → A5 → A6 → A7 → A8 → A9 → A10 → A11 → A12 → A13 → Option B) : Option B := x.bind (fun q => f q.1 q.2.1 q.2.2.1 q.2.2.2.1 q.2.2.2.2.1 q.2.2.2.2.2.1 q.2.2.2.2.2.2.1 q.2.2.2.2.2.2.2.1 q.2.2.2.2.2.2.2.2.1 q.2.2.2.2.2.2.2.2.2.1 q.2.2.2.2.2.2.2.2.2.2.1 q.2.2.2.2.2.2.2.2.2.2.2.1 q.2.2.2.2.2.2.2.2.2.2.2.2.1 q.2.2.2.2.2.2.2.2.2.2.2.2.2)
theorem bd14_e {A0 A1 A2 A3 A4 A5 A6 A7 A8 A9 A10 A11 A12 A13 B : Type} {x : Option (A0 × A1 × A2 × A3 × A4 × A5 × A6 × A7 × A8 × A9 × A10 × A11 × A12 × A13)} {f : A0 → A1 → A2 → A3 → A4 → A5 → A6 → A7 → A8 → A9 → A10 → A11 → A12 → A13 → Option B} {r : B} (h : bd14 x f = some r) : ∃ x0 x1 x2 x3 x4 x5 x6 x7 x8 x9 x10 x11 x12 x13, x = some (x0, x1, x2, x3, x4, x5, x6, x7, x8, x9, x10, x11, x12, x13) ∧ f x0 x1 x2 x3 x4 x5 x6 x7 x8 x9 x10 x11 x12 x13 = some r := by
  unfold bd14 at h
  obtain ⟨q, h1, h2⟩ := Option.bind_eq_some_iff.mp h
  exact ⟨q.1, q.2.1, q.2.2.1, q.2.2.2.1, q.2.2.2.2.1, q.2.2.2.2.2.1, q.2.2.2.2.2.2.1, q.2.2.2.2.2.2.2.1, q.2.2.2.2.2.2.2.2.1, q.2.2.2.2.2.2.2.2.2.1, q.2.2.2.2.2.2.2.2.2.2.1, q.2.2.2.2.2.2.2.2.2.2.2.1, q.2.2.2.2.2.2.2.2.2.2.2.2.1, q.2.2.2.2.2.2.2.2.2.2.2.2.2, h1, h2⟩
theorem bd14_p {A0 A1 A2 A3 A4 A5 A6 A7 A8 A9 A10 A11 A12 A13 B : Type} {x : Option (A0 × A1 × A2 × A3 × A4 × A5 × A6 × A7 × A8 × A9 × A10 × A11 × A12 × A13)} {f : A0 → A1 → A2 → A3 → A4 → A5 → A6 → A7 → A8 → A9 → A10 → A11 → A12 → A13 → Option B} {x0 : A0} {x1 : A1} {x2 : A2} {x3 : A3} {x4 : A4} {x5 : A5} {x6 : A6} {x7 : A7} {x8 : A8} {x9 : A9} {x10 : A10} {x11 : A11} {x12 : A12} {x13 : A13} (h : x = some (x0, x1, x2, x3, x4, x5, x6, x7, x8, x9, x10, x11, x12, x13)) : bd14 x f = f x0 x1 x2 x3 x4 x5 x6 x7 x8 x9 x10 x11 x12 x13 := by subst h; rfl
def bd15 {A0 A1 A2 A3 A4 A5 A6 A7 A8 A9 A10 A11 A12 A13 A14 B : Type} (x : Option (A0 × A1 × A2 × A3 × A4 × A5 × A6 × A7 × A8 × A9 × A10 × A11 × A12 × A13 × A14)) (f : A0 → A1 → A2 → A3 → A4 → A5 → A6 → A7 → A8 → A9 → A10 → A11 → A12 → A13 → A14 → Option B) : Option B := x.bind (fun q => f q.1 q.2.1 q.2.2.1 q.2.2.2.1 q.2.2.2.2.1 q.2.2.2.2.2.1 q.2.2.2.2.2.2.1 q.2.2.2.2.2.2.2.1 q.2.2.2.2.2.2.2.2.1 q.2.2.2.2.2.2.2.2.2.1 q.2.2.2.2.2.2.2.2.2.2.1 q.2.2.2.2.2.2.2.2.2.2.2.1 q.2.2.2.2.2.2.2.2.2.2.2.2.1 q.2.2.2.2.2.2.2.2.2.2.2.2.2.1 q.2.2.2.2.2.2.2.2.2.2.2.2.2.2)
theorem bd15_e {A0 A1 A2 A3 A4 A5 A6 A7 A8 A9 A10 A11 A12 A13 A14 B : Type} {x : Option (A0 × A1 × A2 × A3 × A4 × A5 × A6 × A7 × A8 × A9 × A10 × A11 × A12 × A13 × A14)} {f : A0 → A1 → A2 → A3 → A4 → A5 → A6 → A7 → A8 → A9 → A10 → A11 → A12 → A13 → A14 → Option B} {r : B} (h : bd15 x f = some r) : ∃ x0 x1 x2 x3 x4 x5 x6 x7 x8 x9 x10 x11 x12 x13 x14, x = some (x0, x1, x2, x3, x4, x5, x6, x7, x8, x9, x10, x11, x12, x13, x14) ∧ f x0 x1 x2 x3 x4 x5 x6 x7 x8 x9 x10 x11 x12 x13 x14 = some r := by
  unfold bd15 at h
  obtain ⟨q, h1, h2⟩ := Option.bind_eq_some_iff.mp h
  exact ⟨q.1, q.2.1, q.2.2.1, q.2.2.2.1, q.2.2.2.2.1, q.2.2.2.2.2.1, q.2.2.2.2.2.2.1, q.2.2.2.2.2.2.2.1, q.2.2.2.2.2.2.2.2.1, q.2.2.2.2.2.2.2.2.2.1, q.2.2.2.2.2.2.2.2.2.2.1, q.2.2.2.2.2.2.2.2.2.2.2.1, q.2.2.2.2.2.2.2.2.2.2.2.2.1, q.2.2.2.2.2.2.2.2.2.2.2.2.2.1, q.2.2.2.2.2.2.2.2.2.2.2.2.2.2, h1, h2⟩
theorem bd15_p {A0 A1 A2 A3 A4 A5 A6 A7 A8 A9 A10 A11 A12 A13 A14 B : Type} {x : Option (A0 × A1 × A2 × A3 × A4 × A5 × A6 × A7 × A8 × A9 × A10 × A11 × A12 × A13 × A14)} {f : A0 → A1 → A2 → A3 → A4 → A5 → A6 → A7 → A8 → A9 → A10 → A11 → A12 → A13 → A14 → Option B} {x0 : A0} {x1 : A1} {x2 : A2} {x3 : A3} {x4 : A4} {x5 : A5} {x6 : A6} {x7 : A7} {x8 : A8} {x9 : A9} {x10 : A10} {x11 : A11} {x12 : A12} {x13 : A13} {x14 : A14} (h : x = some (x0, x1, x2, x3, x4, x5, x6, x7, x8, x9, x10, x11, x12, x13, x14)) : bd15 x f = f x0 x1 x2 x3 x4 x5 x6 x7 x8 x9 x10 x11 x12 x13 x14 := by subst h; rfl
def bd16 {A0 A1 A2 A3 A4 A5 A6 A7 A8 A9 A10 A11 A12 A13 A14 A15 B : Type} (x : Option (A0 × A1 × A2 × A3 × A4 × A5 × A6 × A7 × A8 × A9 × A10 × A11 × A12 × A13 × A14 × A15)) (f : A0 → A1 → A2 → A3 → A4 → A5 → A6 → A7 → A8 → A9 → A10 → A11 → A12 → A13 → A14 → A15 → Option B) : Option B := x.bind (fun q => f q.1 q.2.1 q.2.2.1 q.2.2.2.1 q.2.2.2.2.1 q.2.2.2.2.2.1 q.2.2.2.2.2.2.1 q.2.2.2.2.2.2.2.1 q.2.2.2.2.2.2.2.2.1 q.2.2.2.2.2.2.2.2.2.1 q.2.2.2.2.2.2.2.2.2.2.1 q.2.2.2.2.2.2.2.2.2.2.2.1 q.2.2.2.2.2.2.2.2.2.2.2.2.1 q.2.2.2.2.2.2.2.2.2.2.2.2.2.1 q.2.2.2.2.2.2.2.2.2.2.2.2.2.2.1 q.2.2.2.2.2.2.2.2.2.2.2.2.2.2.2)
theorem bd16_e {A0 A1 A2 A3 A4 A5 A6 A7 A8 A9 A10 A11 A12 A13 A14 A15 B : Type} {x : Option (A0 × A1 × A2 × A3 × A4 × A5 × A6 × A7 × A8 × A9 × A10 × A11 × A12 × A13 × A14 × A15)} {f : A0 → A1 → A2 → A3 → A4 → A5 → A6 → A7 → A8 → A9 → A10 → A11 → A12 → A13 → A14 → A15 → Option B} {r : B} (h : bd16 x f = some r) : ∃ x0 x1 x2 x3 x4 x5 x6 x7 x8 x9 x10 x11 x12 x13 x14 x15, x = some (x0, x1, x2, x3, x4, x5, x6, x7, x8, x9, x10, x11, x12, x13, x14, x15) ∧ f x0 x1 x2 x3 x4 x5 x6 x7 x8 x9 x10 x11 x12 x13 x14 x15 = some r := by
  unfold bd16 at h
  obtain ⟨q, h1, h2⟩ := Option.bind_eq_some_iff.mp h
  exact ⟨q.1, q.2.1, q.2.2.1, q.2.2.2.1, q.2.2.2.2.1, q.2.2.2.2.2.1, q.2.2.2.2.2.2.1, q.2.2.2.2.2.2.2.1, q.2.2.2.2.2.2.2.2.1, q.2.2.2.2.2.2.2.2.2.1, q.2.2.2.2.2.2.2.2.2.2.1, q.2.2.2.2.2.2.2.2.2.2.2.1, q.2.2.2.2.2.2.2.2.2.2.2.2.1, q.2.2.2.2.2.2.2.2.2.2.2.2.2.1, q.2.2.2.2.2.2.2.2.2.2.2.2.2.2.1, q.2.2.2.2.2.2.2.2.2.2.2.2.2.2.2, h1, h2⟩
theorem bd16_p {A0 A1 A2 A3 A4 A5 A6 A7 A8 A9 A10 A11 A12 A13 A14 A15 B : Type} {x : Option (A0 × A1 × A2 × A3 × A4 × A5 × A6 × A7 × A8 × A9 × A10 × A11 × A12 × A13 × A14 × A15)} {f : A0 → A1 → A2 → A3 → A4 → A5 → A6 → A7 → A8 → A9 → A10 → A11 → A12 → A13 → A14 → A15 → Option B} {x0 : A0} {x1 : A1} {x2 : A2} {x3 : A3} {x4 : A4} {x5 : A5} {x6 : A6} {x7 : A7} {x8 : A8} {x9 : A9} {x10 : A10} {x11 : A11} {x12 : A12} {x13 : A13} {x14 : A14} {x15 : A15} (h : x = some (x0, x1, x2, x3, x4, x5, x6, x7, x8, x9, x10, x11, x12, x13, x14, x15)) : bd16 x f = f x0 x1 x2 x3 x4 x5 x6 x7 x8 x9 x10 x11 x12 x13 x14 x15 := by subst h; rfl
end
section
/-! the one list of words that every method of this claim is given -/
def zAll : List Cond := lw_tbl.filter goodWord
theorem zmem {w : Cond} (k : Nat) (h : lw_tbl[k]? = some w) (hg : goodWord w = true) : w ∈ zAll := List.mem_filter.mpr ⟨List.mem_of_getElem? h, hg⟩
theorem zAll_tbl : ∀ w ∈ zAll, w ∈ lw_tbl := fun _ h => (List.mem_filter.mp h).1
theorem zAll_good : GoodIn zAll zAll := fun w h => ⟨h, good_of_word (List.mem_filter.mp h).2⟩
theorem zAll_tgood : GoodIn lw_tbl zAll := fun w h => ⟨zAll_tbl w h, good_of_word (List.mem_filter.mp h).2⟩
def zW (y : MethodName) (b : ByteArray) (n : Nat) (r : Option FieldType) : List Cond := .code y b n r :: zAll
theorem zW_good {y : MethodName} {b : ByteArray} {n : Nat} {r : Option FieldType} (h : Cond.code y b n r ∈ zAll) : GoodIn zAll (zW y b n r) := fun w hw => by
  rcases List.mem_cons.mp hw with rfl | hw
  · exact zAll_good _ h
  · exact zAll_good _ hw
theorem zgV {own : String} {idx : Nat} {C : String} {y : MethodName} {b : ByteArray} {n : Nat} {r : Option FieldType} (h1 : Cond.methodLink own idx y ∈ zAll) (h2 : Cond.instanceMethod y ∈ zAll) (h3 : Cond.selects C y y ∈ zAll) (h4 : Cond.initialized C ∈ zAll) (h5 : Cond.code y b n r ∈ zAll) : GoodIn zAll (wsV own idx C y (zW y b n r)) := fun w hw => by
  unfold wsV at hw
  rcases List.mem_append.mp hw with hw | hw
  · simp only [List.mem_cons, List.not_mem_nil, or_false] at hw
    rcases hw with rfl | rfl | rfl | rfl
    · exact zAll_good _ h1
    · exact zAll_good _ h2
    · exact zAll_good _ h3
    · exact zAll_good _ h4
  · exact zW_good h5 w hw
theorem zgS {own : String} {idx : Nat} {y : MethodName} {b : ByteArray} {n : Nat} {r : Option FieldType} (h1 : Cond.methodLink own idx y ∈ zAll) (h2 : Cond.static y ∈ zAll) (h4 : Cond.initialized y.cls ∈ zAll) (h5 : Cond.code y b n r ∈ zAll) : GoodIn zAll (va_wsS own idx y (zW y b n r)) := fun w hw => by
  unfold va_wsS at hw
  rcases List.mem_append.mp hw with hw | hw
  · simp only [List.mem_cons, List.not_mem_nil, or_false] at hw
    rcases hw with rfl | rfl | rfl
    · exact zAll_good _ h1
    · exact zAll_good _ h2
    · exact zAll_good _ h4
  · exact zW_good h5 w hw
theorem goodIn_l (ws : List Cond) (ps : List Nat) (hp : ws = ps.filterMap (fun i => lw_tbl[i]?)) (h : ws.all goodWord = true) : ∀ w ∈ ws, w ∈ zAll := by
  intro w hw
  have h1 := List.all_eq_true.mp h w hw
  rw [hp] at hw
  obtain ⟨i, -, hi⟩ := List.mem_filterMap.mp hw
  exact zmem i hi h1
/-! calls of private methods of another class of the nest -/
def zNq : List (String × Nat × MethodName × String) := [("RectangleTree$Tree", 49, ⟨"RectangleTree", "put", "([III)V"⟩, "RectangleTree"), ("RectangleTree$Changes", 31, ⟨"RectangleTree$Walk", "<init>", "()V"⟩, "RectangleTree"), ("RectangleTree", 34, ⟨"RectangleTree$Walk", "<init>", "()V"⟩, "RectangleTree"), ("RectangleTree", 41, ⟨"RectangleTree$RectangleText", "<init>", "()V"⟩, "RectangleTree"), ("RectangleTree$Walk", 32, ⟨"RectangleTree", "put", "([III)V"⟩, "RectangleTree"), ("RectangleTree$Walk", 37, ⟨"RectangleTree", "at", "([II)I"⟩, "RectangleTree"), ("RectangleTree$Tree", 81, ⟨"RectangleTree", "at", "([II)I"⟩, "RectangleTree"), ("RectangleTree$Changes", 151, ⟨"RectangleTree", "put", "([III)V"⟩, "RectangleTree"), ("RectangleTree$Changes", 140, ⟨"RectangleTree", "at", "([II)I"⟩, "RectangleTree"), ("RectangleTree$Packing", 66, ⟨"RectangleTree", "put", "([III)V"⟩, "RectangleTree"), ("RectangleTree$Packing", 58, ⟨"RectangleTree", "at", "([II)I"⟩, "RectangleTree"), ("RectangleTree$RectangleText", 34, ⟨"RectangleTree", "put", "([III)V"⟩, "RectangleTree"), ("RectangleTree$RectangleText", 38, ⟨"RectangleTree", "at", "([II)I"⟩, "RectangleTree")]
def zNW (U : State) : Prop := ∀ q ∈ zNq, va_Nw (.methodLinkNest q.1 q.2.1 q.2.2.1 q.2.2.2) U
theorem zNW.warm {s U : State} (hW : s.WarmedH U.vm) (h : zNW s) : zNW U := fun q hq => va_Nw.warmM hW (h q hq)
theorem zNW.at {s : State} (h : zNW s) (k : Nat) {q : String × Nat × MethodName × String} (hk : zNq[k]? = some q) : va_Nw (.methodLinkNest q.1 q.2.1 q.2.2.1 q.2.2.2) s := h q (List.mem_of_getElem? hk)
/-! a method's start -/
abbrev zTy : Type := List (ClassId × FieldType)
abbrev zU : Type := Nat → Nat → Nat
def zP (D : va_G) (tys : zTy) (ws : va_W) (sz : Nat) (U : State) : Prop := U.heap.size = sz ∧ va_P D vwCl ws U.heap ∧ va_K D vwCl tys U ∧ va_D (fun _ => True) ws ∧ zNW U
theorem zP.blind {D : va_G} {tys : zTy} {ws : va_W} {sz : Nat} {av : List Value} : FrameBlind (va_Pc av (zP D tys ws sz)) := by
  intro a U g mk q
  obtain ⟨q0, q1, q2, q3, q4, q5⟩ := q
  exact ⟨q0, q1, q2, va_K.moved (u := U) (U := U.calling g mk a) (Vm.Alike.refl U.vm) q3, q4, fun x hx => va_Nw.same rfl rfl (q5 x hx)⟩
theorem zP.enter {D : va_G} {tys : zTy} {ws : va_W} {av : List Value} {s : State} {H : Heap} {A : Nat → Prop} (hP : va_P D vwCl ws H) (hK : va_K D vwCl tys s) (hD : va_D A ws) (hN : zNW s) : ∀ U : State, U.heap = H → s.WarmedH U.vm → va_Pc av (zP D tys ws H.size) av.toArray U :=
  fun U hU hW => ⟨rfl, by rw [hU], by rw [hU]; exact hP, va_K.moved hW.alike hK, hD.weaken (fun _ _ _ _ => trivial), hN.warm hW⟩
/-- all that a body knows of its frame -/
def zF (p : Program) (m : MethodId) (c : Code) (cc : ByteArray) (n : Nat) (s : State) (args : Array Value) (own : String) (meth : Method) (rt : Option FieldType) (nm : String) (A : Nat → Prop) (D : va_G) (tys : zTy) : Prop :=
  CallFix p m c cc n s args zAll own ∧ meth.sig.returnType = rt ∧ meth.locks = false ∧ meth.name = nm ∧ va_K D vwCl tys s ∧ zNW s ∧ ∀ q : Nat, s.heap.size ≤ q → A q
theorem z_ent {l : Launch} {D : va_G} {tys : zTy} {Qc : (Nat → Prop) → Array Value → State → Outcome → State → Prop} {y : MethodName} {b : ByteArray} {n : Nat} {rt : Option FieldType} {rm : Room} {mc ms : Nat} {av : List Value} {ws0 : va_W} {sz : Nat} (hy : plainName y.cls = true) (hn : (lg_sl av).length ≤ n)
    (body : ∀ (p : Program) (e : Env) (s : State) (m : MethodId) (args : Array Value) (below : List Frame) (meth : Method) (c : Code) (A : Nat → Prop) (ls : Array Slot), zF p m c b n s args y.cls meth rt y.name A D tys → va_P D vwCl ws0 s.heap → va_D A ws0 → va_S A s.heap s.heap [] → lv_has ls n (lv_args 0 av) →
      W p l e rm s m args below meth c s.heap [] 0 0 (MQ below (Qc A) args s mc ms A) (F0 m 0 ls [])) : Met l y (zW y b n rt) rm (va_Pc av (zP D tys ws0 sz)) (Qc (va_A ws0 sz)) mc ms (va_A ws0 sz) := by
  refine Met.ofW (cc := b) (maxL := n) (ret := rt) hy rfl ?_
  intro p e s m args below meth c s₁ B hml hv
  obtain ⟨rfl, hsz, hP, hK, hD0, hN⟩ := hv
  have hts := atoms_spec (ws := zW y b n rt) B.pre
  subst hsz
  have hD := hD0.self (sz := s.heap.size)
  have hl := lv_entry av (n := n) hn
  rw [lg_entry_eq]
  exact body p e s m _ below meth c _ _ ⟨⟨B.exec, B.bytes, hml, findClass_of_methodNamed B.named, fun w hw => hts w (List.mem_cons_of_mem _ hw)⟩, B.returns, B.notSynchronized, (name_of_methodNamed B.named B.method).1, hK, hN, fun q h => Or.inr h⟩ hP hD va_S.rf hl
theorem z_map {ws ws' : va_W} {is : List Nat} (hs : is.map (fun i => ws[i]?) = ws'.map some) (k : Nat) (q : Nat × va_E) (hq : ws'[k]? = some q) : ∃ i, is[k]? = some i ∧ ws[i]? = some q := by
  have h1 : (is.map (fun i => ws[i]?))[k]? = some (some q) := by rw [hs, List.getElem?_map, hq]; rfl
  rw [List.getElem?_map] at h1
  cases h2 : is[k]? with
  | none => rw [h2] at h1; cases h1
  | some i => rw [h2] at h1; exact ⟨i, rfl, Option.some.inj h1⟩
theorem z_subP {D : va_G} {ws ws' : va_W} {H : Heap} (h : va_P D vwCl ws H) (is : List Nat) (hs : is.map (fun i => ws[i]?) = ws'.map some) : va_P D vwCl ws' H := fun k q hq => by
  obtain ⟨i, -, hi⟩ := z_map hs k q hq
  exact h i q hi
section ZR
variable {p : Program} {l : Launch} {e : Env} {R : Room} {s : State} {m : MethodId} {args : Array Value} {below : List Frame} {meth : Method} {c : Code} {H : Heap} {locs : List Loc} {cells slots : Nat} {Q : State → Prop}
variable {cc : ByteArray} {pc : Nat} {ls : Array Slot} {rest : List Value} {D : va_G} {A : Nat → Prop} {a : Nat} {tys : zTy} {ws : va_W} {H0 : Heap}
theorem z_iadd (hx : p.tables.exec = Jvm.exec) (hb : c.code = cc) {x y : Int} (hdg : decode cc pc = .ok (.iadd, 1))
    (k : W p l e R s m args below meth c H locs cells slots Q (F0 m (pc + 1) ls (vI (x + y) :: rest))) : W p l e R s m args below meth c H locs cells slots Q (F0 m pc ls (vI y :: vI x :: rest)) :=
  lv_iadd hx hb hdg (by rw [← Int32.ofInt_add]; exact k)
theorem z_isub (hx : p.tables.exec = Jvm.exec) (hb : c.code = cc) {x y : Int} (hdg : decode cc pc = .ok (.isub, 1))
    (k : W p l e R s m args below meth c H locs cells slots Q (F0 m (pc + 1) ls (vI (x - y) :: rest))) : W p l e R s m args below meth c H locs cells slots Q (F0 m pc ls (vI y :: vI x :: rest)) :=
  lv_isub hx hb hdg (by rw [← Int32.ofInt_sub]; exact k)
theorem z_imul (hx : p.tables.exec = Jvm.exec) (hb : c.code = cc) {x y : Int} (hdg : decode cc pc = .ok (.imul, 1))
    (k : W p l e R s m args below meth c H locs cells slots Q (F0 m (pc + 1) ls (vI (x * y) :: rest))) : W p l e R s m args below meth c H locs cells slots Q (F0 m pc ls (vI y :: vI x :: rest)) :=
  lv_imul hx hb hdg (by rw [← Int32.ofInt_mul]; exact k)
theorem z_ineg (hx : p.tables.exec = Jvm.exec) (hb : c.code = cc) {x : Int} (hdg : decode cc pc = .ok (.ineg, 1))
    (k : W p l e R s m args below meth c H locs cells slots Q (F0 m (pc + 1) ls (vI (-x) :: rest))) : W p l e R s m args below meth c H locs cells slots Q (F0 m pc ls (vI x :: rest)) :=
  lv_ineg hx hb hdg (by rw [← Int32.ofInt_neg]; exact k)
theorem z_top {x x' : Int} (h : x = x') (k : W p l e R s m args below meth c H locs cells slots Q (F0 m pc ls (vI x' :: rest))) : W p l e R s m args below meth c H locs cells slots Q (F0 m pc ls (vI x :: rest)) := by subst h; exact k
theorem z_div_eq {x y : Int} (h0 : 0 ≤ x) (h1 : x ≤ 2147483647) (h2 : 0 < y) (h3 : y ≤ 2147483647) : Int32.ofInt x / Int32.ofInt y = Int32.ofInt (x / y) ∧ Int32.ofInt x - Int32.ofInt x / Int32.ofInt y * Int32.ofInt y = Int32.ofInt (x % y) ∧ ¬ Int32.ofInt y = 0 := by
  obtain ⟨a, rfl⟩ := Int.eq_ofNat_of_zero_le h0
  obtain ⟨b, rfl⟩ := Int.eq_ofNat_of_zero_le (Int.le_of_lt h2)
  rw [← ofInt_nat, ← ofInt_nat]
  have e1 : ((a : Int) / (b : Int)) = ((a / b : Nat) : Int) := rfl
  have e2 : ((a : Int) % (b : Int)) = ((a % b : Nat) : Int) := rfl
  rw [e1, e2, ← ofInt_nat, ← ofInt_nat]
  exact ⟨pk_div (by omega) (by omega) (by omega), pk_rem (by omega) (by omega) (by omega), nI_ne0 (by omega) (by omega)⟩
theorem z_idiv (hx : p.tables.exec = Jvm.exec) (hb : c.code = cc) {x y : Int} (h0 : (0 ≤ x ∧ x ≤ 2147483647) ∧ 0 < y ∧ y ≤ 2147483647) (hdg : decode cc pc = .ok (.idiv, 1))
    (k : W p l e R s m args below meth c H locs cells slots Q (F0 m (pc + 1) ls (vI (x / y) :: rest))) : W p l e R s m args below meth c H locs cells slots Q (F0 m pc ls (vI y :: vI x :: rest)) := by
  obtain ⟨e1, e2, e3⟩ := z_div_eq h0.1.1 h0.1.2 h0.2.1 h0.2.2
  exact lv_idiv hx hb hdg e3 (by rw [e1]; exact k)
theorem z_irem (hx : p.tables.exec = Jvm.exec) (hb : c.code = cc) {x y : Int} (h0 : (0 ≤ x ∧ x ≤ 2147483647) ∧ 0 < y ∧ y ≤ 2147483647) (hdg : decode cc pc = .ok (.irem, 1))
    (k : W p l e R s m args below meth c H locs cells slots Q (F0 m (pc + 1) ls (vI (x % y) :: rest))) : W p l e R s m args below meth c H locs cells slots Q (F0 m pc ls (vI y :: vI x :: rest)) := by
  obtain ⟨e1, e2, e3⟩ := z_div_eq h0.1.1 h0.1.2 h0.2.1 h0.2.2
  exact lv_irem hx hb hdg e3 (by rw [e2]; exact k)
theorem z_if_eq (hx : p.tables.exec = Jvm.exec) (hb : c.code = cc) {x : Int} (gx : ck x) {off : Int} {tgt : Nat} (hdg : decode cc pc = .ok (.ifCond .eq off, 3)) (ht : (pc : Int) + off = (tgt : Int))
    (kt : x = 0 → W p l e R s m args below meth c H locs cells slots Q (F0 m tgt ls rest)) (kf : ¬ x = 0 → W p l e R s m args below meth c H locs cells slots Q (F0 m (pc + 3) ls rest)) : W p l e R s m args below meth c H locs cells slots Q (F0 m pc ls (vI x :: rest)) :=
  lv_if_eq hx hb hdg ht (fun h => kt ((ck_eq gx ck_0).mp h)) (fun h => kf (fun q => h ((ck_eq gx ck_0).mpr q)))
theorem z_if_ne (hx : p.tables.exec = Jvm.exec) (hb : c.code = cc) {x : Int} (gx : ck x) {off : Int} {tgt : Nat} (hdg : decode cc pc = .ok (.ifCond .ne off, 3)) (ht : (pc : Int) + off = (tgt : Int))
    (kt : ¬ x = 0 → W p l e R s m args below meth c H locs cells slots Q (F0 m tgt ls rest)) (kf : x = 0 → W p l e R s m args below meth c H locs cells slots Q (F0 m (pc + 3) ls rest)) : W p l e R s m args below meth c H locs cells slots Q (F0 m pc ls (vI x :: rest)) :=
  lv_if_ne hx hb hdg ht (fun h => kt (fun q => h ((ck_eq gx ck_0).mpr q))) (fun h => kf ((ck_eq gx ck_0).mp h))
theorem z_if_lt (hx : p.tables.exec = Jvm.exec) (hb : c.code = cc) {x : Int} (gx : ck x) {off : Int} {tgt : Nat} (hdg : decode cc pc = .ok (.ifCond .lt off, 3)) (ht : (pc : Int) + off = (tgt : Int))
    (kt : x < 0 → W p l e R s m args below meth c H locs cells slots Q (F0 m tgt ls rest)) (kf : ¬ x < 0 → W p l e R s m args below meth c H locs cells slots Q (F0 m (pc + 3) ls rest)) : W p l e R s m args below meth c H locs cells slots Q (F0 m pc ls (vI x :: rest)) :=
  lv_if_lt hx hb hdg ht (fun h => kt ((ck_lt gx ck_0).mp h)) (fun h => kf (fun q => h ((ck_lt gx ck_0).mpr q)))
theorem z_if_ge (hx : p.tables.exec = Jvm.exec) (hb : c.code = cc) {x : Int} (gx : ck x) {off : Int} {tgt : Nat} (hdg : decode cc pc = .ok (.ifCond .ge off, 3)) (ht : (pc : Int) + off = (tgt : Int))
    (kt : ¬ x < 0 → W p l e R s m args below meth c H locs cells slots Q (F0 m tgt ls rest)) (kf : x < 0 → W p l e R s m args below meth c H locs cells slots Q (F0 m (pc + 3) ls rest)) : W p l e R s m args below meth c H locs cells slots Q (F0 m pc ls (vI x :: rest)) :=
  lv_if_ge hx hb hdg ht (fun h => kt (Int.not_lt.mpr ((ck_le ck_0 gx).mp h))) (fun h => kf (Int.not_le.mp (fun q => h ((ck_le ck_0 gx).mpr q))))
theorem z_if_gt (hx : p.tables.exec = Jvm.exec) (hb : c.code = cc) {x : Int} (gx : ck x) {off : Int} {tgt : Nat} (hdg : decode cc pc = .ok (.ifCond .gt off, 3)) (ht : (pc : Int) + off = (tgt : Int))
    (kt : 0 < x → W p l e R s m args below meth c H locs cells slots Q (F0 m tgt ls rest)) (kf : ¬ 0 < x → W p l e R s m args below meth c H locs cells slots Q (F0 m (pc + 3) ls rest)) : W p l e R s m args below meth c H locs cells slots Q (F0 m pc ls (vI x :: rest)) :=
  lv_if_gt hx hb hdg ht (fun h => kt ((ck_lt ck_0 gx).mp h)) (fun h => kf (fun q => h ((ck_lt ck_0 gx).mpr q)))
theorem z_if_le (hx : p.tables.exec = Jvm.exec) (hb : c.code = cc) {x : Int} (gx : ck x) {off : Int} {tgt : Nat} (hdg : decode cc pc = .ok (.ifCond .le off, 3)) (ht : (pc : Int) + off = (tgt : Int))
    (kt : ¬ 0 < x → W p l e R s m args below meth c H locs cells slots Q (F0 m tgt ls rest)) (kf : 0 < x → W p l e R s m args below meth c H locs cells slots Q (F0 m (pc + 3) ls rest)) : W p l e R s m args below meth c H locs cells slots Q (F0 m pc ls (vI x :: rest)) :=
  lv_if_le hx hb hdg ht (fun h => kt (Int.not_lt.mpr ((ck_le gx ck_0).mp h))) (fun h => kf (Int.not_le.mp (fun q => h ((ck_le gx ck_0).mpr q))))
theorem z_icmp_eq (hx : p.tables.exec = Jvm.exec) (hb : c.code = cc) {x y : Int} (gx : ck x) (gy : ck y) {off : Int} {tgt : Nat} (hdg : decode cc pc = .ok (.if_icmp .eq off, 3)) (ht : (pc : Int) + off = (tgt : Int))
    (kt : x = y → W p l e R s m args below meth c H locs cells slots Q (F0 m tgt ls rest)) (kf : ¬ x = y → W p l e R s m args below meth c H locs cells slots Q (F0 m (pc + 3) ls rest)) : W p l e R s m args below meth c H locs cells slots Q (F0 m pc ls (vI y :: vI x :: rest)) :=
  lv_icmp_eq hx hb hdg ht (fun h => kt ((ck_eq gx gy).mp h)) (fun h => kf (fun q => h ((ck_eq gx gy).mpr q)))
theorem z_icmp_ne (hx : p.tables.exec = Jvm.exec) (hb : c.code = cc) {x y : Int} (gx : ck x) (gy : ck y) {off : Int} {tgt : Nat} (hdg : decode cc pc = .ok (.if_icmp .ne off, 3)) (ht : (pc : Int) + off = (tgt : Int))
    (kt : ¬ x = y → W p l e R s m args below meth c H locs cells slots Q (F0 m tgt ls rest)) (kf : x = y → W p l e R s m args below meth c H locs cells slots Q (F0 m (pc + 3) ls rest)) : W p l e R s m args below meth c H locs cells slots Q (F0 m pc ls (vI y :: vI x :: rest)) :=
  lv_icmp_ne hx hb hdg ht (fun h => kt (fun q => h ((ck_eq gx gy).mpr q))) (fun h => kf ((ck_eq gx gy).mp h))
theorem z_icmp_lt (hx : p.tables.exec = Jvm.exec) (hb : c.code = cc) {x y : Int} (gx : ck x) (gy : ck y) {off : Int} {tgt : Nat} (hdg : decode cc pc = .ok (.if_icmp .lt off, 3)) (ht : (pc : Int) + off = (tgt : Int))
    (kt : x < y → W p l e R s m args below meth c H locs cells slots Q (F0 m tgt ls rest)) (kf : ¬ x < y → W p l e R s m args below meth c H locs cells slots Q (F0 m (pc + 3) ls rest)) : W p l e R s m args below meth c H locs cells slots Q (F0 m pc ls (vI y :: vI x :: rest)) :=
  lv_icmp_lt hx hb hdg ht (fun h => kt ((ck_lt gx gy).mp h)) (fun h => kf (fun q => h ((ck_lt gx gy).mpr q)))
theorem z_icmp_ge (hx : p.tables.exec = Jvm.exec) (hb : c.code = cc) {x y : Int} (gx : ck x) (gy : ck y) {off : Int} {tgt : Nat} (hdg : decode cc pc = .ok (.if_icmp .ge off, 3)) (ht : (pc : Int) + off = (tgt : Int))
    (kt : ¬ x < y → W p l e R s m args below meth c H locs cells slots Q (F0 m tgt ls rest)) (kf : x < y → W p l e R s m args below meth c H locs cells slots Q (F0 m (pc + 3) ls rest)) : W p l e R s m args below meth c H locs cells slots Q (F0 m pc ls (vI y :: vI x :: rest)) :=
  lv_icmp_ge hx hb hdg ht (fun h => kt (Int.not_lt.mpr ((ck_le gy gx).mp h))) (fun h => kf (Int.not_le.mp (fun q => h ((ck_le gy gx).mpr q))))
theorem z_icmp_gt (hx : p.tables.exec = Jvm.exec) (hb : c.code = cc) {x y : Int} (gx : ck x) (gy : ck y) {off : Int} {tgt : Nat} (hdg : decode cc pc = .ok (.if_icmp .gt off, 3)) (ht : (pc : Int) + off = (tgt : Int))
    (kt : y < x → W p l e R s m args below meth c H locs cells slots Q (F0 m tgt ls rest)) (kf : ¬ y < x → W p l e R s m args below meth c H locs cells slots Q (F0 m (pc + 3) ls rest)) : W p l e R s m args below meth c H locs cells slots Q (F0 m pc ls (vI y :: vI x :: rest)) :=
  lv_icmp_gt hx hb hdg ht (fun h => kt ((ck_lt gy gx).mp h)) (fun h => kf (fun q => h ((ck_lt gy gx).mpr q)))
theorem z_icmp_le (hx : p.tables.exec = Jvm.exec) (hb : c.code = cc) {x y : Int} (gx : ck x) (gy : ck y) {off : Int} {tgt : Nat} (hdg : decode cc pc = .ok (.if_icmp .le off, 3)) (ht : (pc : Int) + off = (tgt : Int))
    (kt : ¬ y < x → W p l e R s m args below meth c H locs cells slots Q (F0 m tgt ls rest)) (kf : y < x → W p l e R s m args below meth c H locs cells slots Q (F0 m (pc + 3) ls rest)) : W p l e R s m args below meth c H locs cells slots Q (F0 m pc ls (vI y :: vI x :: rest)) :=
  lv_icmp_le hx hb hdg ht (fun h => kt (Int.not_lt.mpr ((ck_le gx gy).mp h))) (fun h => kf (Int.not_le.mp (fun q => h ((ck_le gx gy).mpr q))))
theorem z_iald (hx : p.tables.exec = Jvm.exec) (hb : c.code = cc) (hK : va_K D vwCl tys s) (hP : va_P D vwCl ws H) (q0 : Nat) {cA : ClassId} {n : Nat} {f : Nat → Int} (ha : ws[q0]? = some (a, .inl (cA, n, .inl (ia f)))) (ht : tys[0]? = some (cA, .int)) {i : Int} (h0 : 0 ≤ i ∧ i < (n : Int)) (h1 : i ≤ 2147483647) (hdg : decode cc pc = .ok (.iaload, 1))
    (k : W p l e R s m args below meth c H locs cells slots Q (F0 m (pc + 1) ls (vI (f i.toNat) :: rest))) : W p l e R s m args below meth c H locs cells slots Q (F0 m pc ls (vI i :: .ref a :: rest)) :=
  va_iald hx hb hK hP q0 0 ha ht (ck_in h0.1 h1 h0.2) hdg (by rw [ck_nat h0.1 h1]; exact k)
theorem z_zald (hx : p.tables.exec = Jvm.exec) (hb : c.code = cc) (hK : va_K D vwCl tys s) (hP : va_P D vwCl ws H) (q0 : Nat) {cA : ClassId} {n : Nat} {f : Nat → Int} (ha : ws[q0]? = some (a, .inl (cA, n, .inl (ia f)))) (ht : tys[1]? = some (cA, .boolean)) {i : Int} (h0 : 0 ≤ i ∧ i < (n : Int)) (h1 : i ≤ 2147483647) (hdg : decode cc pc = .ok (.baload, 1))
    (k : W p l e R s m args below meth c H locs cells slots Q (F0 m (pc + 1) ls (vI (f i.toNat) :: rest))) : W p l e R s m args below meth c H locs cells slots Q (F0 m pc ls (vI i :: .ref a :: rest)) :=
  va_zald hx hb hK hP q0 1 ha ht (ck_in h0.1 h1 h0.2) hdg (by rw [ck_nat h0.1 h1]; exact k)
theorem z_iast (hx : p.tables.exec = Jvm.exec) (hb : c.code = cc) (hK : va_K D vwCl tys s) (hP : va_P D vwCl ws H) (hD : va_D A ws) (hS : va_S A H0 H locs) (q0 : Nat) {cA : ClassId} {n : Nat} {f : Nat → Int} (ha : ws[q0]? = some (a, .inl (cA, n, .inl (ia f)))) (ht : tys[0]? = some (cA, .int)) {i x : Int} (h0 : 0 ≤ i ∧ i < (n : Int)) (h1 : i ≤ 2147483647) (hdg : decode cc pc = .ok (.iastore, 1)) {ws' : va_W} (hw : ws.set q0 (a, .inl (cA, n, .inl (ia (up f i.toNat x)))) = ws')
    (kk : ∀ (H1 : Heap) (locs1 : List Loc), va_P D vwCl ws' H1 → va_D A ws' → va_S A H0 H1 locs1 → W p l e R s m args below meth c H1 locs1 cells slots Q (F0 m (pc + 1) ls rest)) : W p l e R s m args below meth c H locs cells slots Q (F0 m pc ls (vI x :: vI i :: .ref a :: rest)) := by
  subst hw
  refine va_iast hx hb hK hP hD hS q0 0 ha ht (ck_in h0.1 h1 h0.2) hdg ?_
  rw [ck_nat h0.1 h1, ia_up]
  exact kk
theorem z_zast (hx : p.tables.exec = Jvm.exec) (hb : c.code = cc) (hK : va_K D vwCl tys s) (hP : va_P D vwCl ws H) (hD : va_D A ws) (hS : va_S A H0 H locs) (q0 : Nat) {cA : ClassId} {n : Nat} {f : Nat → Int} (ha : ws[q0]? = some (a, .inl (cA, n, .inl (ia f)))) (ht : tys[1]? = some (cA, .boolean)) {i x : Int} (h0 : 0 ≤ i ∧ i < (n : Int)) (h1 : i ≤ 2147483647) (hz : vp_nar .boolean (Int32.ofInt x) = Int32.ofInt x) (hdg : decode cc pc = .ok (.bastore, 1)) {ws' : va_W} (hw : ws.set q0 (a, .inl (cA, n, .inl (ia (up f i.toNat x)))) = ws')
    (kk : ∀ (H1 : Heap) (locs1 : List Loc), va_P D vwCl ws' H1 → va_D A ws' → va_S A H0 H1 locs1 → W p l e R s m args below meth c H1 locs1 cells slots Q (F0 m (pc + 1) ls rest)) : W p l e R s m args below meth c H locs cells slots Q (F0 m pc ls (vI x :: vI i :: .ref a :: rest)) := by
  subst hw
  refine va_zast hx hb hK hP hD hS q0 1 ha ht (ck_in h0.1 h1 h0.2) hdg ?_
  rw [hz, ck_nat h0.1 h1, ia_up]
  exact kk
theorem z_alen (hx : p.tables.exec = Jvm.exec) (hb : c.code = cc) (hK : va_K D vwCl tys s) (hP : va_P D vwCl ws H) (q0 : Nat) {cA : ClassId} {n : Nat} {f : Nat → Int} (ha : ws[q0]? = some (a, .inl (cA, n, .inl (ia f)))) (ht : tys[0]? = some (cA, .int)) (hdg : decode cc pc = .ok (.arraylength, 1))
    (k : W p l e R s m args below meth c H locs cells slots Q (F0 m (pc + 1) ls (vI (n : Int) :: rest))) : W p l e R s m args below meth c H locs cells slots Q (F0 m pc ls (.ref a :: rest)) :=
  va_alen hx hb hK hP q0 0 ha ht (ofInt_nat n) hdg k
/-! calls: the callee's cells out (places isC), the rest (isR) beside what came back; then in the order of perm -/
theorem z_goi {mc ms : Nat} {st0 : List Value} {av : Array Value} {wc wr ws' : va_W} {w1 : zU → va_W} {wn : zU → va_W} {ret : Int} (hr : va_Run p l e R s m args below meth c H locs cells slots mc ms (F0 m pc ls st0) rest (va_Qi (fun (r : Int32) (_ : zU) => r = Int32.ofInt ret) (fun u t => va_P D vwCl (w1 u) t.heap ∧ va_D (va_A wc H.size) (w1 u)) (va_A wc H.size) av) (va_A wc H.size))
    (hP : va_P D vwCl ws H) (hD : va_D A ws) (hS : va_S A H0 H locs) (hA : ∀ q, H0.size ≤ q → A q) (isC isR perm : List Nat) (hC : isC.map (fun i => ws[i]?) = wc.map some) (hR : isR.map (fun i => ws[i]?) = wr.map some) (hn : (va_nd isR && (isR.all (fun i => !isC.contains i) && va_nd perm)) = true) (hp : ∀ u, perm.map (fun i => (wr ++ w1 u)[i]?) = (wn u).map some)
    (kk : ∀ (u : zU) (H1 : Heap) (locs1 : List Loc), va_P D vwCl (wn u) H1 → va_D A (wn u) → va_S A H0 H1 locs1 → H.size ≤ H1.size → W p l e R s m args below meth c H1 locs1 (cells + mc) (slots + ms) Q (F0 m (pc + 3) ls (vI ret :: rest))) : W p l e R s m args below meth c H locs cells slots Q (F0 m pc ls st0) := by
  simp only [Bool.and_eq_true, List.all_eq_true, Bool.not_eq_true', List.contains_iff_mem, decide_eq_true_eq] at hn
  obtain ⟨hn1, hn2, hn3⟩ := hn
  have hFc := va_free (wc := wc) hD hS hA isC hC
  refine va_calli hr hS (fun q _ h => hFc q h) hFc (fun r u t H1 locs1 ht hvm hw hB hz hk hS1 => ?_)
  obtain ⟨hP1, hD1⟩ := hB
  rw [ht] at hP1
  subst hw
  obtain ⟨hP2, hD2⟩ := va_join hP hD isC isR hC hR hn1 (fun i hi => by have := hn2 i hi; simpa using this) hk hFc hP1 hD1
  exact kk u H1 locs1 (z_subP hP2 perm (hp u)) (hD2.sub perm hn3 (hp u)) hS1 hz
end ZR
end
