section
-- ===== PART A: goes FIRST, ahead of the names: the tables' words, and 'selects' of the private methods out of them =====
/-- a private method of a class that the tables say can be made, by its rows of tables_1 -/
def lw_okq (q : MethodName × Nat) : Prop := (q.1.cls ≠ "java/lang/invoke/MethodHandle" ∧ q.1.cls ≠ "java/lang/invoke/VarHandle") ∧ Cond.instantiable q.1.cls q.2 ∈ tables_1 ∧ Cond.privateMethod q.1 ∈ tables_1 ∧ Cond.instanceMethod q.1 ∈ tables_1
theorem lw_p0 : lw_okq (⟨"DreamTrain$Shelf", "bears", "(I)Z"⟩, 2) := ⟨⟨by decide +kernel, by decide +kernel⟩, List.mem_of_getElem? (i := 20) (by decide +kernel), List.mem_of_getElem? (i := 218) (by decide +kernel), List.mem_of_getElem? (i := 219) (by decide +kernel)⟩
theorem lw_p1 : lw_okq (⟨"DreamTrain", "found", "(I)I"⟩, 17) := ⟨⟨by decide +kernel, by decide +kernel⟩, List.mem_of_getElem? (i := 12) (by decide +kernel), List.mem_of_getElem? (i := 225) (by decide +kernel), List.mem_of_getElem? (i := 226) (by decide +kernel)⟩
theorem lw_p2 : lw_okq (⟨"DreamTrain$Shelf", "layOut", "(III)V"⟩, 2) := ⟨⟨by decide +kernel, by decide +kernel⟩, List.mem_of_getElem? (i := 20) (by decide +kernel), List.mem_of_getElem? (i := 229) (by decide +kernel), List.mem_of_getElem? (i := 230) (by decide +kernel)⟩
theorem lw_p3 : lw_okq (⟨"DreamTrain", "refusalOfCell", "(LDreamTrain$Shelf;II)I"⟩, 17) := ⟨⟨by decide +kernel, by decide +kernel⟩, List.mem_of_getElem? (i := 12) (by decide +kernel), List.mem_of_getElem? (i := 237) (by decide +kernel), List.mem_of_getElem? (i := 238) (by decide +kernel)⟩
theorem lw_p4 : lw_okq (⟨"DreamTrain", "refusalOfShelf", "(LDreamTrain$Shelf;I)I"⟩, 17) := ⟨⟨by decide +kernel, by decide +kernel⟩, List.mem_of_getElem? (i := 12) (by decide +kernel), List.mem_of_getElem? (i := 241) (by decide +kernel), List.mem_of_getElem? (i := 242) (by decide +kernel)⟩
theorem lw_p5 : lw_okq (⟨"DreamTrain$Shelf", "holds", "(I)Z"⟩, 2) := ⟨⟨by decide +kernel, by decide +kernel⟩, List.mem_of_getElem? (i := 20) (by decide +kernel), List.mem_of_getElem? (i := 245) (by decide +kernel), List.mem_of_getElem? (i := 246) (by decide +kernel)⟩
theorem lw_p6 : lw_okq (⟨"DreamTrain$Reader", "readInto", "(LDreamTrain$Line;[II)I"⟩, 4) := ⟨⟨by decide +kernel, by decide +kernel⟩, List.mem_of_getElem? (i := 107) (by decide +kernel), List.mem_of_getElem? (i := 285) (by decide +kernel), List.mem_of_getElem? (i := 286) (by decide +kernel)⟩
theorem lw_p7 : lw_okq (⟨"DreamTrain$Reader", "readHead", "(LDreamTrain$Line;)V"⟩, 4) := ⟨⟨by decide +kernel, by decide +kernel⟩, List.mem_of_getElem? (i := 107) (by decide +kernel), List.mem_of_getElem? (i := 292) (by decide +kernel), List.mem_of_getElem? (i := 293) (by decide +kernel)⟩
theorem lw_p8 : lw_okq (⟨"DreamTrain$Reader", "passBlanks", "()V"⟩, 4) := ⟨⟨by decide +kernel, by decide +kernel⟩, List.mem_of_getElem? (i := 107) (by decide +kernel), List.mem_of_getElem? (i := 296) (by decide +kernel), List.mem_of_getElem? (i := 297) (by decide +kernel)⟩
theorem lw_p9 : lw_okq (⟨"DreamTrain$Reader", "readTwoFigures", "(II)I"⟩, 4) := ⟨⟨by decide +kernel, by decide +kernel⟩, List.mem_of_getElem? (i := 107) (by decide +kernel), List.mem_of_getElem? (i := 300) (by decide +kernel), List.mem_of_getElem? (i := 301) (by decide +kernel)⟩
theorem lw_p10 : lw_okq (⟨"DreamTrain$Reader", "readFigure", "()I"⟩, 4) := ⟨⟨by decide +kernel, by decide +kernel⟩, List.mem_of_getElem? (i := 107) (by decide +kernel), List.mem_of_getElem? (i := 304) (by decide +kernel), List.mem_of_getElem? (i := 305) (by decide +kernel)⟩
theorem lw_p11 : lw_okq (⟨"DreamTrain$Line", "begin", "(II)V"⟩, 13) := ⟨⟨by decide +kernel, by decide +kernel⟩, List.mem_of_getElem? (i := 41) (by decide +kernel), List.mem_of_getElem? (i := 309) (by decide +kernel), List.mem_of_getElem? (i := 310) (by decide +kernel)⟩
theorem lw_p12 : lw_okq (⟨"DreamTrain$Reader", "readSleeper", "(LDreamTrain$Line;)V"⟩, 4) := ⟨⟨by decide +kernel, by decide +kernel⟩, List.mem_of_getElem? (i := 107) (by decide +kernel), List.mem_of_getElem? (i := 313) (by decide +kernel), List.mem_of_getElem? (i := 314) (by decide +kernel)⟩
theorem lw_p13 : lw_okq (⟨"DreamTrain$Line", "addSleeper", "(III)V"⟩, 13) := ⟨⟨by decide +kernel, by decide +kernel⟩, List.mem_of_getElem? (i := 41) (by decide +kernel), List.mem_of_getElem? (i := 322) (by decide +kernel), List.mem_of_getElem? (i := 323) (by decide +kernel)⟩
theorem lw_p14 : lw_okq (⟨"DreamTrain$Line", "become", "(LDreamTrain$Line;)V"⟩, 13) := ⟨⟨by decide +kernel, by decide +kernel⟩, List.mem_of_getElem? (i := 41) (by decide +kernel), List.mem_of_getElem? (i := 330) (by decide +kernel), List.mem_of_getElem? (i := 331) (by decide +kernel)⟩
theorem lw_p15 : lw_okq (⟨"DreamTrain", "toldOfSleeper", "(II)I"⟩, 17) := ⟨⟨by decide +kernel, by decide +kernel⟩, List.mem_of_getElem? (i := 12) (by decide +kernel), List.mem_of_getElem? (i := 339) (by decide +kernel), List.mem_of_getElem? (i := 340) (by decide +kernel)⟩
def lw_privs_1 : List (MethodName × Nat) := [(⟨"DreamTrain$Shelf", "bears", "(I)Z"⟩, 2), (⟨"DreamTrain", "found", "(I)I"⟩, 17), (⟨"DreamTrain$Shelf", "layOut", "(III)V"⟩, 2), (⟨"DreamTrain", "refusalOfCell", "(LDreamTrain$Shelf;II)I"⟩, 17), (⟨"DreamTrain", "refusalOfShelf", "(LDreamTrain$Shelf;I)I"⟩, 17), (⟨"DreamTrain$Shelf", "holds", "(I)Z"⟩, 2), (⟨"DreamTrain$Reader", "readInto", "(LDreamTrain$Line;[II)I"⟩, 4), (⟨"DreamTrain$Reader", "readHead", "(LDreamTrain$Line;)V"⟩, 4), (⟨"DreamTrain$Reader", "passBlanks", "()V"⟩, 4), (⟨"DreamTrain$Reader", "readTwoFigures", "(II)I"⟩, 4), (⟨"DreamTrain$Reader", "readFigure", "()I"⟩, 4), (⟨"DreamTrain$Line", "begin", "(II)V"⟩, 13), (⟨"DreamTrain$Reader", "readSleeper", "(LDreamTrain$Line;)V"⟩, 4), (⟨"DreamTrain$Line", "addSleeper", "(III)V"⟩, 13), (⟨"DreamTrain$Line", "become", "(LDreamTrain$Line;)V"⟩, 13), (⟨"DreamTrain", "toldOfSleeper", "(II)I"⟩, 17)]
theorem lw_r1 : ∀ q ∈ lw_privs_1, lw_okq q := List.forall_mem_cons.mpr ⟨lw_p0, List.forall_mem_cons.mpr ⟨lw_p1, List.forall_mem_cons.mpr ⟨lw_p2, List.forall_mem_cons.mpr ⟨lw_p3, List.forall_mem_cons.mpr ⟨lw_p4, List.forall_mem_cons.mpr ⟨lw_p5, List.forall_mem_cons.mpr ⟨lw_p6, List.forall_mem_cons.mpr ⟨lw_p7, List.forall_mem_cons.mpr ⟨lw_p8, List.forall_mem_cons.mpr ⟨lw_p9, List.forall_mem_cons.mpr ⟨lw_p10, List.forall_mem_cons.mpr ⟨lw_p11, List.forall_mem_cons.mpr ⟨lw_p12, List.forall_mem_cons.mpr ⟨lw_p13, List.forall_mem_cons.mpr ⟨lw_p14, List.forall_mem_cons.mpr ⟨lw_p15, fun _ h => absurd h List.not_mem_nil⟩⟩⟩⟩⟩⟩⟩⟩⟩⟩⟩⟩⟩⟩⟩⟩
theorem lw_p16 : lw_okq (⟨"DreamTrain$Line", "isAsleep", "(I)Z"⟩, 13) := ⟨⟨by decide +kernel, by decide +kernel⟩, List.mem_of_getElem? (i := 41) (by decide +kernel), List.mem_of_getElem? (i := 343) (by decide +kernel), List.mem_of_getElem? (i := 344) (by decide +kernel)⟩
theorem lw_p17 : lw_okq (⟨"DreamTrain$Line", "isDreaming", "(I)Z"⟩, 13) := ⟨⟨by decide +kernel, by decide +kernel⟩, List.mem_of_getElem? (i := 41) (by decide +kernel), List.mem_of_getElem? (i := 350) (by decide +kernel), List.mem_of_getElem? (i := 351) (by decide +kernel)⟩
theorem lw_p18 : lw_okq (⟨"DreamTrain$Line", "hasRoomFor", "(I)Z"⟩, 13) := ⟨⟨by decide +kernel, by decide +kernel⟩, List.mem_of_getElem? (i := 41) (by decide +kernel), List.mem_of_getElem? (i := 379) (by decide +kernel), List.mem_of_getElem? (i := 380) (by decide +kernel)⟩
theorem lw_p19 : lw_okq (⟨"DreamTrain$Line", "passMinute", "()V"⟩, 13) := ⟨⟨by decide +kernel, by decide +kernel⟩, List.mem_of_getElem? (i := 41) (by decide +kernel), List.mem_of_getElem? (i := 383) (by decide +kernel), List.mem_of_getElem? (i := 384) (by decide +kernel)⟩
theorem lw_p20 : lw_okq (⟨"DreamTrain$Line", "noteDeed", "(III)V"⟩, 13) := ⟨⟨by decide +kernel, by decide +kernel⟩, List.mem_of_getElem? (i := 41) (by decide +kernel), List.mem_of_getElem? (i := 387) (by decide +kernel), List.mem_of_getElem? (i := 388) (by decide +kernel)⟩
theorem lw_p21 : lw_okq (⟨"DreamTrain$Line", "isStanding", "()Z"⟩, 13) := ⟨⟨by decide +kernel, by decide +kernel⟩, List.mem_of_getElem? (i := 41) (by decide +kernel), List.mem_of_getElem? (i := 392) (by decide +kernel), List.mem_of_getElem? (i := 393) (by decide +kernel)⟩
theorem lw_p22 : lw_okq (⟨"DreamTrain$Line", "changeSupper", "(II)V"⟩, 13) := ⟨⟨by decide +kernel, by decide +kernel⟩, List.mem_of_getElem? (i := 41) (by decide +kernel), List.mem_of_getElem? (i := 401) (by decide +kernel), List.mem_of_getElem? (i := 402) (by decide +kernel)⟩
theorem lw_p23 : lw_okq (⟨"DreamTrain$Line", "wakeOrLull", "(I)V"⟩, 13) := ⟨⟨by decide +kernel, by decide +kernel⟩, List.mem_of_getElem? (i := 41) (by decide +kernel), List.mem_of_getElem? (i := 409) (by decide +kernel), List.mem_of_getElem? (i := 410) (by decide +kernel)⟩
theorem lw_p24 : lw_okq (⟨"DreamTrain$Line", "takeBackLatest", "()V"⟩, 13) := ⟨⟨by decide +kernel, by decide +kernel⟩, List.mem_of_getElem? (i := 41) (by decide +kernel), List.mem_of_getElem? (i := 421) (by decide +kernel), List.mem_of_getElem? (i := 422) (by decide +kernel)⟩
theorem lw_p25 : lw_okq (⟨"DreamTrain$Journey", "setOut", "(LDreamTrain$Line;)V"⟩, 7) := ⟨⟨by decide +kernel, by decide +kernel⟩, List.mem_of_getElem? (i := 127) (by decide +kernel), List.mem_of_getElem? (i := 437) (by decide +kernel), List.mem_of_getElem? (i := 438) (by decide +kernel)⟩
theorem lw_p26 : lw_okq (⟨"DreamTrain$Journey", "ride", "(II)I"⟩, 7) := ⟨⟨by decide +kernel, by decide +kernel⟩, List.mem_of_getElem? (i := 127) (by decide +kernel), List.mem_of_getElem? (i := 444) (by decide +kernel), List.mem_of_getElem? (i := 445) (by decide +kernel)⟩
theorem lw_p27 : lw_okq (⟨"DreamTrain$Journey", "gatherStands", "(I)V"⟩, 7) := ⟨⟨by decide +kernel, by decide +kernel⟩, List.mem_of_getElem? (i := 127) (by decide +kernel), List.mem_of_getElem? (i := 448) (by decide +kernel), List.mem_of_getElem? (i := 449) (by decide +kernel)⟩
theorem lw_p28 : lw_okq (⟨"DreamTrain$Journey", "minutesAt", "(II)I"⟩, 7) := ⟨⟨by decide +kernel, by decide +kernel⟩, List.mem_of_getElem? (i := 127) (by decide +kernel), List.mem_of_getElem? (i := 463) (by decide +kernel), List.mem_of_getElem? (i := 464) (by decide +kernel)⟩
theorem lw_p29 : lw_okq (⟨"DreamTrain$Line", "setCount", "()I"⟩, 13) := ⟨⟨by decide +kernel, by decide +kernel⟩, List.mem_of_getElem? (i := 41) (by decide +kernel), List.mem_of_getElem? (i := 475) (by decide +kernel), List.mem_of_getElem? (i := 476) (by decide +kernel)⟩
theorem lw_p30 : lw_okq (⟨"DreamTrain", "standsBehind", "(II)Z"⟩, 17) := ⟨⟨by decide +kernel, by decide +kernel⟩, List.mem_of_getElem? (i := 12) (by decide +kernel), List.mem_of_getElem? (i := 492) (by decide +kernel), List.mem_of_getElem? (i := 493) (by decide +kernel)⟩
theorem lw_p31 : lw_okq (⟨"DreamTrain", "learnSuppers", "()V"⟩, 17) := ⟨⟨by decide +kernel, by decide +kernel⟩, List.mem_of_getElem? (i := 12) (by decide +kernel), List.mem_of_getElem? (i := 496) (by decide +kernel), List.mem_of_getElem? (i := 497) (by decide +kernel)⟩
def lw_privs_2 : List (MethodName × Nat) := [(⟨"DreamTrain$Line", "isAsleep", "(I)Z"⟩, 13), (⟨"DreamTrain$Line", "isDreaming", "(I)Z"⟩, 13), (⟨"DreamTrain$Line", "hasRoomFor", "(I)Z"⟩, 13), (⟨"DreamTrain$Line", "passMinute", "()V"⟩, 13), (⟨"DreamTrain$Line", "noteDeed", "(III)V"⟩, 13), (⟨"DreamTrain$Line", "isStanding", "()Z"⟩, 13), (⟨"DreamTrain$Line", "changeSupper", "(II)V"⟩, 13), (⟨"DreamTrain$Line", "wakeOrLull", "(I)V"⟩, 13), (⟨"DreamTrain$Line", "takeBackLatest", "()V"⟩, 13), (⟨"DreamTrain$Journey", "setOut", "(LDreamTrain$Line;)V"⟩, 7), (⟨"DreamTrain$Journey", "ride", "(II)I"⟩, 7), (⟨"DreamTrain$Journey", "gatherStands", "(I)V"⟩, 7), (⟨"DreamTrain$Journey", "minutesAt", "(II)I"⟩, 7), (⟨"DreamTrain$Line", "setCount", "()I"⟩, 13), (⟨"DreamTrain", "standsBehind", "(II)Z"⟩, 17), (⟨"DreamTrain", "learnSuppers", "()V"⟩, 17)]
theorem lw_r2 : ∀ q ∈ lw_privs_2, lw_okq q := List.forall_mem_cons.mpr ⟨lw_p16, List.forall_mem_cons.mpr ⟨lw_p17, List.forall_mem_cons.mpr ⟨lw_p18, List.forall_mem_cons.mpr ⟨lw_p19, List.forall_mem_cons.mpr ⟨lw_p20, List.forall_mem_cons.mpr ⟨lw_p21, List.forall_mem_cons.mpr ⟨lw_p22, List.forall_mem_cons.mpr ⟨lw_p23, List.forall_mem_cons.mpr ⟨lw_p24, List.forall_mem_cons.mpr ⟨lw_p25, List.forall_mem_cons.mpr ⟨lw_p26, List.forall_mem_cons.mpr ⟨lw_p27, List.forall_mem_cons.mpr ⟨lw_p28, List.forall_mem_cons.mpr ⟨lw_p29, List.forall_mem_cons.mpr ⟨lw_p30, List.forall_mem_cons.mpr ⟨lw_p31, fun _ h => absurd h List.not_mem_nil⟩⟩⟩⟩⟩⟩⟩⟩⟩⟩⟩⟩⟩⟩⟩⟩
theorem lw_p32 : lw_okq (⟨"DreamTrain", "wayByOne", "(III)I"⟩, 17) := ⟨⟨by decide +kernel, by decide +kernel⟩, List.mem_of_getElem? (i := 12) (by decide +kernel), List.mem_of_getElem? (i := 501) (by decide +kernel), List.mem_of_getElem? (i := 502) (by decide +kernel)⟩
theorem lw_p33 : lw_okq (⟨"DreamTrain", "mattersTo", "(II)Z"⟩, 17) := ⟨⟨by decide +kernel, by decide +kernel⟩, List.mem_of_getElem? (i := 12) (by decide +kernel), List.mem_of_getElem? (i := 505) (by decide +kernel), List.mem_of_getElem? (i := 506) (by decide +kernel)⟩
theorem lw_p34 : lw_okq (⟨"DreamTrain", "wayByTwo", "(II)I"⟩, 17) := ⟨⟨by decide +kernel, by decide +kernel⟩, List.mem_of_getElem? (i := 12) (by decide +kernel), List.mem_of_getElem? (i := 509) (by decide +kernel), List.mem_of_getElem? (i := 510) (by decide +kernel)⟩
theorem lw_p35 : lw_okq (⟨"DreamTrain", "refusalOfSeen", "(I)I"⟩, 17) := ⟨⟨by decide +kernel, by decide +kernel⟩, List.mem_of_getElem? (i := 12) (by decide +kernel), List.mem_of_getElem? (i := 521) (by decide +kernel), List.mem_of_getElem? (i := 522) (by decide +kernel)⟩
theorem lw_p36 : lw_okq (⟨"DreamTrain", "fitsSeen", "(II)Z"⟩, 17) := ⟨⟨by decide +kernel, by decide +kernel⟩, List.mem_of_getElem? (i := 12) (by decide +kernel), List.mem_of_getElem? (i := 525) (by decide +kernel), List.mem_of_getElem? (i := 526) (by decide +kernel)⟩
theorem lw_p37 : lw_okq (⟨"DreamTrain", "greatestPart", "(I)I"⟩, 17) := ⟨⟨by decide +kernel, by decide +kernel⟩, List.mem_of_getElem? (i := 12) (by decide +kernel), List.mem_of_getElem? (i := 537) (by decide +kernel), List.mem_of_getElem? (i := 538) (by decide +kernel)⟩
theorem lw_p38 : lw_okq (⟨"DreamTrain", "playTurn", "(IZ)V"⟩, 17) := ⟨⟨by decide +kernel, by decide +kernel⟩, List.mem_of_getElem? (i := 12) (by decide +kernel), List.mem_of_getElem? (i := 545) (by decide +kernel), List.mem_of_getElem? (i := 546) (by decide +kernel)⟩
theorem lw_p39 : lw_okq (⟨"DreamTrain", "weighPlaces", "(II)V"⟩, 17) := ⟨⟨by decide +kernel, by decide +kernel⟩, List.mem_of_getElem? (i := 12) (by decide +kernel), List.mem_of_getElem? (i := 554) (by decide +kernel), List.mem_of_getElem? (i := 555) (by decide +kernel)⟩
theorem lw_p40 : lw_okq (⟨"DreamTrain", "tellPart", "(JJ)V"⟩, 17) := ⟨⟨by decide +kernel, by decide +kernel⟩, List.mem_of_getElem? (i := 12) (by decide +kernel), List.mem_of_getElem? (i := 562) (by decide +kernel), List.mem_of_getElem? (i := 563) (by decide +kernel)⟩
theorem lw_p41 : lw_okq (⟨"DreamTrain", "doByLot", "(I)V"⟩, 17) := ⟨⟨by decide +kernel, by decide +kernel⟩, List.mem_of_getElem? (i := 12) (by decide +kernel), List.mem_of_getElem? (i := 583) (by decide +kernel), List.mem_of_getElem? (i := 584) (by decide +kernel)⟩
theorem lw_p42 : lw_okq (⟨"DreamTrain", "toldCount", "(I)I"⟩, 17) := ⟨⟨by decide +kernel, by decide +kernel⟩, List.mem_of_getElem? (i := 12) (by decide +kernel), List.mem_of_getElem? (i := 603) (by decide +kernel), List.mem_of_getElem? (i := 604) (by decide +kernel)⟩
theorem lw_p43 : lw_okq (⟨"DreamTrain$Line", "dreamers", "()I"⟩, 13) := ⟨⟨by decide +kernel, by decide +kernel⟩, List.mem_of_getElem? (i := 41) (by decide +kernel), List.mem_of_getElem? (i := 607) (by decide +kernel), List.mem_of_getElem? (i := 608) (by decide +kernel)⟩
theorem lw_p44 : lw_okq (⟨"DreamTrain$Shelf", "howMany", "()I"⟩, 2) := ⟨⟨by decide +kernel, by decide +kernel⟩, List.mem_of_getElem? (i := 20) (by decide +kernel), List.mem_of_getElem? (i := 612) (by decide +kernel), List.mem_of_getElem? (i := 613) (by decide +kernel)⟩
theorem lw_p45 : lw_okq (⟨"DreamTrain", "keptCount", "()I"⟩, 17) := ⟨⟨by decide +kernel, by decide +kernel⟩, List.mem_of_getElem? (i := 12) (by decide +kernel), List.mem_of_getElem? (i := 618) (by decide +kernel), List.mem_of_getElem? (i := 619) (by decide +kernel)⟩
theorem lw_p46 : lw_okq (⟨"DreamTrain$Line", "cheeseEaters", "()I"⟩, 13) := ⟨⟨by decide +kernel, by decide +kernel⟩, List.mem_of_getElem? (i := 41) (by decide +kernel), List.mem_of_getElem? (i := 622) (by decide +kernel), List.mem_of_getElem? (i := 623) (by decide +kernel)⟩
theorem lw_p47 : lw_okq (⟨"DreamTrain$Shelf", "stir", "(J)J"⟩, 2) := ⟨⟨by decide +kernel, by decide +kernel⟩, List.mem_of_getElem? (i := 20) (by decide +kernel), List.mem_of_getElem? (i := 640) (by decide +kernel), List.mem_of_getElem? (i := 641) (by decide +kernel)⟩
def lw_privs_3 : List (MethodName × Nat) := [(⟨"DreamTrain", "wayByOne", "(III)I"⟩, 17), (⟨"DreamTrain", "mattersTo", "(II)Z"⟩, 17), (⟨"DreamTrain", "wayByTwo", "(II)I"⟩, 17), (⟨"DreamTrain", "refusalOfSeen", "(I)I"⟩, 17), (⟨"DreamTrain", "fitsSeen", "(II)Z"⟩, 17), (⟨"DreamTrain", "greatestPart", "(I)I"⟩, 17), (⟨"DreamTrain", "playTurn", "(IZ)V"⟩, 17), (⟨"DreamTrain", "weighPlaces", "(II)V"⟩, 17), (⟨"DreamTrain", "tellPart", "(JJ)V"⟩, 17), (⟨"DreamTrain", "doByLot", "(I)V"⟩, 17), (⟨"DreamTrain", "toldCount", "(I)I"⟩, 17), (⟨"DreamTrain$Line", "dreamers", "()I"⟩, 13), (⟨"DreamTrain$Shelf", "howMany", "()I"⟩, 2), (⟨"DreamTrain", "keptCount", "()I"⟩, 17), (⟨"DreamTrain$Line", "cheeseEaters", "()I"⟩, 13), (⟨"DreamTrain$Shelf", "stir", "(J)J"⟩, 2)]
theorem lw_r3 : ∀ q ∈ lw_privs_3, lw_okq q := List.forall_mem_cons.mpr ⟨lw_p32, List.forall_mem_cons.mpr ⟨lw_p33, List.forall_mem_cons.mpr ⟨lw_p34, List.forall_mem_cons.mpr ⟨lw_p35, List.forall_mem_cons.mpr ⟨lw_p36, List.forall_mem_cons.mpr ⟨lw_p37, List.forall_mem_cons.mpr ⟨lw_p38, List.forall_mem_cons.mpr ⟨lw_p39, List.forall_mem_cons.mpr ⟨lw_p40, List.forall_mem_cons.mpr ⟨lw_p41, List.forall_mem_cons.mpr ⟨lw_p42, List.forall_mem_cons.mpr ⟨lw_p43, List.forall_mem_cons.mpr ⟨lw_p44, List.forall_mem_cons.mpr ⟨lw_p45, List.forall_mem_cons.mpr ⟨lw_p46, List.forall_mem_cons.mpr ⟨lw_p47, fun _ h => absurd h List.not_mem_nil⟩⟩⟩⟩⟩⟩⟩⟩⟩⟩⟩⟩⟩⟩⟩⟩
theorem lw_p48 : lw_okq (⟨"DreamTrainModel", "begins", "()V"⟩, 32) := ⟨⟨by decide +kernel, by decide +kernel⟩, List.mem_of_getElem? (i := 645) (by decide +kernel), List.mem_of_getElem? (i := 651) (by decide +kernel), List.mem_of_getElem? (i := 652) (by decide +kernel)⟩
theorem lw_p49 : lw_okq (⟨"DreamTrainModel", "found", "(I)I"⟩, 32) := ⟨⟨by decide +kernel, by decide +kernel⟩, List.mem_of_getElem? (i := 645) (by decide +kernel), List.mem_of_getElem? (i := 763) (by decide +kernel), List.mem_of_getElem? (i := 764) (by decide +kernel)⟩
theorem lw_p50 : lw_okq (⟨"DreamTrainModel", "tell", "(I)I"⟩, 32) := ⟨⟨by decide +kernel, by decide +kernel⟩, List.mem_of_getElem? (i := 645) (by decide +kernel), List.mem_of_getElem? (i := 771) (by decide +kernel), List.mem_of_getElem? (i := 772) (by decide +kernel)⟩
theorem lw_p51 : lw_okq (⟨"DreamTrainModel", "reads", "(I)I"⟩, 32) := ⟨⟨by decide +kernel, by decide +kernel⟩, List.mem_of_getElem? (i := 645) (by decide +kernel), List.mem_of_getElem? (i := 807) (by decide +kernel), List.mem_of_getElem? (i := 808) (by decide +kernel)⟩
theorem lw_p52 : lw_okq (⟨"DreamTrainModel", "readsHead", "()Z"⟩, 32) := ⟨⟨by decide +kernel, by decide +kernel⟩, List.mem_of_getElem? (i := 645) (by decide +kernel), List.mem_of_getElem? (i := 811) (by decide +kernel), List.mem_of_getElem? (i := 812) (by decide +kernel)⟩
theorem lw_p53 : lw_okq (⟨"DreamTrainModel", "skips", "()V"⟩, 32) := ⟨⟨by decide +kernel, by decide +kernel⟩, List.mem_of_getElem? (i := 645) (by decide +kernel), List.mem_of_getElem? (i := 815) (by decide +kernel), List.mem_of_getElem? (i := 816) (by decide +kernel)⟩
theorem lw_p54 : lw_okq (⟨"DreamTrainModel", "here", "()I"⟩, 32) := ⟨⟨by decide +kernel, by decide +kernel⟩, List.mem_of_getElem? (i := 645) (by decide +kernel), List.mem_of_getElem? (i := 819) (by decide +kernel), List.mem_of_getElem? (i := 820) (by decide +kernel)⟩
theorem lw_p55 : lw_okq (⟨"DreamTrainModel", "areFigures", "(II)Z"⟩, 32) := ⟨⟨by decide +kernel, by decide +kernel⟩, List.mem_of_getElem? (i := 645) (by decide +kernel), List.mem_of_getElem? (i := 823) (by decide +kernel), List.mem_of_getElem? (i := 824) (by decide +kernel)⟩
theorem lw_p56 : lw_okq (⟨"DreamTrainModel", "isFigure", "()Z"⟩, 32) := ⟨⟨by decide +kernel, by decide +kernel⟩, List.mem_of_getElem? (i := 645) (by decide +kernel), List.mem_of_getElem? (i := 827) (by decide +kernel), List.mem_of_getElem? (i := 828) (by decide +kernel)⟩
theorem lw_p57 : lw_okq (⟨"DreamTrainModel", "readsSleeper", "()Z"⟩, 32) := ⟨⟨by decide +kernel, by decide +kernel⟩, List.mem_of_getElem? (i := 645) (by decide +kernel), List.mem_of_getElem? (i := 833) (by decide +kernel), List.mem_of_getElem? (i := 834) (by decide +kernel)⟩
theorem lw_p58 : lw_okq (⟨"DreamTrainModel", "isOne", "(I)Z"⟩, 32) := ⟨⟨by decide +kernel, by decide +kernel⟩, List.mem_of_getElem? (i := 645) (by decide +kernel), List.mem_of_getElem? (i := 848) (by decide +kernel), List.mem_of_getElem? (i := 849) (by decide +kernel)⟩
theorem lw_p59 : lw_okq (⟨"DreamTrainModel", "isDreaming", "(I)Z"⟩, 32) := ⟨⟨by decide +kernel, by decide +kernel⟩, List.mem_of_getElem? (i := 645) (by decide +kernel), List.mem_of_getElem? (i := 853) (by decide +kernel), List.mem_of_getElem? (i := 854) (by decide +kernel)⟩
theorem lw_p60 : lw_okq (⟨"DreamTrainModel", "dreamsOn", "([III)Z"⟩, 32) := ⟨⟨by decide +kernel, by decide +kernel⟩, List.mem_of_getElem? (i := 645) (by decide +kernel), List.mem_of_getElem? (i := 860) (by decide +kernel), List.mem_of_getElem? (i := 861) (by decide +kernel)⟩
theorem lw_p61 : lw_okq (⟨"DreamTrainModel", "firstOf", "(IIZ)I"⟩, 32) := ⟨⟨by decide +kernel, by decide +kernel⟩, List.mem_of_getElem? (i := 645) (by decide +kernel), List.mem_of_getElem? (i := 877) (by decide +kernel), List.mem_of_getElem? (i := 878) (by decide +kernel)⟩
theorem lw_p62 : lw_okq (⟨"DreamTrainModel", "remember", "()V"⟩, 32) := ⟨⟨by decide +kernel, by decide +kernel⟩, List.mem_of_getElem? (i := 645) (by decide +kernel), List.mem_of_getElem? (i := 890) (by decide +kernel), List.mem_of_getElem? (i := 891) (by decide +kernel)⟩
theorem lw_p63 : lw_okq (⟨"DreamTrainModel", "goes", "([I)Z"⟩, 32) := ⟨⟨by decide +kernel, by decide +kernel⟩, List.mem_of_getElem? (i := 645) (by decide +kernel), List.mem_of_getElem? (i := 897) (by decide +kernel), List.mem_of_getElem? (i := 898) (by decide +kernel)⟩
def lw_privs_4 : List (MethodName × Nat) := [(⟨"DreamTrainModel", "begins", "()V"⟩, 32), (⟨"DreamTrainModel", "found", "(I)I"⟩, 32), (⟨"DreamTrainModel", "tell", "(I)I"⟩, 32), (⟨"DreamTrainModel", "reads", "(I)I"⟩, 32), (⟨"DreamTrainModel", "readsHead", "()Z"⟩, 32), (⟨"DreamTrainModel", "skips", "()V"⟩, 32), (⟨"DreamTrainModel", "here", "()I"⟩, 32), (⟨"DreamTrainModel", "areFigures", "(II)Z"⟩, 32), (⟨"DreamTrainModel", "isFigure", "()Z"⟩, 32), (⟨"DreamTrainModel", "readsSleeper", "()Z"⟩, 32), (⟨"DreamTrainModel", "isOne", "(I)Z"⟩, 32), (⟨"DreamTrainModel", "isDreaming", "(I)Z"⟩, 32), (⟨"DreamTrainModel", "dreamsOn", "([III)Z"⟩, 32), (⟨"DreamTrainModel", "firstOf", "(IIZ)I"⟩, 32), (⟨"DreamTrainModel", "remember", "()V"⟩, 32), (⟨"DreamTrainModel", "goes", "([I)Z"⟩, 32)]
theorem lw_r4 : ∀ q ∈ lw_privs_4, lw_okq q := List.forall_mem_cons.mpr ⟨lw_p48, List.forall_mem_cons.mpr ⟨lw_p49, List.forall_mem_cons.mpr ⟨lw_p50, List.forall_mem_cons.mpr ⟨lw_p51, List.forall_mem_cons.mpr ⟨lw_p52, List.forall_mem_cons.mpr ⟨lw_p53, List.forall_mem_cons.mpr ⟨lw_p54, List.forall_mem_cons.mpr ⟨lw_p55, List.forall_mem_cons.mpr ⟨lw_p56, List.forall_mem_cons.mpr ⟨lw_p57, List.forall_mem_cons.mpr ⟨lw_p58, List.forall_mem_cons.mpr ⟨lw_p59, List.forall_mem_cons.mpr ⟨lw_p60, List.forall_mem_cons.mpr ⟨lw_p61, List.forall_mem_cons.mpr ⟨lw_p62, List.forall_mem_cons.mpr ⟨lw_p63, fun _ h => absurd h List.not_mem_nil⟩⟩⟩⟩⟩⟩⟩⟩⟩⟩⟩⟩⟩⟩⟩⟩
theorem lw_p64 : lw_okq (⟨"DreamTrainModel", "standsOn", "([I)Z"⟩, 32) := ⟨⟨by decide +kernel, by decide +kernel⟩, List.mem_of_getElem? (i := 645) (by decide +kernel), List.mem_of_getElem? (i := 901) (by decide +kernel), List.mem_of_getElem? (i := 902) (by decide +kernel)⟩
theorem lw_p65 : lw_okq (⟨"DreamTrainModel", "layAside", "()V"⟩, 32) := ⟨⟨by decide +kernel, by decide +kernel⟩, List.mem_of_getElem? (i := 645) (by decide +kernel), List.mem_of_getElem? (i := 936) (by decide +kernel), List.mem_of_getElem? (i := 937) (by decide +kernel)⟩
theorem lw_p66 : lw_okq (⟨"DreamTrainModel", "answer", "(II)I"⟩, 32) := ⟨⟨by decide +kernel, by decide +kernel⟩, List.mem_of_getElem? (i := 645) (by decide +kernel), List.mem_of_getElem? (i := 940) (by decide +kernel), List.mem_of_getElem? (i := 941) (by decide +kernel)⟩
theorem lw_p67 : lw_okq (⟨"DreamTrainModel", "standsAt", "(II)I"⟩, 32) := ⟨⟨by decide +kernel, by decide +kernel⟩, List.mem_of_getElem? (i := 645) (by decide +kernel), List.mem_of_getElem? (i := 952) (by decide +kernel), List.mem_of_getElem? (i := 953) (by decide +kernel)⟩
theorem lw_p68 : lw_okq (⟨"DreamTrainModel", "placeBehind", "(I)I"⟩, 32) := ⟨⟨by decide +kernel, by decide +kernel⟩, List.mem_of_getElem? (i := 645) (by decide +kernel), List.mem_of_getElem? (i := 963) (by decide +kernel), List.mem_of_getElem? (i := 964) (by decide +kernel)⟩
theorem lw_p69 : lw_okq (⟨"DreamTrainModel", "isFeast", "(IIII)Z"⟩, 32) := ⟨⟨by decide +kernel, by decide +kernel⟩, List.mem_of_getElem? (i := 645) (by decide +kernel), List.mem_of_getElem? (i := 973) (by decide +kernel), List.mem_of_getElem? (i := 974) (by decide +kernel)⟩
theorem lw_p70 : lw_okq (⟨"DreamTrainModel", "standsThen", "(II)Z"⟩, 32) := ⟨⟨by decide +kernel, by decide +kernel⟩, List.mem_of_getElem? (i := 645) (by decide +kernel), List.mem_of_getElem? (i := 977) (by decide +kernel), List.mem_of_getElem? (i := 978) (by decide +kernel)⟩
theorem lw_p71 : lw_okq (⟨"DreamTrainModel", "isOther", "(I)Z"⟩, 32) := ⟨⟨by decide +kernel, by decide +kernel⟩, List.mem_of_getElem? (i := 645) (by decide +kernel), List.mem_of_getElem? (i := 981) (by decide +kernel), List.mem_of_getElem? (i := 982) (by decide +kernel)⟩
theorem lw_p72 : lw_okq (⟨"DreamTrainModel", "refusesRow", "(I)I"⟩, 32) := ⟨⟨by decide +kernel, by decide +kernel⟩, List.mem_of_getElem? (i := 645) (by decide +kernel), List.mem_of_getElem? (i := 993) (by decide +kernel), List.mem_of_getElem? (i := 994) (by decide +kernel)⟩
theorem lw_p73 : lw_okq (⟨"DreamTrainModel", "goesAs", "(I)Z"⟩, 32) := ⟨⟨by decide +kernel, by decide +kernel⟩, List.mem_of_getElem? (i := 645) (by decide +kernel), List.mem_of_getElem? (i := 997) (by decide +kernel), List.mem_of_getElem? (i := 998) (by decide +kernel)⟩
theorem lw_p74 : lw_okq (⟨"DreamTrainModel", "weighs", "(IZ)I"⟩, 32) := ⟨⟨by decide +kernel, by decide +kernel⟩, List.mem_of_getElem? (i := 645) (by decide +kernel), List.mem_of_getElem? (i := 1013) (by decide +kernel), List.mem_of_getElem? (i := 1014) (by decide +kernel)⟩
theorem lw_p75 : lw_okq (⟨"DreamTrainModel", "ways", "(III)J"⟩, 32) := ⟨⟨by decide +kernel, by decide +kernel⟩, List.mem_of_getElem? (i := 645) (by decide +kernel), List.mem_of_getElem? (i := 1023) (by decide +kernel), List.mem_of_getElem? (i := 1024) (by decide +kernel)⟩
theorem lw_p76 : lw_okq (⟨"DreamTrainModel", "allWays", "()J"⟩, 32) := ⟨⟨by decide +kernel, by decide +kernel⟩, List.mem_of_getElem? (i := 645) (by decide +kernel), List.mem_of_getElem? (i := 1027) (by decide +kernel), List.mem_of_getElem? (i := 1028) (by decide +kernel)⟩
theorem lw_p77 : lw_okq (⟨"DreamTrainModel", "fraction", "(JJ)I"⟩, 32) := ⟨⟨by decide +kernel, by decide +kernel⟩, List.mem_of_getElem? (i := 645) (by decide +kernel), List.mem_of_getElem? (i := 1031) (by decide +kernel), List.mem_of_getElem? (i := 1032) (by decide +kernel)⟩
theorem lw_p78 : lw_okq (⟨"DreamTrainModel", "refuses", "(I)I"⟩, 32) := ⟨⟨by decide +kernel, by decide +kernel⟩, List.mem_of_getElem? (i := 645) (by decide +kernel), List.mem_of_getElem? (i := 1044) (by decide +kernel), List.mem_of_getElem? (i := 1045) (by decide +kernel)⟩
theorem lw_p79 : lw_okq (⟨"DreamTrainModel", "lot", "(I)V"⟩, 32) := ⟨⟨by decide +kernel, by decide +kernel⟩, List.mem_of_getElem? (i := 645) (by decide +kernel), List.mem_of_getElem? (i := 1050) (by decide +kernel), List.mem_of_getElem? (i := 1051) (by decide +kernel)⟩
def lw_privs_5 : List (MethodName × Nat) := [(⟨"DreamTrainModel", "standsOn", "([I)Z"⟩, 32), (⟨"DreamTrainModel", "layAside", "()V"⟩, 32), (⟨"DreamTrainModel", "answer", "(II)I"⟩, 32), (⟨"DreamTrainModel", "standsAt", "(II)I"⟩, 32), (⟨"DreamTrainModel", "placeBehind", "(I)I"⟩, 32), (⟨"DreamTrainModel", "isFeast", "(IIII)Z"⟩, 32), (⟨"DreamTrainModel", "standsThen", "(II)Z"⟩, 32), (⟨"DreamTrainModel", "isOther", "(I)Z"⟩, 32), (⟨"DreamTrainModel", "refusesRow", "(I)I"⟩, 32), (⟨"DreamTrainModel", "goesAs", "(I)Z"⟩, 32), (⟨"DreamTrainModel", "weighs", "(IZ)I"⟩, 32), (⟨"DreamTrainModel", "ways", "(III)J"⟩, 32), (⟨"DreamTrainModel", "allWays", "()J"⟩, 32), (⟨"DreamTrainModel", "fraction", "(JJ)I"⟩, 32), (⟨"DreamTrainModel", "refuses", "(I)I"⟩, 32), (⟨"DreamTrainModel", "lot", "(I)V"⟩, 32)]
theorem lw_r5 : ∀ q ∈ lw_privs_5, lw_okq q := List.forall_mem_cons.mpr ⟨lw_p64, List.forall_mem_cons.mpr ⟨lw_p65, List.forall_mem_cons.mpr ⟨lw_p66, List.forall_mem_cons.mpr ⟨lw_p67, List.forall_mem_cons.mpr ⟨lw_p68, List.forall_mem_cons.mpr ⟨lw_p69, List.forall_mem_cons.mpr ⟨lw_p70, List.forall_mem_cons.mpr ⟨lw_p71, List.forall_mem_cons.mpr ⟨lw_p72, List.forall_mem_cons.mpr ⟨lw_p73, List.forall_mem_cons.mpr ⟨lw_p74, List.forall_mem_cons.mpr ⟨lw_p75, List.forall_mem_cons.mpr ⟨lw_p76, List.forall_mem_cons.mpr ⟨lw_p77, List.forall_mem_cons.mpr ⟨lw_p78, List.forall_mem_cons.mpr ⟨lw_p79, fun _ h => absurd h List.not_mem_nil⟩⟩⟩⟩⟩⟩⟩⟩⟩⟩⟩⟩⟩⟩⟩⟩
theorem lw_p80 : lw_okq (⟨"DreamTrainModel", "whoDream", "()I"⟩, 32) := ⟨⟨by decide +kernel, by decide +kernel⟩, List.mem_of_getElem? (i := 645) (by decide +kernel), List.mem_of_getElem? (i := 1070) (by decide +kernel), List.mem_of_getElem? (i := 1071) (by decide +kernel)⟩
theorem lw_p81 : lw_okq (⟨"DreamTrainModel", "ofCheese", "()I"⟩, 32) := ⟨⟨by decide +kernel, by decide +kernel⟩, List.mem_of_getElem? (i := 645) (by decide +kernel), List.mem_of_getElem? (i := 1077) (by decide +kernel), List.mem_of_getElem? (i := 1078) (by decide +kernel)⟩
def lw_privs_6 : List (MethodName × Nat) := [(⟨"DreamTrainModel", "whoDream", "()I"⟩, 32), (⟨"DreamTrainModel", "ofCheese", "()I"⟩, 32)]
theorem lw_r6 : ∀ q ∈ lw_privs_6, lw_okq q := List.forall_mem_cons.mpr ⟨lw_p80, List.forall_mem_cons.mpr ⟨lw_p81, fun _ h => absurd h List.not_mem_nil⟩⟩
def lw_privs : List (MethodName × Nat) := lw_privs_1 ++ (lw_privs_2 ++ (lw_privs_3 ++ (lw_privs_4 ++ (lw_privs_5 ++ (lw_privs_6)))))
def lw_tbl : List Cond := k2_sels lw_privs ++ tables_1
theorem lw_privs_ok : ∀ q ∈ lw_privs, lw_okq q := by
  show ∀ q ∈ lw_privs_1 ++ (lw_privs_2 ++ (lw_privs_3 ++ (lw_privs_4 ++ (lw_privs_5 ++ (lw_privs_6))))), lw_okq q
  exact List.forall_mem_append.mpr ⟨lw_r1, List.forall_mem_append.mpr ⟨lw_r2, List.forall_mem_append.mpr ⟨lw_r3, List.forall_mem_append.mpr ⟨lw_r4, List.forall_mem_append.mpr ⟨lw_r5, lw_r6⟩⟩⟩⟩⟩
-- ===== end of PART A; then your names; then what follows =====
end
section
/-! ===== BEGIN words of one list among another's, by their places ===== -/
theorem goodIn_r {big : List Cond} (ws : List Cond) (ps : List Nat) (hp : ws = ps.filterMap (fun i => big[i]?)) (h : ws.all goodWord = true) : GoodIn big ws := by
  intro w hw
  have h1 := List.all_eq_true.mp h w hw
  rw [hp] at hw
  obtain ⟨i, -, hi⟩ := List.mem_filterMap.mp hw
  have hm : w ∈ big := by first | exact List.mem_of_getElem? hi | exact List.getElem?_mem hi
  exact ⟨hm, good_of_word h1⟩
theorem goodIn_app {big a b : List Cond} (ha : GoodIn big a) (hb : GoodIn big b) : GoodIn big (a ++ b) := fun w h => (List.mem_append.mp h).elim (ha w) (hb w)
theorem goodIn_ca {big a b : List Cond} {c : Cond} (ha : GoodIn big (c :: a)) (hb : GoodIn big b) : GoodIn big (c :: (a ++ b)) := fun w h => (List.mem_cons.mp h).elim (fun e => ha w (List.mem_cons.mpr (Or.inl e))) (fun h => (List.mem_append.mp h).elim (fun h => ha w (List.mem_cons.mpr (Or.inr h))) (hb w))
theorem goodIn_sub {big ws : List Cond} (hm : ∀ w ∈ ws, w ∈ big) (h : ws.all goodWord = true) : GoodIn big ws := fun w hw => ⟨hm w hw, good_of_word (List.all_eq_true.mp h w hw)⟩
/-! ===== END ===== -/

/-! ===== BEGIN printed: names, fields, word lists, decode rows ===== -/
def RX0 : String := "DreamTrain$Journey"
def TX0 : u_T := fun k => match k with
  | 0 => ("DreamTrain$Journey", "dreamBits", "[J", true)
  | 1 => ("DreamTrain$Journey", "bedOf", "[I", true)
  | 2 => ("DreamTrain$Journey", "standBits", "[J", true)
  | 3 => ("DreamTrain$Journey", "track", "[I", true)
  | 4 => ("DreamTrain$Journey", "sleepers", "I", false)
  | 5 => ("DreamTrain$Journey", "lastPlace", "I", false)
  | _ => ("DreamTrain$Journey", "start", "I", false)
def tyX0 : Nat → FieldType := fun k => match k with
  | 0 => .array .long
  | 1 => .array .int
  | 2 => .array .long
  | 3 => .array .int
  | 4 => .int
  | 5 => .int
  | _ => .int
abbrev wsX00 : List Cond := u_ws RX0 TX0 7
theorem nmX0 : ∀ a, a < 7 → ∀ b, b < 7 → a ≠ b → (TX0 a).2.1 ≠ (TX0 b).2.1 := by decide +kernel
theorem tyX0_ok : ∀ k, k < 7 → parseFieldDescriptor (TX0 k).2.2.1 = some (tyX0 k) := by decide +kernel
abbrev cX0_init : ByteArray := prog_2_method_1_code
def yX0_init : MethodName := ⟨RX0, "<init>", "()V"⟩
abbrev cX0_setOut : ByteArray := prog_2_method_2_code
def yX0_setOut : MethodName := ⟨RX0, "setOut", "(LDreamTrain$Line;)V"⟩
abbrev cX0_ride : ByteArray := prog_2_method_3_code
def yX0_ride : MethodName := ⟨RX0, "ride", "(II)I"⟩
abbrev cX0_gatherStands : ByteArray := prog_2_method_4_code
def yX0_gatherStands : MethodName := ⟨RX0, "gatherStands", "(I)V"⟩
abbrev cX0_minutesAt : ByteArray := prog_2_method_5_code
def yX0_minutesAt : MethodName := ⟨RX0, "minutesAt", "(II)I"⟩
def RX1 : String := "DreamTrain$Line"
def TX1 : u_T := fun k => match k with
  | 0 => ("DreamTrain$Line", "kindOf", "[I", true)
  | 1 => ("DreamTrain$Line", "bedOf", "[I", true)
  | 2 => ("DreamTrain$Line", "supperOf", "[I", true)
  | 3 => ("DreamTrain$Line", "deedWhat", "[I", true)
  | 4 => ("DreamTrain$Line", "deedWho", "[I", true)
  | 5 => ("DreamTrain$Line", "deedWas", "[I", true)
  | 6 => ("DreamTrain$Line", "sleepers", "I", false)
  | 7 => ("DreamTrain$Line", "lastPlace", "I", false)
  | 8 => ("DreamTrain$Line", "due", "I", false)
  | 9 => ("DreamTrain$Line", "asleep", "I", false)
  | 10 => ("DreamTrain$Line", "clock", "I", false)
  | 11 => ("DreamTrain$Line", "place", "I", false)
  | _ => ("DreamTrain$Line", "deeds", "I", false)
def tyX1 : Nat → FieldType := fun k => match k with
  | 0 => .array .int
  | 1 => .array .int
  | 2 => .array .int
  | 3 => .array .int
  | 4 => .array .int
  | 5 => .array .int
  | 6 => .int
  | 7 => .int
  | 8 => .int
  | 9 => .int
  | 10 => .int
  | 11 => .int
  | _ => .int
abbrev wsX10 : List Cond := u_ws RX1 TX1 13
theorem nmX1 : ∀ a, a < 13 → ∀ b, b < 13 → a ≠ b → (TX1 a).2.1 ≠ (TX1 b).2.1 := by decide +kernel
theorem tyX1_ok : ∀ k, k < 13 → parseFieldDescriptor (TX1 k).2.2.1 = some (tyX1 k) := by decide +kernel
abbrev cX1_init : ByteArray := prog_3_method_1_code
def yX1_init : MethodName := ⟨RX1, "<init>", "()V"⟩
abbrev cX1_begin : ByteArray := prog_3_method_2_code
def yX1_begin : MethodName := ⟨RX1, "begin", "(II)V"⟩
abbrev cX1_addSleeper : ByteArray := prog_3_method_3_code
def yX1_addSleeper : MethodName := ⟨RX1, "addSleeper", "(III)V"⟩
abbrev cX1_become : ByteArray := prog_3_method_4_code
def yX1_become : MethodName := ⟨RX1, "become", "(LDreamTrain$Line;)V"⟩
abbrev cX1_setCount : ByteArray := prog_3_method_5_code
def yX1_setCount : MethodName := ⟨RX1, "setCount", "()I"⟩
abbrev cX1_isAsleep : ByteArray := prog_3_method_6_code
def yX1_isAsleep : MethodName := ⟨RX1, "isAsleep", "(I)Z"⟩
abbrev cX1_isDreaming : ByteArray := prog_3_method_7_code
def yX1_isDreaming : MethodName := ⟨RX1, "isDreaming", "(I)Z"⟩
abbrev cX1_dreamers : ByteArray := prog_3_method_8_code
def yX1_dreamers : MethodName := ⟨RX1, "dreamers", "()I"⟩
abbrev cX1_cheeseEaters : ByteArray := prog_3_method_9_code
def yX1_cheeseEaters : MethodName := ⟨RX1, "cheeseEaters", "()I"⟩
abbrev cX1_isStanding : ByteArray := prog_3_method_10_code
def yX1_isStanding : MethodName := ⟨RX1, "isStanding", "()Z"⟩
abbrev cX1_hasRoomFor : ByteArray := prog_3_method_11_code
def yX1_hasRoomFor : MethodName := ⟨RX1, "hasRoomFor", "(I)Z"⟩
abbrev cX1_noteDeed : ByteArray := prog_3_method_12_code
def yX1_noteDeed : MethodName := ⟨RX1, "noteDeed", "(III)V"⟩
abbrev cX1_passMinute : ByteArray := prog_3_method_13_code
def yX1_passMinute : MethodName := ⟨RX1, "passMinute", "()V"⟩
abbrev cX1_changeSupper : ByteArray := prog_3_method_14_code
def yX1_changeSupper : MethodName := ⟨RX1, "changeSupper", "(II)V"⟩
abbrev cX1_wakeOrLull : ByteArray := prog_3_method_15_code
def yX1_wakeOrLull : MethodName := ⟨RX1, "wakeOrLull", "(I)V"⟩
abbrev cX1_takeBackLatest : ByteArray := prog_3_method_16_code
def yX1_takeBackLatest : MethodName := ⟨RX1, "takeBackLatest", "()V"⟩
def RX2 : String := "DreamTrain$Reader"
def TX2 : u_T := fun k => match k with
  | 0 => ("DreamTrain$Reader", "signs", "[I", false)
  | 1 => ("DreamTrain$Reader", "size", "I", false)
  | 2 => ("DreamTrain$Reader", "next", "I", false)
  | _ => ("DreamTrain$Reader", "flaw", "I", false)
def tyX2 : Nat → FieldType := fun k => match k with
  | 0 => .array .int
  | 1 => .int
  | 2 => .int
  | _ => .int
abbrev wsX20 : List Cond := u_ws RX2 TX2 4
theorem nmX2 : ∀ a, a < 4 → ∀ b, b < 4 → a ≠ b → (TX2 a).2.1 ≠ (TX2 b).2.1 := by decide +kernel
theorem tyX2_ok : ∀ k, k < 4 → parseFieldDescriptor (TX2 k).2.2.1 = some (tyX2 k) := by decide +kernel
abbrev cX2_init : ByteArray := prog_4_method_1_code
def yX2_init : MethodName := ⟨RX2, "<init>", "()V"⟩
abbrev cX2_readInto : ByteArray := prog_4_method_2_code
def yX2_readInto : MethodName := ⟨RX2, "readInto", "(LDreamTrain$Line;[II)I"⟩
abbrev cX2_readHead : ByteArray := prog_4_method_3_code
def yX2_readHead : MethodName := ⟨RX2, "readHead", "(LDreamTrain$Line;)V"⟩
abbrev cX2_readSleeper : ByteArray := prog_4_method_4_code
def yX2_readSleeper : MethodName := ⟨RX2, "readSleeper", "(LDreamTrain$Line;)V"⟩
abbrev cX2_passBlanks : ByteArray := prog_4_method_5_code
def yX2_passBlanks : MethodName := ⟨RX2, "passBlanks", "()V"⟩
abbrev cX2_kindByLetter : ByteArray := prog_4_method_6_code
def yX2_kindByLetter : MethodName := ⟨RX2, "kindByLetter", "(I)I"⟩
abbrev cX2_readTwoFigures : ByteArray := prog_4_method_7_code
def yX2_readTwoFigures : MethodName := ⟨RX2, "readTwoFigures", "(II)I"⟩
abbrev cX2_readFigure : ByteArray := prog_4_method_8_code
def yX2_readFigure : MethodName := ⟨RX2, "readFigure", "()I"⟩
def RX3 : String := "DreamTrain$Shelf"
def TX3 : u_T := fun k => match k with
  | 0 => ("DreamTrain$Shelf", "cells", "[[I", true)
  | _ => ("DreamTrain$Shelf", "sizes", "[I", true)
def tyX3 : Nat → FieldType := fun k => match k with
  | 0 => .array (.array .int)
  | _ => .array .int
abbrev wsX30 : List Cond := u_ws RX3 TX3 2
theorem nmX3 : ∀ a, a < 2 → ∀ b, b < 2 → a ≠ b → (TX3 a).2.1 ≠ (TX3 b).2.1 := by decide +kernel
theorem tyX3_ok : ∀ k, k < 2 → parseFieldDescriptor (TX3 k).2.2.1 = some (tyX3 k) := by decide +kernel
abbrev cX3_init : ByteArray := prog_5_method_1_code
def yX3_init : MethodName := ⟨RX3, "<init>", "(II)V"⟩
abbrev cX3_bears : ByteArray := prog_5_method_2_code
def yX3_bears : MethodName := ⟨RX3, "bears", "(I)Z"⟩
abbrev cX3_holds : ByteArray := prog_5_method_3_code
def yX3_holds : MethodName := ⟨RX3, "holds", "(I)Z"⟩
abbrev cX3_layOut : ByteArray := prog_5_method_4_code
def yX3_layOut : MethodName := ⟨RX3, "layOut", "(III)V"⟩
abbrev cX3_howMany : ByteArray := prog_5_method_5_code
def yX3_howMany : MethodName := ⟨RX3, "howMany", "()I"⟩
abbrev cX3_stir : ByteArray := prog_5_method_6_code
def yX3_stir : MethodName := ⟨RX3, "stir", "(J)J"⟩
def RX4 : String := "DreamTrain"
def TX4 : u_T := fun k => match k with
  | 0 => ("DreamTrain", "rows", "LDreamTrain$Shelf;", true)
  | 1 => ("DreamTrain", "texts", "LDreamTrain$Shelf;", true)
  | 2 => ("DreamTrain", "now", "LDreamTrain$Line;", true)
  | 3 => ("DreamTrain", "draft", "LDreamTrain$Line;", true)
  | 4 => ("DreamTrain", "keptLines", "[LDreamTrain$Line;", true)
  | 5 => ("DreamTrain", "isKept", "[Z", true)
  | 6 => ("DreamTrain", "reader", "LDreamTrain$Reader;", true)
  | 7 => ("DreamTrain", "journey", "LDreamTrain$Journey;", true)
  | 8 => ("DreamTrain", "supperBits", "[[J", true)
  | 9 => ("DreamTrain", "kindTracks", "[[I", true)
  | 10 => ("DreamTrain", "duelPlaces", "[[I", true)
  | 11 => ("DreamTrain", "placeWeights", "[J", true)
  | 12 => ("DreamTrain", "findingCounts", "[I", true)
  | 13 => ("DreamTrain", "told", "I", false)
  | 14 => ("DreamTrain", "upperTold", "J", false)
  | 15 => ("DreamTrain", "lowerTold", "J", false)
  | _ => ("DreamTrain", "latestFinding", "I", false)
def tyX4 : Nat → FieldType := fun k => match k with
  | 0 => .object "DreamTrain$Shelf"
  | 1 => .object "DreamTrain$Shelf"
  | 2 => .object "DreamTrain$Line"
  | 3 => .object "DreamTrain$Line"
  | 4 => .array (.object "DreamTrain$Line")
  | 5 => .array .boolean
  | 6 => .object "DreamTrain$Reader"
  | 7 => .object "DreamTrain$Journey"
  | 8 => .array (.array .long)
  | 9 => .array (.array .int)
  | 10 => .array (.array .int)
  | 11 => .array .long
  | 12 => .array .int
  | 13 => .int
  | 14 => .long
  | 15 => .long
  | _ => .int
abbrev wsX40 : List Cond := u_ws RX4 TX4 17
theorem nmX4 : ∀ a, a < 17 → ∀ b, b < 17 → a ≠ b → (TX4 a).2.1 ≠ (TX4 b).2.1 := by decide +kernel
theorem tyX4_ok : ∀ k, k < 17 → parseFieldDescriptor (TX4 k).2.2.1 = some (tyX4 k) := by decide +kernel
abbrev cX4_init : ByteArray := prog_1_method_1_code
def yX4_init : MethodName := ⟨RX4, "<init>", "()V"⟩
abbrev cX4_row : ByteArray := prog_1_method_2_code
def yX4_row : MethodName := ⟨RX4, "row", "(II)I"⟩
abbrev cX4_lay : ByteArray := prog_1_method_3_code
def yX4_lay : MethodName := ⟨RX4, "lay", "(III)I"⟩
abbrev cX4_at : ByteArray := prog_1_method_4_code
def yX4_at : MethodName := ⟨RX4, "at", "(II)I"⟩
abbrev cX4_tear : ByteArray := prog_1_method_5_code
def yX4_tear : MethodName := ⟨RX4, "tear", "(I)I"⟩
abbrev cX4_copy : ByteArray := prog_1_method_6_code
def yX4_copy : MethodName := ⟨RX4, "copy", "(IIIII)I"⟩
abbrev cX4_mean : ByteArray := prog_1_method_7_code
def yX4_mean : MethodName := ⟨RX4, "mean", "(I)I"⟩
abbrev cX4_text : ByteArray := prog_1_method_8_code
def yX4_text : MethodName := ⟨RX4, "text", "(II)I"⟩
abbrev cX4_put : ByteArray := prog_1_method_9_code
def yX4_put : MethodName := ⟨RX4, "put", "(III)I"⟩
abbrev cX4_fault : ByteArray := prog_1_method_10_code
def yX4_fault : MethodName := ⟨RX4, "fault", "(I)I"⟩
abbrev cX4_line : ByteArray := prog_1_method_11_code
def yX4_line : MethodName := ⟨RX4, "line", "(I)I"⟩
abbrev cX4_sleeper : ByteArray := prog_1_method_12_code
def yX4_sleeper : MethodName := ⟨RX4, "sleeper", "(II)I"⟩
abbrev cX4_mark : ByteArray := prog_1_method_13_code
def yX4_mark : MethodName := ⟨RX4, "mark", "(II)I"⟩
abbrev cX4_dreams : ByteArray := prog_1_method_14_code
def yX4_dreams : MethodName := ⟨RX4, "dreams", "(II)I"⟩
abbrev cX4_minute : ByteArray := prog_1_method_15_code
def yX4_minute : MethodName := ⟨RX4, "minute", "()I"⟩
abbrev cX4_feed : ByteArray := prog_1_method_16_code
def yX4_feed : MethodName := ⟨RX4, "feed", "(II)I"⟩
abbrev cX4_wake : ByteArray := prog_1_method_17_code
def yX4_wake : MethodName := ⟨RX4, "wake", "(I)I"⟩
abbrev cX4_lull : ByteArray := prog_1_method_18_code
def yX4_lull : MethodName := ⟨RX4, "lull", "(I)I"⟩
abbrev cX4_undo : ByteArray := prog_1_method_19_code
def yX4_undo : MethodName := ⟨RX4, "undo", "(I)I"⟩
abbrev cX4_keep : ByteArray := prog_1_method_20_code
def yX4_keep : MethodName := ⟨RX4, "keep", "(I)I"⟩
abbrev cX4_on : ByteArray := prog_1_method_21_code
def yX4_on : MethodName := ⟨RX4, "on", "(I)I"⟩
abbrev cX4_train : ByteArray := prog_1_method_22_code
def yX4_train : MethodName := ⟨RX4, "train", "(I)I"⟩
abbrev cX4_comes : ByteArray := prog_1_method_23_code
def yX4_comes : MethodName := ⟨RX4, "comes", "()I"⟩
abbrev cX4_stood : ByteArray := prog_1_method_24_code
def yX4_stood : MethodName := ⟨RX4, "stood", "(I)I"⟩
abbrev cX4_intime : ByteArray := prog_1_method_25_code
def yX4_intime : MethodName := ⟨RX4, "intime", "()I"⟩
abbrev cX4_feast : ByteArray := prog_1_method_26_code
def yX4_feast : MethodName := ⟨RX4, "feast", "(II)I"⟩
abbrev cX4_bed : ByteArray := prog_1_method_27_code
def yX4_bed : MethodName := ⟨RX4, "bed", "(I)I"⟩
abbrev cX4_account : ByteArray := prog_1_method_28_code
def yX4_account : MethodName := ⟨RX4, "account", "(I)I"⟩
abbrev cX4_kinds : ByteArray := prog_1_method_29_code
def yX4_kinds : MethodName := ⟨RX4, "kinds", "(II)I"⟩
abbrev cX4_look : ByteArray := prog_1_method_30_code
def yX4_look : MethodName := ⟨RX4, "look", "(I)I"⟩
abbrev cX4_duel : ByteArray := prog_1_method_31_code
def yX4_duel : MethodName := ⟨RX4, "duel", "(I)I"⟩
abbrev cX4_odds : ByteArray := prog_1_method_32_code
def yX4_odds : MethodName := ⟨RX4, "odds", "(III)I"⟩
abbrev cX4_mid : ByteArray := prog_1_method_33_code
def yX4_mid : MethodName := ⟨RX4, "mid", "(II)I"⟩
abbrev cX4_lots : ByteArray := prog_1_method_34_code
def yX4_lots : MethodName := ⟨RX4, "lots", "(II)I"⟩
abbrev cX4_asked : ByteArray := prog_1_method_35_code
def yX4_asked : MethodName := ⟨RX4, "asked", "()I"⟩
abbrev cX4_upper : ByteArray := prog_1_method_36_code
def yX4_upper : MethodName := ⟨RX4, "upper", "()J"⟩
abbrev cX4_lower : ByteArray := prog_1_method_37_code
def yX4_lower : MethodName := ⟨RX4, "lower", "()J"⟩
abbrev cX4_count : ByteArray := prog_1_method_38_code
def yX4_count : MethodName := ⟨RX4, "count", "(I)I"⟩
abbrev cX4_finding : ByteArray := prog_1_method_39_code
def yX4_finding : MethodName := ⟨RX4, "finding", "()I"⟩
abbrev cX4_findings : ByteArray := prog_1_method_40_code
def yX4_findings : MethodName := ⟨RX4, "findings", "(I)I"⟩
abbrev cX4_digest : ByteArray := prog_1_method_41_code
def yX4_digest : MethodName := ⟨RX4, "digest", "()J"⟩
abbrev cX4_isBelow : ByteArray := prog_1_method_42_code
def yX4_isBelow : MethodName := ⟨RX4, "isBelow", "(II)Z"⟩
abbrev cX4_isSpan : ByteArray := prog_1_method_43_code
def yX4_isSpan : MethodName := ⟨RX4, "isSpan", "(III)Z"⟩
abbrev cX4_found : ByteArray := prog_1_method_44_code
def yX4_found : MethodName := ⟨RX4, "found", "(I)I"⟩
abbrev cX4_refusalOfShelf : ByteArray := prog_1_method_45_code
def yX4_refusalOfShelf : MethodName := ⟨RX4, "refusalOfShelf", "(LDreamTrain$Shelf;I)I"⟩
abbrev cX4_refusalOfCell : ByteArray := prog_1_method_46_code
def yX4_refusalOfCell : MethodName := ⟨RX4, "refusalOfCell", "(LDreamTrain$Shelf;II)I"⟩
abbrev cX4_refusalOfSeen : ByteArray := prog_1_method_47_code
def yX4_refusalOfSeen : MethodName := ⟨RX4, "refusalOfSeen", "(I)I"⟩
abbrev cX4_wouldDream : ByteArray := prog_1_method_48_code
def yX4_wouldDream : MethodName := ⟨RX4, "wouldDream", "(III)Z"⟩
abbrev cX4_dreamtMinutes : ByteArray := prog_1_method_49_code
def yX4_dreamtMinutes : MethodName := ⟨RX4, "dreamtMinutes", "(II)I"⟩
abbrev cX4_firstDream : ByteArray := prog_1_method_50_code
def yX4_firstDream : MethodName := ⟨RX4, "firstDream", "(II)I"⟩
abbrev cX4_dreamBitsFrom : ByteArray := prog_1_method_51_code
def yX4_dreamBitsFrom : MethodName := ⟨RX4, "dreamBitsFrom", "(III)J"⟩
abbrev cX4_learnSuppers : ByteArray := prog_1_method_52_code
def yX4_learnSuppers : MethodName := ⟨RX4, "learnSuppers", "()V"⟩
abbrev cX4_standsBehind : ByteArray := prog_1_method_53_code
def yX4_standsBehind : MethodName := ⟨RX4, "standsBehind", "(II)Z"⟩
abbrev cX4_mattersTo : ByteArray := prog_1_method_54_code
def yX4_mattersTo : MethodName := ⟨RX4, "mattersTo", "(II)Z"⟩
abbrev cX4_wayByOne : ByteArray := prog_1_method_55_code
def yX4_wayByOne : MethodName := ⟨RX4, "wayByOne", "(III)I"⟩
abbrev cX4_wayByTwo : ByteArray := prog_1_method_56_code
def yX4_wayByTwo : MethodName := ⟨RX4, "wayByTwo", "(II)I"⟩
abbrev cX4_fitsSeen : ByteArray := prog_1_method_57_code
def yX4_fitsSeen : MethodName := ⟨RX4, "fitsSeen", "(II)Z"⟩
abbrev cX4_greatestPart : ByteArray := prog_1_method_58_code
def yX4_greatestPart : MethodName := ⟨RX4, "greatestPart", "(I)I"⟩
abbrev cX4_playTurn : ByteArray := prog_1_method_59_code
def yX4_playTurn : MethodName := ⟨RX4, "playTurn", "(IZ)V"⟩
abbrev cX4_weighPlaces : ByteArray := prog_1_method_60_code
def yX4_weighPlaces : MethodName := ⟨RX4, "weighPlaces", "(II)V"⟩
abbrev cX4_tellPart : ByteArray := prog_1_method_61_code
def yX4_tellPart : MethodName := ⟨RX4, "tellPart", "(JJ)V"⟩
abbrev cX4_greatestDivisor : ByteArray := prog_1_method_62_code
def yX4_greatestDivisor : MethodName := ⟨RX4, "greatestDivisor", "(JJ)J"⟩
abbrev cX4_power : ByteArray := prog_1_method_63_code
def yX4_power : MethodName := ⟨RX4, "power", "(II)J"⟩
abbrev cX4_doByLot : ByteArray := prog_1_method_64_code
def yX4_doByLot : MethodName := ⟨RX4, "doByLot", "(I)V"⟩
abbrev cX4_bit : ByteArray := prog_1_method_65_code
def yX4_bit : MethodName := ⟨RX4, "bit", "(Z)I"⟩
abbrev cX4_isPart : ByteArray := prog_1_method_66_code
def yX4_isPart : MethodName := ⟨RX4, "isPart", "(II)Z"⟩
abbrev cX4_toldOfSleeper : ByteArray := prog_1_method_67_code
def yX4_toldOfSleeper : MethodName := ⟨RX4, "toldOfSleeper", "(II)I"⟩
abbrev cX4_toldCount : ByteArray := prog_1_method_68_code
def yX4_toldCount : MethodName := ⟨RX4, "toldCount", "(I)I"⟩
abbrev cX4_keptCount : ByteArray := prog_1_method_69_code
def yX4_keptCount : MethodName := ⟨RX4, "keptCount", "()I"⟩
def RX5 : String := "DreamTrainModel"
def TX5 : u_T := fun k => match k with
  | 0 => ("DreamTrainModel", "rows", "[I", true)
  | 1 => ("DreamTrainModel", "rowSizes", "[I", true)
  | 2 => ("DreamTrainModel", "texts", "[I", true)
  | 3 => ("DreamTrainModel", "textSizes", "[I", true)
  | 4 => ("DreamTrainModel", "asked", "I", false)
  | 5 => ("DreamTrainModel", "upper", "J", false)
  | 6 => ("DreamTrainModel", "lower", "J", false)
  | 7 => ("DreamTrainModel", "finding", "I", false)
  | 8 => ("DreamTrainModel", "findings", "[I", true)
  | 9 => ("DreamTrainModel", "sleepers", "I", false)
  | 10 => ("DreamTrainModel", "last", "I", false)
  | 11 => ("DreamTrainModel", "due", "I", false)
  | 12 => ("DreamTrainModel", "kinds", "[I", true)
  | 13 => ("DreamTrainModel", "beds", "[I", true)
  | 14 => ("DreamTrainModel", "now", "[I", true)
  | 15 => ("DreamTrainModel", "aside", "[I", true)
  | 16 => ("DreamTrainModel", "ahead", "[I", true)
  | 17 => ("DreamTrainModel", "deeds", "I", false)
  | 18 => ("DreamTrainModel", "kept", "[I", true)
  | 19 => ("DreamTrainModel", "at", "I", false)
  | 20 => ("DreamTrainModel", "size", "I", false)
  | 21 => ("DreamTrainModel", "which", "I", false)
  | 22 => ("DreamTrainModel", "value", "I", false)
  | 23 => ("DreamTrainModel", "readLast", "I", false)
  | 24 => ("DreamTrainModel", "readDue", "I", false)
  | 25 => ("DreamTrainModel", "readSleepers", "I", false)
  | 26 => ("DreamTrainModel", "readKinds", "[I", true)
  | 27 => ("DreamTrainModel", "readBeds", "[I", true)
  | 28 => ("DreamTrainModel", "readSuppers", "[I", true)
  | 29 => ("DreamTrainModel", "there", "[I", true)
  | 30 => ("DreamTrainModel", "worth", "[I", true)
  | _ => ("DreamTrainModel", "then", "[I", true)
def tyX5 : Nat → FieldType := fun k => match k with
  | 0 => .array .int
  | 1 => .array .int
  | 2 => .array .int
  | 3 => .array .int
  | 4 => .int
  | 5 => .long
  | 6 => .long
  | 7 => .int
  | 8 => .array .int
  | 9 => .int
  | 10 => .int
  | 11 => .int
  | 12 => .array .int
  | 13 => .array .int
  | 14 => .array .int
  | 15 => .array .int
  | 16 => .array .int
  | 17 => .int
  | 18 => .array .int
  | 19 => .int
  | 20 => .int
  | 21 => .int
  | 22 => .int
  | 23 => .int
  | 24 => .int
  | 25 => .int
  | 26 => .array .int
  | 27 => .array .int
  | 28 => .array .int
  | 29 => .array .int
  | 30 => .array .int
  | _ => .array .int
abbrev wsX50 : List Cond := u_ws RX5 TX5 32
theorem nmX5 : ∀ a, a < 32 → ∀ b, b < 32 → a ≠ b → (TX5 a).2.1 ≠ (TX5 b).2.1 := by decide +kernel
theorem tyX5_ok : ∀ k, k < 32 → parseFieldDescriptor (TX5 k).2.2.1 = some (tyX5 k) := by decide +kernel
abbrev cX5_init : ByteArray := prog_7_method_1_code
def yX5_init : MethodName := ⟨RX5, "<init>", "()V"⟩
abbrev cX5_in : ByteArray := prog_7_method_3_code
def yX5_in : MethodName := ⟨RX5, "in", "(JJJ)Z"⟩
abbrev cX5_has : ByteArray := prog_7_method_4_code
def yX5_has : MethodName := ⟨RX5, "has", "(II)Z"⟩
abbrev cX5_bits : ByteArray := prog_7_method_5_code
def yX5_bits : MethodName := ⟨RX5, "bits", "(I)I"⟩
abbrev cX5_found : ByteArray := prog_7_method_6_code
def yX5_found : MethodName := ⟨RX5, "found", "(I)I"⟩
abbrev cX5_tell : ByteArray := prog_7_method_7_code
def yX5_tell : MethodName := ⟨RX5, "tell", "(I)I"⟩
abbrev cX5_answer : ByteArray := prog_7_method_8_code
def yX5_answer : MethodName := ⟨RX5, "answer", "(II)I"⟩
abbrev cX5_isRow : ByteArray := prog_7_method_9_code
def yX5_isRow : MethodName := ⟨RX5, "isRow", "(I)Z"⟩
abbrev cX5_isText : ByteArray := prog_7_method_10_code
def yX5_isText : MethodName := ⟨RX5, "isText", "(I)Z"⟩
abbrev cX5_row : ByteArray := prog_7_method_11_code
def yX5_row : MethodName := ⟨RX5, "row", "(II)I"⟩
abbrev cX5_lay : ByteArray := prog_7_method_12_code
def yX5_lay : MethodName := ⟨RX5, "lay", "(III)I"⟩
abbrev cX5_at : ByteArray := prog_7_method_13_code
def yX5_at : MethodName := ⟨RX5, "at", "(II)I"⟩
abbrev cX5_tear : ByteArray := prog_7_method_14_code
def yX5_tear : MethodName := ⟨RX5, "tear", "(I)I"⟩
abbrev cX5_copy : ByteArray := prog_7_method_15_code
def yX5_copy : MethodName := ⟨RX5, "copy", "(IIIII)I"⟩
abbrev cX5_mean : ByteArray := prog_7_method_16_code
def yX5_mean : MethodName := ⟨RX5, "mean", "(I)I"⟩
abbrev cX5_text : ByteArray := prog_7_method_17_code
def yX5_text : MethodName := ⟨RX5, "text", "(II)I"⟩
abbrev cX5_put : ByteArray := prog_7_method_18_code
def yX5_put : MethodName := ⟨RX5, "put", "(III)I"⟩
abbrev cX5_copies : ByteArray := prog_7_method_19_code
def yX5_copies : MethodName := ⟨RX5, "copies", "([II[III)V"⟩
abbrev cX5_begins : ByteArray := prog_7_method_20_code
def yX5_begins : MethodName := ⟨RX5, "begins", "()V"⟩
abbrev cX5_here : ByteArray := prog_7_method_21_code
def yX5_here : MethodName := ⟨RX5, "here", "()I"⟩
abbrev cX5_kindOf : ByteArray := prog_7_method_22_code
def yX5_kindOf : MethodName := ⟨RX5, "kindOf", "(I)I"⟩
abbrev cX5_isFigure : ByteArray := prog_7_method_23_code
def yX5_isFigure : MethodName := ⟨RX5, "isFigure", "()Z"⟩
abbrev cX5_areFigures : ByteArray := prog_7_method_24_code
def yX5_areFigures : MethodName := ⟨RX5, "areFigures", "(II)Z"⟩
abbrev cX5_skips : ByteArray := prog_7_method_25_code
def yX5_skips : MethodName := ⟨RX5, "skips", "()V"⟩
abbrev cX5_readsHead : ByteArray := prog_7_method_26_code
def yX5_readsHead : MethodName := ⟨RX5, "readsHead", "()Z"⟩
abbrev cX5_readsSleeper : ByteArray := prog_7_method_27_code
def yX5_readsSleeper : MethodName := ⟨RX5, "readsSleeper", "()Z"⟩
abbrev cX5_reads : ByteArray := prog_7_method_28_code
def yX5_reads : MethodName := ⟨RX5, "reads", "(I)I"⟩
abbrev cX5_fault : ByteArray := prog_7_method_29_code
def yX5_fault : MethodName := ⟨RX5, "fault", "(I)I"⟩
abbrev cX5_line : ByteArray := prog_7_method_30_code
def yX5_line : MethodName := ⟨RX5, "line", "(I)I"⟩
abbrev cX5_isOne : ByteArray := prog_7_method_31_code
def yX5_isOne : MethodName := ⟨RX5, "isOne", "(I)Z"⟩
abbrev cX5_dreamsBy : ByteArray := prog_7_method_32_code
def yX5_dreamsBy : MethodName := ⟨RX5, "dreamsBy", "(III)Z"⟩
abbrev cX5_dreamsOn : ByteArray := prog_7_method_33_code
def yX5_dreamsOn : MethodName := ⟨RX5, "dreamsOn", "([III)Z"⟩
abbrev cX5_standsOn : ByteArray := prog_7_method_34_code
def yX5_standsOn : MethodName := ⟨RX5, "standsOn", "([I)Z"⟩
abbrev cX5_goes : ByteArray := prog_7_method_35_code
def yX5_goes : MethodName := ⟨RX5, "goes", "([I)Z"⟩
abbrev cX5_isDreaming : ByteArray := prog_7_method_36_code
def yX5_isDreaming : MethodName := ⟨RX5, "isDreaming", "(I)Z"⟩
abbrev cX5_sleeper : ByteArray := prog_7_method_37_code
def yX5_sleeper : MethodName := ⟨RX5, "sleeper", "(II)I"⟩
abbrev cX5_isOf : ByteArray := prog_7_method_38_code
def yX5_isOf : MethodName := ⟨RX5, "isOf", "(II)Z"⟩
abbrev cX5_often : ByteArray := prog_7_method_39_code
def yX5_often : MethodName := ⟨RX5, "often", "(II)I"⟩
abbrev cX5_firstOf : ByteArray := prog_7_method_40_code
def yX5_firstOf : MethodName := ⟨RX5, "firstOf", "(IIZ)I"⟩
abbrev cX5_mark : ByteArray := prog_7_method_41_code
def yX5_mark : MethodName := ⟨RX5, "mark", "(II)I"⟩
abbrev cX5_dreams : ByteArray := prog_7_method_42_code
def yX5_dreams : MethodName := ⟨RX5, "dreams", "(II)I"⟩
abbrev cX5_refuses : ByteArray := prog_7_method_43_code
def yX5_refuses : MethodName := ⟨RX5, "refuses", "(I)I"⟩
abbrev cX5_remember : ByteArray := prog_7_method_44_code
def yX5_remember : MethodName := ⟨RX5, "remember", "()V"⟩
abbrev cX5_minute : ByteArray := prog_7_method_45_code
def yX5_minute : MethodName := ⟨RX5, "minute", "()I"⟩
abbrev cX5_feed : ByteArray := prog_7_method_46_code
def yX5_feed : MethodName := ⟨RX5, "feed", "(II)I"⟩
abbrev cX5_wake : ByteArray := prog_7_method_47_code
def yX5_wake : MethodName := ⟨RX5, "wake", "(I)I"⟩
abbrev cX5_lull : ByteArray := prog_7_method_48_code
def yX5_lull : MethodName := ⟨RX5, "lull", "(I)I"⟩
abbrev cX5_undo : ByteArray := prog_7_method_49_code
def yX5_undo : MethodName := ⟨RX5, "undo", "(I)I"⟩
abbrev cX5_keep : ByteArray := prog_7_method_50_code
def yX5_keep : MethodName := ⟨RX5, "keep", "(I)I"⟩
abbrev cX5_on : ByteArray := prog_7_method_51_code
def yX5_on : MethodName := ⟨RX5, "on", "(I)I"⟩
abbrev cX5_layAside : ByteArray := prog_7_method_52_code
def yX5_layAside : MethodName := ⟨RX5, "layAside", "()V"⟩
abbrev cX5_placeBehind : ByteArray := prog_7_method_53_code
def yX5_placeBehind : MethodName := ⟨RX5, "placeBehind", "(I)I"⟩
abbrev cX5_train : ByteArray := prog_7_method_54_code
def yX5_train : MethodName := ⟨RX5, "train", "(I)I"⟩
abbrev cX5_comes : ByteArray := prog_7_method_55_code
def yX5_comes : MethodName := ⟨RX5, "comes", "()I"⟩
abbrev cX5_standsAt : ByteArray := prog_7_method_56_code
def yX5_standsAt : MethodName := ⟨RX5, "standsAt", "(II)I"⟩
abbrev cX5_stood : ByteArray := prog_7_method_57_code
def yX5_stood : MethodName := ⟨RX5, "stood", "(I)I"⟩
abbrev cX5_intime : ByteArray := prog_7_method_58_code
def yX5_intime : MethodName := ⟨RX5, "intime", "()I"⟩
abbrev cX5_standsThen : ByteArray := prog_7_method_59_code
def yX5_standsThen : MethodName := ⟨RX5, "standsThen", "(II)Z"⟩
abbrev cX5_isFeast : ByteArray := prog_7_method_60_code
def yX5_isFeast : MethodName := ⟨RX5, "isFeast", "(IIII)Z"⟩
abbrev cX5_isOther : ByteArray := prog_7_method_61_code
def yX5_isOther : MethodName := ⟨RX5, "isOther", "(I)Z"⟩
abbrev cX5_feast : ByteArray := prog_7_method_62_code
def yX5_feast : MethodName := ⟨RX5, "feast", "(II)I"⟩
abbrev cX5_bed : ByteArray := prog_7_method_63_code
def yX5_bed : MethodName := ⟨RX5, "bed", "(I)I"⟩
abbrev cX5_refusesRow : ByteArray := prog_7_method_64_code
def yX5_refusesRow : MethodName := ⟨RX5, "refusesRow", "(I)I"⟩
abbrev cX5_goesAs : ByteArray := prog_7_method_65_code
def yX5_goesAs : MethodName := ⟨RX5, "goesAs", "(I)Z"⟩
abbrev cX5_account : ByteArray := prog_7_method_66_code
def yX5_account : MethodName := ⟨RX5, "account", "(I)I"⟩
abbrev cX5_kinds : ByteArray := prog_7_method_67_code
def yX5_kinds : MethodName := ⟨RX5, "kinds", "(II)I"⟩
abbrev cX5_look : ByteArray := prog_7_method_68_code
def yX5_look : MethodName := ⟨RX5, "look", "(I)I"⟩
abbrev cX5_weighs : ByteArray := prog_7_method_69_code
def yX5_weighs : MethodName := ⟨RX5, "weighs", "(IZ)I"⟩
abbrev cX5_duel : ByteArray := prog_7_method_70_code
def yX5_duel : MethodName := ⟨RX5, "duel", "(I)I"⟩
abbrev cX5_fraction : ByteArray := prog_7_method_71_code
def yX5_fraction : MethodName := ⟨RX5, "fraction", "(JJ)I"⟩
abbrev cX5_ways : ByteArray := prog_7_method_72_code
def yX5_ways : MethodName := ⟨RX5, "ways", "(III)J"⟩
abbrev cX5_allWays : ByteArray := prog_7_method_73_code
def yX5_allWays : MethodName := ⟨RX5, "allWays", "()J"⟩
abbrev cX5_odds : ByteArray := prog_7_method_74_code
def yX5_odds : MethodName := ⟨RX5, "odds", "(III)I"⟩
abbrev cX5_mid : ByteArray := prog_7_method_75_code
def yX5_mid : MethodName := ⟨RX5, "mid", "(II)I"⟩
abbrev cX5_lot : ByteArray := prog_7_method_76_code
def yX5_lot : MethodName := ⟨RX5, "lot", "(I)V"⟩
abbrev cX5_lots : ByteArray := prog_7_method_77_code
def yX5_lots : MethodName := ⟨RX5, "lots", "(II)I"⟩
abbrev cX5_asked : ByteArray := prog_7_method_78_code
def yX5_asked : MethodName := ⟨RX5, "asked", "()I"⟩
abbrev cX5_upper : ByteArray := prog_7_method_79_code
def yX5_upper : MethodName := ⟨RX5, "upper", "()J"⟩
abbrev cX5_lower : ByteArray := prog_7_method_80_code
def yX5_lower : MethodName := ⟨RX5, "lower", "()J"⟩
abbrev cX5_there : ByteArray := prog_7_method_81_code
def yX5_there : MethodName := ⟨RX5, "there", "([III)I"⟩
abbrev cX5_whoDream : ByteArray := prog_7_method_82_code
def yX5_whoDream : MethodName := ⟨RX5, "whoDream", "()I"⟩
abbrev cX5_ofCheese : ByteArray := prog_7_method_83_code
def yX5_ofCheese : MethodName := ⟨RX5, "ofCheese", "()I"⟩
abbrev cX5_count : ByteArray := prog_7_method_84_code
def yX5_count : MethodName := ⟨RX5, "count", "(I)I"⟩
abbrev cX5_finding : ByteArray := prog_7_method_85_code
def yX5_finding : MethodName := ⟨RX5, "finding", "()I"⟩
abbrev cX5_findings : ByteArray := prog_7_method_86_code
def yX5_findings : MethodName := ⟨RX5, "findings", "(I)I"⟩
abbrev cX5_digest : ByteArray := prog_7_method_87_code
def yX5_digest : MethodName := ⟨RX5, "digest", "()J"⟩
def RJ6 : String := "java/lang/Integer"
def TJ6 : u_T := fun k => match k with
  | _ => ("", "", "", false)
def tyJ6 : Nat → FieldType := fun k => match k with
  | _ => .int
abbrev wsJ60 : List Cond := u_ws RJ6 TJ6 0
theorem nmJ6 : ∀ a, a < 0 → ∀ b, b < 0 → a ≠ b → (TJ6 a).2.1 ≠ (TJ6 b).2.1 := by decide +kernel
theorem tyJ6_ok : ∀ k, k < 0 → parseFieldDescriptor (TJ6 k).2.2.1 = some (tyJ6 k) := by decide +kernel
abbrev cJ6_bitCount_0f7a4 : ByteArray := prog_8_method_49_code
def yJ6_bitCount_0f7a4 : MethodName := ⟨RJ6, "bitCount", "(I)I"⟩
def RJ9 : String := "java/lang/Math"
def TJ9 : u_T := fun k => match k with
  | _ => ("", "", "", false)
def tyJ9 : Nat → FieldType := fun k => match k with
  | _ => .int
abbrev wsJ90 : List Cond := u_ws RJ9 TJ9 0
theorem nmJ9 : ∀ a, a < 0 → ∀ b, b < 0 → a ≠ b → (TJ9 a).2.1 ≠ (TJ9 b).2.1 := by decide +kernel
theorem tyJ9_ok : ∀ k, k < 0 → parseFieldDescriptor (TJ9 k).2.2.1 = some (tyJ9 k) := by decide +kernel
abbrev cJ9_max_7cf53 : ByteArray := prog_9_method_65_code
def yJ9_max_7cf53 : MethodName := ⟨RJ9, "max", "(II)I"⟩
abbrev cJ9_max_f86c9 : ByteArray := prog_9_method_66_code
def yJ9_max_f86c9 : MethodName := ⟨RJ9, "max", "(JJ)J"⟩
abbrev cJ9_min_7cf53 : ByteArray := prog_9_method_69_code
def yJ9_min_7cf53 : MethodName := ⟨RJ9, "min", "(II)I"⟩
def RJ10 : String := "java/lang/System"
def TJ10 : u_T := fun k => match k with
  | _ => ("", "", "", false)
def tyJ10 : Nat → FieldType := fun k => match k with
  | _ => .int
abbrev wsJ100 : List Cond := u_ws RJ10 TJ10 0
theorem nmJ10 : ∀ a, a < 0 → ∀ b, b < 0 → a ≠ b → (TJ10 a).2.1 ≠ (TJ10 b).2.1 := by decide +kernel
theorem tyJ10_ok : ∀ k, k < 0 → parseFieldDescriptor (TJ10 k).2.2.1 = some (tyJ10 k) := by decide +kernel
def RJ7 : String := "java/util/Arrays"
def TJ7 : u_T := fun k => match k with
  | _ => ("", "", "", false)
def tyJ7 : Nat → FieldType := fun k => match k with
  | _ => .int
abbrev wsJ70 : List Cond := u_ws RJ7 TJ7 0
theorem nmJ7 : ∀ a, a < 0 → ∀ b, b < 0 → a ≠ b → (TJ7 a).2.1 ≠ (TJ7 b).2.1 := by decide +kernel
theorem tyJ7_ok : ∀ k, k < 0 → parseFieldDescriptor (TJ7 k).2.2.1 = some (tyJ7 k) := by decide +kernel
abbrev cJ7_fill_d0a16 : ByteArray := prog_11_method_101_code
def yJ7_fill_d0a16 : MethodName := ⟨RJ7, "fill", "([JJ)V"⟩
abbrev cJ7_fill_53178 : ByteArray := prog_11_method_103_code
def yJ7_fill_53178 : MethodName := ⟨RJ7, "fill", "([II)V"⟩
def RL : String := "DreamTrainLaw"
abbrev cL_law : ByteArray := code
def yL_law : MethodName := ⟨RL, "law", "([I)Z"⟩
abbrev vwCl : List vw_C := [(RX0, TX0, 7), (RX1, TX1, 13), (RX2, TX2, 4), (RX3, TX3, 2), (RX4, TX4, 17), (RX5, TX5, 32)]
end
section
theorem dX0_init_0 : decode cX0_init 0 = .ok (.aload_n 0, 1) := by decide +kernel
theorem dX0_init_1 : decode cX0_init 1 = .ok (.invokespecial 3, 3) := by decide +kernel
theorem dX0_init_4 : decode cX0_init 4 = .ok (.aload_n 0, 1) := by decide +kernel
theorem dX0_init_5 : decode cX0_init 5 = .ok (.bipush 6, 2) := by decide +kernel
theorem dX0_init_7 : decode cX0_init 7 = .ok (.newarray .long, 2) := by decide +kernel
theorem dX0_init_9 : decode cX0_init 9 = .ok (.putfield 9, 3) := by decide +kernel
theorem dX0_init_12 : decode cX0_init 12 = .ok (.aload_n 0, 1) := by decide +kernel
theorem dX0_init_13 : decode cX0_init 13 = .ok (.bipush 6, 2) := by decide +kernel
theorem dX0_init_15 : decode cX0_init 15 = .ok (.newarray .int, 2) := by decide +kernel
theorem dX0_init_17 : decode cX0_init 17 = .ok (.putfield 15, 3) := by decide +kernel
theorem dX0_init_20 : decode cX0_init 20 = .ok (.aload_n 0, 1) := by decide +kernel
theorem dX0_init_21 : decode cX0_init 21 = .ok (.bipush 21, 2) := by decide +kernel
theorem dX0_init_23 : decode cX0_init 23 = .ok (.newarray .long, 2) := by decide +kernel
theorem dX0_init_25 : decode cX0_init 25 = .ok (.putfield 19, 3) := by decide +kernel
theorem dX0_init_28 : decode cX0_init 28 = .ok (.aload_n 0, 1) := by decide +kernel
theorem dX0_init_29 : decode cX0_init 29 = .ok (.bipush 61, 2) := by decide +kernel
theorem dX0_init_31 : decode cX0_init 31 = .ok (.newarray .int, 2) := by decide +kernel
theorem dX0_init_33 : decode cX0_init 33 = .ok (.putfield 22, 3) := by decide +kernel
theorem dX0_init_36 : decode cX0_init 36 = .ok (.return_, 1) := by decide +kernel
theorem dX0_setOut_0 : decode cX0_setOut 0 = .ok (.aload_n 0, 1) := by decide +kernel
theorem dX0_setOut_1 : decode cX0_setOut 1 = .ok (.aload_n 1, 1) := by decide +kernel
theorem dX0_setOut_2 : decode cX0_setOut 2 = .ok (.getfield 25, 3) := by decide +kernel
theorem dX0_setOut_5 : decode cX0_setOut 5 = .ok (.putfield 31, 3) := by decide +kernel
theorem dX0_setOut_8 : decode cX0_setOut 8 = .ok (.aload_n 0, 1) := by decide +kernel
theorem dX0_setOut_9 : decode cX0_setOut 9 = .ok (.aload_n 1, 1) := by decide +kernel
theorem dX0_setOut_10 : decode cX0_setOut 10 = .ok (.getfield 32, 3) := by decide +kernel
theorem dX0_setOut_13 : decode cX0_setOut 13 = .ok (.putfield 35, 3) := by decide +kernel
theorem dX0_setOut_16 : decode cX0_setOut 16 = .ok (.aload_n 0, 1) := by decide +kernel
theorem dX0_setOut_17 : decode cX0_setOut 17 = .ok (.aload_n 1, 1) := by decide +kernel
theorem dX0_setOut_18 : decode cX0_setOut 18 = .ok (.getfield 36, 3) := by decide +kernel
theorem dX0_setOut_21 : decode cX0_setOut 21 = .ok (.putfield 39, 3) := by decide +kernel
theorem dX0_setOut_24 : decode cX0_setOut 24 = .ok (.iconst 0, 1) := by decide +kernel
theorem dX0_setOut_25 : decode cX0_setOut 25 = .ok (.istore_n 2, 1) := by decide +kernel
theorem dX0_setOut_26 : decode cX0_setOut 26 = .ok (.iload_n 2, 1) := by decide +kernel
theorem dX0_setOut_27 : decode cX0_setOut 27 = .ok (.aload_n 0, 1) := by decide +kernel
theorem dX0_setOut_28 : decode cX0_setOut 28 = .ok (.getfield 31, 3) := by decide +kernel
theorem dX0_setOut_31 : decode cX0_setOut 31 = .ok (.if_icmp .ge 46, 3) := by decide +kernel
theorem dX0_setOut_34 : decode cX0_setOut 34 = .ok (.aload_n 0, 1) := by decide +kernel
theorem dX0_setOut_35 : decode cX0_setOut 35 = .ok (.getfield 15, 3) := by decide +kernel
theorem dX0_setOut_38 : decode cX0_setOut 38 = .ok (.iload_n 2, 1) := by decide +kernel
theorem dX0_setOut_39 : decode cX0_setOut 39 = .ok (.aload_n 1, 1) := by decide +kernel
theorem dX0_setOut_40 : decode cX0_setOut 40 = .ok (.getfield 42, 3) := by decide +kernel
theorem dX0_setOut_43 : decode cX0_setOut 43 = .ok (.iload_n 2, 1) := by decide +kernel
theorem dX0_setOut_44 : decode cX0_setOut 44 = .ok (.iaload, 1) := by decide +kernel
theorem dX0_setOut_45 : decode cX0_setOut 45 = .ok (.iastore, 1) := by decide +kernel
theorem dX0_setOut_46 : decode cX0_setOut 46 = .ok (.aload_n 0, 1) := by decide +kernel
theorem dX0_setOut_47 : decode cX0_setOut 47 = .ok (.getfield 9, 3) := by decide +kernel
theorem dX0_setOut_50 : decode cX0_setOut 50 = .ok (.iload_n 2, 1) := by decide +kernel
theorem dX0_setOut_51 : decode cX0_setOut 51 = .ok (.aload_n 1, 1) := by decide +kernel
theorem dX0_setOut_52 : decode cX0_setOut 52 = .ok (.getfield 43, 3) := by decide +kernel
theorem dX0_setOut_55 : decode cX0_setOut 55 = .ok (.iload_n 2, 1) := by decide +kernel
theorem dX0_setOut_56 : decode cX0_setOut 56 = .ok (.iaload, 1) := by decide +kernel
theorem dX0_setOut_57 : decode cX0_setOut 57 = .ok (.aload_n 1, 1) := by decide +kernel
theorem dX0_setOut_58 : decode cX0_setOut 58 = .ok (.getfield 46, 3) := by decide +kernel
theorem dX0_setOut_61 : decode cX0_setOut 61 = .ok (.iload_n 2, 1) := by decide +kernel
theorem dX0_setOut_62 : decode cX0_setOut 62 = .ok (.iaload, 1) := by decide +kernel
theorem dX0_setOut_63 : decode cX0_setOut 63 = .ok (.aload_n 1, 1) := by decide +kernel
theorem dX0_setOut_64 : decode cX0_setOut 64 = .ok (.getfield 49, 3) := by decide +kernel
theorem dX0_setOut_67 : decode cX0_setOut 67 = .ok (.invokestatic 52, 3) := by decide +kernel
theorem dX0_setOut_70 : decode cX0_setOut 70 = .ok (.lastore, 1) := by decide +kernel
theorem dX0_setOut_71 : decode cX0_setOut 71 = .ok (.iinc 2 1, 3) := by decide +kernel
theorem dX0_setOut_74 : decode cX0_setOut 74 = .ok (.goto (-48), 3) := by decide +kernel
theorem dX0_setOut_77 : decode cX0_setOut 77 = .ok (.return_, 1) := by decide +kernel
theorem dX0_ride_0 : decode cX0_ride 0 = .ok (.aload_n 0, 1) := by decide +kernel
theorem dX0_ride_1 : decode cX0_ride 1 = .ok (.iload_n 2, 1) := by decide +kernel
theorem dX0_ride_2 : decode cX0_ride 2 = .ok (.invokevirtual 56, 3) := by decide +kernel
theorem dX0_ride_5 : decode cX0_ride 5 = .ok (.aload_n 0, 1) := by decide +kernel
theorem dX0_ride_6 : decode cX0_ride 6 = .ok (.getfield 39, 3) := by decide +kernel
theorem dX0_ride_9 : decode cX0_ride 9 = .ok (.istore_n 3, 1) := by decide +kernel
theorem dX0_ride_10 : decode cX0_ride 10 = .ok (.aload_n 0, 1) := by decide +kernel
theorem dX0_ride_11 : decode cX0_ride 11 = .ok (.getfield 22, 3) := by decide +kernel
theorem dX0_ride_14 : decode cX0_ride 14 = .ok (.iconst 0, 1) := by decide +kernel
theorem dX0_ride_15 : decode cX0_ride 15 = .ok (.iload_n 3, 1) := by decide +kernel
theorem dX0_ride_16 : decode cX0_ride 16 = .ok (.iastore, 1) := by decide +kernel
theorem dX0_ride_17 : decode cX0_ride 17 = .ok (.iconst 0, 1) := by decide +kernel
theorem dX0_ride_18 : decode cX0_ride 18 = .ok (.istore 4, 2) := by decide +kernel
theorem dX0_ride_20 : decode cX0_ride 20 = .ok (.iload 4, 2) := by decide +kernel
theorem dX0_ride_22 : decode cX0_ride 22 = .ok (.iload_n 1, 1) := by decide +kernel
theorem dX0_ride_23 : decode cX0_ride 23 = .ok (.if_icmp .ge 65, 3) := by decide +kernel
theorem dX0_ride_26 : decode cX0_ride 26 = .ok (.iload 4, 2) := by decide +kernel
theorem dX0_ride_28 : decode cX0_ride 28 = .ok (.bipush 60, 2) := by decide +kernel
theorem dX0_ride_30 : decode cX0_ride 30 = .ok (.if_icmp .ge 58, 3) := by decide +kernel
theorem dX0_ride_33 : decode cX0_ride 33 = .ok (.iload_n 3, 1) := by decide +kernel
theorem dX0_ride_34 : decode cX0_ride 34 = .ok (.aload_n 0, 1) := by decide +kernel
theorem dX0_ride_35 : decode cX0_ride 35 = .ok (.getfield 35, 3) := by decide +kernel
theorem dX0_ride_38 : decode cX0_ride 38 = .ok (.if_icmp .ge 19, 3) := by decide +kernel
theorem dX0_ride_41 : decode cX0_ride 41 = .ok (.aload_n 0, 1) := by decide +kernel
theorem dX0_ride_42 : decode cX0_ride 42 = .ok (.getfield 19, 3) := by decide +kernel
theorem dX0_ride_45 : decode cX0_ride 45 = .ok (.iload_n 3, 1) := by decide +kernel
theorem dX0_ride_46 : decode cX0_ride 46 = .ok (.laload, 1) := by decide +kernel
theorem dX0_ride_47 : decode cX0_ride 47 = .ok (.iload 4, 2) := by decide +kernel
theorem dX0_ride_49 : decode cX0_ride 49 = .ok (.lushr, 1) := by decide +kernel
theorem dX0_ride_50 : decode cX0_ride 50 = .ok (.lconst 1, 1) := by decide +kernel
theorem dX0_ride_51 : decode cX0_ride 51 = .ok (.land, 1) := by decide +kernel
theorem dX0_ride_52 : decode cX0_ride 52 = .ok (.lconst 0, 1) := by decide +kernel
theorem dX0_ride_53 : decode cX0_ride 53 = .ok (.lcmp, 1) := by decide +kernel
theorem dX0_ride_54 : decode cX0_ride 54 = .ok (.ifCond .eq 7, 3) := by decide +kernel
theorem dX0_ride_57 : decode cX0_ride 57 = .ok (.iconst 1, 1) := by decide +kernel
theorem dX0_ride_58 : decode cX0_ride 58 = .ok (.goto 4, 3) := by decide +kernel
theorem dX0_ride_61 : decode cX0_ride 61 = .ok (.iconst 0, 1) := by decide +kernel
theorem dX0_ride_62 : decode cX0_ride 62 = .ok (.istore 5, 2) := by decide +kernel
theorem dX0_ride_64 : decode cX0_ride 64 = .ok (.iload 5, 2) := by decide +kernel
theorem dX0_ride_66 : decode cX0_ride 66 = .ok (.ifCond .ne 6, 3) := by decide +kernel
theorem dX0_ride_69 : decode cX0_ride 69 = .ok (.iinc 3 1, 3) := by decide +kernel
theorem dX0_ride_72 : decode cX0_ride 72 = .ok (.aload_n 0, 1) := by decide +kernel
theorem dX0_ride_73 : decode cX0_ride 73 = .ok (.getfield 22, 3) := by decide +kernel
theorem dX0_ride_76 : decode cX0_ride 76 = .ok (.iload 4, 2) := by decide +kernel
theorem dX0_ride_78 : decode cX0_ride 78 = .ok (.iconst 1, 1) := by decide +kernel
theorem dX0_ride_79 : decode cX0_ride 79 = .ok (.iadd, 1) := by decide +kernel
theorem dX0_ride_80 : decode cX0_ride 80 = .ok (.iload_n 3, 1) := by decide +kernel
theorem dX0_ride_81 : decode cX0_ride 81 = .ok (.iastore, 1) := by decide +kernel
theorem dX0_ride_82 : decode cX0_ride 82 = .ok (.iinc 4 1, 3) := by decide +kernel
theorem dX0_ride_85 : decode cX0_ride 85 = .ok (.goto (-65), 3) := by decide +kernel
theorem dX0_ride_88 : decode cX0_ride 88 = .ok (.iload_n 3, 1) := by decide +kernel
theorem dX0_ride_89 : decode cX0_ride 89 = .ok (.ireturn, 1) := by decide +kernel
theorem dX0_gatherStands_0 : decode cX0_gatherStands 0 = .ok (.aload_n 0, 1) := by decide +kernel
theorem dX0_gatherStands_1 : decode cX0_gatherStands 1 = .ok (.getfield 19, 3) := by decide +kernel
theorem dX0_gatherStands_4 : decode cX0_gatherStands 4 = .ok (.lconst 0, 1) := by decide +kernel
theorem dX0_gatherStands_5 : decode cX0_gatherStands 5 = .ok (.invokestatic 60, 3) := by decide +kernel
theorem dX0_gatherStands_8 : decode cX0_gatherStands 8 = .ok (.iconst 0, 1) := by decide +kernel
theorem dX0_gatherStands_9 : decode cX0_gatherStands 9 = .ok (.istore_n 2, 1) := by decide +kernel
theorem dX0_gatherStands_10 : decode cX0_gatherStands 10 = .ok (.iload_n 2, 1) := by decide +kernel
theorem dX0_gatherStands_11 : decode cX0_gatherStands 11 = .ok (.aload_n 0, 1) := by decide +kernel
theorem dX0_gatherStands_12 : decode cX0_gatherStands 12 = .ok (.getfield 31, 3) := by decide +kernel
theorem dX0_gatherStands_15 : decode cX0_gatherStands 15 = .ok (.if_icmp .ge 37, 3) := by decide +kernel
theorem dX0_gatherStands_18 : decode cX0_gatherStands 18 = .ok (.iload_n 1, 1) := by decide +kernel
theorem dX0_gatherStands_19 : decode cX0_gatherStands 19 = .ok (.iload_n 2, 1) := by decide +kernel
theorem dX0_gatherStands_20 : decode cX0_gatherStands 20 = .ok (.ishr, 1) := by decide +kernel
theorem dX0_gatherStands_21 : decode cX0_gatherStands 21 = .ok (.iconst 1, 1) := by decide +kernel
theorem dX0_gatherStands_22 : decode cX0_gatherStands 22 = .ok (.iand, 1) := by decide +kernel
theorem dX0_gatherStands_23 : decode cX0_gatherStands 23 = .ok (.ifCond .eq 23, 3) := by decide +kernel
theorem dX0_gatherStands_26 : decode cX0_gatherStands 26 = .ok (.aload_n 0, 1) := by decide +kernel
theorem dX0_gatherStands_27 : decode cX0_gatherStands 27 = .ok (.getfield 19, 3) := by decide +kernel
theorem dX0_gatherStands_30 : decode cX0_gatherStands 30 = .ok (.aload_n 0, 1) := by decide +kernel
theorem dX0_gatherStands_31 : decode cX0_gatherStands 31 = .ok (.getfield 15, 3) := by decide +kernel
theorem dX0_gatherStands_34 : decode cX0_gatherStands 34 = .ok (.iload_n 2, 1) := by decide +kernel
theorem dX0_gatherStands_35 : decode cX0_gatherStands 35 = .ok (.iaload, 1) := by decide +kernel
theorem dX0_gatherStands_36 : decode cX0_gatherStands 36 = .ok (.dup2, 1) := by decide +kernel
theorem dX0_gatherStands_37 : decode cX0_gatherStands 37 = .ok (.laload, 1) := by decide +kernel
theorem dX0_gatherStands_38 : decode cX0_gatherStands 38 = .ok (.aload_n 0, 1) := by decide +kernel
theorem dX0_gatherStands_39 : decode cX0_gatherStands 39 = .ok (.getfield 9, 3) := by decide +kernel
theorem dX0_gatherStands_42 : decode cX0_gatherStands 42 = .ok (.iload_n 2, 1) := by decide +kernel
theorem dX0_gatherStands_43 : decode cX0_gatherStands 43 = .ok (.laload, 1) := by decide +kernel
theorem dX0_gatherStands_44 : decode cX0_gatherStands 44 = .ok (.lor, 1) := by decide +kernel
theorem dX0_gatherStands_45 : decode cX0_gatherStands 45 = .ok (.lastore, 1) := by decide +kernel
theorem dX0_gatherStands_46 : decode cX0_gatherStands 46 = .ok (.iinc 2 1, 3) := by decide +kernel
theorem dX0_gatherStands_49 : decode cX0_gatherStands 49 = .ok (.goto (-39), 3) := by decide +kernel
theorem dX0_gatherStands_52 : decode cX0_gatherStands 52 = .ok (.return_, 1) := by decide +kernel
theorem dX0_minutesAt_0 : decode cX0_minutesAt 0 = .ok (.iconst 0, 1) := by decide +kernel
theorem dX0_minutesAt_1 : decode cX0_minutesAt 1 = .ok (.istore_n 3, 1) := by decide +kernel
theorem dX0_minutesAt_2 : decode cX0_minutesAt 2 = .ok (.iconst 0, 1) := by decide +kernel
theorem dX0_minutesAt_3 : decode cX0_minutesAt 3 = .ok (.istore 4, 2) := by decide +kernel
theorem dX0_minutesAt_5 : decode cX0_minutesAt 5 = .ok (.iload 4, 2) := by decide +kernel
theorem dX0_minutesAt_7 : decode cX0_minutesAt 7 = .ok (.iload_n 2, 1) := by decide +kernel
theorem dX0_minutesAt_8 : decode cX0_minutesAt 8 = .ok (.if_icmp .ge 51, 3) := by decide +kernel
theorem dX0_minutesAt_11 : decode cX0_minutesAt 11 = .ok (.iload 4, 2) := by decide +kernel
theorem dX0_minutesAt_13 : decode cX0_minutesAt 13 = .ok (.bipush 60, 2) := by decide +kernel
theorem dX0_minutesAt_15 : decode cX0_minutesAt 15 = .ok (.if_icmp .ge 44, 3) := by decide +kernel
theorem dX0_minutesAt_18 : decode cX0_minutesAt 18 = .ok (.iload_n 3, 1) := by decide +kernel
theorem dX0_minutesAt_19 : decode cX0_minutesAt 19 = .ok (.aload_n 0, 1) := by decide +kernel
theorem dX0_minutesAt_20 : decode cX0_minutesAt 20 = .ok (.getfield 22, 3) := by decide +kernel
theorem dX0_minutesAt_23 : decode cX0_minutesAt 23 = .ok (.iload 4, 2) := by decide +kernel
theorem dX0_minutesAt_25 : decode cX0_minutesAt 25 = .ok (.iaload, 1) := by decide +kernel
theorem dX0_minutesAt_26 : decode cX0_minutesAt 26 = .ok (.iload_n 1, 1) := by decide +kernel
theorem dX0_minutesAt_27 : decode cX0_minutesAt 27 = .ok (.if_icmp .ne 20, 3) := by decide +kernel
theorem dX0_minutesAt_30 : decode cX0_minutesAt 30 = .ok (.aload_n 0, 1) := by decide +kernel
theorem dX0_minutesAt_31 : decode cX0_minutesAt 31 = .ok (.getfield 22, 3) := by decide +kernel
theorem dX0_minutesAt_34 : decode cX0_minutesAt 34 = .ok (.iload 4, 2) := by decide +kernel
theorem dX0_minutesAt_36 : decode cX0_minutesAt 36 = .ok (.iconst 1, 1) := by decide +kernel
theorem dX0_minutesAt_37 : decode cX0_minutesAt 37 = .ok (.iadd, 1) := by decide +kernel
theorem dX0_minutesAt_38 : decode cX0_minutesAt 38 = .ok (.iaload, 1) := by decide +kernel
theorem dX0_minutesAt_39 : decode cX0_minutesAt 39 = .ok (.iload_n 1, 1) := by decide +kernel
theorem dX0_minutesAt_40 : decode cX0_minutesAt 40 = .ok (.if_icmp .ne 7, 3) := by decide +kernel
theorem dX0_minutesAt_43 : decode cX0_minutesAt 43 = .ok (.iconst 1, 1) := by decide +kernel
theorem dX0_minutesAt_44 : decode cX0_minutesAt 44 = .ok (.goto 4, 3) := by decide +kernel
theorem dX0_minutesAt_47 : decode cX0_minutesAt 47 = .ok (.iconst 0, 1) := by decide +kernel
theorem dX0_minutesAt_48 : decode cX0_minutesAt 48 = .ok (.invokestatic 66, 3) := by decide +kernel
theorem dX0_minutesAt_51 : decode cX0_minutesAt 51 = .ok (.iadd, 1) := by decide +kernel
theorem dX0_minutesAt_52 : decode cX0_minutesAt 52 = .ok (.istore_n 3, 1) := by decide +kernel
theorem dX0_minutesAt_53 : decode cX0_minutesAt 53 = .ok (.iinc 4 1, 3) := by decide +kernel
theorem dX0_minutesAt_56 : decode cX0_minutesAt 56 = .ok (.goto (-51), 3) := by decide +kernel
theorem dX0_minutesAt_59 : decode cX0_minutesAt 59 = .ok (.iload_n 3, 1) := by decide +kernel
theorem dX0_minutesAt_60 : decode cX0_minutesAt 60 = .ok (.ireturn, 1) := by decide +kernel
theorem dX1_init_0 : decode cX1_init 0 = .ok (.aload_n 0, 1) := by decide +kernel
theorem dX1_init_1 : decode cX1_init 1 = .ok (.invokespecial 3, 3) := by decide +kernel
theorem dX1_init_4 : decode cX1_init 4 = .ok (.aload_n 0, 1) := by decide +kernel
theorem dX1_init_5 : decode cX1_init 5 = .ok (.bipush 6, 2) := by decide +kernel
theorem dX1_init_7 : decode cX1_init 7 = .ok (.newarray .int, 2) := by decide +kernel
theorem dX1_init_9 : decode cX1_init 9 = .ok (.putfield 9, 3) := by decide +kernel
theorem dX1_init_12 : decode cX1_init 12 = .ok (.aload_n 0, 1) := by decide +kernel
theorem dX1_init_13 : decode cX1_init 13 = .ok (.bipush 6, 2) := by decide +kernel
theorem dX1_init_15 : decode cX1_init 15 = .ok (.newarray .int, 2) := by decide +kernel
theorem dX1_init_17 : decode cX1_init 17 = .ok (.putfield 15, 3) := by decide +kernel
theorem dX1_init_20 : decode cX1_init 20 = .ok (.aload_n 0, 1) := by decide +kernel
theorem dX1_init_21 : decode cX1_init 21 = .ok (.bipush 6, 2) := by decide +kernel
theorem dX1_init_23 : decode cX1_init 23 = .ok (.newarray .int, 2) := by decide +kernel
theorem dX1_init_25 : decode cX1_init 25 = .ok (.putfield 18, 3) := by decide +kernel
theorem dX1_init_28 : decode cX1_init 28 = .ok (.aload_n 0, 1) := by decide +kernel
theorem dX1_init_29 : decode cX1_init 29 = .ok (.bipush 40, 2) := by decide +kernel
theorem dX1_init_31 : decode cX1_init 31 = .ok (.newarray .int, 2) := by decide +kernel
theorem dX1_init_33 : decode cX1_init 33 = .ok (.putfield 21, 3) := by decide +kernel
theorem dX1_init_36 : decode cX1_init 36 = .ok (.aload_n 0, 1) := by decide +kernel
theorem dX1_init_37 : decode cX1_init 37 = .ok (.bipush 40, 2) := by decide +kernel
theorem dX1_init_39 : decode cX1_init 39 = .ok (.newarray .int, 2) := by decide +kernel
theorem dX1_init_41 : decode cX1_init 41 = .ok (.putfield 24, 3) := by decide +kernel
theorem dX1_init_44 : decode cX1_init 44 = .ok (.aload_n 0, 1) := by decide +kernel
theorem dX1_init_45 : decode cX1_init 45 = .ok (.bipush 40, 2) := by decide +kernel
theorem dX1_init_47 : decode cX1_init 47 = .ok (.newarray .int, 2) := by decide +kernel
theorem dX1_init_49 : decode cX1_init 49 = .ok (.putfield 27, 3) := by decide +kernel
theorem dX1_init_52 : decode cX1_init 52 = .ok (.return_, 1) := by decide +kernel
theorem dX1_begin_0 : decode cX1_begin 0 = .ok (.aload_n 0, 1) := by decide +kernel
theorem dX1_begin_1 : decode cX1_begin 1 = .ok (.iconst 0, 1) := by decide +kernel
theorem dX1_begin_2 : decode cX1_begin 2 = .ok (.putfield 30, 3) := by decide +kernel
theorem dX1_begin_5 : decode cX1_begin 5 = .ok (.aload_n 0, 1) := by decide +kernel
theorem dX1_begin_6 : decode cX1_begin 6 = .ok (.iload_n 1, 1) := by decide +kernel
theorem dX1_begin_7 : decode cX1_begin 7 = .ok (.putfield 34, 3) := by decide +kernel
theorem dX1_begin_10 : decode cX1_begin 10 = .ok (.aload_n 0, 1) := by decide +kernel
theorem dX1_begin_11 : decode cX1_begin 11 = .ok (.iload_n 2, 1) := by decide +kernel
theorem dX1_begin_12 : decode cX1_begin 12 = .ok (.putfield 37, 3) := by decide +kernel
theorem dX1_begin_15 : decode cX1_begin 15 = .ok (.aload_n 0, 1) := by decide +kernel
theorem dX1_begin_16 : decode cX1_begin 16 = .ok (.iconst 0, 1) := by decide +kernel
theorem dX1_begin_17 : decode cX1_begin 17 = .ok (.putfield 40, 3) := by decide +kernel
theorem dX1_begin_20 : decode cX1_begin 20 = .ok (.aload_n 0, 1) := by decide +kernel
theorem dX1_begin_21 : decode cX1_begin 21 = .ok (.iconst 0, 1) := by decide +kernel
theorem dX1_begin_22 : decode cX1_begin 22 = .ok (.putfield 43, 3) := by decide +kernel
theorem dX1_begin_25 : decode cX1_begin 25 = .ok (.aload_n 0, 1) := by decide +kernel
theorem dX1_begin_26 : decode cX1_begin 26 = .ok (.iconst 0, 1) := by decide +kernel
theorem dX1_begin_27 : decode cX1_begin 27 = .ok (.putfield 46, 3) := by decide +kernel
theorem dX1_begin_30 : decode cX1_begin 30 = .ok (.aload_n 0, 1) := by decide +kernel
theorem dX1_begin_31 : decode cX1_begin 31 = .ok (.iconst 0, 1) := by decide +kernel
theorem dX1_begin_32 : decode cX1_begin 32 = .ok (.putfield 49, 3) := by decide +kernel
theorem dX1_begin_35 : decode cX1_begin 35 = .ok (.return_, 1) := by decide +kernel
theorem dX1_addSleeper_0 : decode cX1_addSleeper 0 = .ok (.aload_n 0, 1) := by decide +kernel
theorem dX1_addSleeper_1 : decode cX1_addSleeper 1 = .ok (.getfield 30, 3) := by decide +kernel
theorem dX1_addSleeper_4 : decode cX1_addSleeper 4 = .ok (.bipush 6, 2) := by decide +kernel
theorem dX1_addSleeper_6 : decode cX1_addSleeper 6 = .ok (.if_icmp .lt 4, 3) := by decide +kernel
theorem dX1_addSleeper_9 : decode cX1_addSleeper 9 = .ok (.return_, 1) := by decide +kernel
theorem dX1_addSleeper_10 : decode cX1_addSleeper 10 = .ok (.aload_n 0, 1) := by decide +kernel
theorem dX1_addSleeper_11 : decode cX1_addSleeper 11 = .ok (.getfield 9, 3) := by decide +kernel
theorem dX1_addSleeper_14 : decode cX1_addSleeper 14 = .ok (.aload_n 0, 1) := by decide +kernel
theorem dX1_addSleeper_15 : decode cX1_addSleeper 15 = .ok (.getfield 30, 3) := by decide +kernel
theorem dX1_addSleeper_18 : decode cX1_addSleeper 18 = .ok (.iload_n 1, 1) := by decide +kernel
theorem dX1_addSleeper_19 : decode cX1_addSleeper 19 = .ok (.iastore, 1) := by decide +kernel
theorem dX1_addSleeper_20 : decode cX1_addSleeper 20 = .ok (.aload_n 0, 1) := by decide +kernel
theorem dX1_addSleeper_21 : decode cX1_addSleeper 21 = .ok (.getfield 15, 3) := by decide +kernel
theorem dX1_addSleeper_24 : decode cX1_addSleeper 24 = .ok (.aload_n 0, 1) := by decide +kernel
theorem dX1_addSleeper_25 : decode cX1_addSleeper 25 = .ok (.getfield 30, 3) := by decide +kernel
theorem dX1_addSleeper_28 : decode cX1_addSleeper 28 = .ok (.iload_n 2, 1) := by decide +kernel
theorem dX1_addSleeper_29 : decode cX1_addSleeper 29 = .ok (.iastore, 1) := by decide +kernel
theorem dX1_addSleeper_30 : decode cX1_addSleeper 30 = .ok (.aload_n 0, 1) := by decide +kernel
theorem dX1_addSleeper_31 : decode cX1_addSleeper 31 = .ok (.getfield 18, 3) := by decide +kernel
theorem dX1_addSleeper_34 : decode cX1_addSleeper 34 = .ok (.aload_n 0, 1) := by decide +kernel
theorem dX1_addSleeper_35 : decode cX1_addSleeper 35 = .ok (.getfield 30, 3) := by decide +kernel
theorem dX1_addSleeper_38 : decode cX1_addSleeper 38 = .ok (.iload_n 3, 1) := by decide +kernel
theorem dX1_addSleeper_39 : decode cX1_addSleeper 39 = .ok (.iastore, 1) := by decide +kernel
theorem dX1_addSleeper_40 : decode cX1_addSleeper 40 = .ok (.aload_n 0, 1) := by decide +kernel
theorem dX1_addSleeper_41 : decode cX1_addSleeper 41 = .ok (.dup, 1) := by decide +kernel
theorem dX1_addSleeper_42 : decode cX1_addSleeper 42 = .ok (.getfield 40, 3) := by decide +kernel
theorem dX1_addSleeper_45 : decode cX1_addSleeper 45 = .ok (.iconst 1, 1) := by decide +kernel
theorem dX1_addSleeper_46 : decode cX1_addSleeper 46 = .ok (.aload_n 0, 1) := by decide +kernel
theorem dX1_addSleeper_47 : decode cX1_addSleeper 47 = .ok (.getfield 30, 3) := by decide +kernel
theorem dX1_addSleeper_50 : decode cX1_addSleeper 50 = .ok (.ishl, 1) := by decide +kernel
theorem dX1_addSleeper_51 : decode cX1_addSleeper 51 = .ok (.ior, 1) := by decide +kernel
theorem dX1_addSleeper_52 : decode cX1_addSleeper 52 = .ok (.putfield 40, 3) := by decide +kernel
theorem dX1_addSleeper_55 : decode cX1_addSleeper 55 = .ok (.aload_n 0, 1) := by decide +kernel
theorem dX1_addSleeper_56 : decode cX1_addSleeper 56 = .ok (.dup, 1) := by decide +kernel
theorem dX1_addSleeper_57 : decode cX1_addSleeper 57 = .ok (.getfield 30, 3) := by decide +kernel
theorem dX1_addSleeper_60 : decode cX1_addSleeper 60 = .ok (.iconst 1, 1) := by decide +kernel
theorem dX1_addSleeper_61 : decode cX1_addSleeper 61 = .ok (.iadd, 1) := by decide +kernel
theorem dX1_addSleeper_62 : decode cX1_addSleeper 62 = .ok (.putfield 30, 3) := by decide +kernel
theorem dX1_addSleeper_65 : decode cX1_addSleeper 65 = .ok (.return_, 1) := by decide +kernel
theorem dX1_become_0 : decode cX1_become 0 = .ok (.aload_n 1, 1) := by decide +kernel
theorem dX1_become_1 : decode cX1_become 1 = .ok (.getfield 9, 3) := by decide +kernel
theorem dX1_become_4 : decode cX1_become 4 = .ok (.iconst 0, 1) := by decide +kernel
theorem dX1_become_5 : decode cX1_become 5 = .ok (.aload_n 0, 1) := by decide +kernel
theorem dX1_become_6 : decode cX1_become 6 = .ok (.getfield 9, 3) := by decide +kernel
theorem dX1_become_9 : decode cX1_become 9 = .ok (.iconst 0, 1) := by decide +kernel
theorem dX1_become_10 : decode cX1_become 10 = .ok (.bipush 6, 2) := by decide +kernel
theorem dX1_become_12 : decode cX1_become 12 = .ok (.invokestatic 52, 3) := by decide +kernel
theorem dX1_become_15 : decode cX1_become 15 = .ok (.aload_n 1, 1) := by decide +kernel
theorem dX1_become_16 : decode cX1_become 16 = .ok (.getfield 15, 3) := by decide +kernel
theorem dX1_become_19 : decode cX1_become 19 = .ok (.iconst 0, 1) := by decide +kernel
theorem dX1_become_20 : decode cX1_become 20 = .ok (.aload_n 0, 1) := by decide +kernel
theorem dX1_become_21 : decode cX1_become 21 = .ok (.getfield 15, 3) := by decide +kernel
theorem dX1_become_24 : decode cX1_become 24 = .ok (.iconst 0, 1) := by decide +kernel
theorem dX1_become_25 : decode cX1_become 25 = .ok (.bipush 6, 2) := by decide +kernel
theorem dX1_become_27 : decode cX1_become 27 = .ok (.invokestatic 52, 3) := by decide +kernel
theorem dX1_become_30 : decode cX1_become 30 = .ok (.aload_n 1, 1) := by decide +kernel
theorem dX1_become_31 : decode cX1_become 31 = .ok (.getfield 18, 3) := by decide +kernel
theorem dX1_become_34 : decode cX1_become 34 = .ok (.iconst 0, 1) := by decide +kernel
theorem dX1_become_35 : decode cX1_become 35 = .ok (.aload_n 0, 1) := by decide +kernel
theorem dX1_become_36 : decode cX1_become 36 = .ok (.getfield 18, 3) := by decide +kernel
theorem dX1_become_39 : decode cX1_become 39 = .ok (.iconst 0, 1) := by decide +kernel
theorem dX1_become_40 : decode cX1_become 40 = .ok (.bipush 6, 2) := by decide +kernel
theorem dX1_become_42 : decode cX1_become 42 = .ok (.invokestatic 52, 3) := by decide +kernel
theorem dX1_become_45 : decode cX1_become 45 = .ok (.aload_n 1, 1) := by decide +kernel
theorem dX1_become_46 : decode cX1_become 46 = .ok (.getfield 21, 3) := by decide +kernel
theorem dX1_become_49 : decode cX1_become 49 = .ok (.iconst 0, 1) := by decide +kernel
theorem dX1_become_50 : decode cX1_become 50 = .ok (.aload_n 0, 1) := by decide +kernel
theorem dX1_become_51 : decode cX1_become 51 = .ok (.getfield 21, 3) := by decide +kernel
theorem dX1_become_54 : decode cX1_become 54 = .ok (.iconst 0, 1) := by decide +kernel
theorem dX1_become_55 : decode cX1_become 55 = .ok (.bipush 40, 2) := by decide +kernel
theorem dX1_become_57 : decode cX1_become 57 = .ok (.invokestatic 52, 3) := by decide +kernel
theorem dX1_become_60 : decode cX1_become 60 = .ok (.aload_n 1, 1) := by decide +kernel
theorem dX1_become_61 : decode cX1_become 61 = .ok (.getfield 24, 3) := by decide +kernel
theorem dX1_become_64 : decode cX1_become 64 = .ok (.iconst 0, 1) := by decide +kernel
theorem dX1_become_65 : decode cX1_become 65 = .ok (.aload_n 0, 1) := by decide +kernel
theorem dX1_become_66 : decode cX1_become 66 = .ok (.getfield 24, 3) := by decide +kernel
theorem dX1_become_69 : decode cX1_become 69 = .ok (.iconst 0, 1) := by decide +kernel
theorem dX1_become_70 : decode cX1_become 70 = .ok (.bipush 40, 2) := by decide +kernel
theorem dX1_become_72 : decode cX1_become 72 = .ok (.invokestatic 52, 3) := by decide +kernel
theorem dX1_become_75 : decode cX1_become 75 = .ok (.aload_n 1, 1) := by decide +kernel
theorem dX1_become_76 : decode cX1_become 76 = .ok (.getfield 27, 3) := by decide +kernel
theorem dX1_become_79 : decode cX1_become 79 = .ok (.iconst 0, 1) := by decide +kernel
theorem dX1_become_80 : decode cX1_become 80 = .ok (.aload_n 0, 1) := by decide +kernel
theorem dX1_become_81 : decode cX1_become 81 = .ok (.getfield 27, 3) := by decide +kernel
theorem dX1_become_84 : decode cX1_become 84 = .ok (.iconst 0, 1) := by decide +kernel
theorem dX1_become_85 : decode cX1_become 85 = .ok (.bipush 40, 2) := by decide +kernel
theorem dX1_become_87 : decode cX1_become 87 = .ok (.invokestatic 52, 3) := by decide +kernel
theorem dX1_become_90 : decode cX1_become 90 = .ok (.aload_n 0, 1) := by decide +kernel
theorem dX1_become_91 : decode cX1_become 91 = .ok (.aload_n 1, 1) := by decide +kernel
theorem dX1_become_92 : decode cX1_become 92 = .ok (.getfield 30, 3) := by decide +kernel
theorem dX1_become_95 : decode cX1_become 95 = .ok (.putfield 30, 3) := by decide +kernel
theorem dX1_become_98 : decode cX1_become 98 = .ok (.aload_n 0, 1) := by decide +kernel
theorem dX1_become_99 : decode cX1_become 99 = .ok (.aload_n 1, 1) := by decide +kernel
theorem dX1_become_100 : decode cX1_become 100 = .ok (.getfield 34, 3) := by decide +kernel
theorem dX1_become_103 : decode cX1_become 103 = .ok (.putfield 34, 3) := by decide +kernel
theorem dX1_become_106 : decode cX1_become 106 = .ok (.aload_n 0, 1) := by decide +kernel
theorem dX1_become_107 : decode cX1_become 107 = .ok (.aload_n 1, 1) := by decide +kernel
theorem dX1_become_108 : decode cX1_become 108 = .ok (.getfield 37, 3) := by decide +kernel
theorem dX1_become_111 : decode cX1_become 111 = .ok (.putfield 37, 3) := by decide +kernel
theorem dX1_become_114 : decode cX1_become 114 = .ok (.aload_n 0, 1) := by decide +kernel
theorem dX1_become_115 : decode cX1_become 115 = .ok (.aload_n 1, 1) := by decide +kernel
theorem dX1_become_116 : decode cX1_become 116 = .ok (.getfield 40, 3) := by decide +kernel
theorem dX1_become_119 : decode cX1_become 119 = .ok (.putfield 40, 3) := by decide +kernel
theorem dX1_become_122 : decode cX1_become 122 = .ok (.aload_n 0, 1) := by decide +kernel
theorem dX1_become_123 : decode cX1_become 123 = .ok (.aload_n 1, 1) := by decide +kernel
theorem dX1_become_124 : decode cX1_become 124 = .ok (.getfield 43, 3) := by decide +kernel
theorem dX1_become_127 : decode cX1_become 127 = .ok (.putfield 43, 3) := by decide +kernel
theorem dX1_become_130 : decode cX1_become 130 = .ok (.aload_n 0, 1) := by decide +kernel
theorem dX1_become_131 : decode cX1_become 131 = .ok (.aload_n 1, 1) := by decide +kernel
theorem dX1_become_132 : decode cX1_become 132 = .ok (.getfield 46, 3) := by decide +kernel
theorem dX1_become_135 : decode cX1_become 135 = .ok (.putfield 46, 3) := by decide +kernel
theorem dX1_become_138 : decode cX1_become 138 = .ok (.aload_n 0, 1) := by decide +kernel
theorem dX1_become_139 : decode cX1_become 139 = .ok (.aload_n 1, 1) := by decide +kernel
theorem dX1_become_140 : decode cX1_become 140 = .ok (.getfield 49, 3) := by decide +kernel
theorem dX1_become_143 : decode cX1_become 143 = .ok (.putfield 49, 3) := by decide +kernel
theorem dX1_become_146 : decode cX1_become 146 = .ok (.return_, 1) := by decide +kernel
theorem dX1_setCount_0 : decode cX1_setCount 0 = .ok (.iconst 1, 1) := by decide +kernel
theorem dX1_setCount_1 : decode cX1_setCount 1 = .ok (.aload_n 0, 1) := by decide +kernel
theorem dX1_setCount_2 : decode cX1_setCount 2 = .ok (.getfield 30, 3) := by decide +kernel
theorem dX1_setCount_5 : decode cX1_setCount 5 = .ok (.ishl, 1) := by decide +kernel
theorem dX1_setCount_6 : decode cX1_setCount 6 = .ok (.ireturn, 1) := by decide +kernel
theorem dX1_isAsleep_0 : decode cX1_isAsleep 0 = .ok (.aload_n 0, 1) := by decide +kernel
theorem dX1_isAsleep_1 : decode cX1_isAsleep 1 = .ok (.getfield 40, 3) := by decide +kernel
theorem dX1_isAsleep_4 : decode cX1_isAsleep 4 = .ok (.iload_n 1, 1) := by decide +kernel
theorem dX1_isAsleep_5 : decode cX1_isAsleep 5 = .ok (.ishr, 1) := by decide +kernel
theorem dX1_isAsleep_6 : decode cX1_isAsleep 6 = .ok (.iconst 1, 1) := by decide +kernel
theorem dX1_isAsleep_7 : decode cX1_isAsleep 7 = .ok (.iand, 1) := by decide +kernel
theorem dX1_isAsleep_8 : decode cX1_isAsleep 8 = .ok (.ifCond .eq 7, 3) := by decide +kernel
theorem dX1_isAsleep_11 : decode cX1_isAsleep 11 = .ok (.iconst 1, 1) := by decide +kernel
theorem dX1_isAsleep_12 : decode cX1_isAsleep 12 = .ok (.goto 4, 3) := by decide +kernel
theorem dX1_isAsleep_15 : decode cX1_isAsleep 15 = .ok (.iconst 0, 1) := by decide +kernel
theorem dX1_isAsleep_16 : decode cX1_isAsleep 16 = .ok (.ireturn, 1) := by decide +kernel
theorem dX1_isDreaming_0 : decode cX1_isDreaming 0 = .ok (.aload_n 0, 1) := by decide +kernel
theorem dX1_isDreaming_1 : decode cX1_isDreaming 1 = .ok (.iload_n 1, 1) := by decide +kernel
theorem dX1_isDreaming_2 : decode cX1_isDreaming 2 = .ok (.invokevirtual 58, 3) := by decide +kernel
theorem dX1_isDreaming_5 : decode cX1_isDreaming 5 = .ok (.ifCond .eq 29, 3) := by decide +kernel
theorem dX1_isDreaming_8 : decode cX1_isDreaming 8 = .ok (.aload_n 0, 1) := by decide +kernel
theorem dX1_isDreaming_9 : decode cX1_isDreaming 9 = .ok (.getfield 9, 3) := by decide +kernel
theorem dX1_isDreaming_12 : decode cX1_isDreaming 12 = .ok (.iload_n 1, 1) := by decide +kernel
theorem dX1_isDreaming_13 : decode cX1_isDreaming 13 = .ok (.iaload, 1) := by decide +kernel
theorem dX1_isDreaming_14 : decode cX1_isDreaming 14 = .ok (.aload_n 0, 1) := by decide +kernel
theorem dX1_isDreaming_15 : decode cX1_isDreaming 15 = .ok (.getfield 18, 3) := by decide +kernel
theorem dX1_isDreaming_18 : decode cX1_isDreaming 18 = .ok (.iload_n 1, 1) := by decide +kernel
theorem dX1_isDreaming_19 : decode cX1_isDreaming 19 = .ok (.iaload, 1) := by decide +kernel
theorem dX1_isDreaming_20 : decode cX1_isDreaming 20 = .ok (.aload_n 0, 1) := by decide +kernel
theorem dX1_isDreaming_21 : decode cX1_isDreaming 21 = .ok (.getfield 43, 3) := by decide +kernel
theorem dX1_isDreaming_24 : decode cX1_isDreaming 24 = .ok (.invokestatic 62, 3) := by decide +kernel
theorem dX1_isDreaming_27 : decode cX1_isDreaming 27 = .ok (.ifCond .eq 7, 3) := by decide +kernel
theorem dX1_isDreaming_30 : decode cX1_isDreaming 30 = .ok (.iconst 1, 1) := by decide +kernel
theorem dX1_isDreaming_31 : decode cX1_isDreaming 31 = .ok (.goto 4, 3) := by decide +kernel
theorem dX1_isDreaming_34 : decode cX1_isDreaming 34 = .ok (.iconst 0, 1) := by decide +kernel
theorem dX1_isDreaming_35 : decode cX1_isDreaming 35 = .ok (.ireturn, 1) := by decide +kernel
theorem dX1_dreamers_0 : decode cX1_dreamers 0 = .ok (.iconst 0, 1) := by decide +kernel
theorem dX1_dreamers_1 : decode cX1_dreamers 1 = .ok (.istore_n 1, 1) := by decide +kernel
theorem dX1_dreamers_2 : decode cX1_dreamers 2 = .ok (.iconst 0, 1) := by decide +kernel
theorem dX1_dreamers_3 : decode cX1_dreamers 3 = .ok (.istore_n 2, 1) := by decide +kernel
theorem dX1_dreamers_4 : decode cX1_dreamers 4 = .ok (.iload_n 2, 1) := by decide +kernel
theorem dX1_dreamers_5 : decode cX1_dreamers 5 = .ok (.aload_n 0, 1) := by decide +kernel
theorem dX1_dreamers_6 : decode cX1_dreamers 6 = .ok (.getfield 30, 3) := by decide +kernel
theorem dX1_dreamers_9 : decode cX1_dreamers 9 = .ok (.if_icmp .ge 22, 3) := by decide +kernel
theorem dX1_dreamers_12 : decode cX1_dreamers 12 = .ok (.iload_n 1, 1) := by decide +kernel
theorem dX1_dreamers_13 : decode cX1_dreamers 13 = .ok (.aload_n 0, 1) := by decide +kernel
theorem dX1_dreamers_14 : decode cX1_dreamers 14 = .ok (.iload_n 2, 1) := by decide +kernel
theorem dX1_dreamers_15 : decode cX1_dreamers 15 = .ok (.invokevirtual 66, 3) := by decide +kernel
theorem dX1_dreamers_18 : decode cX1_dreamers 18 = .ok (.invokestatic 69, 3) := by decide +kernel
theorem dX1_dreamers_21 : decode cX1_dreamers 21 = .ok (.iload_n 2, 1) := by decide +kernel
theorem dX1_dreamers_22 : decode cX1_dreamers 22 = .ok (.ishl, 1) := by decide +kernel
theorem dX1_dreamers_23 : decode cX1_dreamers 23 = .ok (.ior, 1) := by decide +kernel
theorem dX1_dreamers_24 : decode cX1_dreamers 24 = .ok (.istore_n 1, 1) := by decide +kernel
theorem dX1_dreamers_25 : decode cX1_dreamers 25 = .ok (.iinc 2 1, 3) := by decide +kernel
theorem dX1_dreamers_28 : decode cX1_dreamers 28 = .ok (.goto (-24), 3) := by decide +kernel
theorem dX1_dreamers_31 : decode cX1_dreamers 31 = .ok (.iload_n 1, 1) := by decide +kernel
theorem dX1_dreamers_32 : decode cX1_dreamers 32 = .ok (.ireturn, 1) := by decide +kernel
theorem dX1_cheeseEaters_0 : decode cX1_cheeseEaters 0 = .ok (.iconst 0, 1) := by decide +kernel
theorem dX1_cheeseEaters_1 : decode cX1_cheeseEaters 1 = .ok (.istore_n 1, 1) := by decide +kernel
theorem dX1_cheeseEaters_2 : decode cX1_cheeseEaters 2 = .ok (.iconst 0, 1) := by decide +kernel
theorem dX1_cheeseEaters_3 : decode cX1_cheeseEaters 3 = .ok (.istore_n 2, 1) := by decide +kernel
theorem dX1_cheeseEaters_4 : decode cX1_cheeseEaters 4 = .ok (.iload_n 2, 1) := by decide +kernel
theorem dX1_cheeseEaters_5 : decode cX1_cheeseEaters 5 = .ok (.aload_n 0, 1) := by decide +kernel
theorem dX1_cheeseEaters_6 : decode cX1_cheeseEaters 6 = .ok (.getfield 30, 3) := by decide +kernel
theorem dX1_cheeseEaters_9 : decode cX1_cheeseEaters 9 = .ok (.if_icmp .ge 40, 3) := by decide +kernel
theorem dX1_cheeseEaters_12 : decode cX1_cheeseEaters 12 = .ok (.iload_n 1, 1) := by decide +kernel
theorem dX1_cheeseEaters_13 : decode cX1_cheeseEaters 13 = .ok (.aload_n 0, 1) := by decide +kernel
theorem dX1_cheeseEaters_14 : decode cX1_cheeseEaters 14 = .ok (.getfield 9, 3) := by decide +kernel
theorem dX1_cheeseEaters_17 : decode cX1_cheeseEaters 17 = .ok (.iload_n 2, 1) := by decide +kernel
theorem dX1_cheeseEaters_18 : decode cX1_cheeseEaters 18 = .ok (.iaload, 1) := by decide +kernel
theorem dX1_cheeseEaters_19 : decode cX1_cheeseEaters 19 = .ok (.iconst 1, 1) := by decide +kernel
theorem dX1_cheeseEaters_20 : decode cX1_cheeseEaters 20 = .ok (.if_icmp .eq 13, 3) := by decide +kernel
theorem dX1_cheeseEaters_23 : decode cX1_cheeseEaters 23 = .ok (.aload_n 0, 1) := by decide +kernel
theorem dX1_cheeseEaters_24 : decode cX1_cheeseEaters 24 = .ok (.getfield 9, 3) := by decide +kernel
theorem dX1_cheeseEaters_27 : decode cX1_cheeseEaters 27 = .ok (.iload_n 2, 1) := by decide +kernel
theorem dX1_cheeseEaters_28 : decode cX1_cheeseEaters 28 = .ok (.iaload, 1) := by decide +kernel
theorem dX1_cheeseEaters_29 : decode cX1_cheeseEaters 29 = .ok (.iconst 4, 1) := by decide +kernel
theorem dX1_cheeseEaters_30 : decode cX1_cheeseEaters 30 = .ok (.if_icmp .ne 7, 3) := by decide +kernel
theorem dX1_cheeseEaters_33 : decode cX1_cheeseEaters 33 = .ok (.iconst 1, 1) := by decide +kernel
theorem dX1_cheeseEaters_34 : decode cX1_cheeseEaters 34 = .ok (.goto 4, 3) := by decide +kernel
theorem dX1_cheeseEaters_37 : decode cX1_cheeseEaters 37 = .ok (.iconst 0, 1) := by decide +kernel
theorem dX1_cheeseEaters_38 : decode cX1_cheeseEaters 38 = .ok (.invokestatic 69, 3) := by decide +kernel
theorem dX1_cheeseEaters_41 : decode cX1_cheeseEaters 41 = .ok (.iadd, 1) := by decide +kernel
theorem dX1_cheeseEaters_42 : decode cX1_cheeseEaters 42 = .ok (.istore_n 1, 1) := by decide +kernel
theorem dX1_cheeseEaters_43 : decode cX1_cheeseEaters 43 = .ok (.iinc 2 1, 3) := by decide +kernel
theorem dX1_cheeseEaters_46 : decode cX1_cheeseEaters 46 = .ok (.goto (-42), 3) := by decide +kernel
theorem dX1_cheeseEaters_49 : decode cX1_cheeseEaters 49 = .ok (.iload_n 1, 1) := by decide +kernel
theorem dX1_cheeseEaters_50 : decode cX1_cheeseEaters 50 = .ok (.ireturn, 1) := by decide +kernel
theorem dX1_isStanding_0 : decode cX1_isStanding 0 = .ok (.aload_n 0, 1) := by decide +kernel
theorem dX1_isStanding_1 : decode cX1_isStanding 1 = .ok (.getfield 46, 3) := by decide +kernel
theorem dX1_isStanding_4 : decode cX1_isStanding 4 = .ok (.aload_n 0, 1) := by decide +kernel
theorem dX1_isStanding_5 : decode cX1_isStanding 5 = .ok (.getfield 34, 3) := by decide +kernel
theorem dX1_isStanding_8 : decode cX1_isStanding 8 = .ok (.if_icmp .lt 7, 3) := by decide +kernel
theorem dX1_isStanding_11 : decode cX1_isStanding 11 = .ok (.iconst 1, 1) := by decide +kernel
theorem dX1_isStanding_12 : decode cX1_isStanding 12 = .ok (.goto 4, 3) := by decide +kernel
theorem dX1_isStanding_15 : decode cX1_isStanding 15 = .ok (.iconst 0, 1) := by decide +kernel
theorem dX1_isStanding_16 : decode cX1_isStanding 16 = .ok (.istore_n 1, 1) := by decide +kernel
theorem dX1_isStanding_17 : decode cX1_isStanding 17 = .ok (.iconst 0, 1) := by decide +kernel
theorem dX1_isStanding_18 : decode cX1_isStanding 18 = .ok (.istore_n 2, 1) := by decide +kernel
theorem dX1_isStanding_19 : decode cX1_isStanding 19 = .ok (.iload_n 2, 1) := by decide +kernel
theorem dX1_isStanding_20 : decode cX1_isStanding 20 = .ok (.aload_n 0, 1) := by decide +kernel
theorem dX1_isStanding_21 : decode cX1_isStanding 21 = .ok (.getfield 30, 3) := by decide +kernel
theorem dX1_isStanding_24 : decode cX1_isStanding 24 = .ok (.if_icmp .ge 38, 3) := by decide +kernel
theorem dX1_isStanding_27 : decode cX1_isStanding 27 = .ok (.iload_n 1, 1) := by decide +kernel
theorem dX1_isStanding_28 : decode cX1_isStanding 28 = .ok (.aload_n 0, 1) := by decide +kernel
theorem dX1_isStanding_29 : decode cX1_isStanding 29 = .ok (.getfield 15, 3) := by decide +kernel
theorem dX1_isStanding_32 : decode cX1_isStanding 32 = .ok (.iload_n 2, 1) := by decide +kernel
theorem dX1_isStanding_33 : decode cX1_isStanding 33 = .ok (.iaload, 1) := by decide +kernel
theorem dX1_isStanding_34 : decode cX1_isStanding 34 = .ok (.aload_n 0, 1) := by decide +kernel
theorem dX1_isStanding_35 : decode cX1_isStanding 35 = .ok (.getfield 46, 3) := by decide +kernel
theorem dX1_isStanding_38 : decode cX1_isStanding 38 = .ok (.if_icmp .ne 15, 3) := by decide +kernel
theorem dX1_isStanding_41 : decode cX1_isStanding 41 = .ok (.aload_n 0, 1) := by decide +kernel
theorem dX1_isStanding_42 : decode cX1_isStanding 42 = .ok (.iload_n 2, 1) := by decide +kernel
theorem dX1_isStanding_43 : decode cX1_isStanding 43 = .ok (.invokevirtual 66, 3) := by decide +kernel
theorem dX1_isStanding_46 : decode cX1_isStanding 46 = .ok (.ifCond .eq 7, 3) := by decide +kernel
theorem dX1_isStanding_49 : decode cX1_isStanding 49 = .ok (.iconst 1, 1) := by decide +kernel
theorem dX1_isStanding_50 : decode cX1_isStanding 50 = .ok (.goto 4, 3) := by decide +kernel
theorem dX1_isStanding_53 : decode cX1_isStanding 53 = .ok (.iconst 0, 1) := by decide +kernel
theorem dX1_isStanding_54 : decode cX1_isStanding 54 = .ok (.ior, 1) := by decide +kernel
theorem dX1_isStanding_55 : decode cX1_isStanding 55 = .ok (.istore_n 1, 1) := by decide +kernel
theorem dX1_isStanding_56 : decode cX1_isStanding 56 = .ok (.iinc 2 1, 3) := by decide +kernel
theorem dX1_isStanding_59 : decode cX1_isStanding 59 = .ok (.goto (-40), 3) := by decide +kernel
theorem dX1_isStanding_62 : decode cX1_isStanding 62 = .ok (.iload_n 1, 1) := by decide +kernel
theorem dX1_isStanding_63 : decode cX1_isStanding 63 = .ok (.ireturn, 1) := by decide +kernel
theorem dX1_hasRoomFor_0 : decode cX1_hasRoomFor 0 = .ok (.aload_n 0, 1) := by decide +kernel
theorem dX1_hasRoomFor_1 : decode cX1_hasRoomFor 1 = .ok (.getfield 49, 3) := by decide +kernel
theorem dX1_hasRoomFor_4 : decode cX1_hasRoomFor 4 = .ok (.bipush 40, 2) := by decide +kernel
theorem dX1_hasRoomFor_6 : decode cX1_hasRoomFor 6 = .ok (.iload_n 1, 1) := by decide +kernel
theorem dX1_hasRoomFor_7 : decode cX1_hasRoomFor 7 = .ok (.isub, 1) := by decide +kernel
theorem dX1_hasRoomFor_8 : decode cX1_hasRoomFor 8 = .ok (.if_icmp .gt 7, 3) := by decide +kernel
theorem dX1_hasRoomFor_11 : decode cX1_hasRoomFor 11 = .ok (.iconst 1, 1) := by decide +kernel
theorem dX1_hasRoomFor_12 : decode cX1_hasRoomFor 12 = .ok (.goto 4, 3) := by decide +kernel
theorem dX1_hasRoomFor_15 : decode cX1_hasRoomFor 15 = .ok (.iconst 0, 1) := by decide +kernel
theorem dX1_hasRoomFor_16 : decode cX1_hasRoomFor 16 = .ok (.ireturn, 1) := by decide +kernel
theorem dX1_noteDeed_0 : decode cX1_noteDeed 0 = .ok (.aload_n 0, 1) := by decide +kernel
theorem dX1_noteDeed_1 : decode cX1_noteDeed 1 = .ok (.iconst 1, 1) := by decide +kernel
theorem dX1_noteDeed_2 : decode cX1_noteDeed 2 = .ok (.invokevirtual 73, 3) := by decide +kernel
theorem dX1_noteDeed_5 : decode cX1_noteDeed 5 = .ok (.ifCond .ne 4, 3) := by decide +kernel
theorem dX1_noteDeed_8 : decode cX1_noteDeed 8 = .ok (.return_, 1) := by decide +kernel
theorem dX1_noteDeed_9 : decode cX1_noteDeed 9 = .ok (.aload_n 0, 1) := by decide +kernel
theorem dX1_noteDeed_10 : decode cX1_noteDeed 10 = .ok (.getfield 21, 3) := by decide +kernel
theorem dX1_noteDeed_13 : decode cX1_noteDeed 13 = .ok (.aload_n 0, 1) := by decide +kernel
theorem dX1_noteDeed_14 : decode cX1_noteDeed 14 = .ok (.getfield 49, 3) := by decide +kernel
theorem dX1_noteDeed_17 : decode cX1_noteDeed 17 = .ok (.iload_n 1, 1) := by decide +kernel
theorem dX1_noteDeed_18 : decode cX1_noteDeed 18 = .ok (.iastore, 1) := by decide +kernel
theorem dX1_noteDeed_19 : decode cX1_noteDeed 19 = .ok (.aload_n 0, 1) := by decide +kernel
theorem dX1_noteDeed_20 : decode cX1_noteDeed 20 = .ok (.getfield 24, 3) := by decide +kernel
theorem dX1_noteDeed_23 : decode cX1_noteDeed 23 = .ok (.aload_n 0, 1) := by decide +kernel
theorem dX1_noteDeed_24 : decode cX1_noteDeed 24 = .ok (.getfield 49, 3) := by decide +kernel
theorem dX1_noteDeed_27 : decode cX1_noteDeed 27 = .ok (.iload_n 2, 1) := by decide +kernel
theorem dX1_noteDeed_28 : decode cX1_noteDeed 28 = .ok (.iastore, 1) := by decide +kernel
theorem dX1_noteDeed_29 : decode cX1_noteDeed 29 = .ok (.aload_n 0, 1) := by decide +kernel
theorem dX1_noteDeed_30 : decode cX1_noteDeed 30 = .ok (.getfield 27, 3) := by decide +kernel
theorem dX1_noteDeed_33 : decode cX1_noteDeed 33 = .ok (.aload_n 0, 1) := by decide +kernel
theorem dX1_noteDeed_34 : decode cX1_noteDeed 34 = .ok (.getfield 49, 3) := by decide +kernel
theorem dX1_noteDeed_37 : decode cX1_noteDeed 37 = .ok (.iload_n 3, 1) := by decide +kernel
theorem dX1_noteDeed_38 : decode cX1_noteDeed 38 = .ok (.iastore, 1) := by decide +kernel
theorem dX1_noteDeed_39 : decode cX1_noteDeed 39 = .ok (.aload_n 0, 1) := by decide +kernel
theorem dX1_noteDeed_40 : decode cX1_noteDeed 40 = .ok (.dup, 1) := by decide +kernel
theorem dX1_noteDeed_41 : decode cX1_noteDeed 41 = .ok (.getfield 49, 3) := by decide +kernel
theorem dX1_noteDeed_44 : decode cX1_noteDeed 44 = .ok (.iconst 1, 1) := by decide +kernel
theorem dX1_noteDeed_45 : decode cX1_noteDeed 45 = .ok (.iadd, 1) := by decide +kernel
theorem dX1_noteDeed_46 : decode cX1_noteDeed 46 = .ok (.putfield 49, 3) := by decide +kernel
theorem dX1_noteDeed_49 : decode cX1_noteDeed 49 = .ok (.return_, 1) := by decide +kernel
theorem dX1_passMinute_0 : decode cX1_passMinute 0 = .ok (.aload_n 0, 1) := by decide +kernel
theorem dX1_passMinute_1 : decode cX1_passMinute 1 = .ok (.getfield 43, 3) := by decide +kernel
theorem dX1_passMinute_4 : decode cX1_passMinute 4 = .ok (.bipush 99, 2) := by decide +kernel
theorem dX1_passMinute_6 : decode cX1_passMinute 6 = .ok (.if_icmp .lt 11, 3) := by decide +kernel
theorem dX1_passMinute_9 : decode cX1_passMinute 9 = .ok (.aload_n 0, 1) := by decide +kernel
theorem dX1_passMinute_10 : decode cX1_passMinute 10 = .ok (.iconst 3, 1) := by decide +kernel
theorem dX1_passMinute_11 : decode cX1_passMinute 11 = .ok (.iconst 0, 1) := by decide +kernel
theorem dX1_passMinute_12 : decode cX1_passMinute 12 = .ok (.iconst 0, 1) := by decide +kernel
theorem dX1_passMinute_13 : decode cX1_passMinute 13 = .ok (.invokevirtual 76, 3) := by decide +kernel
theorem dX1_passMinute_16 : decode cX1_passMinute 16 = .ok (.return_, 1) := by decide +kernel
theorem dX1_passMinute_17 : decode cX1_passMinute 17 = .ok (.aload_n 0, 1) := by decide +kernel
theorem dX1_passMinute_18 : decode cX1_passMinute 18 = .ok (.iconst 0, 1) := by decide +kernel
theorem dX1_passMinute_19 : decode cX1_passMinute 19 = .ok (.iconst 0, 1) := by decide +kernel
theorem dX1_passMinute_20 : decode cX1_passMinute 20 = .ok (.aload_n 0, 1) := by decide +kernel
theorem dX1_passMinute_21 : decode cX1_passMinute 21 = .ok (.getfield 46, 3) := by decide +kernel
theorem dX1_passMinute_24 : decode cX1_passMinute 24 = .ok (.invokevirtual 76, 3) := by decide +kernel
theorem dX1_passMinute_27 : decode cX1_passMinute 27 = .ok (.aload_n 0, 1) := by decide +kernel
theorem dX1_passMinute_28 : decode cX1_passMinute 28 = .ok (.invokevirtual 80, 3) := by decide +kernel
theorem dX1_passMinute_31 : decode cX1_passMinute 31 = .ok (.ifCond .ne 13, 3) := by decide +kernel
theorem dX1_passMinute_34 : decode cX1_passMinute 34 = .ok (.aload_n 0, 1) := by decide +kernel
theorem dX1_passMinute_35 : decode cX1_passMinute 35 = .ok (.dup, 1) := by decide +kernel
theorem dX1_passMinute_36 : decode cX1_passMinute 36 = .ok (.getfield 46, 3) := by decide +kernel
theorem dX1_passMinute_39 : decode cX1_passMinute 39 = .ok (.iconst 1, 1) := by decide +kernel
theorem dX1_passMinute_40 : decode cX1_passMinute 40 = .ok (.iadd, 1) := by decide +kernel
theorem dX1_passMinute_41 : decode cX1_passMinute 41 = .ok (.putfield 46, 3) := by decide +kernel
theorem dX1_passMinute_44 : decode cX1_passMinute 44 = .ok (.aload_n 0, 1) := by decide +kernel
theorem dX1_passMinute_45 : decode cX1_passMinute 45 = .ok (.dup, 1) := by decide +kernel
theorem dX1_passMinute_46 : decode cX1_passMinute 46 = .ok (.getfield 43, 3) := by decide +kernel
theorem dX1_passMinute_49 : decode cX1_passMinute 49 = .ok (.iconst 1, 1) := by decide +kernel
theorem dX1_passMinute_50 : decode cX1_passMinute 50 = .ok (.iadd, 1) := by decide +kernel
theorem dX1_passMinute_51 : decode cX1_passMinute 51 = .ok (.putfield 43, 3) := by decide +kernel
theorem dX1_passMinute_54 : decode cX1_passMinute 54 = .ok (.return_, 1) := by decide +kernel
theorem dX1_changeSupper_0 : decode cX1_changeSupper 0 = .ok (.aload_n 0, 1) := by decide +kernel
theorem dX1_changeSupper_1 : decode cX1_changeSupper 1 = .ok (.iconst 1, 1) := by decide +kernel
theorem dX1_changeSupper_2 : decode cX1_changeSupper 2 = .ok (.iload_n 1, 1) := by decide +kernel
theorem dX1_changeSupper_3 : decode cX1_changeSupper 3 = .ok (.aload_n 0, 1) := by decide +kernel
theorem dX1_changeSupper_4 : decode cX1_changeSupper 4 = .ok (.getfield 18, 3) := by decide +kernel
theorem dX1_changeSupper_7 : decode cX1_changeSupper 7 = .ok (.iload_n 1, 1) := by decide +kernel
theorem dX1_changeSupper_8 : decode cX1_changeSupper 8 = .ok (.iaload, 1) := by decide +kernel
theorem dX1_changeSupper_9 : decode cX1_changeSupper 9 = .ok (.invokevirtual 76, 3) := by decide +kernel
theorem dX1_changeSupper_12 : decode cX1_changeSupper 12 = .ok (.aload_n 0, 1) := by decide +kernel
theorem dX1_changeSupper_13 : decode cX1_changeSupper 13 = .ok (.getfield 18, 3) := by decide +kernel
theorem dX1_changeSupper_16 : decode cX1_changeSupper 16 = .ok (.iload_n 1, 1) := by decide +kernel
theorem dX1_changeSupper_17 : decode cX1_changeSupper 17 = .ok (.iload_n 2, 1) := by decide +kernel
theorem dX1_changeSupper_18 : decode cX1_changeSupper 18 = .ok (.iastore, 1) := by decide +kernel
theorem dX1_changeSupper_19 : decode cX1_changeSupper 19 = .ok (.return_, 1) := by decide +kernel
theorem dX1_wakeOrLull_0 : decode cX1_wakeOrLull 0 = .ok (.aload_n 0, 1) := by decide +kernel
theorem dX1_wakeOrLull_1 : decode cX1_wakeOrLull 1 = .ok (.iconst 2, 1) := by decide +kernel
theorem dX1_wakeOrLull_2 : decode cX1_wakeOrLull 2 = .ok (.iload_n 1, 1) := by decide +kernel
theorem dX1_wakeOrLull_3 : decode cX1_wakeOrLull 3 = .ok (.aload_n 0, 1) := by decide +kernel
theorem dX1_wakeOrLull_4 : decode cX1_wakeOrLull 4 = .ok (.getfield 40, 3) := by decide +kernel
theorem dX1_wakeOrLull_7 : decode cX1_wakeOrLull 7 = .ok (.invokevirtual 76, 3) := by decide +kernel
theorem dX1_wakeOrLull_10 : decode cX1_wakeOrLull 10 = .ok (.aload_n 0, 1) := by decide +kernel
theorem dX1_wakeOrLull_11 : decode cX1_wakeOrLull 11 = .ok (.dup, 1) := by decide +kernel
theorem dX1_wakeOrLull_12 : decode cX1_wakeOrLull 12 = .ok (.getfield 40, 3) := by decide +kernel
theorem dX1_wakeOrLull_15 : decode cX1_wakeOrLull 15 = .ok (.iconst 1, 1) := by decide +kernel
theorem dX1_wakeOrLull_16 : decode cX1_wakeOrLull 16 = .ok (.iload_n 1, 1) := by decide +kernel
theorem dX1_wakeOrLull_17 : decode cX1_wakeOrLull 17 = .ok (.ishl, 1) := by decide +kernel
theorem dX1_wakeOrLull_18 : decode cX1_wakeOrLull 18 = .ok (.ixor, 1) := by decide +kernel
theorem dX1_wakeOrLull_19 : decode cX1_wakeOrLull 19 = .ok (.putfield 40, 3) := by decide +kernel
theorem dX1_wakeOrLull_22 : decode cX1_wakeOrLull 22 = .ok (.return_, 1) := by decide +kernel
theorem dX1_takeBackLatest_0 : decode cX1_takeBackLatest 0 = .ok (.aload_n 0, 1) := by decide +kernel
theorem dX1_takeBackLatest_1 : decode cX1_takeBackLatest 1 = .ok (.getfield 49, 3) := by decide +kernel
theorem dX1_takeBackLatest_4 : decode cX1_takeBackLatest 4 = .ok (.ifCond .gt 4, 3) := by decide +kernel
theorem dX1_takeBackLatest_7 : decode cX1_takeBackLatest 7 = .ok (.return_, 1) := by decide +kernel
theorem dX1_takeBackLatest_8 : decode cX1_takeBackLatest 8 = .ok (.aload_n 0, 1) := by decide +kernel
theorem dX1_takeBackLatest_9 : decode cX1_takeBackLatest 9 = .ok (.dup, 1) := by decide +kernel
theorem dX1_takeBackLatest_10 : decode cX1_takeBackLatest 10 = .ok (.getfield 49, 3) := by decide +kernel
theorem dX1_takeBackLatest_13 : decode cX1_takeBackLatest 13 = .ok (.iconst 1, 1) := by decide +kernel
theorem dX1_takeBackLatest_14 : decode cX1_takeBackLatest 14 = .ok (.isub, 1) := by decide +kernel
theorem dX1_takeBackLatest_15 : decode cX1_takeBackLatest 15 = .ok (.putfield 49, 3) := by decide +kernel
theorem dX1_takeBackLatest_18 : decode cX1_takeBackLatest 18 = .ok (.aload_n 0, 1) := by decide +kernel
theorem dX1_takeBackLatest_19 : decode cX1_takeBackLatest 19 = .ok (.getfield 27, 3) := by decide +kernel
theorem dX1_takeBackLatest_22 : decode cX1_takeBackLatest 22 = .ok (.aload_n 0, 1) := by decide +kernel
theorem dX1_takeBackLatest_23 : decode cX1_takeBackLatest 23 = .ok (.getfield 49, 3) := by decide +kernel
theorem dX1_takeBackLatest_26 : decode cX1_takeBackLatest 26 = .ok (.iaload, 1) := by decide +kernel
theorem dX1_takeBackLatest_27 : decode cX1_takeBackLatest 27 = .ok (.istore_n 1, 1) := by decide +kernel
theorem dX1_takeBackLatest_28 : decode cX1_takeBackLatest 28 = .ok (.aload_n 0, 1) := by decide +kernel
theorem dX1_takeBackLatest_29 : decode cX1_takeBackLatest 29 = .ok (.getfield 21, 3) := by decide +kernel
theorem dX1_takeBackLatest_32 : decode cX1_takeBackLatest 32 = .ok (.aload_n 0, 1) := by decide +kernel
theorem dX1_takeBackLatest_33 : decode cX1_takeBackLatest 33 = .ok (.getfield 49, 3) := by decide +kernel
theorem dX1_takeBackLatest_36 : decode cX1_takeBackLatest 36 = .ok (.iaload, 1) := by decide +kernel
theorem dX1_takeBackLatest_37 : decode cX1_takeBackLatest 37 = .ok (.tableswitch 71 0 2 #[27, 45, 63], 27) := by decide +kernel
theorem dX1_takeBackLatest_64 : decode cX1_takeBackLatest 64 = .ok (.aload_n 0, 1) := by decide +kernel
theorem dX1_takeBackLatest_65 : decode cX1_takeBackLatest 65 = .ok (.dup, 1) := by decide +kernel
theorem dX1_takeBackLatest_66 : decode cX1_takeBackLatest 66 = .ok (.getfield 43, 3) := by decide +kernel
theorem dX1_takeBackLatest_69 : decode cX1_takeBackLatest 69 = .ok (.iconst 1, 1) := by decide +kernel
theorem dX1_takeBackLatest_70 : decode cX1_takeBackLatest 70 = .ok (.isub, 1) := by decide +kernel
theorem dX1_takeBackLatest_71 : decode cX1_takeBackLatest 71 = .ok (.putfield 43, 3) := by decide +kernel
theorem dX1_takeBackLatest_74 : decode cX1_takeBackLatest 74 = .ok (.aload_n 0, 1) := by decide +kernel
theorem dX1_takeBackLatest_75 : decode cX1_takeBackLatest 75 = .ok (.iload_n 1, 1) := by decide +kernel
theorem dX1_takeBackLatest_76 : decode cX1_takeBackLatest 76 = .ok (.putfield 46, 3) := by decide +kernel
theorem dX1_takeBackLatest_79 : decode cX1_takeBackLatest 79 = .ok (.goto 29, 3) := by decide +kernel
theorem dX1_takeBackLatest_82 : decode cX1_takeBackLatest 82 = .ok (.aload_n 0, 1) := by decide +kernel
theorem dX1_takeBackLatest_83 : decode cX1_takeBackLatest 83 = .ok (.getfield 18, 3) := by decide +kernel
theorem dX1_takeBackLatest_86 : decode cX1_takeBackLatest 86 = .ok (.aload_n 0, 1) := by decide +kernel
theorem dX1_takeBackLatest_87 : decode cX1_takeBackLatest 87 = .ok (.getfield 24, 3) := by decide +kernel
theorem dX1_takeBackLatest_90 : decode cX1_takeBackLatest 90 = .ok (.aload_n 0, 1) := by decide +kernel
theorem dX1_takeBackLatest_91 : decode cX1_takeBackLatest 91 = .ok (.getfield 49, 3) := by decide +kernel
theorem dX1_takeBackLatest_94 : decode cX1_takeBackLatest 94 = .ok (.iaload, 1) := by decide +kernel
theorem dX1_takeBackLatest_95 : decode cX1_takeBackLatest 95 = .ok (.iload_n 1, 1) := by decide +kernel
theorem dX1_takeBackLatest_96 : decode cX1_takeBackLatest 96 = .ok (.iastore, 1) := by decide +kernel
theorem dX1_takeBackLatest_97 : decode cX1_takeBackLatest 97 = .ok (.goto 11, 3) := by decide +kernel
theorem dX1_takeBackLatest_100 : decode cX1_takeBackLatest 100 = .ok (.aload_n 0, 1) := by decide +kernel
theorem dX1_takeBackLatest_101 : decode cX1_takeBackLatest 101 = .ok (.iload_n 1, 1) := by decide +kernel
theorem dX1_takeBackLatest_102 : decode cX1_takeBackLatest 102 = .ok (.putfield 40, 3) := by decide +kernel
theorem dX1_takeBackLatest_105 : decode cX1_takeBackLatest 105 = .ok (.goto 3, 3) := by decide +kernel
theorem dX1_takeBackLatest_108 : decode cX1_takeBackLatest 108 = .ok (.return_, 1) := by decide +kernel
theorem dX2_init_0 : decode cX2_init 0 = .ok (.aload_n 0, 1) := by decide +kernel
theorem dX2_init_1 : decode cX2_init 1 = .ok (.invokespecial 3, 3) := by decide +kernel
theorem dX2_init_4 : decode cX2_init 4 = .ok (.aload_n 0, 1) := by decide +kernel
theorem dX2_init_5 : decode cX2_init 5 = .ok (.iconst 0, 1) := by decide +kernel
theorem dX2_init_6 : decode cX2_init 6 = .ok (.newarray .int, 2) := by decide +kernel
theorem dX2_init_8 : decode cX2_init 8 = .ok (.putfield 9, 3) := by decide +kernel
theorem dX2_init_11 : decode cX2_init 11 = .ok (.return_, 1) := by decide +kernel
theorem dX2_readInto_0 : decode cX2_readInto 0 = .ok (.aload_n 0, 1) := by decide +kernel
theorem dX2_readInto_1 : decode cX2_readInto 1 = .ok (.aload_n 2, 1) := by decide +kernel
theorem dX2_readInto_2 : decode cX2_readInto 2 = .ok (.putfield 9, 3) := by decide +kernel
theorem dX2_readInto_5 : decode cX2_readInto 5 = .ok (.aload_n 0, 1) := by decide +kernel
theorem dX2_readInto_6 : decode cX2_readInto 6 = .ok (.iload_n 3, 1) := by decide +kernel
theorem dX2_readInto_7 : decode cX2_readInto 7 = .ok (.aload_n 2, 1) := by decide +kernel
theorem dX2_readInto_8 : decode cX2_readInto 8 = .ok (.arraylength, 1) := by decide +kernel
theorem dX2_readInto_9 : decode cX2_readInto 9 = .ok (.invokestatic 15, 3) := by decide +kernel
theorem dX2_readInto_12 : decode cX2_readInto 12 = .ok (.putfield 21, 3) := by decide +kernel
theorem dX2_readInto_15 : decode cX2_readInto 15 = .ok (.aload_n 0, 1) := by decide +kernel
theorem dX2_readInto_16 : decode cX2_readInto 16 = .ok (.iconst 0, 1) := by decide +kernel
theorem dX2_readInto_17 : decode cX2_readInto 17 = .ok (.putfield 25, 3) := by decide +kernel
theorem dX2_readInto_20 : decode cX2_readInto 20 = .ok (.aload_n 0, 1) := by decide +kernel
theorem dX2_readInto_21 : decode cX2_readInto 21 = .ok (.bipush (-9), 2) := by decide +kernel
theorem dX2_readInto_23 : decode cX2_readInto 23 = .ok (.putfield 28, 3) := by decide +kernel
theorem dX2_readInto_26 : decode cX2_readInto 26 = .ok (.aload_n 0, 1) := by decide +kernel
theorem dX2_readInto_27 : decode cX2_readInto 27 = .ok (.aload_n 1, 1) := by decide +kernel
theorem dX2_readInto_28 : decode cX2_readInto 28 = .ok (.invokevirtual 31, 3) := by decide +kernel
theorem dX2_readInto_31 : decode cX2_readInto 31 = .ok (.iconst 0, 1) := by decide +kernel
theorem dX2_readInto_32 : decode cX2_readInto 32 = .ok (.istore 4, 2) := by decide +kernel
theorem dX2_readInto_34 : decode cX2_readInto 34 = .ok (.iload 4, 2) := by decide +kernel
theorem dX2_readInto_36 : decode cX2_readInto 36 = .ok (.bipush 6, 2) := by decide +kernel
theorem dX2_readInto_38 : decode cX2_readInto 38 = .ok (.if_icmp .gt 54, 3) := by decide +kernel
theorem dX2_readInto_41 : decode cX2_readInto 41 = .ok (.aload_n 0, 1) := by decide +kernel
theorem dX2_readInto_42 : decode cX2_readInto 42 = .ok (.getfield 28, 3) := by decide +kernel
theorem dX2_readInto_45 : decode cX2_readInto 45 = .ok (.bipush (-9), 2) := by decide +kernel
theorem dX2_readInto_47 : decode cX2_readInto 47 = .ok (.if_icmp .ne 45, 3) := by decide +kernel
theorem dX2_readInto_50 : decode cX2_readInto 50 = .ok (.aload_n 0, 1) := by decide +kernel
theorem dX2_readInto_51 : decode cX2_readInto 51 = .ok (.invokevirtual 35, 3) := by decide +kernel
theorem dX2_readInto_54 : decode cX2_readInto 54 = .ok (.aload_n 0, 1) := by decide +kernel
theorem dX2_readInto_55 : decode cX2_readInto 55 = .ok (.getfield 25, 3) := by decide +kernel
theorem dX2_readInto_58 : decode cX2_readInto 58 = .ok (.aload_n 0, 1) := by decide +kernel
theorem dX2_readInto_59 : decode cX2_readInto 59 = .ok (.getfield 21, 3) := by decide +kernel
theorem dX2_readInto_62 : decode cX2_readInto 62 = .ok (.if_icmp .ge 11, 3) := by decide +kernel
theorem dX2_readInto_65 : decode cX2_readInto 65 = .ok (.aload_n 0, 1) := by decide +kernel
theorem dX2_readInto_66 : decode cX2_readInto 66 = .ok (.aload_n 1, 1) := by decide +kernel
theorem dX2_readInto_67 : decode cX2_readInto 67 = .ok (.invokevirtual 38, 3) := by decide +kernel
theorem dX2_readInto_70 : decode cX2_readInto 70 = .ok (.goto 16, 3) := by decide +kernel
theorem dX2_readInto_73 : decode cX2_readInto 73 = .ok (.iload 4, 2) := by decide +kernel
theorem dX2_readInto_75 : decode cX2_readInto 75 = .ok (.ifCond .ne 11, 3) := by decide +kernel
theorem dX2_readInto_78 : decode cX2_readInto 78 = .ok (.aload_n 0, 1) := by decide +kernel
theorem dX2_readInto_79 : decode cX2_readInto 79 = .ok (.aload_n 0, 1) := by decide +kernel
theorem dX2_readInto_80 : decode cX2_readInto 80 = .ok (.getfield 21, 3) := by decide +kernel
theorem dX2_readInto_83 : decode cX2_readInto 83 = .ok (.putfield 28, 3) := by decide +kernel
theorem dX2_readInto_86 : decode cX2_readInto 86 = .ok (.iinc 4 1, 3) := by decide +kernel
theorem dX2_readInto_89 : decode cX2_readInto 89 = .ok (.goto (-55), 3) := by decide +kernel
theorem dX2_readInto_92 : decode cX2_readInto 92 = .ok (.aload_n 0, 1) := by decide +kernel
theorem dX2_readInto_93 : decode cX2_readInto 93 = .ok (.getfield 28, 3) := by decide +kernel
theorem dX2_readInto_96 : decode cX2_readInto 96 = .ok (.ireturn, 1) := by decide +kernel
theorem dX2_readHead_0 : decode cX2_readHead 0 = .ok (.aload_n 0, 1) := by decide +kernel
theorem dX2_readHead_1 : decode cX2_readHead 1 = .ok (.invokevirtual 35, 3) := by decide +kernel
theorem dX2_readHead_4 : decode cX2_readHead 4 = .ok (.aload_n 0, 1) := by decide +kernel
theorem dX2_readHead_5 : decode cX2_readHead 5 = .ok (.getfield 25, 3) := by decide +kernel
theorem dX2_readHead_8 : decode cX2_readHead 8 = .ok (.aload_n 0, 1) := by decide +kernel
theorem dX2_readHead_9 : decode cX2_readHead 9 = .ok (.getfield 21, 3) := by decide +kernel
theorem dX2_readHead_12 : decode cX2_readHead 12 = .ok (.if_icmp .ge 17, 3) := by decide +kernel
theorem dX2_readHead_15 : decode cX2_readHead 15 = .ok (.aload_n 0, 1) := by decide +kernel
theorem dX2_readHead_16 : decode cX2_readHead 16 = .ok (.getfield 9, 3) := by decide +kernel
theorem dX2_readHead_19 : decode cX2_readHead 19 = .ok (.aload_n 0, 1) := by decide +kernel
theorem dX2_readHead_20 : decode cX2_readHead 20 = .ok (.getfield 25, 3) := by decide +kernel
theorem dX2_readHead_23 : decode cX2_readHead 23 = .ok (.iaload, 1) := by decide +kernel
theorem dX2_readHead_24 : decode cX2_readHead 24 = .ok (.bipush 110, 2) := by decide +kernel
theorem dX2_readHead_26 : decode cX2_readHead 26 = .ok (.if_icmp .eq 12, 3) := by decide +kernel
theorem dX2_readHead_29 : decode cX2_readHead 29 = .ok (.aload_n 0, 1) := by decide +kernel
theorem dX2_readHead_30 : decode cX2_readHead 30 = .ok (.aload_n 0, 1) := by decide +kernel
theorem dX2_readHead_31 : decode cX2_readHead 31 = .ok (.getfield 25, 3) := by decide +kernel
theorem dX2_readHead_34 : decode cX2_readHead 34 = .ok (.putfield 28, 3) := by decide +kernel
theorem dX2_readHead_37 : decode cX2_readHead 37 = .ok (.return_, 1) := by decide +kernel
theorem dX2_readHead_38 : decode cX2_readHead 38 = .ok (.aload_n 0, 1) := by decide +kernel
theorem dX2_readHead_39 : decode cX2_readHead 39 = .ok (.dup, 1) := by decide +kernel
theorem dX2_readHead_40 : decode cX2_readHead 40 = .ok (.getfield 25, 3) := by decide +kernel
theorem dX2_readHead_43 : decode cX2_readHead 43 = .ok (.iconst 1, 1) := by decide +kernel
theorem dX2_readHead_44 : decode cX2_readHead 44 = .ok (.iadd, 1) := by decide +kernel
theorem dX2_readHead_45 : decode cX2_readHead 45 = .ok (.putfield 25, 3) := by decide +kernel
theorem dX2_readHead_48 : decode cX2_readHead 48 = .ok (.aload_n 0, 1) := by decide +kernel
theorem dX2_readHead_49 : decode cX2_readHead 49 = .ok (.iconst 5, 1) := by decide +kernel
theorem dX2_readHead_50 : decode cX2_readHead 50 = .ok (.bipush 20, 2) := by decide +kernel
theorem dX2_readHead_52 : decode cX2_readHead 52 = .ok (.invokevirtual 41, 3) := by decide +kernel
theorem dX2_readHead_55 : decode cX2_readHead 55 = .ok (.istore_n 2, 1) := by decide +kernel
theorem dX2_readHead_56 : decode cX2_readHead 56 = .ok (.aload_n 0, 1) := by decide +kernel
theorem dX2_readHead_57 : decode cX2_readHead 57 = .ok (.iconst 0, 1) := by decide +kernel
theorem dX2_readHead_58 : decode cX2_readHead 58 = .ok (.bipush 60, 2) := by decide +kernel
theorem dX2_readHead_60 : decode cX2_readHead 60 = .ok (.invokevirtual 41, 3) := by decide +kernel
theorem dX2_readHead_63 : decode cX2_readHead 63 = .ok (.istore_n 3, 1) := by decide +kernel
theorem dX2_readHead_64 : decode cX2_readHead 64 = .ok (.aload_n 1, 1) := by decide +kernel
theorem dX2_readHead_65 : decode cX2_readHead 65 = .ok (.iload_n 2, 1) := by decide +kernel
theorem dX2_readHead_66 : decode cX2_readHead 66 = .ok (.iload_n 3, 1) := by decide +kernel
theorem dX2_readHead_67 : decode cX2_readHead 67 = .ok (.invokevirtual 44, 3) := by decide +kernel
theorem dX2_readHead_70 : decode cX2_readHead 70 = .ok (.return_, 1) := by decide +kernel
theorem dX2_readSleeper_0 : decode cX2_readSleeper 0 = .ok (.aload_n 0, 1) := by decide +kernel
theorem dX2_readSleeper_1 : decode cX2_readSleeper 1 = .ok (.getfield 9, 3) := by decide +kernel
theorem dX2_readSleeper_4 : decode cX2_readSleeper 4 = .ok (.aload_n 0, 1) := by decide +kernel
theorem dX2_readSleeper_5 : decode cX2_readSleeper 5 = .ok (.getfield 25, 3) := by decide +kernel
theorem dX2_readSleeper_8 : decode cX2_readSleeper 8 = .ok (.iaload, 1) := by decide +kernel
theorem dX2_readSleeper_9 : decode cX2_readSleeper 9 = .ok (.invokestatic 50, 3) := by decide +kernel
theorem dX2_readSleeper_12 : decode cX2_readSleeper 12 = .ok (.istore_n 2, 1) := by decide +kernel
theorem dX2_readSleeper_13 : decode cX2_readSleeper 13 = .ok (.iload_n 2, 1) := by decide +kernel
theorem dX2_readSleeper_14 : decode cX2_readSleeper 14 = .ok (.bipush (-9), 2) := by decide +kernel
theorem dX2_readSleeper_16 : decode cX2_readSleeper 16 = .ok (.if_icmp .eq 12, 3) := by decide +kernel
theorem dX2_readSleeper_19 : decode cX2_readSleeper 19 = .ok (.aload_n 1, 1) := by decide +kernel
theorem dX2_readSleeper_20 : decode cX2_readSleeper 20 = .ok (.getfield 54, 3) := by decide +kernel
theorem dX2_readSleeper_23 : decode cX2_readSleeper 23 = .ok (.bipush 6, 2) := by decide +kernel
theorem dX2_readSleeper_25 : decode cX2_readSleeper 25 = .ok (.if_icmp .lt 12, 3) := by decide +kernel
theorem dX2_readSleeper_28 : decode cX2_readSleeper 28 = .ok (.aload_n 0, 1) := by decide +kernel
theorem dX2_readSleeper_29 : decode cX2_readSleeper 29 = .ok (.aload_n 0, 1) := by decide +kernel
theorem dX2_readSleeper_30 : decode cX2_readSleeper 30 = .ok (.getfield 25, 3) := by decide +kernel
theorem dX2_readSleeper_33 : decode cX2_readSleeper 33 = .ok (.putfield 28, 3) := by decide +kernel
theorem dX2_readSleeper_36 : decode cX2_readSleeper 36 = .ok (.return_, 1) := by decide +kernel
theorem dX2_readSleeper_37 : decode cX2_readSleeper 37 = .ok (.aload_n 0, 1) := by decide +kernel
theorem dX2_readSleeper_38 : decode cX2_readSleeper 38 = .ok (.dup, 1) := by decide +kernel
theorem dX2_readSleeper_39 : decode cX2_readSleeper 39 = .ok (.getfield 25, 3) := by decide +kernel
theorem dX2_readSleeper_42 : decode cX2_readSleeper 42 = .ok (.iconst 1, 1) := by decide +kernel
theorem dX2_readSleeper_43 : decode cX2_readSleeper 43 = .ok (.iadd, 1) := by decide +kernel
theorem dX2_readSleeper_44 : decode cX2_readSleeper 44 = .ok (.putfield 25, 3) := by decide +kernel
theorem dX2_readSleeper_47 : decode cX2_readSleeper 47 = .ok (.aload_n 0, 1) := by decide +kernel
theorem dX2_readSleeper_48 : decode cX2_readSleeper 48 = .ok (.iconst 0, 1) := by decide +kernel
theorem dX2_readSleeper_49 : decode cX2_readSleeper 49 = .ok (.aload_n 1, 1) := by decide +kernel
theorem dX2_readSleeper_50 : decode cX2_readSleeper 50 = .ok (.getfield 57, 3) := by decide +kernel
theorem dX2_readSleeper_53 : decode cX2_readSleeper 53 = .ok (.invokevirtual 41, 3) := by decide +kernel
theorem dX2_readSleeper_56 : decode cX2_readSleeper 56 = .ok (.istore_n 3, 1) := by decide +kernel
theorem dX2_readSleeper_57 : decode cX2_readSleeper 57 = .ok (.aload_n 0, 1) := by decide +kernel
theorem dX2_readSleeper_58 : decode cX2_readSleeper 58 = .ok (.invokevirtual 60, 3) := by decide +kernel
theorem dX2_readSleeper_61 : decode cX2_readSleeper 61 = .ok (.istore 4, 2) := by decide +kernel
theorem dX2_readSleeper_63 : decode cX2_readSleeper 63 = .ok (.aload_n 1, 1) := by decide +kernel
theorem dX2_readSleeper_64 : decode cX2_readSleeper 64 = .ok (.iload_n 2, 1) := by decide +kernel
theorem dX2_readSleeper_65 : decode cX2_readSleeper 65 = .ok (.iload_n 3, 1) := by decide +kernel
theorem dX2_readSleeper_66 : decode cX2_readSleeper 66 = .ok (.iload 4, 2) := by decide +kernel
theorem dX2_readSleeper_68 : decode cX2_readSleeper 68 = .ok (.invokevirtual 64, 3) := by decide +kernel
theorem dX2_readSleeper_71 : decode cX2_readSleeper 71 = .ok (.return_, 1) := by decide +kernel
theorem dX2_passBlanks_0 : decode cX2_passBlanks 0 = .ok (.aload_n 0, 1) := by decide +kernel
theorem dX2_passBlanks_1 : decode cX2_passBlanks 1 = .ok (.getfield 25, 3) := by decide +kernel
theorem dX2_passBlanks_4 : decode cX2_passBlanks 4 = .ok (.aload_n 0, 1) := by decide +kernel
theorem dX2_passBlanks_5 : decode cX2_passBlanks 5 = .ok (.getfield 21, 3) := by decide +kernel
theorem dX2_passBlanks_8 : decode cX2_passBlanks 8 = .ok (.if_icmp .ge 30, 3) := by decide +kernel
theorem dX2_passBlanks_11 : decode cX2_passBlanks 11 = .ok (.aload_n 0, 1) := by decide +kernel
theorem dX2_passBlanks_12 : decode cX2_passBlanks 12 = .ok (.getfield 9, 3) := by decide +kernel
theorem dX2_passBlanks_15 : decode cX2_passBlanks 15 = .ok (.aload_n 0, 1) := by decide +kernel
theorem dX2_passBlanks_16 : decode cX2_passBlanks 16 = .ok (.getfield 25, 3) := by decide +kernel
theorem dX2_passBlanks_19 : decode cX2_passBlanks 19 = .ok (.iaload, 1) := by decide +kernel
theorem dX2_passBlanks_20 : decode cX2_passBlanks 20 = .ok (.bipush 32, 2) := by decide +kernel
theorem dX2_passBlanks_22 : decode cX2_passBlanks 22 = .ok (.if_icmp .ne 16, 3) := by decide +kernel
theorem dX2_passBlanks_25 : decode cX2_passBlanks 25 = .ok (.aload_n 0, 1) := by decide +kernel
theorem dX2_passBlanks_26 : decode cX2_passBlanks 26 = .ok (.dup, 1) := by decide +kernel
theorem dX2_passBlanks_27 : decode cX2_passBlanks 27 = .ok (.getfield 25, 3) := by decide +kernel
theorem dX2_passBlanks_30 : decode cX2_passBlanks 30 = .ok (.iconst 1, 1) := by decide +kernel
theorem dX2_passBlanks_31 : decode cX2_passBlanks 31 = .ok (.iadd, 1) := by decide +kernel
theorem dX2_passBlanks_32 : decode cX2_passBlanks 32 = .ok (.putfield 25, 3) := by decide +kernel
theorem dX2_passBlanks_35 : decode cX2_passBlanks 35 = .ok (.goto (-35), 3) := by decide +kernel
theorem dX2_passBlanks_38 : decode cX2_passBlanks 38 = .ok (.return_, 1) := by decide +kernel
theorem dX2_kindByLetter_0 : decode cX2_kindByLetter 0 = .ok (.iconst 0, 1) := by decide +kernel
theorem dX2_kindByLetter_1 : decode cX2_kindByLetter 1 = .ok (.istore_n 1, 1) := by decide +kernel
theorem dX2_kindByLetter_2 : decode cX2_kindByLetter 2 = .ok (.iload_n 1, 1) := by decide +kernel
theorem dX2_kindByLetter_3 : decode cX2_kindByLetter 3 = .ok (.bipush 6, 2) := by decide +kernel
theorem dX2_kindByLetter_5 : decode cX2_kindByLetter 5 = .ok (.if_icmp .ge 20, 3) := by decide +kernel
theorem dX2_kindByLetter_8 : decode cX2_kindByLetter 8 = .ok (.getstatic 68, 3) := by decide +kernel
theorem dX2_kindByLetter_11 : decode cX2_kindByLetter 11 = .ok (.iload_n 1, 1) := by decide +kernel
theorem dX2_kindByLetter_12 : decode cX2_kindByLetter 12 = .ok (.iaload, 1) := by decide +kernel
theorem dX2_kindByLetter_13 : decode cX2_kindByLetter 13 = .ok (.iload_n 0, 1) := by decide +kernel
theorem dX2_kindByLetter_14 : decode cX2_kindByLetter 14 = .ok (.if_icmp .ne 5, 3) := by decide +kernel
theorem dX2_kindByLetter_17 : decode cX2_kindByLetter 17 = .ok (.iload_n 1, 1) := by decide +kernel
theorem dX2_kindByLetter_18 : decode cX2_kindByLetter 18 = .ok (.ireturn, 1) := by decide +kernel
theorem dX2_kindByLetter_19 : decode cX2_kindByLetter 19 = .ok (.iinc 1 1, 3) := by decide +kernel
theorem dX2_kindByLetter_22 : decode cX2_kindByLetter 22 = .ok (.goto (-20), 3) := by decide +kernel
theorem dX2_kindByLetter_25 : decode cX2_kindByLetter 25 = .ok (.bipush (-9), 2) := by decide +kernel
theorem dX2_kindByLetter_27 : decode cX2_kindByLetter 27 = .ok (.ireturn, 1) := by decide +kernel
theorem dX2_readTwoFigures_0 : decode cX2_readTwoFigures 0 = .ok (.aload_n 0, 1) := by decide +kernel
theorem dX2_readTwoFigures_1 : decode cX2_readTwoFigures 1 = .ok (.getfield 25, 3) := by decide +kernel
theorem dX2_readTwoFigures_4 : decode cX2_readTwoFigures 4 = .ok (.istore_n 3, 1) := by decide +kernel
theorem dX2_readTwoFigures_5 : decode cX2_readTwoFigures 5 = .ok (.bipush 10, 2) := by decide +kernel
theorem dX2_readTwoFigures_7 : decode cX2_readTwoFigures 7 = .ok (.aload_n 0, 1) := by decide +kernel
theorem dX2_readTwoFigures_8 : decode cX2_readTwoFigures 8 = .ok (.invokevirtual 60, 3) := by decide +kernel
theorem dX2_readTwoFigures_11 : decode cX2_readTwoFigures 11 = .ok (.imul, 1) := by decide +kernel
theorem dX2_readTwoFigures_12 : decode cX2_readTwoFigures 12 = .ok (.istore 4, 2) := by decide +kernel
theorem dX2_readTwoFigures_14 : decode cX2_readTwoFigures 14 = .ok (.iload 4, 2) := by decide +kernel
theorem dX2_readTwoFigures_16 : decode cX2_readTwoFigures 16 = .ok (.aload_n 0, 1) := by decide +kernel
theorem dX2_readTwoFigures_17 : decode cX2_readTwoFigures 17 = .ok (.invokevirtual 60, 3) := by decide +kernel
theorem dX2_readTwoFigures_20 : decode cX2_readTwoFigures 20 = .ok (.iadd, 1) := by decide +kernel
theorem dX2_readTwoFigures_21 : decode cX2_readTwoFigures 21 = .ok (.istore 4, 2) := by decide +kernel
theorem dX2_readTwoFigures_23 : decode cX2_readTwoFigures 23 = .ok (.aload_n 0, 1) := by decide +kernel
theorem dX2_readTwoFigures_24 : decode cX2_readTwoFigures 24 = .ok (.getfield 28, 3) := by decide +kernel
theorem dX2_readTwoFigures_27 : decode cX2_readTwoFigures 27 = .ok (.bipush (-9), 2) := by decide +kernel
theorem dX2_readTwoFigures_29 : decode cX2_readTwoFigures 29 = .ok (.if_icmp .ne 20, 3) := by decide +kernel
theorem dX2_readTwoFigures_32 : decode cX2_readTwoFigures 32 = .ok (.iload 4, 2) := by decide +kernel
theorem dX2_readTwoFigures_34 : decode cX2_readTwoFigures 34 = .ok (.iload_n 1, 1) := by decide +kernel
theorem dX2_readTwoFigures_35 : decode cX2_readTwoFigures 35 = .ok (.if_icmp .lt 9, 3) := by decide +kernel
theorem dX2_readTwoFigures_38 : decode cX2_readTwoFigures 38 = .ok (.iload 4, 2) := by decide +kernel
theorem dX2_readTwoFigures_40 : decode cX2_readTwoFigures 40 = .ok (.iload_n 2, 1) := by decide +kernel
theorem dX2_readTwoFigures_41 : decode cX2_readTwoFigures 41 = .ok (.if_icmp .le 8, 3) := by decide +kernel
theorem dX2_readTwoFigures_44 : decode cX2_readTwoFigures 44 = .ok (.aload_n 0, 1) := by decide +kernel
theorem dX2_readTwoFigures_45 : decode cX2_readTwoFigures 45 = .ok (.iload_n 3, 1) := by decide +kernel
theorem dX2_readTwoFigures_46 : decode cX2_readTwoFigures 46 = .ok (.putfield 28, 3) := by decide +kernel
theorem dX2_readTwoFigures_49 : decode cX2_readTwoFigures 49 = .ok (.aload_n 0, 1) := by decide +kernel
theorem dX2_readTwoFigures_50 : decode cX2_readTwoFigures 50 = .ok (.getfield 28, 3) := by decide +kernel
theorem dX2_readTwoFigures_53 : decode cX2_readTwoFigures 53 = .ok (.bipush (-9), 2) := by decide +kernel
theorem dX2_readTwoFigures_55 : decode cX2_readTwoFigures 55 = .ok (.if_icmp .ne 8, 3) := by decide +kernel
theorem dX2_readTwoFigures_58 : decode cX2_readTwoFigures 58 = .ok (.iload 4, 2) := by decide +kernel
theorem dX2_readTwoFigures_60 : decode cX2_readTwoFigures 60 = .ok (.goto 4, 3) := by decide +kernel
theorem dX2_readTwoFigures_63 : decode cX2_readTwoFigures 63 = .ok (.iconst 0, 1) := by decide +kernel
theorem dX2_readTwoFigures_64 : decode cX2_readTwoFigures 64 = .ok (.ireturn, 1) := by decide +kernel
theorem dX2_readFigure_0 : decode cX2_readFigure 0 = .ok (.aload_n 0, 1) := by decide +kernel
theorem dX2_readFigure_1 : decode cX2_readFigure 1 = .ok (.getfield 28, 3) := by decide +kernel
theorem dX2_readFigure_4 : decode cX2_readFigure 4 = .ok (.bipush (-9), 2) := by decide +kernel
theorem dX2_readFigure_6 : decode cX2_readFigure 6 = .ok (.if_icmp .eq 5, 3) := by decide +kernel
theorem dX2_readFigure_9 : decode cX2_readFigure 9 = .ok (.iconst 0, 1) := by decide +kernel
theorem dX2_readFigure_10 : decode cX2_readFigure 10 = .ok (.ireturn, 1) := by decide +kernel
theorem dX2_readFigure_11 : decode cX2_readFigure 11 = .ok (.aload_n 0, 1) := by decide +kernel
theorem dX2_readFigure_12 : decode cX2_readFigure 12 = .ok (.getfield 25, 3) := by decide +kernel
theorem dX2_readFigure_15 : decode cX2_readFigure 15 = .ok (.aload_n 0, 1) := by decide +kernel
theorem dX2_readFigure_16 : decode cX2_readFigure 16 = .ok (.getfield 21, 3) := by decide +kernel
theorem dX2_readFigure_19 : decode cX2_readFigure 19 = .ok (.if_icmp .ge 18, 3) := by decide +kernel
theorem dX2_readFigure_22 : decode cX2_readFigure 22 = .ok (.aload_n 0, 1) := by decide +kernel
theorem dX2_readFigure_23 : decode cX2_readFigure 23 = .ok (.getfield 9, 3) := by decide +kernel
theorem dX2_readFigure_26 : decode cX2_readFigure 26 = .ok (.aload_n 0, 1) := by decide +kernel
theorem dX2_readFigure_27 : decode cX2_readFigure 27 = .ok (.getfield 25, 3) := by decide +kernel
theorem dX2_readFigure_30 : decode cX2_readFigure 30 = .ok (.iaload, 1) := by decide +kernel
theorem dX2_readFigure_31 : decode cX2_readFigure 31 = .ok (.bipush 48, 2) := by decide +kernel
theorem dX2_readFigure_33 : decode cX2_readFigure 33 = .ok (.isub, 1) := by decide +kernel
theorem dX2_readFigure_34 : decode cX2_readFigure 34 = .ok (.goto 5, 3) := by decide +kernel
theorem dX2_readFigure_37 : decode cX2_readFigure 37 = .ok (.bipush (-9), 2) := by decide +kernel
theorem dX2_readFigure_39 : decode cX2_readFigure 39 = .ok (.istore_n 1, 1) := by decide +kernel
theorem dX2_readFigure_40 : decode cX2_readFigure 40 = .ok (.iload_n 1, 1) := by decide +kernel
theorem dX2_readFigure_41 : decode cX2_readFigure 41 = .ok (.bipush 10, 2) := by decide +kernel
theorem dX2_readFigure_43 : decode cX2_readFigure 43 = .ok (.invokestatic 71, 3) := by decide +kernel
theorem dX2_readFigure_46 : decode cX2_readFigure 46 = .ok (.ifCond .ne 13, 3) := by decide +kernel
theorem dX2_readFigure_49 : decode cX2_readFigure 49 = .ok (.aload_n 0, 1) := by decide +kernel
theorem dX2_readFigure_50 : decode cX2_readFigure 50 = .ok (.aload_n 0, 1) := by decide +kernel
theorem dX2_readFigure_51 : decode cX2_readFigure 51 = .ok (.getfield 25, 3) := by decide +kernel
theorem dX2_readFigure_54 : decode cX2_readFigure 54 = .ok (.putfield 28, 3) := by decide +kernel
theorem dX2_readFigure_57 : decode cX2_readFigure 57 = .ok (.iconst 0, 1) := by decide +kernel
theorem dX2_readFigure_58 : decode cX2_readFigure 58 = .ok (.ireturn, 1) := by decide +kernel
theorem dX2_readFigure_59 : decode cX2_readFigure 59 = .ok (.aload_n 0, 1) := by decide +kernel
theorem dX2_readFigure_60 : decode cX2_readFigure 60 = .ok (.dup, 1) := by decide +kernel
theorem dX2_readFigure_61 : decode cX2_readFigure 61 = .ok (.getfield 25, 3) := by decide +kernel
theorem dX2_readFigure_64 : decode cX2_readFigure 64 = .ok (.iconst 1, 1) := by decide +kernel
theorem dX2_readFigure_65 : decode cX2_readFigure 65 = .ok (.iadd, 1) := by decide +kernel
theorem dX2_readFigure_66 : decode cX2_readFigure 66 = .ok (.putfield 25, 3) := by decide +kernel
theorem dX2_readFigure_69 : decode cX2_readFigure 69 = .ok (.iload_n 1, 1) := by decide +kernel
theorem dX2_readFigure_70 : decode cX2_readFigure 70 = .ok (.ireturn, 1) := by decide +kernel
theorem dX3_init_0 : decode cX3_init 0 = .ok (.aload_n 0, 1) := by decide +kernel
theorem dX3_init_1 : decode cX3_init 1 = .ok (.invokespecial 3, 3) := by decide +kernel
theorem dX3_init_4 : decode cX3_init 4 = .ok (.aload_n 0, 1) := by decide +kernel
theorem dX3_init_5 : decode cX3_init 5 = .ok (.iload_n 1, 1) := by decide +kernel
theorem dX3_init_6 : decode cX3_init 6 = .ok (.iload_n 2, 1) := by decide +kernel
theorem dX3_init_7 : decode cX3_init 7 = .ok (.multianewarray 9 2, 4) := by decide +kernel
theorem dX3_init_11 : decode cX3_init 11 = .ok (.putfield 11, 3) := by decide +kernel
theorem dX3_init_14 : decode cX3_init 14 = .ok (.aload_n 0, 1) := by decide +kernel
theorem dX3_init_15 : decode cX3_init 15 = .ok (.iload_n 1, 1) := by decide +kernel
theorem dX3_init_16 : decode cX3_init 16 = .ok (.newarray .int, 2) := by decide +kernel
theorem dX3_init_18 : decode cX3_init 18 = .ok (.putfield 16, 3) := by decide +kernel
theorem dX3_init_21 : decode cX3_init 21 = .ok (.aload_n 0, 1) := by decide +kernel
theorem dX3_init_22 : decode cX3_init 22 = .ok (.getfield 16, 3) := by decide +kernel
theorem dX3_init_25 : decode cX3_init 25 = .ok (.iconst (-1), 1) := by decide +kernel
theorem dX3_init_26 : decode cX3_init 26 = .ok (.invokestatic 20, 3) := by decide +kernel
theorem dX3_init_29 : decode cX3_init 29 = .ok (.return_, 1) := by decide +kernel
theorem dX3_bears_0 : decode cX3_bears 0 = .ok (.iload_n 1, 1) := by decide +kernel
theorem dX3_bears_1 : decode cX3_bears 1 = .ok (.aload_n 0, 1) := by decide +kernel
theorem dX3_bears_2 : decode cX3_bears 2 = .ok (.getfield 16, 3) := by decide +kernel
theorem dX3_bears_5 : decode cX3_bears 5 = .ok (.arraylength, 1) := by decide +kernel
theorem dX3_bears_6 : decode cX3_bears 6 = .ok (.invokestatic 26, 3) := by decide +kernel
theorem dX3_bears_9 : decode cX3_bears 9 = .ok (.ireturn, 1) := by decide +kernel
theorem dX3_holds_0 : decode cX3_holds 0 = .ok (.aload_n 0, 1) := by decide +kernel
theorem dX3_holds_1 : decode cX3_holds 1 = .ok (.iload_n 1, 1) := by decide +kernel
theorem dX3_holds_2 : decode cX3_holds 2 = .ok (.invokevirtual 30, 3) := by decide +kernel
theorem dX3_holds_5 : decode cX3_holds 5 = .ok (.ifCond .eq 17, 3) := by decide +kernel
theorem dX3_holds_8 : decode cX3_holds 8 = .ok (.aload_n 0, 1) := by decide +kernel
theorem dX3_holds_9 : decode cX3_holds 9 = .ok (.getfield 16, 3) := by decide +kernel
theorem dX3_holds_12 : decode cX3_holds 12 = .ok (.iload_n 1, 1) := by decide +kernel
theorem dX3_holds_13 : decode cX3_holds 13 = .ok (.iaload, 1) := by decide +kernel
theorem dX3_holds_14 : decode cX3_holds 14 = .ok (.iconst (-1), 1) := by decide +kernel
theorem dX3_holds_15 : decode cX3_holds 15 = .ok (.if_icmp .eq 7, 3) := by decide +kernel
theorem dX3_holds_18 : decode cX3_holds 18 = .ok (.iconst 1, 1) := by decide +kernel
theorem dX3_holds_19 : decode cX3_holds 19 = .ok (.goto 4, 3) := by decide +kernel
theorem dX3_holds_22 : decode cX3_holds 22 = .ok (.iconst 0, 1) := by decide +kernel
theorem dX3_holds_23 : decode cX3_holds 23 = .ok (.ireturn, 1) := by decide +kernel
theorem dX3_layOut_0 : decode cX3_layOut 0 = .ok (.aload_n 0, 1) := by decide +kernel
theorem dX3_layOut_1 : decode cX3_layOut 1 = .ok (.getfield 11, 3) := by decide +kernel
theorem dX3_layOut_4 : decode cX3_layOut 4 = .ok (.iload_n 1, 1) := by decide +kernel
theorem dX3_layOut_5 : decode cX3_layOut 5 = .ok (.aaload, 1) := by decide +kernel
theorem dX3_layOut_6 : decode cX3_layOut 6 = .ok (.iload_n 3, 1) := by decide +kernel
theorem dX3_layOut_7 : decode cX3_layOut 7 = .ok (.invokestatic 20, 3) := by decide +kernel
theorem dX3_layOut_10 : decode cX3_layOut 10 = .ok (.aload_n 0, 1) := by decide +kernel
theorem dX3_layOut_11 : decode cX3_layOut 11 = .ok (.getfield 16, 3) := by decide +kernel
theorem dX3_layOut_14 : decode cX3_layOut 14 = .ok (.iload_n 1, 1) := by decide +kernel
theorem dX3_layOut_15 : decode cX3_layOut 15 = .ok (.iload_n 2, 1) := by decide +kernel
theorem dX3_layOut_16 : decode cX3_layOut 16 = .ok (.iastore, 1) := by decide +kernel
theorem dX3_layOut_17 : decode cX3_layOut 17 = .ok (.return_, 1) := by decide +kernel
theorem dX3_howMany_0 : decode cX3_howMany 0 = .ok (.iconst 0, 1) := by decide +kernel
theorem dX3_howMany_1 : decode cX3_howMany 1 = .ok (.istore_n 1, 1) := by decide +kernel
theorem dX3_howMany_2 : decode cX3_howMany 2 = .ok (.iconst 0, 1) := by decide +kernel
theorem dX3_howMany_3 : decode cX3_howMany 3 = .ok (.istore_n 2, 1) := by decide +kernel
theorem dX3_howMany_4 : decode cX3_howMany 4 = .ok (.iload_n 2, 1) := by decide +kernel
theorem dX3_howMany_5 : decode cX3_howMany 5 = .ok (.aload_n 0, 1) := by decide +kernel
theorem dX3_howMany_6 : decode cX3_howMany 6 = .ok (.getfield 16, 3) := by decide +kernel
theorem dX3_howMany_9 : decode cX3_howMany 9 = .ok (.arraylength, 1) := by decide +kernel
theorem dX3_howMany_10 : decode cX3_howMany 10 = .ok (.if_icmp .ge 20, 3) := by decide +kernel
theorem dX3_howMany_13 : decode cX3_howMany 13 = .ok (.iload_n 1, 1) := by decide +kernel
theorem dX3_howMany_14 : decode cX3_howMany 14 = .ok (.aload_n 0, 1) := by decide +kernel
theorem dX3_howMany_15 : decode cX3_howMany 15 = .ok (.iload_n 2, 1) := by decide +kernel
theorem dX3_howMany_16 : decode cX3_howMany 16 = .ok (.invokevirtual 34, 3) := by decide +kernel
theorem dX3_howMany_19 : decode cX3_howMany 19 = .ok (.invokestatic 37, 3) := by decide +kernel
theorem dX3_howMany_22 : decode cX3_howMany 22 = .ok (.iadd, 1) := by decide +kernel
theorem dX3_howMany_23 : decode cX3_howMany 23 = .ok (.istore_n 1, 1) := by decide +kernel
theorem dX3_howMany_24 : decode cX3_howMany 24 = .ok (.iinc 2 1, 3) := by decide +kernel
theorem dX3_howMany_27 : decode cX3_howMany 27 = .ok (.goto (-23), 3) := by decide +kernel
theorem dX3_howMany_30 : decode cX3_howMany 30 = .ok (.iload_n 1, 1) := by decide +kernel
theorem dX3_howMany_31 : decode cX3_howMany 31 = .ok (.ireturn, 1) := by decide +kernel
theorem dX3_stir_0 : decode cX3_stir 0 = .ok (.lload_n 1, 1) := by decide +kernel
theorem dX3_stir_1 : decode cX3_stir 1 = .ok (.lstore_n 3, 1) := by decide +kernel
theorem dX3_stir_2 : decode cX3_stir 2 = .ok (.iconst 0, 1) := by decide +kernel
theorem dX3_stir_3 : decode cX3_stir 3 = .ok (.istore 5, 2) := by decide +kernel
theorem dX3_stir_5 : decode cX3_stir 5 = .ok (.iload 5, 2) := by decide +kernel
theorem dX3_stir_7 : decode cX3_stir 7 = .ok (.aload_n 0, 1) := by decide +kernel
theorem dX3_stir_8 : decode cX3_stir 8 = .ok (.getfield 16, 3) := by decide +kernel
theorem dX3_stir_11 : decode cX3_stir 11 = .ok (.arraylength, 1) := by decide +kernel
theorem dX3_stir_12 : decode cX3_stir 12 = .ok (.if_icmp .ge 63, 3) := by decide +kernel
theorem dX3_stir_15 : decode cX3_stir 15 = .ok (.ldc2_w 41, 3) := by decide +kernel
theorem dX3_stir_18 : decode cX3_stir 18 = .ok (.lload_n 3, 1) := by decide +kernel
theorem dX3_stir_19 : decode cX3_stir 19 = .ok (.lmul, 1) := by decide +kernel
theorem dX3_stir_20 : decode cX3_stir 20 = .ok (.aload_n 0, 1) := by decide +kernel
theorem dX3_stir_21 : decode cX3_stir 21 = .ok (.getfield 16, 3) := by decide +kernel
theorem dX3_stir_24 : decode cX3_stir 24 = .ok (.iload 5, 2) := by decide +kernel
theorem dX3_stir_26 : decode cX3_stir 26 = .ok (.iaload, 1) := by decide +kernel
theorem dX3_stir_27 : decode cX3_stir 27 = .ok (.i2l, 1) := by decide +kernel
theorem dX3_stir_28 : decode cX3_stir 28 = .ok (.ladd, 1) := by decide +kernel
theorem dX3_stir_29 : decode cX3_stir 29 = .ok (.lstore_n 3, 1) := by decide +kernel
theorem dX3_stir_30 : decode cX3_stir 30 = .ok (.iconst 0, 1) := by decide +kernel
theorem dX3_stir_31 : decode cX3_stir 31 = .ok (.istore 6, 2) := by decide +kernel
theorem dX3_stir_33 : decode cX3_stir 33 = .ok (.iload 6, 2) := by decide +kernel
theorem dX3_stir_35 : decode cX3_stir 35 = .ok (.aload_n 0, 1) := by decide +kernel
theorem dX3_stir_36 : decode cX3_stir 36 = .ok (.getfield 16, 3) := by decide +kernel
theorem dX3_stir_39 : decode cX3_stir 39 = .ok (.iload 5, 2) := by decide +kernel
theorem dX3_stir_41 : decode cX3_stir 41 = .ok (.iaload, 1) := by decide +kernel
theorem dX3_stir_42 : decode cX3_stir 42 = .ok (.if_icmp .ge 27, 3) := by decide +kernel
theorem dX3_stir_45 : decode cX3_stir 45 = .ok (.ldc2_w 41, 3) := by decide +kernel
theorem dX3_stir_48 : decode cX3_stir 48 = .ok (.lload_n 3, 1) := by decide +kernel
theorem dX3_stir_49 : decode cX3_stir 49 = .ok (.lmul, 1) := by decide +kernel
theorem dX3_stir_50 : decode cX3_stir 50 = .ok (.aload_n 0, 1) := by decide +kernel
theorem dX3_stir_51 : decode cX3_stir 51 = .ok (.getfield 11, 3) := by decide +kernel
theorem dX3_stir_54 : decode cX3_stir 54 = .ok (.iload 5, 2) := by decide +kernel
theorem dX3_stir_56 : decode cX3_stir 56 = .ok (.aaload, 1) := by decide +kernel
theorem dX3_stir_57 : decode cX3_stir 57 = .ok (.iload 6, 2) := by decide +kernel
theorem dX3_stir_59 : decode cX3_stir 59 = .ok (.iaload, 1) := by decide +kernel
theorem dX3_stir_60 : decode cX3_stir 60 = .ok (.i2l, 1) := by decide +kernel
theorem dX3_stir_61 : decode cX3_stir 61 = .ok (.ladd, 1) := by decide +kernel
theorem dX3_stir_62 : decode cX3_stir 62 = .ok (.lstore_n 3, 1) := by decide +kernel
theorem dX3_stir_63 : decode cX3_stir 63 = .ok (.iinc 6 1, 3) := by decide +kernel
theorem dX3_stir_66 : decode cX3_stir 66 = .ok (.goto (-33), 3) := by decide +kernel
theorem dX3_stir_69 : decode cX3_stir 69 = .ok (.iinc 5 1, 3) := by decide +kernel
theorem dX3_stir_72 : decode cX3_stir 72 = .ok (.goto (-67), 3) := by decide +kernel
theorem dX3_stir_75 : decode cX3_stir 75 = .ok (.lload_n 3, 1) := by decide +kernel
theorem dX3_stir_76 : decode cX3_stir 76 = .ok (.lreturn, 1) := by decide +kernel
theorem dX4_init_0 : decode cX4_init 0 = .ok (.aload_n 0, 1) := by decide +kernel
theorem dX4_init_1 : decode cX4_init 1 = .ok (.invokespecial 3, 3) := by decide +kernel
theorem dX4_init_4 : decode cX4_init 4 = .ok (.aload_n 0, 1) := by decide +kernel
theorem dX4_init_5 : decode cX4_init 5 = .ok (.new 9, 3) := by decide +kernel
theorem dX4_init_8 : decode cX4_init 8 = .ok (.dup, 1) := by decide +kernel
theorem dX4_init_9 : decode cX4_init 9 = .ok (.bipush 6, 2) := by decide +kernel
theorem dX4_init_11 : decode cX4_init 11 = .ok (.bipush 40, 2) := by decide +kernel
theorem dX4_init_13 : decode cX4_init 13 = .ok (.invokespecial 11, 3) := by decide +kernel
theorem dX4_init_16 : decode cX4_init 16 = .ok (.putfield 14, 3) := by decide +kernel
theorem dX4_init_19 : decode cX4_init 19 = .ok (.aload_n 0, 1) := by decide +kernel
theorem dX4_init_20 : decode cX4_init 20 = .ok (.new 9, 3) := by decide +kernel
theorem dX4_init_23 : decode cX4_init 23 = .ok (.dup, 1) := by decide +kernel
theorem dX4_init_24 : decode cX4_init 24 = .ok (.iconst 4, 1) := by decide +kernel
theorem dX4_init_25 : decode cX4_init 25 = .ok (.bipush 60, 2) := by decide +kernel
theorem dX4_init_27 : decode cX4_init 27 = .ok (.invokespecial 11, 3) := by decide +kernel
theorem dX4_init_30 : decode cX4_init 30 = .ok (.putfield 18, 3) := by decide +kernel
theorem dX4_init_33 : decode cX4_init 33 = .ok (.aload_n 0, 1) := by decide +kernel
theorem dX4_init_34 : decode cX4_init 34 = .ok (.new 21, 3) := by decide +kernel
theorem dX4_init_37 : decode cX4_init 37 = .ok (.dup, 1) := by decide +kernel
theorem dX4_init_38 : decode cX4_init 38 = .ok (.invokespecial 23, 3) := by decide +kernel
theorem dX4_init_41 : decode cX4_init 41 = .ok (.putfield 24, 3) := by decide +kernel
theorem dX4_init_44 : decode cX4_init 44 = .ok (.aload_n 0, 1) := by decide +kernel
theorem dX4_init_45 : decode cX4_init 45 = .ok (.new 21, 3) := by decide +kernel
theorem dX4_init_48 : decode cX4_init 48 = .ok (.dup, 1) := by decide +kernel
theorem dX4_init_49 : decode cX4_init 49 = .ok (.invokespecial 23, 3) := by decide +kernel
theorem dX4_init_52 : decode cX4_init 52 = .ok (.putfield 28, 3) := by decide +kernel
theorem dX4_init_55 : decode cX4_init 55 = .ok (.aload_n 0, 1) := by decide +kernel
theorem dX4_init_56 : decode cX4_init 56 = .ok (.iconst 3, 1) := by decide +kernel
theorem dX4_init_57 : decode cX4_init 57 = .ok (.anewarray 21, 3) := by decide +kernel
theorem dX4_init_60 : decode cX4_init 60 = .ok (.putfield 31, 3) := by decide +kernel
theorem dX4_init_63 : decode cX4_init 63 = .ok (.aload_n 0, 1) := by decide +kernel
theorem dX4_init_64 : decode cX4_init 64 = .ok (.iconst 3, 1) := by decide +kernel
theorem dX4_init_65 : decode cX4_init 65 = .ok (.newarray .boolean, 2) := by decide +kernel
theorem dX4_init_67 : decode cX4_init 67 = .ok (.putfield 35, 3) := by decide +kernel
theorem dX4_init_70 : decode cX4_init 70 = .ok (.aload_n 0, 1) := by decide +kernel
theorem dX4_init_71 : decode cX4_init 71 = .ok (.new 39, 3) := by decide +kernel
theorem dX4_init_74 : decode cX4_init 74 = .ok (.dup, 1) := by decide +kernel
theorem dX4_init_75 : decode cX4_init 75 = .ok (.invokespecial 41, 3) := by decide +kernel
theorem dX4_init_78 : decode cX4_init 78 = .ok (.putfield 42, 3) := by decide +kernel
theorem dX4_init_81 : decode cX4_init 81 = .ok (.aload_n 0, 1) := by decide +kernel
theorem dX4_init_82 : decode cX4_init 82 = .ok (.new 46, 3) := by decide +kernel
theorem dX4_init_85 : decode cX4_init 85 = .ok (.dup, 1) := by decide +kernel
theorem dX4_init_86 : decode cX4_init 86 = .ok (.invokespecial 48, 3) := by decide +kernel
theorem dX4_init_89 : decode cX4_init 89 = .ok (.putfield 49, 3) := by decide +kernel
theorem dX4_init_92 : decode cX4_init 92 = .ok (.aload_n 0, 1) := by decide +kernel
theorem dX4_init_93 : decode cX4_init 93 = .ok (.bipush 6, 2) := by decide +kernel
theorem dX4_init_95 : decode cX4_init 95 = .ok (.bipush 10, 2) := by decide +kernel
theorem dX4_init_97 : decode cX4_init 97 = .ok (.multianewarray 53 2, 4) := by decide +kernel
theorem dX4_init_101 : decode cX4_init 101 = .ok (.putfield 55, 3) := by decide +kernel
theorem dX4_init_104 : decode cX4_init 104 = .ok (.aload_n 0, 1) := by decide +kernel
theorem dX4_init_105 : decode cX4_init 105 = .ok (.bipush 6, 2) := by decide +kernel
theorem dX4_init_107 : decode cX4_init 107 = .ok (.bipush 21, 2) := by decide +kernel
theorem dX4_init_109 : decode cX4_init 109 = .ok (.multianewarray 58 2, 4) := by decide +kernel
theorem dX4_init_113 : decode cX4_init 113 = .ok (.putfield 60, 3) := by decide +kernel
theorem dX4_init_116 : decode cX4_init 116 = .ok (.aload_n 0, 1) := by decide +kernel
theorem dX4_init_117 : decode cX4_init 117 = .ok (.iconst 5, 1) := by decide +kernel
theorem dX4_init_118 : decode cX4_init 118 = .ok (.bipush 64, 2) := by decide +kernel
theorem dX4_init_120 : decode cX4_init 120 = .ok (.multianewarray 58 2, 4) := by decide +kernel
theorem dX4_init_124 : decode cX4_init 124 = .ok (.putfield 63, 3) := by decide +kernel
theorem dX4_init_127 : decode cX4_init 127 = .ok (.aload_n 0, 1) := by decide +kernel
theorem dX4_init_128 : decode cX4_init 128 = .ok (.bipush 21, 2) := by decide +kernel
theorem dX4_init_130 : decode cX4_init 130 = .ok (.newarray .long, 2) := by decide +kernel
theorem dX4_init_132 : decode cX4_init 132 = .ok (.putfield 66, 3) := by decide +kernel
theorem dX4_init_135 : decode cX4_init 135 = .ok (.aload_n 0, 1) := by decide +kernel
theorem dX4_init_136 : decode cX4_init 136 = .ok (.bipush 6, 2) := by decide +kernel
theorem dX4_init_138 : decode cX4_init 138 = .ok (.newarray .int, 2) := by decide +kernel
theorem dX4_init_140 : decode cX4_init 140 = .ok (.putfield 70, 3) := by decide +kernel
theorem dX4_init_143 : decode cX4_init 143 = .ok (.aload_n 0, 1) := by decide +kernel
theorem dX4_init_144 : decode cX4_init 144 = .ok (.lconst 1, 1) := by decide +kernel
theorem dX4_init_145 : decode cX4_init 145 = .ok (.putfield 74, 3) := by decide +kernel
theorem dX4_init_148 : decode cX4_init 148 = .ok (.iconst 0, 1) := by decide +kernel
theorem dX4_init_149 : decode cX4_init 149 = .ok (.istore_n 1, 1) := by decide +kernel
theorem dX4_init_150 : decode cX4_init 150 = .ok (.iload_n 1, 1) := by decide +kernel
theorem dX4_init_151 : decode cX4_init 151 = .ok (.iconst 3, 1) := by decide +kernel
theorem dX4_init_152 : decode cX4_init 152 = .ok (.if_icmp .ge 22, 3) := by decide +kernel
theorem dX4_init_155 : decode cX4_init 155 = .ok (.aload_n 0, 1) := by decide +kernel
theorem dX4_init_156 : decode cX4_init 156 = .ok (.getfield 31, 3) := by decide +kernel
theorem dX4_init_159 : decode cX4_init 159 = .ok (.iload_n 1, 1) := by decide +kernel
theorem dX4_init_160 : decode cX4_init 160 = .ok (.new 21, 3) := by decide +kernel
theorem dX4_init_163 : decode cX4_init 163 = .ok (.dup, 1) := by decide +kernel
theorem dX4_init_164 : decode cX4_init 164 = .ok (.invokespecial 23, 3) := by decide +kernel
theorem dX4_init_167 : decode cX4_init 167 = .ok (.aastore, 1) := by decide +kernel
theorem dX4_init_168 : decode cX4_init 168 = .ok (.iinc 1 1, 3) := by decide +kernel
theorem dX4_init_171 : decode cX4_init 171 = .ok (.goto (-21), 3) := by decide +kernel
theorem dX4_init_174 : decode cX4_init 174 = .ok (.return_, 1) := by decide +kernel
theorem dX4_row_0 : decode cX4_row 0 = .ok (.aload_n 0, 1) := by decide +kernel
theorem dX4_row_1 : decode cX4_row 1 = .ok (.getfield 14, 3) := by decide +kernel
theorem dX4_row_4 : decode cX4_row 4 = .ok (.iload_n 1, 1) := by decide +kernel
theorem dX4_row_5 : decode cX4_row 5 = .ok (.invokevirtual 78, 3) := by decide +kernel
theorem dX4_row_8 : decode cX4_row 8 = .ok (.ifCond .eq 9, 3) := by decide +kernel
theorem dX4_row_11 : decode cX4_row 11 = .ok (.iload_n 2, 1) := by decide +kernel
theorem dX4_row_12 : decode cX4_row 12 = .ok (.bipush 40, 2) := by decide +kernel
theorem dX4_row_14 : decode cX4_row 14 = .ok (.if_icmp .le 5, 3) := by decide +kernel
theorem dX4_row_17 : decode cX4_row 17 = .ok (.iconst (-1), 1) := by decide +kernel
theorem dX4_row_18 : decode cX4_row 18 = .ok (.ireturn, 1) := by decide +kernel
theorem dX4_row_19 : decode cX4_row 19 = .ok (.iload_n 2, 1) := by decide +kernel
theorem dX4_row_20 : decode cX4_row 20 = .ok (.ifCond .ge 9, 3) := by decide +kernel
theorem dX4_row_23 : decode cX4_row 23 = .ok (.aload_n 0, 1) := by decide +kernel
theorem dX4_row_24 : decode cX4_row 24 = .ok (.iconst 5, 1) := by decide +kernel
theorem dX4_row_25 : decode cX4_row 25 = .ok (.invokevirtual 82, 3) := by decide +kernel
theorem dX4_row_28 : decode cX4_row 28 = .ok (.ireturn, 1) := by decide +kernel
theorem dX4_row_29 : decode cX4_row 29 = .ok (.aload_n 0, 1) := by decide +kernel
theorem dX4_row_30 : decode cX4_row 30 = .ok (.getfield 14, 3) := by decide +kernel
theorem dX4_row_33 : decode cX4_row 33 = .ok (.iload_n 1, 1) := by decide +kernel
theorem dX4_row_34 : decode cX4_row 34 = .ok (.iload_n 2, 1) := by decide +kernel
theorem dX4_row_35 : decode cX4_row 35 = .ok (.iconst 0, 1) := by decide +kernel
theorem dX4_row_36 : decode cX4_row 36 = .ok (.invokevirtual 86, 3) := by decide +kernel
theorem dX4_row_39 : decode cX4_row 39 = .ok (.iload_n 2, 1) := by decide +kernel
theorem dX4_row_40 : decode cX4_row 40 = .ok (.ireturn, 1) := by decide +kernel
theorem dX4_lay_0 : decode cX4_lay 0 = .ok (.aload_n 0, 1) := by decide +kernel
theorem dX4_lay_1 : decode cX4_lay 1 = .ok (.aload_n 0, 1) := by decide +kernel
theorem dX4_lay_2 : decode cX4_lay 2 = .ok (.getfield 14, 3) := by decide +kernel
theorem dX4_lay_5 : decode cX4_lay 5 = .ok (.iload_n 1, 1) := by decide +kernel
theorem dX4_lay_6 : decode cX4_lay 6 = .ok (.iload_n 2, 1) := by decide +kernel
theorem dX4_lay_7 : decode cX4_lay 7 = .ok (.invokevirtual 90, 3) := by decide +kernel
theorem dX4_lay_10 : decode cX4_lay 10 = .ok (.istore 4, 2) := by decide +kernel
theorem dX4_lay_12 : decode cX4_lay 12 = .ok (.iload 4, 2) := by decide +kernel
theorem dX4_lay_14 : decode cX4_lay 14 = .ok (.ifCond .eq 6, 3) := by decide +kernel
theorem dX4_lay_17 : decode cX4_lay 17 = .ok (.iload 4, 2) := by decide +kernel
theorem dX4_lay_19 : decode cX4_lay 19 = .ok (.ireturn, 1) := by decide +kernel
theorem dX4_lay_20 : decode cX4_lay 20 = .ok (.aload_n 0, 1) := by decide +kernel
theorem dX4_lay_21 : decode cX4_lay 21 = .ok (.aload_n 0, 1) := by decide +kernel
theorem dX4_lay_22 : decode cX4_lay 22 = .ok (.getfield 14, 3) := by decide +kernel
theorem dX4_lay_25 : decode cX4_lay 25 = .ok (.getfield 94, 3) := by decide +kernel
theorem dX4_lay_28 : decode cX4_lay 28 = .ok (.iload_n 1, 1) := by decide +kernel
theorem dX4_lay_29 : decode cX4_lay 29 = .ok (.aaload, 1) := by decide +kernel
theorem dX4_lay_30 : decode cX4_lay 30 = .ok (.iload_n 2, 1) := by decide +kernel
theorem dX4_lay_31 : decode cX4_lay 31 = .ok (.iaload, 1) := by decide +kernel
theorem dX4_lay_32 : decode cX4_lay 32 = .ok (.putfield 97, 3) := by decide +kernel
theorem dX4_lay_35 : decode cX4_lay 35 = .ok (.aload_n 0, 1) := by decide +kernel
theorem dX4_lay_36 : decode cX4_lay 36 = .ok (.getfield 14, 3) := by decide +kernel
theorem dX4_lay_39 : decode cX4_lay 39 = .ok (.getfield 94, 3) := by decide +kernel
theorem dX4_lay_42 : decode cX4_lay 42 = .ok (.iload_n 1, 1) := by decide +kernel
theorem dX4_lay_43 : decode cX4_lay 43 = .ok (.aaload, 1) := by decide +kernel
theorem dX4_lay_44 : decode cX4_lay 44 = .ok (.iload_n 2, 1) := by decide +kernel
theorem dX4_lay_45 : decode cX4_lay 45 = .ok (.iload_n 3, 1) := by decide +kernel
theorem dX4_lay_46 : decode cX4_lay 46 = .ok (.iastore, 1) := by decide +kernel
theorem dX4_lay_47 : decode cX4_lay 47 = .ok (.iconst 1, 1) := by decide +kernel
theorem dX4_lay_48 : decode cX4_lay 48 = .ok (.ireturn, 1) := by decide +kernel
theorem dX4_at_0 : decode cX4_at 0 = .ok (.aload_n 0, 1) := by decide +kernel
theorem dX4_at_1 : decode cX4_at 1 = .ok (.aload_n 0, 1) := by decide +kernel
theorem dX4_at_2 : decode cX4_at 2 = .ok (.getfield 14, 3) := by decide +kernel
theorem dX4_at_5 : decode cX4_at 5 = .ok (.iload_n 1, 1) := by decide +kernel
theorem dX4_at_6 : decode cX4_at 6 = .ok (.iload_n 2, 1) := by decide +kernel
theorem dX4_at_7 : decode cX4_at 7 = .ok (.invokevirtual 90, 3) := by decide +kernel
theorem dX4_at_10 : decode cX4_at 10 = .ok (.istore_n 3, 1) := by decide +kernel
theorem dX4_at_11 : decode cX4_at 11 = .ok (.iload_n 3, 1) := by decide +kernel
theorem dX4_at_12 : decode cX4_at 12 = .ok (.ifCond .eq 5, 3) := by decide +kernel
theorem dX4_at_15 : decode cX4_at 15 = .ok (.iload_n 3, 1) := by decide +kernel
theorem dX4_at_16 : decode cX4_at 16 = .ok (.ireturn, 1) := by decide +kernel
theorem dX4_at_17 : decode cX4_at 17 = .ok (.aload_n 0, 1) := by decide +kernel
theorem dX4_at_18 : decode cX4_at 18 = .ok (.aload_n 0, 1) := by decide +kernel
theorem dX4_at_19 : decode cX4_at 19 = .ok (.getfield 14, 3) := by decide +kernel
theorem dX4_at_22 : decode cX4_at 22 = .ok (.getfield 94, 3) := by decide +kernel
theorem dX4_at_25 : decode cX4_at 25 = .ok (.iload_n 1, 1) := by decide +kernel
theorem dX4_at_26 : decode cX4_at 26 = .ok (.aaload, 1) := by decide +kernel
theorem dX4_at_27 : decode cX4_at 27 = .ok (.iload_n 2, 1) := by decide +kernel
theorem dX4_at_28 : decode cX4_at 28 = .ok (.iaload, 1) := by decide +kernel
theorem dX4_at_29 : decode cX4_at 29 = .ok (.putfield 97, 3) := by decide +kernel
theorem dX4_at_32 : decode cX4_at 32 = .ok (.iconst 1, 1) := by decide +kernel
theorem dX4_at_33 : decode cX4_at 33 = .ok (.ireturn, 1) := by decide +kernel
theorem dX4_tear_0 : decode cX4_tear 0 = .ok (.aload_n 0, 1) := by decide +kernel
theorem dX4_tear_1 : decode cX4_tear 1 = .ok (.aload_n 0, 1) := by decide +kernel
theorem dX4_tear_2 : decode cX4_tear 2 = .ok (.getfield 14, 3) := by decide +kernel
theorem dX4_tear_5 : decode cX4_tear 5 = .ok (.iload_n 1, 1) := by decide +kernel
theorem dX4_tear_6 : decode cX4_tear 6 = .ok (.invokevirtual 101, 3) := by decide +kernel
theorem dX4_tear_9 : decode cX4_tear 9 = .ok (.istore_n 2, 1) := by decide +kernel
theorem dX4_tear_10 : decode cX4_tear 10 = .ok (.iload_n 2, 1) := by decide +kernel
theorem dX4_tear_11 : decode cX4_tear 11 = .ok (.ifCond .eq 5, 3) := by decide +kernel
theorem dX4_tear_14 : decode cX4_tear 14 = .ok (.iload_n 2, 1) := by decide +kernel
theorem dX4_tear_15 : decode cX4_tear 15 = .ok (.ireturn, 1) := by decide +kernel
theorem dX4_tear_16 : decode cX4_tear 16 = .ok (.aload_n 0, 1) := by decide +kernel
theorem dX4_tear_17 : decode cX4_tear 17 = .ok (.getfield 14, 3) := by decide +kernel
theorem dX4_tear_20 : decode cX4_tear 20 = .ok (.getfield 105, 3) := by decide +kernel
theorem dX4_tear_23 : decode cX4_tear 23 = .ok (.iload_n 1, 1) := by decide +kernel
theorem dX4_tear_24 : decode cX4_tear 24 = .ok (.iconst (-1), 1) := by decide +kernel
theorem dX4_tear_25 : decode cX4_tear 25 = .ok (.iastore, 1) := by decide +kernel
theorem dX4_tear_26 : decode cX4_tear 26 = .ok (.iconst 1, 1) := by decide +kernel
theorem dX4_tear_27 : decode cX4_tear 27 = .ok (.ireturn, 1) := by decide +kernel
theorem dX4_copy_0 : decode cX4_copy 0 = .ok (.aload_n 0, 1) := by decide +kernel
theorem dX4_copy_1 : decode cX4_copy 1 = .ok (.getfield 14, 3) := by decide +kernel
theorem dX4_copy_4 : decode cX4_copy 4 = .ok (.iload_n 1, 1) := by decide +kernel
theorem dX4_copy_5 : decode cX4_copy 5 = .ok (.invokevirtual 78, 3) := by decide +kernel
theorem dX4_copy_8 : decode cX4_copy 8 = .ok (.ifCond .eq 14, 3) := by decide +kernel
theorem dX4_copy_11 : decode cX4_copy 11 = .ok (.aload_n 0, 1) := by decide +kernel
theorem dX4_copy_12 : decode cX4_copy 12 = .ok (.getfield 14, 3) := by decide +kernel
theorem dX4_copy_15 : decode cX4_copy 15 = .ok (.iload_n 3, 1) := by decide +kernel
theorem dX4_copy_16 : decode cX4_copy 16 = .ok (.invokevirtual 78, 3) := by decide +kernel
theorem dX4_copy_19 : decode cX4_copy 19 = .ok (.ifCond .ne 5, 3) := by decide +kernel
theorem dX4_copy_22 : decode cX4_copy 22 = .ok (.iconst (-1), 1) := by decide +kernel
theorem dX4_copy_23 : decode cX4_copy 23 = .ok (.ireturn, 1) := by decide +kernel
theorem dX4_copy_24 : decode cX4_copy 24 = .ok (.iload 5, 2) := by decide +kernel
theorem dX4_copy_26 : decode cX4_copy 26 = .ok (.ifCond .ge 9, 3) := by decide +kernel
theorem dX4_copy_29 : decode cX4_copy 29 = .ok (.aload_n 0, 1) := by decide +kernel
theorem dX4_copy_30 : decode cX4_copy 30 = .ok (.iconst 5, 1) := by decide +kernel
theorem dX4_copy_31 : decode cX4_copy 31 = .ok (.invokevirtual 82, 3) := by decide +kernel
theorem dX4_copy_34 : decode cX4_copy 34 = .ok (.ireturn, 1) := by decide +kernel
theorem dX4_copy_35 : decode cX4_copy 35 = .ok (.aload_n 0, 1) := by decide +kernel
theorem dX4_copy_36 : decode cX4_copy 36 = .ok (.getfield 14, 3) := by decide +kernel
theorem dX4_copy_39 : decode cX4_copy 39 = .ok (.iload_n 1, 1) := by decide +kernel
theorem dX4_copy_40 : decode cX4_copy 40 = .ok (.invokevirtual 108, 3) := by decide +kernel
theorem dX4_copy_43 : decode cX4_copy 43 = .ok (.ifCond .eq 14, 3) := by decide +kernel
theorem dX4_copy_46 : decode cX4_copy 46 = .ok (.aload_n 0, 1) := by decide +kernel
theorem dX4_copy_47 : decode cX4_copy 47 = .ok (.getfield 14, 3) := by decide +kernel
theorem dX4_copy_50 : decode cX4_copy 50 = .ok (.iload_n 3, 1) := by decide +kernel
theorem dX4_copy_51 : decode cX4_copy 51 = .ok (.invokevirtual 108, 3) := by decide +kernel
theorem dX4_copy_54 : decode cX4_copy 54 = .ok (.ifCond .ne 9, 3) := by decide +kernel
theorem dX4_copy_57 : decode cX4_copy 57 = .ok (.aload_n 0, 1) := by decide +kernel
theorem dX4_copy_58 : decode cX4_copy 58 = .ok (.iconst 1, 1) := by decide +kernel
theorem dX4_copy_59 : decode cX4_copy 59 = .ok (.invokevirtual 82, 3) := by decide +kernel
theorem dX4_copy_62 : decode cX4_copy 62 = .ok (.ireturn, 1) := by decide +kernel
theorem dX4_copy_63 : decode cX4_copy 63 = .ok (.iload_n 2, 1) := by decide +kernel
theorem dX4_copy_64 : decode cX4_copy 64 = .ok (.iload 5, 2) := by decide +kernel
theorem dX4_copy_66 : decode cX4_copy 66 = .ok (.aload_n 0, 1) := by decide +kernel
theorem dX4_copy_67 : decode cX4_copy 67 = .ok (.getfield 14, 3) := by decide +kernel
theorem dX4_copy_70 : decode cX4_copy 70 = .ok (.getfield 105, 3) := by decide +kernel
theorem dX4_copy_73 : decode cX4_copy 73 = .ok (.iload_n 1, 1) := by decide +kernel
theorem dX4_copy_74 : decode cX4_copy 74 = .ok (.iaload, 1) := by decide +kernel
theorem dX4_copy_75 : decode cX4_copy 75 = .ok (.invokestatic 111, 3) := by decide +kernel
theorem dX4_copy_78 : decode cX4_copy 78 = .ok (.ifCond .eq 22, 3) := by decide +kernel
theorem dX4_copy_81 : decode cX4_copy 81 = .ok (.iload 4, 2) := by decide +kernel
theorem dX4_copy_83 : decode cX4_copy 83 = .ok (.iload 5, 2) := by decide +kernel
theorem dX4_copy_85 : decode cX4_copy 85 = .ok (.aload_n 0, 1) := by decide +kernel
theorem dX4_copy_86 : decode cX4_copy 86 = .ok (.getfield 14, 3) := by decide +kernel
theorem dX4_copy_89 : decode cX4_copy 89 = .ok (.getfield 105, 3) := by decide +kernel
theorem dX4_copy_92 : decode cX4_copy 92 = .ok (.iload_n 3, 1) := by decide +kernel
theorem dX4_copy_93 : decode cX4_copy 93 = .ok (.iaload, 1) := by decide +kernel
theorem dX4_copy_94 : decode cX4_copy 94 = .ok (.invokestatic 111, 3) := by decide +kernel
theorem dX4_copy_97 : decode cX4_copy 97 = .ok (.ifCond .ne 9, 3) := by decide +kernel
theorem dX4_copy_100 : decode cX4_copy 100 = .ok (.aload_n 0, 1) := by decide +kernel
theorem dX4_copy_101 : decode cX4_copy 101 = .ok (.iconst 2, 1) := by decide +kernel
theorem dX4_copy_102 : decode cX4_copy 102 = .ok (.invokevirtual 82, 3) := by decide +kernel
theorem dX4_copy_105 : decode cX4_copy 105 = .ok (.ireturn, 1) := by decide +kernel
theorem dX4_copy_106 : decode cX4_copy 106 = .ok (.aload_n 0, 1) := by decide +kernel
theorem dX4_copy_107 : decode cX4_copy 107 = .ok (.getfield 14, 3) := by decide +kernel
theorem dX4_copy_110 : decode cX4_copy 110 = .ok (.getfield 94, 3) := by decide +kernel
theorem dX4_copy_113 : decode cX4_copy 113 = .ok (.iload_n 1, 1) := by decide +kernel
theorem dX4_copy_114 : decode cX4_copy 114 = .ok (.aaload, 1) := by decide +kernel
theorem dX4_copy_115 : decode cX4_copy 115 = .ok (.iload_n 2, 1) := by decide +kernel
theorem dX4_copy_116 : decode cX4_copy 116 = .ok (.aload_n 0, 1) := by decide +kernel
theorem dX4_copy_117 : decode cX4_copy 117 = .ok (.getfield 14, 3) := by decide +kernel
theorem dX4_copy_120 : decode cX4_copy 120 = .ok (.getfield 94, 3) := by decide +kernel
theorem dX4_copy_123 : decode cX4_copy 123 = .ok (.iload_n 3, 1) := by decide +kernel
theorem dX4_copy_124 : decode cX4_copy 124 = .ok (.aaload, 1) := by decide +kernel
theorem dX4_copy_125 : decode cX4_copy 125 = .ok (.iload 4, 2) := by decide +kernel
theorem dX4_copy_127 : decode cX4_copy 127 = .ok (.iload 5, 2) := by decide +kernel
theorem dX4_copy_129 : decode cX4_copy 129 = .ok (.invokestatic 115, 3) := by decide +kernel
theorem dX4_copy_132 : decode cX4_copy 132 = .ok (.iconst 1, 1) := by decide +kernel
theorem dX4_copy_133 : decode cX4_copy 133 = .ok (.ireturn, 1) := by decide +kernel
theorem dX4_mean_0 : decode cX4_mean 0 = .ok (.aload_n 0, 1) := by decide +kernel
theorem dX4_mean_1 : decode cX4_mean 1 = .ok (.aload_n 0, 1) := by decide +kernel
theorem dX4_mean_2 : decode cX4_mean 2 = .ok (.getfield 14, 3) := by decide +kernel
theorem dX4_mean_5 : decode cX4_mean 5 = .ok (.iload_n 1, 1) := by decide +kernel
theorem dX4_mean_6 : decode cX4_mean 6 = .ok (.invokevirtual 101, 3) := by decide +kernel
theorem dX4_mean_9 : decode cX4_mean 9 = .ok (.istore_n 2, 1) := by decide +kernel
theorem dX4_mean_10 : decode cX4_mean 10 = .ok (.iload_n 2, 1) := by decide +kernel
theorem dX4_mean_11 : decode cX4_mean 11 = .ok (.ifCond .eq 5, 3) := by decide +kernel
theorem dX4_mean_14 : decode cX4_mean 14 = .ok (.iload_n 2, 1) := by decide +kernel
theorem dX4_mean_15 : decode cX4_mean 15 = .ok (.ireturn, 1) := by decide +kernel
theorem dX4_mean_16 : decode cX4_mean 16 = .ok (.aload_n 0, 1) := by decide +kernel
theorem dX4_mean_17 : decode cX4_mean 17 = .ok (.getfield 14, 3) := by decide +kernel
theorem dX4_mean_20 : decode cX4_mean 20 = .ok (.getfield 105, 3) := by decide +kernel
theorem dX4_mean_23 : decode cX4_mean 23 = .ok (.iload_n 1, 1) := by decide +kernel
theorem dX4_mean_24 : decode cX4_mean 24 = .ok (.iaload, 1) := by decide +kernel
theorem dX4_mean_25 : decode cX4_mean 25 = .ok (.istore_n 3, 1) := by decide +kernel
theorem dX4_mean_26 : decode cX4_mean 26 = .ok (.iload_n 3, 1) := by decide +kernel
theorem dX4_mean_27 : decode cX4_mean 27 = .ok (.ifCond .gt 9, 3) := by decide +kernel
theorem dX4_mean_30 : decode cX4_mean 30 = .ok (.aload_n 0, 1) := by decide +kernel
theorem dX4_mean_31 : decode cX4_mean 31 = .ok (.iconst 4, 1) := by decide +kernel
theorem dX4_mean_32 : decode cX4_mean 32 = .ok (.invokevirtual 82, 3) := by decide +kernel
theorem dX4_mean_35 : decode cX4_mean 35 = .ok (.ireturn, 1) := by decide +kernel
theorem dX4_mean_36 : decode cX4_mean 36 = .ok (.lconst 0, 1) := by decide +kernel
theorem dX4_mean_37 : decode cX4_mean 37 = .ok (.lstore 4, 2) := by decide +kernel
theorem dX4_mean_39 : decode cX4_mean 39 = .ok (.iconst 0, 1) := by decide +kernel
theorem dX4_mean_40 : decode cX4_mean 40 = .ok (.istore 6, 2) := by decide +kernel
theorem dX4_mean_42 : decode cX4_mean 42 = .ok (.iload 6, 2) := by decide +kernel
theorem dX4_mean_44 : decode cX4_mean 44 = .ok (.iload_n 3, 1) := by decide +kernel
theorem dX4_mean_45 : decode cX4_mean 45 = .ok (.if_icmp .ge 27, 3) := by decide +kernel
theorem dX4_mean_48 : decode cX4_mean 48 = .ok (.lload 4, 2) := by decide +kernel
theorem dX4_mean_50 : decode cX4_mean 50 = .ok (.aload_n 0, 1) := by decide +kernel
theorem dX4_mean_51 : decode cX4_mean 51 = .ok (.getfield 14, 3) := by decide +kernel
theorem dX4_mean_54 : decode cX4_mean 54 = .ok (.getfield 94, 3) := by decide +kernel
theorem dX4_mean_57 : decode cX4_mean 57 = .ok (.iload_n 1, 1) := by decide +kernel
theorem dX4_mean_58 : decode cX4_mean 58 = .ok (.aaload, 1) := by decide +kernel
theorem dX4_mean_59 : decode cX4_mean 59 = .ok (.iload 6, 2) := by decide +kernel
theorem dX4_mean_61 : decode cX4_mean 61 = .ok (.iaload, 1) := by decide +kernel
theorem dX4_mean_62 : decode cX4_mean 62 = .ok (.i2l, 1) := by decide +kernel
theorem dX4_mean_63 : decode cX4_mean 63 = .ok (.ladd, 1) := by decide +kernel
theorem dX4_mean_64 : decode cX4_mean 64 = .ok (.lstore 4, 2) := by decide +kernel
theorem dX4_mean_66 : decode cX4_mean 66 = .ok (.iinc 6 1, 3) := by decide +kernel
theorem dX4_mean_69 : decode cX4_mean 69 = .ok (.goto (-27), 3) := by decide +kernel
theorem dX4_mean_72 : decode cX4_mean 72 = .ok (.aload_n 0, 1) := by decide +kernel
theorem dX4_mean_73 : decode cX4_mean 73 = .ok (.lload 4, 2) := by decide +kernel
theorem dX4_mean_75 : decode cX4_mean 75 = .ok (.iload_n 3, 1) := by decide +kernel
theorem dX4_mean_76 : decode cX4_mean 76 = .ok (.i2l, 1) := by decide +kernel
theorem dX4_mean_77 : decode cX4_mean 77 = .ok (.ldiv, 1) := by decide +kernel
theorem dX4_mean_78 : decode cX4_mean 78 = .ok (.l2i, 1) := by decide +kernel
theorem dX4_mean_79 : decode cX4_mean 79 = .ok (.putfield 97, 3) := by decide +kernel
theorem dX4_mean_82 : decode cX4_mean 82 = .ok (.iconst 1, 1) := by decide +kernel
theorem dX4_mean_83 : decode cX4_mean 83 = .ok (.ireturn, 1) := by decide +kernel
theorem dX4_text_0 : decode cX4_text 0 = .ok (.aload_n 0, 1) := by decide +kernel
theorem dX4_text_1 : decode cX4_text 1 = .ok (.getfield 18, 3) := by decide +kernel
theorem dX4_text_4 : decode cX4_text 4 = .ok (.iload_n 1, 1) := by decide +kernel
theorem dX4_text_5 : decode cX4_text 5 = .ok (.invokevirtual 78, 3) := by decide +kernel
theorem dX4_text_8 : decode cX4_text 8 = .ok (.ifCond .eq 9, 3) := by decide +kernel
theorem dX4_text_11 : decode cX4_text 11 = .ok (.iload_n 2, 1) := by decide +kernel
theorem dX4_text_12 : decode cX4_text 12 = .ok (.bipush 60, 2) := by decide +kernel
theorem dX4_text_14 : decode cX4_text 14 = .ok (.if_icmp .le 5, 3) := by decide +kernel
theorem dX4_text_17 : decode cX4_text 17 = .ok (.iconst (-1), 1) := by decide +kernel
theorem dX4_text_18 : decode cX4_text 18 = .ok (.ireturn, 1) := by decide +kernel
theorem dX4_text_19 : decode cX4_text 19 = .ok (.iload_n 2, 1) := by decide +kernel
theorem dX4_text_20 : decode cX4_text 20 = .ok (.ifCond .ge 9, 3) := by decide +kernel
theorem dX4_text_23 : decode cX4_text 23 = .ok (.aload_n 0, 1) := by decide +kernel
theorem dX4_text_24 : decode cX4_text 24 = .ok (.iconst 5, 1) := by decide +kernel
theorem dX4_text_25 : decode cX4_text 25 = .ok (.invokevirtual 82, 3) := by decide +kernel
theorem dX4_text_28 : decode cX4_text 28 = .ok (.ireturn, 1) := by decide +kernel
theorem dX4_text_29 : decode cX4_text 29 = .ok (.aload_n 0, 1) := by decide +kernel
theorem dX4_text_30 : decode cX4_text 30 = .ok (.getfield 18, 3) := by decide +kernel
theorem dX4_text_33 : decode cX4_text 33 = .ok (.iload_n 1, 1) := by decide +kernel
theorem dX4_text_34 : decode cX4_text 34 = .ok (.iload_n 2, 1) := by decide +kernel
theorem dX4_text_35 : decode cX4_text 35 = .ok (.bipush 32, 2) := by decide +kernel
theorem dX4_text_37 : decode cX4_text 37 = .ok (.invokevirtual 86, 3) := by decide +kernel
theorem dX4_text_40 : decode cX4_text 40 = .ok (.iload_n 2, 1) := by decide +kernel
theorem dX4_text_41 : decode cX4_text 41 = .ok (.ireturn, 1) := by decide +kernel
theorem dX4_put_0 : decode cX4_put 0 = .ok (.aload_n 0, 1) := by decide +kernel
theorem dX4_put_1 : decode cX4_put 1 = .ok (.aload_n 0, 1) := by decide +kernel
theorem dX4_put_2 : decode cX4_put 2 = .ok (.getfield 18, 3) := by decide +kernel
theorem dX4_put_5 : decode cX4_put 5 = .ok (.iload_n 1, 1) := by decide +kernel
theorem dX4_put_6 : decode cX4_put 6 = .ok (.iload_n 2, 1) := by decide +kernel
theorem dX4_put_7 : decode cX4_put 7 = .ok (.invokevirtual 90, 3) := by decide +kernel
theorem dX4_put_10 : decode cX4_put 10 = .ok (.istore 4, 2) := by decide +kernel
theorem dX4_put_12 : decode cX4_put 12 = .ok (.iload 4, 2) := by decide +kernel
theorem dX4_put_14 : decode cX4_put 14 = .ok (.ifCond .eq 6, 3) := by decide +kernel
theorem dX4_put_17 : decode cX4_put 17 = .ok (.iload 4, 2) := by decide +kernel
theorem dX4_put_19 : decode cX4_put 19 = .ok (.ireturn, 1) := by decide +kernel
theorem dX4_put_20 : decode cX4_put 20 = .ok (.aload_n 0, 1) := by decide +kernel
theorem dX4_put_21 : decode cX4_put 21 = .ok (.getfield 18, 3) := by decide +kernel
theorem dX4_put_24 : decode cX4_put 24 = .ok (.getfield 94, 3) := by decide +kernel
theorem dX4_put_27 : decode cX4_put 27 = .ok (.iload_n 1, 1) := by decide +kernel
theorem dX4_put_28 : decode cX4_put 28 = .ok (.aaload, 1) := by decide +kernel
theorem dX4_put_29 : decode cX4_put 29 = .ok (.iload_n 2, 1) := by decide +kernel
theorem dX4_put_30 : decode cX4_put 30 = .ok (.iaload, 1) := by decide +kernel
theorem dX4_put_31 : decode cX4_put 31 = .ok (.istore 5, 2) := by decide +kernel
theorem dX4_put_33 : decode cX4_put 33 = .ok (.aload_n 0, 1) := by decide +kernel
theorem dX4_put_34 : decode cX4_put 34 = .ok (.getfield 18, 3) := by decide +kernel
theorem dX4_put_37 : decode cX4_put 37 = .ok (.getfield 94, 3) := by decide +kernel
theorem dX4_put_40 : decode cX4_put 40 = .ok (.iload_n 1, 1) := by decide +kernel
theorem dX4_put_41 : decode cX4_put 41 = .ok (.aaload, 1) := by decide +kernel
theorem dX4_put_42 : decode cX4_put 42 = .ok (.iload_n 2, 1) := by decide +kernel
theorem dX4_put_43 : decode cX4_put 43 = .ok (.iload_n 3, 1) := by decide +kernel
theorem dX4_put_44 : decode cX4_put 44 = .ok (.i2b, 1) := by decide +kernel
theorem dX4_put_45 : decode cX4_put 45 = .ok (.iastore, 1) := by decide +kernel
theorem dX4_put_46 : decode cX4_put 46 = .ok (.iload 5, 2) := by decide +kernel
theorem dX4_put_48 : decode cX4_put 48 = .ok (.sipush 1000, 3) := by decide +kernel
theorem dX4_put_51 : decode cX4_put 51 = .ok (.iadd, 1) := by decide +kernel
theorem dX4_put_52 : decode cX4_put 52 = .ok (.ireturn, 1) := by decide +kernel
theorem dX4_fault_0 : decode cX4_fault 0 = .ok (.aload_n 0, 1) := by decide +kernel
theorem dX4_fault_1 : decode cX4_fault 1 = .ok (.aload_n 0, 1) := by decide +kernel
theorem dX4_fault_2 : decode cX4_fault 2 = .ok (.getfield 18, 3) := by decide +kernel
theorem dX4_fault_5 : decode cX4_fault 5 = .ok (.iload_n 1, 1) := by decide +kernel
theorem dX4_fault_6 : decode cX4_fault 6 = .ok (.invokevirtual 101, 3) := by decide +kernel
theorem dX4_fault_9 : decode cX4_fault 9 = .ok (.istore_n 2, 1) := by decide +kernel
theorem dX4_fault_10 : decode cX4_fault 10 = .ok (.iload_n 2, 1) := by decide +kernel
theorem dX4_fault_11 : decode cX4_fault 11 = .ok (.ifCond .eq 5, 3) := by decide +kernel
theorem dX4_fault_14 : decode cX4_fault 14 = .ok (.iload_n 2, 1) := by decide +kernel
theorem dX4_fault_15 : decode cX4_fault 15 = .ok (.ireturn, 1) := by decide +kernel
theorem dX4_fault_16 : decode cX4_fault 16 = .ok (.aload_n 0, 1) := by decide +kernel
theorem dX4_fault_17 : decode cX4_fault 17 = .ok (.getfield 42, 3) := by decide +kernel
theorem dX4_fault_20 : decode cX4_fault 20 = .ok (.aload_n 0, 1) := by decide +kernel
theorem dX4_fault_21 : decode cX4_fault 21 = .ok (.getfield 28, 3) := by decide +kernel
theorem dX4_fault_24 : decode cX4_fault 24 = .ok (.aload_n 0, 1) := by decide +kernel
theorem dX4_fault_25 : decode cX4_fault 25 = .ok (.getfield 18, 3) := by decide +kernel
theorem dX4_fault_28 : decode cX4_fault 28 = .ok (.getfield 94, 3) := by decide +kernel
theorem dX4_fault_31 : decode cX4_fault 31 = .ok (.iload_n 1, 1) := by decide +kernel
theorem dX4_fault_32 : decode cX4_fault 32 = .ok (.aaload, 1) := by decide +kernel
theorem dX4_fault_33 : decode cX4_fault 33 = .ok (.aload_n 0, 1) := by decide +kernel
theorem dX4_fault_34 : decode cX4_fault 34 = .ok (.getfield 18, 3) := by decide +kernel
theorem dX4_fault_37 : decode cX4_fault 37 = .ok (.getfield 105, 3) := by decide +kernel
theorem dX4_fault_40 : decode cX4_fault 40 = .ok (.iload_n 1, 1) := by decide +kernel
theorem dX4_fault_41 : decode cX4_fault 41 = .ok (.iaload, 1) := by decide +kernel
theorem dX4_fault_42 : decode cX4_fault 42 = .ok (.invokevirtual 121, 3) := by decide +kernel
theorem dX4_fault_45 : decode cX4_fault 45 = .ok (.ireturn, 1) := by decide +kernel
theorem dX4_line_0 : decode cX4_line 0 = .ok (.aload_n 0, 1) := by decide +kernel
theorem dX4_line_1 : decode cX4_line 1 = .ok (.aload_n 0, 1) := by decide +kernel
theorem dX4_line_2 : decode cX4_line 2 = .ok (.getfield 18, 3) := by decide +kernel
theorem dX4_line_5 : decode cX4_line 5 = .ok (.iload_n 1, 1) := by decide +kernel
theorem dX4_line_6 : decode cX4_line 6 = .ok (.invokevirtual 101, 3) := by decide +kernel
theorem dX4_line_9 : decode cX4_line 9 = .ok (.istore_n 2, 1) := by decide +kernel
theorem dX4_line_10 : decode cX4_line 10 = .ok (.iload_n 2, 1) := by decide +kernel
theorem dX4_line_11 : decode cX4_line 11 = .ok (.ifCond .eq 5, 3) := by decide +kernel
theorem dX4_line_14 : decode cX4_line 14 = .ok (.iload_n 2, 1) := by decide +kernel
theorem dX4_line_15 : decode cX4_line 15 = .ok (.ireturn, 1) := by decide +kernel
theorem dX4_line_16 : decode cX4_line 16 = .ok (.aload_n 0, 1) := by decide +kernel
theorem dX4_line_17 : decode cX4_line 17 = .ok (.getfield 42, 3) := by decide +kernel
theorem dX4_line_20 : decode cX4_line 20 = .ok (.aload_n 0, 1) := by decide +kernel
theorem dX4_line_21 : decode cX4_line 21 = .ok (.getfield 28, 3) := by decide +kernel
theorem dX4_line_24 : decode cX4_line 24 = .ok (.aload_n 0, 1) := by decide +kernel
theorem dX4_line_25 : decode cX4_line 25 = .ok (.getfield 18, 3) := by decide +kernel
theorem dX4_line_28 : decode cX4_line 28 = .ok (.getfield 94, 3) := by decide +kernel
theorem dX4_line_31 : decode cX4_line 31 = .ok (.iload_n 1, 1) := by decide +kernel
theorem dX4_line_32 : decode cX4_line 32 = .ok (.aaload, 1) := by decide +kernel
theorem dX4_line_33 : decode cX4_line 33 = .ok (.aload_n 0, 1) := by decide +kernel
theorem dX4_line_34 : decode cX4_line 34 = .ok (.getfield 18, 3) := by decide +kernel
theorem dX4_line_37 : decode cX4_line 37 = .ok (.getfield 105, 3) := by decide +kernel
theorem dX4_line_40 : decode cX4_line 40 = .ok (.iload_n 1, 1) := by decide +kernel
theorem dX4_line_41 : decode cX4_line 41 = .ok (.iaload, 1) := by decide +kernel
theorem dX4_line_42 : decode cX4_line 42 = .ok (.invokevirtual 121, 3) := by decide +kernel
theorem dX4_line_45 : decode cX4_line 45 = .ok (.bipush (-9), 2) := by decide +kernel
theorem dX4_line_47 : decode cX4_line 47 = .ok (.if_icmp .eq 6, 3) := by decide +kernel
theorem dX4_line_50 : decode cX4_line 50 = .ok (.bipush (-4), 2) := by decide +kernel
theorem dX4_line_52 : decode cX4_line 52 = .ok (.ireturn, 1) := by decide +kernel
theorem dX4_line_53 : decode cX4_line 53 = .ok (.aload_n 0, 1) := by decide +kernel
theorem dX4_line_54 : decode cX4_line 54 = .ok (.getfield 24, 3) := by decide +kernel
theorem dX4_line_57 : decode cX4_line 57 = .ok (.aload_n 0, 1) := by decide +kernel
theorem dX4_line_58 : decode cX4_line 58 = .ok (.getfield 28, 3) := by decide +kernel
theorem dX4_line_61 : decode cX4_line 61 = .ok (.invokevirtual 125, 3) := by decide +kernel
theorem dX4_line_64 : decode cX4_line 64 = .ok (.iconst 0, 1) := by decide +kernel
theorem dX4_line_65 : decode cX4_line 65 = .ok (.istore_n 3, 1) := by decide +kernel
theorem dX4_line_66 : decode cX4_line 66 = .ok (.iload_n 3, 1) := by decide +kernel
theorem dX4_line_67 : decode cX4_line 67 = .ok (.iconst 3, 1) := by decide +kernel
theorem dX4_line_68 : decode cX4_line 68 = .ok (.if_icmp .ge 16, 3) := by decide +kernel
theorem dX4_line_71 : decode cX4_line 71 = .ok (.aload_n 0, 1) := by decide +kernel
theorem dX4_line_72 : decode cX4_line 72 = .ok (.getfield 35, 3) := by decide +kernel
theorem dX4_line_75 : decode cX4_line 75 = .ok (.iload_n 3, 1) := by decide +kernel
theorem dX4_line_76 : decode cX4_line 76 = .ok (.iconst 0, 1) := by decide +kernel
theorem dX4_line_77 : decode cX4_line 77 = .ok (.bastore, 1) := by decide +kernel
theorem dX4_line_78 : decode cX4_line 78 = .ok (.iinc 3 1, 3) := by decide +kernel
theorem dX4_line_81 : decode cX4_line 81 = .ok (.goto (-15), 3) := by decide +kernel
theorem dX4_line_84 : decode cX4_line 84 = .ok (.aload_n 0, 1) := by decide +kernel
theorem dX4_line_85 : decode cX4_line 85 = .ok (.getfield 24, 3) := by decide +kernel
theorem dX4_line_88 : decode cX4_line 88 = .ok (.getfield 129, 3) := by decide +kernel
theorem dX4_line_91 : decode cX4_line 91 = .ok (.ireturn, 1) := by decide +kernel
theorem dX4_sleeper_0 : decode cX4_sleeper 0 = .ok (.iload_n 1, 1) := by decide +kernel
theorem dX4_sleeper_1 : decode cX4_sleeper 1 = .ok (.aload_n 0, 1) := by decide +kernel
theorem dX4_sleeper_2 : decode cX4_sleeper 2 = .ok (.getfield 24, 3) := by decide +kernel
theorem dX4_sleeper_5 : decode cX4_sleeper 5 = .ok (.getfield 129, 3) := by decide +kernel
theorem dX4_sleeper_8 : decode cX4_sleeper 8 = .ok (.invokestatic 132, 3) := by decide +kernel
theorem dX4_sleeper_11 : decode cX4_sleeper 11 = .ok (.ifCond .eq 11, 3) := by decide +kernel
theorem dX4_sleeper_14 : decode cX4_sleeper 14 = .ok (.iload_n 2, 1) := by decide +kernel
theorem dX4_sleeper_15 : decode cX4_sleeper 15 = .ok (.iconst 5, 1) := by decide +kernel
theorem dX4_sleeper_16 : decode cX4_sleeper 16 = .ok (.invokestatic 132, 3) := by decide +kernel
theorem dX4_sleeper_19 : decode cX4_sleeper 19 = .ok (.ifCond .ne 5, 3) := by decide +kernel
theorem dX4_sleeper_22 : decode cX4_sleeper 22 = .ok (.iconst (-1), 1) := by decide +kernel
theorem dX4_sleeper_23 : decode cX4_sleeper 23 = .ok (.ireturn, 1) := by decide +kernel
theorem dX4_sleeper_24 : decode cX4_sleeper 24 = .ok (.aload_n 0, 1) := by decide +kernel
theorem dX4_sleeper_25 : decode cX4_sleeper 25 = .ok (.aload_n 0, 1) := by decide +kernel
theorem dX4_sleeper_26 : decode cX4_sleeper 26 = .ok (.iload_n 1, 1) := by decide +kernel
theorem dX4_sleeper_27 : decode cX4_sleeper 27 = .ok (.iload_n 2, 1) := by decide +kernel
theorem dX4_sleeper_28 : decode cX4_sleeper 28 = .ok (.invokevirtual 136, 3) := by decide +kernel
theorem dX4_sleeper_31 : decode cX4_sleeper 31 = .ok (.putfield 97, 3) := by decide +kernel
theorem dX4_sleeper_34 : decode cX4_sleeper 34 = .ok (.iconst 1, 1) := by decide +kernel
theorem dX4_sleeper_35 : decode cX4_sleeper 35 = .ok (.ireturn, 1) := by decide +kernel
theorem dX4_mark_0 : decode cX4_mark 0 = .ok (.iload_n 1, 1) := by decide +kernel
theorem dX4_mark_1 : decode cX4_mark 1 = .ok (.aload_n 0, 1) := by decide +kernel
theorem dX4_mark_2 : decode cX4_mark 2 = .ok (.getfield 24, 3) := by decide +kernel
theorem dX4_mark_5 : decode cX4_mark 5 = .ok (.getfield 129, 3) := by decide +kernel
theorem dX4_mark_8 : decode cX4_mark 8 = .ok (.invokestatic 132, 3) := by decide +kernel
theorem dX4_mark_11 : decode cX4_mark 11 = .ok (.ifCond .eq 16, 3) := by decide +kernel
theorem dX4_mark_14 : decode cX4_mark 14 = .ok (.iload_n 2, 1) := by decide +kernel
theorem dX4_mark_15 : decode cX4_mark 15 = .ok (.ifCond .eq 12, 3) := by decide +kernel
theorem dX4_mark_18 : decode cX4_mark 18 = .ok (.iload_n 2, 1) := by decide +kernel
theorem dX4_mark_19 : decode cX4_mark 19 = .ok (.bipush 6, 2) := by decide +kernel
theorem dX4_mark_21 : decode cX4_mark 21 = .ok (.invokestatic 132, 3) := by decide +kernel
theorem dX4_mark_24 : decode cX4_mark 24 = .ok (.ifCond .ne 5, 3) := by decide +kernel
theorem dX4_mark_27 : decode cX4_mark 27 = .ok (.iconst (-1), 1) := by decide +kernel
theorem dX4_mark_28 : decode cX4_mark 28 = .ok (.ireturn, 1) := by decide +kernel
theorem dX4_mark_29 : decode cX4_mark 29 = .ok (.aload_n 0, 1) := by decide +kernel
theorem dX4_mark_30 : decode cX4_mark 30 = .ok (.getfield 24, 3) := by decide +kernel
theorem dX4_mark_33 : decode cX4_mark 33 = .ok (.getfield 140, 3) := by decide +kernel
theorem dX4_mark_36 : decode cX4_mark 36 = .ok (.iload_n 1, 1) := by decide +kernel
theorem dX4_mark_37 : decode cX4_mark 37 = .ok (.iaload, 1) := by decide +kernel
theorem dX4_mark_38 : decode cX4_mark 38 = .ok (.istore_n 3, 1) := by decide +kernel
theorem dX4_mark_39 : decode cX4_mark 39 = .ok (.iload_n 3, 1) := by decide +kernel
theorem dX4_mark_40 : decode cX4_mark 40 = .ok (.iload_n 2, 1) := by decide +kernel
theorem dX4_mark_41 : decode cX4_mark 41 = .ok (.if_icmp .eq 18, 3) := by decide +kernel
theorem dX4_mark_44 : decode cX4_mark 44 = .ok (.getstatic 143, 3) := by decide +kernel
theorem dX4_mark_47 : decode cX4_mark 47 = .ok (.iload_n 3, 1) := by decide +kernel
theorem dX4_mark_48 : decode cX4_mark 48 = .ok (.iaload, 1) := by decide +kernel
theorem dX4_mark_49 : decode cX4_mark 49 = .ok (.iload_n 2, 1) := by decide +kernel
theorem dX4_mark_50 : decode cX4_mark 50 = .ok (.if_icmp .eq 9, 3) := by decide +kernel
theorem dX4_mark_53 : decode cX4_mark 53 = .ok (.aload_n 0, 1) := by decide +kernel
theorem dX4_mark_54 : decode cX4_mark 54 = .ok (.iconst 3, 1) := by decide +kernel
theorem dX4_mark_55 : decode cX4_mark 55 = .ok (.invokevirtual 82, 3) := by decide +kernel
theorem dX4_mark_58 : decode cX4_mark 58 = .ok (.ireturn, 1) := by decide +kernel
theorem dX4_mark_59 : decode cX4_mark 59 = .ok (.aload_n 0, 1) := by decide +kernel
theorem dX4_mark_60 : decode cX4_mark 60 = .ok (.getfield 24, 3) := by decide +kernel
theorem dX4_mark_63 : decode cX4_mark 63 = .ok (.getfield 146, 3) := by decide +kernel
theorem dX4_mark_66 : decode cX4_mark 66 = .ok (.iload_n 1, 1) := by decide +kernel
theorem dX4_mark_67 : decode cX4_mark 67 = .ok (.iaload, 1) := by decide +kernel
theorem dX4_mark_68 : decode cX4_mark 68 = .ok (.istore 4, 2) := by decide +kernel
theorem dX4_mark_70 : decode cX4_mark 70 = .ok (.iload_n 2, 1) := by decide +kernel
theorem dX4_mark_71 : decode cX4_mark 71 = .ok (.tableswitch 71 1 5 #[33, 40, 71, 71, 57], 33) := by decide +kernel
theorem dX4_mark_104 : decode cX4_mark 104 = .ok (.iload_n 3, 1) := by decide +kernel
theorem dX4_mark_105 : decode cX4_mark 105 = .ok (.iload 4, 2) := by decide +kernel
theorem dX4_mark_107 : decode cX4_mark 107 = .ok (.invokestatic 149, 3) := by decide +kernel
theorem dX4_mark_110 : decode cX4_mark 110 = .ok (.ireturn, 1) := by decide +kernel
theorem dX4_mark_111 : decode cX4_mark 111 = .ok (.iload_n 3, 1) := by decide +kernel
theorem dX4_mark_112 : decode cX4_mark 112 = .ok (.iload 4, 2) := by decide +kernel
theorem dX4_mark_114 : decode cX4_mark 114 = .ok (.invokestatic 149, 3) := by decide +kernel
theorem dX4_mark_117 : decode cX4_mark 117 = .ok (.iconst 0, 1) := by decide +kernel
theorem dX4_mark_118 : decode cX4_mark 118 = .ok (.iload 4, 2) := by decide +kernel
theorem dX4_mark_120 : decode cX4_mark 120 = .ok (.invokestatic 149, 3) := by decide +kernel
theorem dX4_mark_123 : decode cX4_mark 123 = .ok (.isub, 1) := by decide +kernel
theorem dX4_mark_124 : decode cX4_mark 124 = .ok (.bipush 100, 2) := by decide +kernel
theorem dX4_mark_126 : decode cX4_mark 126 = .ok (.iadd, 1) := by decide +kernel
theorem dX4_mark_127 : decode cX4_mark 127 = .ok (.ireturn, 1) := by decide +kernel
theorem dX4_mark_128 : decode cX4_mark 128 = .ok (.iconst 2, 1) := by decide +kernel
theorem dX4_mark_129 : decode cX4_mark 129 = .ok (.iload 4, 2) := by decide +kernel
theorem dX4_mark_131 : decode cX4_mark 131 = .ok (.invokestatic 149, 3) := by decide +kernel
theorem dX4_mark_134 : decode cX4_mark 134 = .ok (.iload_n 3, 1) := by decide +kernel
theorem dX4_mark_135 : decode cX4_mark 135 = .ok (.iload 4, 2) := by decide +kernel
theorem dX4_mark_137 : decode cX4_mark 137 = .ok (.invokestatic 149, 3) := by decide +kernel
theorem dX4_mark_140 : decode cX4_mark 140 = .ok (.isub, 1) := by decide +kernel
theorem dX4_mark_141 : decode cX4_mark 141 = .ok (.ireturn, 1) := by decide +kernel
theorem dX4_mark_142 : decode cX4_mark 142 = .ok (.iload_n 3, 1) := by decide +kernel
theorem dX4_mark_143 : decode cX4_mark 143 = .ok (.iload 4, 2) := by decide +kernel
theorem dX4_mark_145 : decode cX4_mark 145 = .ok (.invokestatic 152, 3) := by decide +kernel
theorem dX4_mark_148 : decode cX4_mark 148 = .ok (.ireturn, 1) := by decide +kernel
theorem dX4_dreams_0 : decode cX4_dreams 0 = .ok (.iload_n 1, 1) := by decide +kernel
theorem dX4_dreams_1 : decode cX4_dreams 1 = .ok (.aload_n 0, 1) := by decide +kernel
theorem dX4_dreams_2 : decode cX4_dreams 2 = .ok (.getfield 24, 3) := by decide +kernel
theorem dX4_dreams_5 : decode cX4_dreams 5 = .ok (.getfield 129, 3) := by decide +kernel
theorem dX4_dreams_8 : decode cX4_dreams 8 = .ok (.invokestatic 132, 3) := by decide +kernel
theorem dX4_dreams_11 : decode cX4_dreams 11 = .ok (.ifCond .eq 12, 3) := by decide +kernel
theorem dX4_dreams_14 : decode cX4_dreams 14 = .ok (.iload_n 2, 1) := by decide +kernel
theorem dX4_dreams_15 : decode cX4_dreams 15 = .ok (.bipush 100, 2) := by decide +kernel
theorem dX4_dreams_17 : decode cX4_dreams 17 = .ok (.invokestatic 132, 3) := by decide +kernel
theorem dX4_dreams_20 : decode cX4_dreams 20 = .ok (.ifCond .ne 5, 3) := by decide +kernel
theorem dX4_dreams_23 : decode cX4_dreams 23 = .ok (.iconst (-1), 1) := by decide +kernel
theorem dX4_dreams_24 : decode cX4_dreams 24 = .ok (.ireturn, 1) := by decide +kernel
theorem dX4_dreams_25 : decode cX4_dreams 25 = .ok (.aload_n 0, 1) := by decide +kernel
theorem dX4_dreams_26 : decode cX4_dreams 26 = .ok (.getfield 24, 3) := by decide +kernel
theorem dX4_dreams_29 : decode cX4_dreams 29 = .ok (.getfield 140, 3) := by decide +kernel
theorem dX4_dreams_32 : decode cX4_dreams 32 = .ok (.iload_n 1, 1) := by decide +kernel
theorem dX4_dreams_33 : decode cX4_dreams 33 = .ok (.iaload, 1) := by decide +kernel
theorem dX4_dreams_34 : decode cX4_dreams 34 = .ok (.aload_n 0, 1) := by decide +kernel
theorem dX4_dreams_35 : decode cX4_dreams 35 = .ok (.getfield 24, 3) := by decide +kernel
theorem dX4_dreams_38 : decode cX4_dreams 38 = .ok (.getfield 146, 3) := by decide +kernel
theorem dX4_dreams_41 : decode cX4_dreams 41 = .ok (.iload_n 1, 1) := by decide +kernel
theorem dX4_dreams_42 : decode cX4_dreams 42 = .ok (.iaload, 1) := by decide +kernel
theorem dX4_dreams_43 : decode cX4_dreams 43 = .ok (.iload_n 2, 1) := by decide +kernel
theorem dX4_dreams_44 : decode cX4_dreams 44 = .ok (.invokestatic 155, 3) := by decide +kernel
theorem dX4_dreams_47 : decode cX4_dreams 47 = .ok (.invokestatic 158, 3) := by decide +kernel
theorem dX4_dreams_50 : decode cX4_dreams 50 = .ok (.ireturn, 1) := by decide +kernel
theorem dX4_minute_0 : decode cX4_minute 0 = .ok (.aload_n 0, 1) := by decide +kernel
theorem dX4_minute_1 : decode cX4_minute 1 = .ok (.getfield 24, 3) := by decide +kernel
theorem dX4_minute_4 : decode cX4_minute 4 = .ok (.getfield 129, 3) := by decide +kernel
theorem dX4_minute_7 : decode cX4_minute 7 = .ok (.ifCond .eq 15, 3) := by decide +kernel
theorem dX4_minute_10 : decode cX4_minute 10 = .ok (.aload_n 0, 1) := by decide +kernel
theorem dX4_minute_11 : decode cX4_minute 11 = .ok (.getfield 24, 3) := by decide +kernel
theorem dX4_minute_14 : decode cX4_minute 14 = .ok (.getfield 162, 3) := by decide +kernel
theorem dX4_minute_17 : decode cX4_minute 17 = .ok (.bipush 99, 2) := by decide +kernel
theorem dX4_minute_19 : decode cX4_minute 19 = .ok (.if_icmp .lt 6, 3) := by decide +kernel
theorem dX4_minute_22 : decode cX4_minute 22 = .ok (.bipush (-4), 2) := by decide +kernel
theorem dX4_minute_24 : decode cX4_minute 24 = .ok (.ireturn, 1) := by decide +kernel
theorem dX4_minute_25 : decode cX4_minute 25 = .ok (.aload_n 0, 1) := by decide +kernel
theorem dX4_minute_26 : decode cX4_minute 26 = .ok (.getfield 24, 3) := by decide +kernel
theorem dX4_minute_29 : decode cX4_minute 29 = .ok (.iconst 1, 1) := by decide +kernel
theorem dX4_minute_30 : decode cX4_minute 30 = .ok (.invokevirtual 165, 3) := by decide +kernel
theorem dX4_minute_33 : decode cX4_minute 33 = .ok (.ifCond .ne 6, 3) := by decide +kernel
theorem dX4_minute_36 : decode cX4_minute 36 = .ok (.bipush (-2), 2) := by decide +kernel
theorem dX4_minute_38 : decode cX4_minute 38 = .ok (.ireturn, 1) := by decide +kernel
theorem dX4_minute_39 : decode cX4_minute 39 = .ok (.aload_n 0, 1) := by decide +kernel
theorem dX4_minute_40 : decode cX4_minute 40 = .ok (.getfield 24, 3) := by decide +kernel
theorem dX4_minute_43 : decode cX4_minute 43 = .ok (.invokevirtual 168, 3) := by decide +kernel
theorem dX4_minute_46 : decode cX4_minute 46 = .ok (.aload_n 0, 1) := by decide +kernel
theorem dX4_minute_47 : decode cX4_minute 47 = .ok (.getfield 24, 3) := by decide +kernel
theorem dX4_minute_50 : decode cX4_minute 50 = .ok (.getfield 171, 3) := by decide +kernel
theorem dX4_minute_53 : decode cX4_minute 53 = .ok (.ireturn, 1) := by decide +kernel
theorem dX4_feed_0 : decode cX4_feed 0 = .ok (.iload_n 1, 1) := by decide +kernel
theorem dX4_feed_1 : decode cX4_feed 1 = .ok (.aload_n 0, 1) := by decide +kernel
theorem dX4_feed_2 : decode cX4_feed 2 = .ok (.getfield 24, 3) := by decide +kernel
theorem dX4_feed_5 : decode cX4_feed 5 = .ok (.getfield 129, 3) := by decide +kernel
theorem dX4_feed_8 : decode cX4_feed 8 = .ok (.invokestatic 132, 3) := by decide +kernel
theorem dX4_feed_11 : decode cX4_feed 11 = .ok (.ifCond .eq 12, 3) := by decide +kernel
theorem dX4_feed_14 : decode cX4_feed 14 = .ok (.iload_n 2, 1) := by decide +kernel
theorem dX4_feed_15 : decode cX4_feed 15 = .ok (.bipush 10, 2) := by decide +kernel
theorem dX4_feed_17 : decode cX4_feed 17 = .ok (.invokestatic 132, 3) := by decide +kernel
theorem dX4_feed_20 : decode cX4_feed 20 = .ok (.ifCond .ne 5, 3) := by decide +kernel
theorem dX4_feed_23 : decode cX4_feed 23 = .ok (.iconst (-1), 1) := by decide +kernel
theorem dX4_feed_24 : decode cX4_feed 24 = .ok (.ireturn, 1) := by decide +kernel
theorem dX4_feed_25 : decode cX4_feed 25 = .ok (.aload_n 0, 1) := by decide +kernel
theorem dX4_feed_26 : decode cX4_feed 26 = .ok (.getfield 24, 3) := by decide +kernel
theorem dX4_feed_29 : decode cX4_feed 29 = .ok (.iconst 1, 1) := by decide +kernel
theorem dX4_feed_30 : decode cX4_feed 30 = .ok (.invokevirtual 165, 3) := by decide +kernel
theorem dX4_feed_33 : decode cX4_feed 33 = .ok (.ifCond .ne 6, 3) := by decide +kernel
theorem dX4_feed_36 : decode cX4_feed 36 = .ok (.bipush (-2), 2) := by decide +kernel
theorem dX4_feed_38 : decode cX4_feed 38 = .ok (.ireturn, 1) := by decide +kernel
theorem dX4_feed_39 : decode cX4_feed 39 = .ok (.aload_n 0, 1) := by decide +kernel
theorem dX4_feed_40 : decode cX4_feed 40 = .ok (.getfield 24, 3) := by decide +kernel
theorem dX4_feed_43 : decode cX4_feed 43 = .ok (.getfield 146, 3) := by decide +kernel
theorem dX4_feed_46 : decode cX4_feed 46 = .ok (.iload_n 1, 1) := by decide +kernel
theorem dX4_feed_47 : decode cX4_feed 47 = .ok (.iaload, 1) := by decide +kernel
theorem dX4_feed_48 : decode cX4_feed 48 = .ok (.istore_n 3, 1) := by decide +kernel
theorem dX4_feed_49 : decode cX4_feed 49 = .ok (.aload_n 0, 1) := by decide +kernel
theorem dX4_feed_50 : decode cX4_feed 50 = .ok (.getfield 24, 3) := by decide +kernel
theorem dX4_feed_53 : decode cX4_feed 53 = .ok (.iload_n 1, 1) := by decide +kernel
theorem dX4_feed_54 : decode cX4_feed 54 = .ok (.iload_n 2, 1) := by decide +kernel
theorem dX4_feed_55 : decode cX4_feed 55 = .ok (.invokevirtual 174, 3) := by decide +kernel
theorem dX4_feed_58 : decode cX4_feed 58 = .ok (.iload_n 3, 1) := by decide +kernel
theorem dX4_feed_59 : decode cX4_feed 59 = .ok (.ireturn, 1) := by decide +kernel
theorem dX4_wake_0 : decode cX4_wake 0 = .ok (.iload_n 1, 1) := by decide +kernel
theorem dX4_wake_1 : decode cX4_wake 1 = .ok (.aload_n 0, 1) := by decide +kernel
theorem dX4_wake_2 : decode cX4_wake 2 = .ok (.getfield 24, 3) := by decide +kernel
theorem dX4_wake_5 : decode cX4_wake 5 = .ok (.getfield 129, 3) := by decide +kernel
theorem dX4_wake_8 : decode cX4_wake 8 = .ok (.invokestatic 132, 3) := by decide +kernel
theorem dX4_wake_11 : decode cX4_wake 11 = .ok (.ifCond .ne 5, 3) := by decide +kernel
theorem dX4_wake_14 : decode cX4_wake 14 = .ok (.iconst (-1), 1) := by decide +kernel
theorem dX4_wake_15 : decode cX4_wake 15 = .ok (.ireturn, 1) := by decide +kernel
theorem dX4_wake_16 : decode cX4_wake 16 = .ok (.aload_n 0, 1) := by decide +kernel
theorem dX4_wake_17 : decode cX4_wake 17 = .ok (.getfield 24, 3) := by decide +kernel
theorem dX4_wake_20 : decode cX4_wake 20 = .ok (.iload_n 1, 1) := by decide +kernel
theorem dX4_wake_21 : decode cX4_wake 21 = .ok (.invokevirtual 177, 3) := by decide +kernel
theorem dX4_wake_24 : decode cX4_wake 24 = .ok (.ifCond .ne 6, 3) := by decide +kernel
theorem dX4_wake_27 : decode cX4_wake 27 = .ok (.bipush (-4), 2) := by decide +kernel
theorem dX4_wake_29 : decode cX4_wake 29 = .ok (.ireturn, 1) := by decide +kernel
theorem dX4_wake_30 : decode cX4_wake 30 = .ok (.aload_n 0, 1) := by decide +kernel
theorem dX4_wake_31 : decode cX4_wake 31 = .ok (.getfield 24, 3) := by decide +kernel
theorem dX4_wake_34 : decode cX4_wake 34 = .ok (.iconst 1, 1) := by decide +kernel
theorem dX4_wake_35 : decode cX4_wake 35 = .ok (.invokevirtual 165, 3) := by decide +kernel
theorem dX4_wake_38 : decode cX4_wake 38 = .ok (.ifCond .ne 6, 3) := by decide +kernel
theorem dX4_wake_41 : decode cX4_wake 41 = .ok (.bipush (-2), 2) := by decide +kernel
theorem dX4_wake_43 : decode cX4_wake 43 = .ok (.ireturn, 1) := by decide +kernel
theorem dX4_wake_44 : decode cX4_wake 44 = .ok (.aload_n 0, 1) := by decide +kernel
theorem dX4_wake_45 : decode cX4_wake 45 = .ok (.getfield 24, 3) := by decide +kernel
theorem dX4_wake_48 : decode cX4_wake 48 = .ok (.iload_n 1, 1) := by decide +kernel
theorem dX4_wake_49 : decode cX4_wake 49 = .ok (.invokevirtual 180, 3) := by decide +kernel
theorem dX4_wake_52 : decode cX4_wake 52 = .ok (.invokestatic 158, 3) := by decide +kernel
theorem dX4_wake_55 : decode cX4_wake 55 = .ok (.istore_n 2, 1) := by decide +kernel
theorem dX4_wake_56 : decode cX4_wake 56 = .ok (.aload_n 0, 1) := by decide +kernel
theorem dX4_wake_57 : decode cX4_wake 57 = .ok (.getfield 24, 3) := by decide +kernel
theorem dX4_wake_60 : decode cX4_wake 60 = .ok (.iload_n 1, 1) := by decide +kernel
theorem dX4_wake_61 : decode cX4_wake 61 = .ok (.invokevirtual 183, 3) := by decide +kernel
theorem dX4_wake_64 : decode cX4_wake 64 = .ok (.iload_n 2, 1) := by decide +kernel
theorem dX4_wake_65 : decode cX4_wake 65 = .ok (.ireturn, 1) := by decide +kernel
theorem dX4_lull_0 : decode cX4_lull 0 = .ok (.iload_n 1, 1) := by decide +kernel
theorem dX4_lull_1 : decode cX4_lull 1 = .ok (.aload_n 0, 1) := by decide +kernel
theorem dX4_lull_2 : decode cX4_lull 2 = .ok (.getfield 24, 3) := by decide +kernel
theorem dX4_lull_5 : decode cX4_lull 5 = .ok (.getfield 129, 3) := by decide +kernel
theorem dX4_lull_8 : decode cX4_lull 8 = .ok (.invokestatic 132, 3) := by decide +kernel
theorem dX4_lull_11 : decode cX4_lull 11 = .ok (.ifCond .ne 5, 3) := by decide +kernel
theorem dX4_lull_14 : decode cX4_lull 14 = .ok (.iconst (-1), 1) := by decide +kernel
theorem dX4_lull_15 : decode cX4_lull 15 = .ok (.ireturn, 1) := by decide +kernel
theorem dX4_lull_16 : decode cX4_lull 16 = .ok (.aload_n 0, 1) := by decide +kernel
theorem dX4_lull_17 : decode cX4_lull 17 = .ok (.getfield 24, 3) := by decide +kernel
theorem dX4_lull_20 : decode cX4_lull 20 = .ok (.iload_n 1, 1) := by decide +kernel
theorem dX4_lull_21 : decode cX4_lull 21 = .ok (.invokevirtual 177, 3) := by decide +kernel
theorem dX4_lull_24 : decode cX4_lull 24 = .ok (.ifCond .eq 6, 3) := by decide +kernel
theorem dX4_lull_27 : decode cX4_lull 27 = .ok (.bipush (-4), 2) := by decide +kernel
theorem dX4_lull_29 : decode cX4_lull 29 = .ok (.ireturn, 1) := by decide +kernel
theorem dX4_lull_30 : decode cX4_lull 30 = .ok (.aload_n 0, 1) := by decide +kernel
theorem dX4_lull_31 : decode cX4_lull 31 = .ok (.getfield 24, 3) := by decide +kernel
theorem dX4_lull_34 : decode cX4_lull 34 = .ok (.iconst 1, 1) := by decide +kernel
theorem dX4_lull_35 : decode cX4_lull 35 = .ok (.invokevirtual 165, 3) := by decide +kernel
theorem dX4_lull_38 : decode cX4_lull 38 = .ok (.ifCond .ne 6, 3) := by decide +kernel
theorem dX4_lull_41 : decode cX4_lull 41 = .ok (.bipush (-2), 2) := by decide +kernel
theorem dX4_lull_43 : decode cX4_lull 43 = .ok (.ireturn, 1) := by decide +kernel
theorem dX4_lull_44 : decode cX4_lull 44 = .ok (.aload_n 0, 1) := by decide +kernel
theorem dX4_lull_45 : decode cX4_lull 45 = .ok (.getfield 24, 3) := by decide +kernel
theorem dX4_lull_48 : decode cX4_lull 48 = .ok (.iload_n 1, 1) := by decide +kernel
theorem dX4_lull_49 : decode cX4_lull 49 = .ok (.invokevirtual 183, 3) := by decide +kernel
theorem dX4_lull_52 : decode cX4_lull 52 = .ok (.aload_n 0, 1) := by decide +kernel
theorem dX4_lull_53 : decode cX4_lull 53 = .ok (.getfield 24, 3) := by decide +kernel
theorem dX4_lull_56 : decode cX4_lull 56 = .ok (.iload_n 1, 1) := by decide +kernel
theorem dX4_lull_57 : decode cX4_lull 57 = .ok (.invokevirtual 180, 3) := by decide +kernel
theorem dX4_lull_60 : decode cX4_lull 60 = .ok (.invokestatic 158, 3) := by decide +kernel
theorem dX4_lull_63 : decode cX4_lull 63 = .ok (.ireturn, 1) := by decide +kernel
theorem dX4_undo_0 : decode cX4_undo 0 = .ok (.iload_n 1, 1) := by decide +kernel
theorem dX4_undo_1 : decode cX4_undo 1 = .ok (.aload_n 0, 1) := by decide +kernel
theorem dX4_undo_2 : decode cX4_undo 2 = .ok (.getfield 24, 3) := by decide +kernel
theorem dX4_undo_5 : decode cX4_undo 5 = .ok (.getfield 187, 3) := by decide +kernel
theorem dX4_undo_8 : decode cX4_undo 8 = .ok (.iconst 1, 1) := by decide +kernel
theorem dX4_undo_9 : decode cX4_undo 9 = .ok (.iadd, 1) := by decide +kernel
theorem dX4_undo_10 : decode cX4_undo 10 = .ok (.invokestatic 132, 3) := by decide +kernel
theorem dX4_undo_13 : decode cX4_undo 13 = .ok (.ifCond .ne 5, 3) := by decide +kernel
theorem dX4_undo_16 : decode cX4_undo 16 = .ok (.iconst (-1), 1) := by decide +kernel
theorem dX4_undo_17 : decode cX4_undo 17 = .ok (.ireturn, 1) := by decide +kernel
theorem dX4_undo_18 : decode cX4_undo 18 = .ok (.aload_n 0, 1) := by decide +kernel
theorem dX4_undo_19 : decode cX4_undo 19 = .ok (.getfield 24, 3) := by decide +kernel
theorem dX4_undo_22 : decode cX4_undo 22 = .ok (.getfield 187, 3) := by decide +kernel
theorem dX4_undo_25 : decode cX4_undo 25 = .ok (.iload_n 1, 1) := by decide +kernel
theorem dX4_undo_26 : decode cX4_undo 26 = .ok (.isub, 1) := by decide +kernel
theorem dX4_undo_27 : decode cX4_undo 27 = .ok (.istore_n 2, 1) := by decide +kernel
theorem dX4_undo_28 : decode cX4_undo 28 = .ok (.iconst 0, 1) := by decide +kernel
theorem dX4_undo_29 : decode cX4_undo 29 = .ok (.istore_n 3, 1) := by decide +kernel
theorem dX4_undo_30 : decode cX4_undo 30 = .ok (.iload_n 3, 1) := by decide +kernel
theorem dX4_undo_31 : decode cX4_undo 31 = .ok (.iload_n 2, 1) := by decide +kernel
theorem dX4_undo_32 : decode cX4_undo 32 = .ok (.if_icmp .ge 16, 3) := by decide +kernel
theorem dX4_undo_35 : decode cX4_undo 35 = .ok (.aload_n 0, 1) := by decide +kernel
theorem dX4_undo_36 : decode cX4_undo 36 = .ok (.getfield 24, 3) := by decide +kernel
theorem dX4_undo_39 : decode cX4_undo 39 = .ok (.invokevirtual 190, 3) := by decide +kernel
theorem dX4_undo_42 : decode cX4_undo 42 = .ok (.iinc 3 1, 3) := by decide +kernel
theorem dX4_undo_45 : decode cX4_undo 45 = .ok (.goto (-15), 3) := by decide +kernel
theorem dX4_undo_48 : decode cX4_undo 48 = .ok (.iload_n 2, 1) := by decide +kernel
theorem dX4_undo_49 : decode cX4_undo 49 = .ok (.ireturn, 1) := by decide +kernel
theorem dX4_keep_0 : decode cX4_keep 0 = .ok (.iload_n 1, 1) := by decide +kernel
theorem dX4_keep_1 : decode cX4_keep 1 = .ok (.iconst 3, 1) := by decide +kernel
theorem dX4_keep_2 : decode cX4_keep 2 = .ok (.invokestatic 132, 3) := by decide +kernel
theorem dX4_keep_5 : decode cX4_keep 5 = .ok (.ifCond .ne 5, 3) := by decide +kernel
theorem dX4_keep_8 : decode cX4_keep 8 = .ok (.iconst (-1), 1) := by decide +kernel
theorem dX4_keep_9 : decode cX4_keep 9 = .ok (.ireturn, 1) := by decide +kernel
theorem dX4_keep_10 : decode cX4_keep 10 = .ok (.aload_n 0, 1) := by decide +kernel
theorem dX4_keep_11 : decode cX4_keep 11 = .ok (.getfield 24, 3) := by decide +kernel
theorem dX4_keep_14 : decode cX4_keep 14 = .ok (.getfield 129, 3) := by decide +kernel
theorem dX4_keep_17 : decode cX4_keep 17 = .ok (.ifCond .ne 6, 3) := by decide +kernel
theorem dX4_keep_20 : decode cX4_keep 20 = .ok (.bipush (-4), 2) := by decide +kernel
theorem dX4_keep_22 : decode cX4_keep 22 = .ok (.ireturn, 1) := by decide +kernel
theorem dX4_keep_23 : decode cX4_keep 23 = .ok (.aload_n 0, 1) := by decide +kernel
theorem dX4_keep_24 : decode cX4_keep 24 = .ok (.getfield 31, 3) := by decide +kernel
theorem dX4_keep_27 : decode cX4_keep 27 = .ok (.iload_n 1, 1) := by decide +kernel
theorem dX4_keep_28 : decode cX4_keep 28 = .ok (.aaload, 1) := by decide +kernel
theorem dX4_keep_29 : decode cX4_keep 29 = .ok (.aload_n 0, 1) := by decide +kernel
theorem dX4_keep_30 : decode cX4_keep 30 = .ok (.getfield 24, 3) := by decide +kernel
theorem dX4_keep_33 : decode cX4_keep 33 = .ok (.invokevirtual 125, 3) := by decide +kernel
theorem dX4_keep_36 : decode cX4_keep 36 = .ok (.aload_n 0, 1) := by decide +kernel
theorem dX4_keep_37 : decode cX4_keep 37 = .ok (.getfield 35, 3) := by decide +kernel
theorem dX4_keep_40 : decode cX4_keep 40 = .ok (.iload_n 1, 1) := by decide +kernel
theorem dX4_keep_41 : decode cX4_keep 41 = .ok (.iconst 1, 1) := by decide +kernel
theorem dX4_keep_42 : decode cX4_keep 42 = .ok (.bastore, 1) := by decide +kernel
theorem dX4_keep_43 : decode cX4_keep 43 = .ok (.aload_n 0, 1) := by decide +kernel
theorem dX4_keep_44 : decode cX4_keep 44 = .ok (.getfield 24, 3) := by decide +kernel
theorem dX4_keep_47 : decode cX4_keep 47 = .ok (.getfield 187, 3) := by decide +kernel
theorem dX4_keep_50 : decode cX4_keep 50 = .ok (.ireturn, 1) := by decide +kernel
theorem dX4_on_0 : decode cX4_on 0 = .ok (.iload_n 1, 1) := by decide +kernel
theorem dX4_on_1 : decode cX4_on 1 = .ok (.iconst 3, 1) := by decide +kernel
theorem dX4_on_2 : decode cX4_on 2 = .ok (.invokestatic 132, 3) := by decide +kernel
theorem dX4_on_5 : decode cX4_on 5 = .ok (.ifCond .ne 5, 3) := by decide +kernel
theorem dX4_on_8 : decode cX4_on 8 = .ok (.iconst (-1), 1) := by decide +kernel
theorem dX4_on_9 : decode cX4_on 9 = .ok (.ireturn, 1) := by decide +kernel
theorem dX4_on_10 : decode cX4_on 10 = .ok (.aload_n 0, 1) := by decide +kernel
theorem dX4_on_11 : decode cX4_on 11 = .ok (.getfield 35, 3) := by decide +kernel
theorem dX4_on_14 : decode cX4_on 14 = .ok (.iload_n 1, 1) := by decide +kernel
theorem dX4_on_15 : decode cX4_on 15 = .ok (.baload, 1) := by decide +kernel
theorem dX4_on_16 : decode cX4_on 16 = .ok (.ifCond .ne 9, 3) := by decide +kernel
theorem dX4_on_19 : decode cX4_on 19 = .ok (.aload_n 0, 1) := by decide +kernel
theorem dX4_on_20 : decode cX4_on 20 = .ok (.iconst 1, 1) := by decide +kernel
theorem dX4_on_21 : decode cX4_on 21 = .ok (.invokevirtual 82, 3) := by decide +kernel
theorem dX4_on_24 : decode cX4_on 24 = .ok (.ireturn, 1) := by decide +kernel
theorem dX4_on_25 : decode cX4_on 25 = .ok (.aload_n 0, 1) := by decide +kernel
theorem dX4_on_26 : decode cX4_on 26 = .ok (.getfield 24, 3) := by decide +kernel
theorem dX4_on_29 : decode cX4_on 29 = .ok (.aload_n 0, 1) := by decide +kernel
theorem dX4_on_30 : decode cX4_on 30 = .ok (.getfield 31, 3) := by decide +kernel
theorem dX4_on_33 : decode cX4_on 33 = .ok (.iload_n 1, 1) := by decide +kernel
theorem dX4_on_34 : decode cX4_on 34 = .ok (.aaload, 1) := by decide +kernel
theorem dX4_on_35 : decode cX4_on 35 = .ok (.invokevirtual 125, 3) := by decide +kernel
theorem dX4_on_38 : decode cX4_on 38 = .ok (.aload_n 0, 1) := by decide +kernel
theorem dX4_on_39 : decode cX4_on 39 = .ok (.getfield 24, 3) := by decide +kernel
theorem dX4_on_42 : decode cX4_on 42 = .ok (.getfield 187, 3) := by decide +kernel
theorem dX4_on_45 : decode cX4_on 45 = .ok (.ireturn, 1) := by decide +kernel
theorem dX4_train_0 : decode cX4_train 0 = .ok (.iload_n 1, 1) := by decide +kernel
theorem dX4_train_1 : decode cX4_train 1 = .ok (.bipush 61, 2) := by decide +kernel
theorem dX4_train_3 : decode cX4_train 3 = .ok (.invokestatic 132, 3) := by decide +kernel
theorem dX4_train_6 : decode cX4_train 6 = .ok (.ifCond .ne 5, 3) := by decide +kernel
theorem dX4_train_9 : decode cX4_train 9 = .ok (.iconst (-1), 1) := by decide +kernel
theorem dX4_train_10 : decode cX4_train 10 = .ok (.ireturn, 1) := by decide +kernel
theorem dX4_train_11 : decode cX4_train 11 = .ok (.aload_n 0, 1) := by decide +kernel
theorem dX4_train_12 : decode cX4_train 12 = .ok (.getfield 24, 3) := by decide +kernel
theorem dX4_train_15 : decode cX4_train 15 = .ok (.getfield 129, 3) := by decide +kernel
theorem dX4_train_18 : decode cX4_train 18 = .ok (.ifCond .ne 6, 3) := by decide +kernel
theorem dX4_train_21 : decode cX4_train 21 = .ok (.bipush (-4), 2) := by decide +kernel
theorem dX4_train_23 : decode cX4_train 23 = .ok (.ireturn, 1) := by decide +kernel
theorem dX4_train_24 : decode cX4_train 24 = .ok (.aload_n 0, 1) := by decide +kernel
theorem dX4_train_25 : decode cX4_train 25 = .ok (.getfield 49, 3) := by decide +kernel
theorem dX4_train_28 : decode cX4_train 28 = .ok (.aload_n 0, 1) := by decide +kernel
theorem dX4_train_29 : decode cX4_train 29 = .ok (.getfield 24, 3) := by decide +kernel
theorem dX4_train_32 : decode cX4_train 32 = .ok (.invokevirtual 193, 3) := by decide +kernel
theorem dX4_train_35 : decode cX4_train 35 = .ok (.aload_n 0, 1) := by decide +kernel
theorem dX4_train_36 : decode cX4_train 36 = .ok (.getfield 49, 3) := by decide +kernel
theorem dX4_train_39 : decode cX4_train 39 = .ok (.iload_n 1, 1) := by decide +kernel
theorem dX4_train_40 : decode cX4_train 40 = .ok (.aload_n 0, 1) := by decide +kernel
theorem dX4_train_41 : decode cX4_train 41 = .ok (.getfield 24, 3) := by decide +kernel
theorem dX4_train_44 : decode cX4_train 44 = .ok (.getfield 196, 3) := by decide +kernel
theorem dX4_train_47 : decode cX4_train 47 = .ok (.invokevirtual 199, 3) := by decide +kernel
theorem dX4_train_50 : decode cX4_train 50 = .ok (.istore_n 2, 1) := by decide +kernel
theorem dX4_train_51 : decode cX4_train 51 = .ok (.aload_n 0, 1) := by decide +kernel
theorem dX4_train_52 : decode cX4_train 52 = .ok (.iload_n 1, 1) := by decide +kernel
theorem dX4_train_53 : decode cX4_train 53 = .ok (.iload_n 2, 1) := by decide +kernel
theorem dX4_train_54 : decode cX4_train 54 = .ok (.aload_n 0, 1) := by decide +kernel
theorem dX4_train_55 : decode cX4_train 55 = .ok (.getfield 24, 3) := by decide +kernel
theorem dX4_train_58 : decode cX4_train 58 = .ok (.getfield 171, 3) := by decide +kernel
theorem dX4_train_61 : decode cX4_train 61 = .ok (.isub, 1) := by decide +kernel
theorem dX4_train_62 : decode cX4_train 62 = .ok (.isub, 1) := by decide +kernel
theorem dX4_train_63 : decode cX4_train 63 = .ok (.putfield 97, 3) := by decide +kernel
theorem dX4_train_66 : decode cX4_train 66 = .ok (.iload_n 2, 1) := by decide +kernel
theorem dX4_train_67 : decode cX4_train 67 = .ok (.ireturn, 1) := by decide +kernel
theorem dX4_comes_0 : decode cX4_comes 0 = .ok (.aload_n 0, 1) := by decide +kernel
theorem dX4_comes_1 : decode cX4_comes 1 = .ok (.getfield 24, 3) := by decide +kernel
theorem dX4_comes_4 : decode cX4_comes 4 = .ok (.getfield 129, 3) := by decide +kernel
theorem dX4_comes_7 : decode cX4_comes 7 = .ok (.ifCond .ne 6, 3) := by decide +kernel
theorem dX4_comes_10 : decode cX4_comes 10 = .ok (.bipush (-4), 2) := by decide +kernel
theorem dX4_comes_12 : decode cX4_comes 12 = .ok (.ireturn, 1) := by decide +kernel
theorem dX4_comes_13 : decode cX4_comes 13 = .ok (.aload_n 0, 1) := by decide +kernel
theorem dX4_comes_14 : decode cX4_comes 14 = .ok (.getfield 49, 3) := by decide +kernel
theorem dX4_comes_17 : decode cX4_comes 17 = .ok (.aload_n 0, 1) := by decide +kernel
theorem dX4_comes_18 : decode cX4_comes 18 = .ok (.getfield 24, 3) := by decide +kernel
theorem dX4_comes_21 : decode cX4_comes 21 = .ok (.invokevirtual 193, 3) := by decide +kernel
theorem dX4_comes_24 : decode cX4_comes 24 = .ok (.aload_n 0, 1) := by decide +kernel
theorem dX4_comes_25 : decode cX4_comes 25 = .ok (.getfield 49, 3) := by decide +kernel
theorem dX4_comes_28 : decode cX4_comes 28 = .ok (.bipush 60, 2) := by decide +kernel
theorem dX4_comes_30 : decode cX4_comes 30 = .ok (.aload_n 0, 1) := by decide +kernel
theorem dX4_comes_31 : decode cX4_comes 31 = .ok (.getfield 24, 3) := by decide +kernel
theorem dX4_comes_34 : decode cX4_comes 34 = .ok (.getfield 196, 3) := by decide +kernel
theorem dX4_comes_37 : decode cX4_comes 37 = .ok (.invokevirtual 199, 3) := by decide +kernel
theorem dX4_comes_40 : decode cX4_comes 40 = .ok (.pop, 1) := by decide +kernel
theorem dX4_comes_41 : decode cX4_comes 41 = .ok (.iconst 0, 1) := by decide +kernel
theorem dX4_comes_42 : decode cX4_comes 42 = .ok (.istore_n 1, 1) := by decide +kernel
theorem dX4_comes_43 : decode cX4_comes 43 = .ok (.iload_n 1, 1) := by decide +kernel
theorem dX4_comes_44 : decode cX4_comes 44 = .ok (.bipush 60, 2) := by decide +kernel
theorem dX4_comes_46 : decode cX4_comes 46 = .ok (.if_icmp .gt 43, 3) := by decide +kernel
theorem dX4_comes_49 : decode cX4_comes 49 = .ok (.aload_n 0, 1) := by decide +kernel
theorem dX4_comes_50 : decode cX4_comes 50 = .ok (.getfield 49, 3) := by decide +kernel
theorem dX4_comes_53 : decode cX4_comes 53 = .ok (.getfield 202, 3) := by decide +kernel
theorem dX4_comes_56 : decode cX4_comes 56 = .ok (.iload_n 1, 1) := by decide +kernel
theorem dX4_comes_57 : decode cX4_comes 57 = .ok (.iaload, 1) := by decide +kernel
theorem dX4_comes_58 : decode cX4_comes 58 = .ok (.aload_n 0, 1) := by decide +kernel
theorem dX4_comes_59 : decode cX4_comes 59 = .ok (.getfield 24, 3) := by decide +kernel
theorem dX4_comes_62 : decode cX4_comes 62 = .ok (.getfield 205, 3) := by decide +kernel
theorem dX4_comes_65 : decode cX4_comes 65 = .ok (.if_icmp .ne 18, 3) := by decide +kernel
theorem dX4_comes_68 : decode cX4_comes 68 = .ok (.aload_n 0, 1) := by decide +kernel
theorem dX4_comes_69 : decode cX4_comes 69 = .ok (.aload_n 0, 1) := by decide +kernel
theorem dX4_comes_70 : decode cX4_comes 70 = .ok (.getfield 24, 3) := by decide +kernel
theorem dX4_comes_73 : decode cX4_comes 73 = .ok (.getfield 162, 3) := by decide +kernel
theorem dX4_comes_76 : decode cX4_comes 76 = .ok (.iload_n 1, 1) := by decide +kernel
theorem dX4_comes_77 : decode cX4_comes 77 = .ok (.iadd, 1) := by decide +kernel
theorem dX4_comes_78 : decode cX4_comes 78 = .ok (.putfield 97, 3) := by decide +kernel
theorem dX4_comes_81 : decode cX4_comes 81 = .ok (.iload_n 1, 1) := by decide +kernel
theorem dX4_comes_82 : decode cX4_comes 82 = .ok (.ireturn, 1) := by decide +kernel
theorem dX4_comes_83 : decode cX4_comes 83 = .ok (.iinc 1 1, 3) := by decide +kernel
theorem dX4_comes_86 : decode cX4_comes 86 = .ok (.goto (-43), 3) := by decide +kernel
theorem dX4_comes_89 : decode cX4_comes 89 = .ok (.bipush (-9), 2) := by decide +kernel
theorem dX4_comes_91 : decode cX4_comes 91 = .ok (.ireturn, 1) := by decide +kernel
theorem dX4_stood_0 : decode cX4_stood 0 = .ok (.iload_n 1, 1) := by decide +kernel
theorem dX4_stood_1 : decode cX4_stood 1 = .ok (.aload_n 0, 1) := by decide +kernel
theorem dX4_stood_2 : decode cX4_stood 2 = .ok (.getfield 24, 3) := by decide +kernel
theorem dX4_stood_5 : decode cX4_stood 5 = .ok (.getfield 129, 3) := by decide +kernel
theorem dX4_stood_8 : decode cX4_stood 8 = .ok (.invokestatic 132, 3) := by decide +kernel
theorem dX4_stood_11 : decode cX4_stood 11 = .ok (.ifCond .ne 5, 3) := by decide +kernel
theorem dX4_stood_14 : decode cX4_stood 14 = .ok (.iconst (-1), 1) := by decide +kernel
theorem dX4_stood_15 : decode cX4_stood 15 = .ok (.ireturn, 1) := by decide +kernel
theorem dX4_stood_16 : decode cX4_stood 16 = .ok (.aload_n 0, 1) := by decide +kernel
theorem dX4_stood_17 : decode cX4_stood 17 = .ok (.getfield 49, 3) := by decide +kernel
theorem dX4_stood_20 : decode cX4_stood 20 = .ok (.aload_n 0, 1) := by decide +kernel
theorem dX4_stood_21 : decode cX4_stood 21 = .ok (.getfield 24, 3) := by decide +kernel
theorem dX4_stood_24 : decode cX4_stood 24 = .ok (.invokevirtual 193, 3) := by decide +kernel
theorem dX4_stood_27 : decode cX4_stood 27 = .ok (.aload_n 0, 1) := by decide +kernel
theorem dX4_stood_28 : decode cX4_stood 28 = .ok (.getfield 49, 3) := by decide +kernel
theorem dX4_stood_31 : decode cX4_stood 31 = .ok (.bipush 60, 2) := by decide +kernel
theorem dX4_stood_33 : decode cX4_stood 33 = .ok (.aload_n 0, 1) := by decide +kernel
theorem dX4_stood_34 : decode cX4_stood 34 = .ok (.getfield 24, 3) := by decide +kernel
theorem dX4_stood_37 : decode cX4_stood 37 = .ok (.getfield 196, 3) := by decide +kernel
theorem dX4_stood_40 : decode cX4_stood 40 = .ok (.invokevirtual 199, 3) := by decide +kernel
theorem dX4_stood_43 : decode cX4_stood 43 = .ok (.pop, 1) := by decide +kernel
theorem dX4_stood_44 : decode cX4_stood 44 = .ok (.aload_n 0, 1) := by decide +kernel
theorem dX4_stood_45 : decode cX4_stood 45 = .ok (.getfield 49, 3) := by decide +kernel
theorem dX4_stood_48 : decode cX4_stood 48 = .ok (.aload_n 0, 1) := by decide +kernel
theorem dX4_stood_49 : decode cX4_stood 49 = .ok (.getfield 24, 3) := by decide +kernel
theorem dX4_stood_52 : decode cX4_stood 52 = .ok (.getfield 208, 3) := by decide +kernel
theorem dX4_stood_55 : decode cX4_stood 55 = .ok (.iload_n 1, 1) := by decide +kernel
theorem dX4_stood_56 : decode cX4_stood 56 = .ok (.iaload, 1) := by decide +kernel
theorem dX4_stood_57 : decode cX4_stood 57 = .ok (.bipush 60, 2) := by decide +kernel
theorem dX4_stood_59 : decode cX4_stood 59 = .ok (.invokevirtual 211, 3) := by decide +kernel
theorem dX4_stood_62 : decode cX4_stood 62 = .ok (.ireturn, 1) := by decide +kernel
theorem dX4_intime_0 : decode cX4_intime 0 = .ok (.aload_n 0, 1) := by decide +kernel
theorem dX4_intime_1 : decode cX4_intime 1 = .ok (.getfield 24, 3) := by decide +kernel
theorem dX4_intime_4 : decode cX4_intime 4 = .ok (.getfield 129, 3) := by decide +kernel
theorem dX4_intime_7 : decode cX4_intime 7 = .ok (.ifCond .ne 6, 3) := by decide +kernel
theorem dX4_intime_10 : decode cX4_intime 10 = .ok (.bipush (-4), 2) := by decide +kernel
theorem dX4_intime_12 : decode cX4_intime 12 = .ok (.ireturn, 1) := by decide +kernel
theorem dX4_intime_13 : decode cX4_intime 13 = .ok (.iconst 0, 1) := by decide +kernel
theorem dX4_intime_14 : decode cX4_intime 14 = .ok (.aload_n 0, 1) := by decide +kernel
theorem dX4_intime_15 : decode cX4_intime 15 = .ok (.getfield 24, 3) := by decide +kernel
theorem dX4_intime_18 : decode cX4_intime 18 = .ok (.getfield 214, 3) := by decide +kernel
theorem dX4_intime_21 : decode cX4_intime 21 = .ok (.aload_n 0, 1) := by decide +kernel
theorem dX4_intime_22 : decode cX4_intime 22 = .ok (.getfield 24, 3) := by decide +kernel
theorem dX4_intime_25 : decode cX4_intime 25 = .ok (.getfield 162, 3) := by decide +kernel
theorem dX4_intime_28 : decode cX4_intime 28 = .ok (.isub, 1) := by decide +kernel
theorem dX4_intime_29 : decode cX4_intime 29 = .ok (.invokestatic 217, 3) := by decide +kernel
theorem dX4_intime_32 : decode cX4_intime 32 = .ok (.istore_n 1, 1) := by decide +kernel
theorem dX4_intime_33 : decode cX4_intime 33 = .ok (.bipush (-9), 2) := by decide +kernel
theorem dX4_intime_35 : decode cX4_intime 35 = .ok (.istore_n 2, 1) := by decide +kernel
theorem dX4_intime_36 : decode cX4_intime 36 = .ok (.iconst 0, 1) := by decide +kernel
theorem dX4_intime_37 : decode cX4_intime 37 = .ok (.istore_n 3, 1) := by decide +kernel
theorem dX4_intime_38 : decode cX4_intime 38 = .ok (.aload_n 0, 1) := by decide +kernel
theorem dX4_intime_39 : decode cX4_intime 39 = .ok (.getfield 49, 3) := by decide +kernel
theorem dX4_intime_42 : decode cX4_intime 42 = .ok (.aload_n 0, 1) := by decide +kernel
theorem dX4_intime_43 : decode cX4_intime 43 = .ok (.getfield 24, 3) := by decide +kernel
theorem dX4_intime_46 : decode cX4_intime 46 = .ok (.invokevirtual 193, 3) := by decide +kernel
theorem dX4_intime_49 : decode cX4_intime 49 = .ok (.iconst 0, 1) := by decide +kernel
theorem dX4_intime_50 : decode cX4_intime 50 = .ok (.istore 4, 2) := by decide +kernel
theorem dX4_intime_52 : decode cX4_intime 52 = .ok (.iload 4, 2) := by decide +kernel
theorem dX4_intime_54 : decode cX4_intime 54 = .ok (.aload_n 0, 1) := by decide +kernel
theorem dX4_intime_55 : decode cX4_intime 55 = .ok (.getfield 24, 3) := by decide +kernel
theorem dX4_intime_58 : decode cX4_intime 58 = .ok (.invokevirtual 222, 3) := by decide +kernel
theorem dX4_intime_61 : decode cX4_intime 61 = .ok (.if_icmp .ge 79, 3) := by decide +kernel
theorem dX4_intime_64 : decode cX4_intime 64 = .ok (.iload 4, 2) := by decide +kernel
theorem dX4_intime_66 : decode cX4_intime 66 = .ok (.invokestatic 226, 3) := by decide +kernel
theorem dX4_intime_69 : decode cX4_intime 69 = .ok (.istore 5, 2) := by decide +kernel
theorem dX4_intime_71 : decode cX4_intime 71 = .ok (.iload 4, 2) := by decide +kernel
theorem dX4_intime_73 : decode cX4_intime 73 = .ok (.aload_n 0, 1) := by decide +kernel
theorem dX4_intime_74 : decode cX4_intime 74 = .ok (.getfield 24, 3) := by decide +kernel
theorem dX4_intime_77 : decode cX4_intime 77 = .ok (.getfield 196, 3) := by decide +kernel
theorem dX4_intime_80 : decode cX4_intime 80 = .ok (.invokestatic 231, 3) := by decide +kernel
theorem dX4_intime_83 : decode cX4_intime 83 = .ok (.ifCond .eq 51, 3) := by decide +kernel
theorem dX4_intime_86 : decode cX4_intime 86 = .ok (.iload_n 2, 1) := by decide +kernel
theorem dX4_intime_87 : decode cX4_intime 87 = .ok (.bipush (-9), 2) := by decide +kernel
theorem dX4_intime_89 : decode cX4_intime 89 = .ok (.if_icmp .eq 9, 3) := by decide +kernel
theorem dX4_intime_92 : decode cX4_intime 92 = .ok (.iload 5, 2) := by decide +kernel
theorem dX4_intime_94 : decode cX4_intime 94 = .ok (.iload_n 2, 1) := by decide +kernel
theorem dX4_intime_95 : decode cX4_intime 95 = .ok (.if_icmp .ge 39, 3) := by decide +kernel
theorem dX4_intime_98 : decode cX4_intime 98 = .ok (.aload_n 0, 1) := by decide +kernel
theorem dX4_intime_99 : decode cX4_intime 99 = .ok (.getfield 49, 3) := by decide +kernel
theorem dX4_intime_102 : decode cX4_intime 102 = .ok (.iload_n 1, 1) := by decide +kernel
theorem dX4_intime_103 : decode cX4_intime 103 = .ok (.aload_n 0, 1) := by decide +kernel
theorem dX4_intime_104 : decode cX4_intime 104 = .ok (.getfield 24, 3) := by decide +kernel
theorem dX4_intime_107 : decode cX4_intime 107 = .ok (.getfield 196, 3) := by decide +kernel
theorem dX4_intime_110 : decode cX4_intime 110 = .ok (.iload 4, 2) := by decide +kernel
theorem dX4_intime_112 : decode cX4_intime 112 = .ok (.iconst (-1), 1) := by decide +kernel
theorem dX4_intime_113 : decode cX4_intime 113 = .ok (.ixor, 1) := by decide +kernel
theorem dX4_intime_114 : decode cX4_intime 114 = .ok (.iand, 1) := by decide +kernel
theorem dX4_intime_115 : decode cX4_intime 115 = .ok (.invokevirtual 199, 3) := by decide +kernel
theorem dX4_intime_118 : decode cX4_intime 118 = .ok (.aload_n 0, 1) := by decide +kernel
theorem dX4_intime_119 : decode cX4_intime 119 = .ok (.getfield 24, 3) := by decide +kernel
theorem dX4_intime_122 : decode cX4_intime 122 = .ok (.getfield 205, 3) := by decide +kernel
theorem dX4_intime_125 : decode cX4_intime 125 = .ok (.if_icmp .ne 9, 3) := by decide +kernel
theorem dX4_intime_128 : decode cX4_intime 128 = .ok (.iload 5, 2) := by decide +kernel
theorem dX4_intime_130 : decode cX4_intime 130 = .ok (.istore_n 2, 1) := by decide +kernel
theorem dX4_intime_131 : decode cX4_intime 131 = .ok (.iload 4, 2) := by decide +kernel
theorem dX4_intime_133 : decode cX4_intime 133 = .ok (.istore_n 3, 1) := by decide +kernel
theorem dX4_intime_134 : decode cX4_intime 134 = .ok (.iinc 4 1, 3) := by decide +kernel
theorem dX4_intime_137 : decode cX4_intime 137 = .ok (.goto (-85), 3) := by decide +kernel
theorem dX4_intime_140 : decode cX4_intime 140 = .ok (.iload_n 2, 1) := by decide +kernel
theorem dX4_intime_141 : decode cX4_intime 141 = .ok (.bipush (-9), 2) := by decide +kernel
theorem dX4_intime_143 : decode cX4_intime 143 = .ok (.if_icmp .eq 8, 3) := by decide +kernel
theorem dX4_intime_146 : decode cX4_intime 146 = .ok (.aload_n 0, 1) := by decide +kernel
theorem dX4_intime_147 : decode cX4_intime 147 = .ok (.iload_n 3, 1) := by decide +kernel
theorem dX4_intime_148 : decode cX4_intime 148 = .ok (.putfield 97, 3) := by decide +kernel
theorem dX4_intime_151 : decode cX4_intime 151 = .ok (.iload_n 2, 1) := by decide +kernel
theorem dX4_intime_152 : decode cX4_intime 152 = .ok (.ireturn, 1) := by decide +kernel
theorem dX4_feast_0 : decode cX4_feast 0 = .ok (.iload_n 1, 1) := by decide +kernel
theorem dX4_feast_1 : decode cX4_feast 1 = .ok (.bipush 21, 2) := by decide +kernel
theorem dX4_feast_3 : decode cX4_feast 3 = .ok (.invokestatic 132, 3) := by decide +kernel
theorem dX4_feast_6 : decode cX4_feast 6 = .ok (.ifCond .eq 12, 3) := by decide +kernel
theorem dX4_feast_9 : decode cX4_feast 9 = .ok (.iload_n 2, 1) := by decide +kernel
theorem dX4_feast_10 : decode cX4_feast 10 = .ok (.bipush 41, 2) := by decide +kernel
theorem dX4_feast_12 : decode cX4_feast 12 = .ok (.invokestatic 132, 3) := by decide +kernel
theorem dX4_feast_15 : decode cX4_feast 15 = .ok (.ifCond .ne 5, 3) := by decide +kernel
theorem dX4_feast_18 : decode cX4_feast 18 = .ok (.iconst (-1), 1) := by decide +kernel
theorem dX4_feast_19 : decode cX4_feast 19 = .ok (.ireturn, 1) := by decide +kernel
theorem dX4_feast_20 : decode cX4_feast 20 = .ok (.aload_n 0, 1) := by decide +kernel
theorem dX4_feast_21 : decode cX4_feast 21 = .ok (.getfield 24, 3) := by decide +kernel
theorem dX4_feast_24 : decode cX4_feast 24 = .ok (.getfield 129, 3) := by decide +kernel
theorem dX4_feast_27 : decode cX4_feast 27 = .ok (.ifCond .ne 6, 3) := by decide +kernel
theorem dX4_feast_30 : decode cX4_feast 30 = .ok (.bipush (-4), 2) := by decide +kernel
theorem dX4_feast_32 : decode cX4_feast 32 = .ok (.ireturn, 1) := by decide +kernel
theorem dX4_feast_33 : decode cX4_feast 33 = .ok (.aload_n 0, 1) := by decide +kernel
theorem dX4_feast_34 : decode cX4_feast 34 = .ok (.getfield 49, 3) := by decide +kernel
theorem dX4_feast_37 : decode cX4_feast 37 = .ok (.aload_n 0, 1) := by decide +kernel
theorem dX4_feast_38 : decode cX4_feast 38 = .ok (.getfield 24, 3) := by decide +kernel
theorem dX4_feast_41 : decode cX4_feast 41 = .ok (.invokevirtual 193, 3) := by decide +kernel
theorem dX4_feast_44 : decode cX4_feast 44 = .ok (.aload_n 0, 1) := by decide +kernel
theorem dX4_feast_45 : decode cX4_feast 45 = .ok (.iload_n 2, 1) := by decide +kernel
theorem dX4_feast_46 : decode cX4_feast 46 = .ok (.iload_n 1, 1) := by decide +kernel
theorem dX4_feast_47 : decode cX4_feast 47 = .ok (.invokevirtual 234, 3) := by decide +kernel
theorem dX4_feast_50 : decode cX4_feast 50 = .ok (.ifCond .eq 10, 3) := by decide +kernel
theorem dX4_feast_53 : decode cX4_feast 53 = .ok (.aload_n 0, 1) := by decide +kernel
theorem dX4_feast_54 : decode cX4_feast 54 = .ok (.iconst 0, 1) := by decide +kernel
theorem dX4_feast_55 : decode cX4_feast 55 = .ok (.putfield 97, 3) := by decide +kernel
theorem dX4_feast_58 : decode cX4_feast 58 = .ok (.iconst 0, 1) := by decide +kernel
theorem dX4_feast_59 : decode cX4_feast 59 = .ok (.ireturn, 1) := by decide +kernel
theorem dX4_feast_60 : decode cX4_feast 60 = .ok (.aload_n 0, 1) := by decide +kernel
theorem dX4_feast_61 : decode cX4_feast 61 = .ok (.invokevirtual 237, 3) := by decide +kernel
theorem dX4_feast_64 : decode cX4_feast 64 = .ok (.aload_n 0, 1) := by decide +kernel
theorem dX4_feast_65 : decode cX4_feast 65 = .ok (.iconst 0, 1) := by decide +kernel
theorem dX4_feast_66 : decode cX4_feast 66 = .ok (.iload_n 2, 1) := by decide +kernel
theorem dX4_feast_67 : decode cX4_feast 67 = .ok (.iload_n 1, 1) := by decide +kernel
theorem dX4_feast_68 : decode cX4_feast 68 = .ok (.invokevirtual 240, 3) := by decide +kernel
theorem dX4_feast_71 : decode cX4_feast 71 = .ok (.istore_n 3, 1) := by decide +kernel
theorem dX4_feast_72 : decode cX4_feast 72 = .ok (.iload_n 3, 1) := by decide +kernel
theorem dX4_feast_73 : decode cX4_feast 73 = .ok (.bipush (-9), 2) := by decide +kernel
theorem dX4_feast_75 : decode cX4_feast 75 = .ok (.if_icmp .eq 10, 3) := by decide +kernel
theorem dX4_feast_78 : decode cX4_feast 78 = .ok (.aload_n 0, 1) := by decide +kernel
theorem dX4_feast_79 : decode cX4_feast 79 = .ok (.iload_n 3, 1) := by decide +kernel
theorem dX4_feast_80 : decode cX4_feast 80 = .ok (.putfield 97, 3) := by decide +kernel
theorem dX4_feast_83 : decode cX4_feast 83 = .ok (.iconst 1, 1) := by decide +kernel
theorem dX4_feast_84 : decode cX4_feast 84 = .ok (.ireturn, 1) := by decide +kernel
theorem dX4_feast_85 : decode cX4_feast 85 = .ok (.aload_n 0, 1) := by decide +kernel
theorem dX4_feast_86 : decode cX4_feast 86 = .ok (.iload_n 2, 1) := by decide +kernel
theorem dX4_feast_87 : decode cX4_feast 87 = .ok (.iload_n 1, 1) := by decide +kernel
theorem dX4_feast_88 : decode cX4_feast 88 = .ok (.invokevirtual 244, 3) := by decide +kernel
theorem dX4_feast_91 : decode cX4_feast 91 = .ok (.istore_n 3, 1) := by decide +kernel
theorem dX4_feast_92 : decode cX4_feast 92 = .ok (.iload_n 3, 1) := by decide +kernel
theorem dX4_feast_93 : decode cX4_feast 93 = .ok (.bipush (-9), 2) := by decide +kernel
theorem dX4_feast_95 : decode cX4_feast 95 = .ok (.if_icmp .eq 10, 3) := by decide +kernel
theorem dX4_feast_98 : decode cX4_feast 98 = .ok (.aload_n 0, 1) := by decide +kernel
theorem dX4_feast_99 : decode cX4_feast 99 = .ok (.iload_n 3, 1) := by decide +kernel
theorem dX4_feast_100 : decode cX4_feast 100 = .ok (.putfield 97, 3) := by decide +kernel
theorem dX4_feast_103 : decode cX4_feast 103 = .ok (.iconst 2, 1) := by decide +kernel
theorem dX4_feast_104 : decode cX4_feast 104 = .ok (.ireturn, 1) := by decide +kernel
theorem dX4_feast_105 : decode cX4_feast 105 = .ok (.bipush (-9), 2) := by decide +kernel
theorem dX4_feast_107 : decode cX4_feast 107 = .ok (.ireturn, 1) := by decide +kernel
theorem dX4_bed_0 : decode cX4_bed 0 = .ok (.iload_n 1, 1) := by decide +kernel
theorem dX4_bed_1 : decode cX4_bed 1 = .ok (.aload_n 0, 1) := by decide +kernel
theorem dX4_bed_2 : decode cX4_bed 2 = .ok (.getfield 24, 3) := by decide +kernel
theorem dX4_bed_5 : decode cX4_bed 5 = .ok (.getfield 129, 3) := by decide +kernel
theorem dX4_bed_8 : decode cX4_bed 8 = .ok (.invokestatic 132, 3) := by decide +kernel
theorem dX4_bed_11 : decode cX4_bed 11 = .ok (.ifCond .ne 5, 3) := by decide +kernel
theorem dX4_bed_14 : decode cX4_bed 14 = .ok (.iconst (-1), 1) := by decide +kernel
theorem dX4_bed_15 : decode cX4_bed 15 = .ok (.ireturn, 1) := by decide +kernel
theorem dX4_bed_16 : decode cX4_bed 16 = .ok (.iconst 0, 1) := by decide +kernel
theorem dX4_bed_17 : decode cX4_bed 17 = .ok (.istore_n 2, 1) := by decide +kernel
theorem dX4_bed_18 : decode cX4_bed 18 = .ok (.iconst (-1), 1) := by decide +kernel
theorem dX4_bed_19 : decode cX4_bed 19 = .ok (.istore_n 3, 1) := by decide +kernel
theorem dX4_bed_20 : decode cX4_bed 20 = .ok (.aload_n 0, 1) := by decide +kernel
theorem dX4_bed_21 : decode cX4_bed 21 = .ok (.getfield 49, 3) := by decide +kernel
theorem dX4_bed_24 : decode cX4_bed 24 = .ok (.aload_n 0, 1) := by decide +kernel
theorem dX4_bed_25 : decode cX4_bed 25 = .ok (.getfield 24, 3) := by decide +kernel
theorem dX4_bed_28 : decode cX4_bed 28 = .ok (.invokevirtual 193, 3) := by decide +kernel
theorem dX4_bed_31 : decode cX4_bed 31 = .ok (.iconst 0, 1) := by decide +kernel
theorem dX4_bed_32 : decode cX4_bed 32 = .ok (.istore 4, 2) := by decide +kernel
theorem dX4_bed_34 : decode cX4_bed 34 = .ok (.iload 4, 2) := by decide +kernel
theorem dX4_bed_36 : decode cX4_bed 36 = .ok (.aload_n 0, 1) := by decide +kernel
theorem dX4_bed_37 : decode cX4_bed 37 = .ok (.getfield 24, 3) := by decide +kernel
theorem dX4_bed_40 : decode cX4_bed 40 = .ok (.getfield 205, 3) := by decide +kernel
theorem dX4_bed_43 : decode cX4_bed 43 = .ok (.if_icmp .gt 62, 3) := by decide +kernel
theorem dX4_bed_46 : decode cX4_bed 46 = .ok (.aload_n 0, 1) := by decide +kernel
theorem dX4_bed_47 : decode cX4_bed 47 = .ok (.getfield 49, 3) := by decide +kernel
theorem dX4_bed_50 : decode cX4_bed 50 = .ok (.getfield 247, 3) := by decide +kernel
theorem dX4_bed_53 : decode cX4_bed 53 = .ok (.iload_n 1, 1) := by decide +kernel
theorem dX4_bed_54 : decode cX4_bed 54 = .ok (.iload 4, 2) := by decide +kernel
theorem dX4_bed_56 : decode cX4_bed 56 = .ok (.iastore, 1) := by decide +kernel
theorem dX4_bed_57 : decode cX4_bed 57 = .ok (.aload_n 0, 1) := by decide +kernel
theorem dX4_bed_58 : decode cX4_bed 58 = .ok (.getfield 49, 3) := by decide +kernel
theorem dX4_bed_61 : decode cX4_bed 61 = .ok (.bipush 40, 2) := by decide +kernel
theorem dX4_bed_63 : decode cX4_bed 63 = .ok (.aload_n 0, 1) := by decide +kernel
theorem dX4_bed_64 : decode cX4_bed 64 = .ok (.getfield 24, 3) := by decide +kernel
theorem dX4_bed_67 : decode cX4_bed 67 = .ok (.getfield 196, 3) := by decide +kernel
theorem dX4_bed_70 : decode cX4_bed 70 = .ok (.invokevirtual 199, 3) := by decide +kernel
theorem dX4_bed_73 : decode cX4_bed 73 = .ok (.pop, 1) := by decide +kernel
theorem dX4_bed_74 : decode cX4_bed 74 = .ok (.aload_n 0, 1) := by decide +kernel
theorem dX4_bed_75 : decode cX4_bed 75 = .ok (.getfield 49, 3) := by decide +kernel
theorem dX4_bed_78 : decode cX4_bed 78 = .ok (.iload 4, 2) := by decide +kernel
theorem dX4_bed_80 : decode cX4_bed 80 = .ok (.bipush 40, 2) := by decide +kernel
theorem dX4_bed_82 : decode cX4_bed 82 = .ok (.invokevirtual 211, 3) := by decide +kernel
theorem dX4_bed_85 : decode cX4_bed 85 = .ok (.istore 5, 2) := by decide +kernel
theorem dX4_bed_87 : decode cX4_bed 87 = .ok (.iload 5, 2) := by decide +kernel
theorem dX4_bed_89 : decode cX4_bed 89 = .ok (.iload_n 3, 1) := by decide +kernel
theorem dX4_bed_90 : decode cX4_bed 90 = .ok (.if_icmp .le 9, 3) := by decide +kernel
theorem dX4_bed_93 : decode cX4_bed 93 = .ok (.iload 5, 2) := by decide +kernel
theorem dX4_bed_95 : decode cX4_bed 95 = .ok (.istore_n 3, 1) := by decide +kernel
theorem dX4_bed_96 : decode cX4_bed 96 = .ok (.iload 4, 2) := by decide +kernel
theorem dX4_bed_98 : decode cX4_bed 98 = .ok (.istore_n 2, 1) := by decide +kernel
theorem dX4_bed_99 : decode cX4_bed 99 = .ok (.iinc 4 1, 3) := by decide +kernel
theorem dX4_bed_102 : decode cX4_bed 102 = .ok (.goto (-68), 3) := by decide +kernel
theorem dX4_bed_105 : decode cX4_bed 105 = .ok (.aload_n 0, 1) := by decide +kernel
theorem dX4_bed_106 : decode cX4_bed 106 = .ok (.iload_n 3, 1) := by decide +kernel
theorem dX4_bed_107 : decode cX4_bed 107 = .ok (.putfield 97, 3) := by decide +kernel
theorem dX4_bed_110 : decode cX4_bed 110 = .ok (.iload_n 2, 1) := by decide +kernel
theorem dX4_bed_111 : decode cX4_bed 111 = .ok (.ireturn, 1) := by decide +kernel
theorem dX4_account_0 : decode cX4_account 0 = .ok (.aload_n 0, 1) := by decide +kernel
theorem dX4_account_1 : decode cX4_account 1 = .ok (.getfield 14, 3) := by decide +kernel
theorem dX4_account_4 : decode cX4_account 4 = .ok (.iload_n 1, 1) := by decide +kernel
theorem dX4_account_5 : decode cX4_account 5 = .ok (.invokevirtual 78, 3) := by decide +kernel
theorem dX4_account_8 : decode cX4_account 8 = .ok (.ifCond .ne 5, 3) := by decide +kernel
theorem dX4_account_11 : decode cX4_account 11 = .ok (.iconst (-1), 1) := by decide +kernel
theorem dX4_account_12 : decode cX4_account 12 = .ok (.ireturn, 1) := by decide +kernel
theorem dX4_account_13 : decode cX4_account 13 = .ok (.aload_n 0, 1) := by decide +kernel
theorem dX4_account_14 : decode cX4_account 14 = .ok (.getfield 24, 3) := by decide +kernel
theorem dX4_account_17 : decode cX4_account 17 = .ok (.getfield 129, 3) := by decide +kernel
theorem dX4_account_20 : decode cX4_account 20 = .ok (.ifCond .ne 6, 3) := by decide +kernel
theorem dX4_account_23 : decode cX4_account 23 = .ok (.bipush (-4), 2) := by decide +kernel
theorem dX4_account_25 : decode cX4_account 25 = .ok (.ireturn, 1) := by decide +kernel
theorem dX4_account_26 : decode cX4_account 26 = .ok (.aload_n 0, 1) := by decide +kernel
theorem dX4_account_27 : decode cX4_account 27 = .ok (.iload_n 1, 1) := by decide +kernel
theorem dX4_account_28 : decode cX4_account 28 = .ok (.invokevirtual 248, 3) := by decide +kernel
theorem dX4_account_31 : decode cX4_account 31 = .ok (.istore_n 2, 1) := by decide +kernel
theorem dX4_account_32 : decode cX4_account 32 = .ok (.iload_n 2, 1) := by decide +kernel
theorem dX4_account_33 : decode cX4_account 33 = .ok (.ifCond .eq 5, 3) := by decide +kernel
theorem dX4_account_36 : decode cX4_account 36 = .ok (.iload_n 2, 1) := by decide +kernel
theorem dX4_account_37 : decode cX4_account 37 = .ok (.ireturn, 1) := by decide +kernel
theorem dX4_account_38 : decode cX4_account 38 = .ok (.iconst 0, 1) := by decide +kernel
theorem dX4_account_39 : decode cX4_account 39 = .ok (.istore_n 3, 1) := by decide +kernel
theorem dX4_account_40 : decode cX4_account 40 = .ok (.aload_n 0, 1) := by decide +kernel
theorem dX4_account_41 : decode cX4_account 41 = .ok (.getfield 24, 3) := by decide +kernel
theorem dX4_account_44 : decode cX4_account 44 = .ok (.invokevirtual 222, 3) := by decide +kernel
theorem dX4_account_47 : decode cX4_account 47 = .ok (.iconst 1, 1) := by decide +kernel
theorem dX4_account_48 : decode cX4_account 48 = .ok (.isub, 1) := by decide +kernel
theorem dX4_account_49 : decode cX4_account 49 = .ok (.istore 4, 2) := by decide +kernel
theorem dX4_account_51 : decode cX4_account 51 = .ok (.aload_n 0, 1) := by decide +kernel
theorem dX4_account_52 : decode cX4_account 52 = .ok (.getfield 49, 3) := by decide +kernel
theorem dX4_account_55 : decode cX4_account 55 = .ok (.aload_n 0, 1) := by decide +kernel
theorem dX4_account_56 : decode cX4_account 56 = .ok (.getfield 24, 3) := by decide +kernel
theorem dX4_account_59 : decode cX4_account 59 = .ok (.invokevirtual 193, 3) := by decide +kernel
theorem dX4_account_62 : decode cX4_account 62 = .ok (.iconst 0, 1) := by decide +kernel
theorem dX4_account_63 : decode cX4_account 63 = .ok (.istore 5, 2) := by decide +kernel
theorem dX4_account_65 : decode cX4_account 65 = .ok (.iload 5, 2) := by decide +kernel
theorem dX4_account_67 : decode cX4_account 67 = .ok (.aload_n 0, 1) := by decide +kernel
theorem dX4_account_68 : decode cX4_account 68 = .ok (.getfield 24, 3) := by decide +kernel
theorem dX4_account_71 : decode cX4_account 71 = .ok (.invokevirtual 222, 3) := by decide +kernel
theorem dX4_account_74 : decode cX4_account 74 = .ok (.if_icmp .ge 29, 3) := by decide +kernel
theorem dX4_account_77 : decode cX4_account 77 = .ok (.aload_n 0, 1) := by decide +kernel
theorem dX4_account_78 : decode cX4_account 78 = .ok (.iload_n 1, 1) := by decide +kernel
theorem dX4_account_79 : decode cX4_account 79 = .ok (.iload 5, 2) := by decide +kernel
theorem dX4_account_81 : decode cX4_account 81 = .ok (.invokevirtual 251, 3) := by decide +kernel
theorem dX4_account_84 : decode cX4_account 84 = .ok (.ifCond .eq 13, 3) := by decide +kernel
theorem dX4_account_87 : decode cX4_account 87 = .ok (.iinc 3 1, 3) := by decide +kernel
theorem dX4_account_90 : decode cX4_account 90 = .ok (.iload 4, 2) := by decide +kernel
theorem dX4_account_92 : decode cX4_account 92 = .ok (.iload 5, 2) := by decide +kernel
theorem dX4_account_94 : decode cX4_account 94 = .ok (.iand, 1) := by decide +kernel
theorem dX4_account_95 : decode cX4_account 95 = .ok (.istore 4, 2) := by decide +kernel
theorem dX4_account_97 : decode cX4_account 97 = .ok (.iinc 5 1, 3) := by decide +kernel
theorem dX4_account_100 : decode cX4_account 100 = .ok (.goto (-35), 3) := by decide +kernel
theorem dX4_account_103 : decode cX4_account 103 = .ok (.iload_n 3, 1) := by decide +kernel
theorem dX4_account_104 : decode cX4_account 104 = .ok (.ifCond .ne 6, 3) := by decide +kernel
theorem dX4_account_107 : decode cX4_account 107 = .ok (.bipush (-9), 2) := by decide +kernel
theorem dX4_account_109 : decode cX4_account 109 = .ok (.ireturn, 1) := by decide +kernel
theorem dX4_account_110 : decode cX4_account 110 = .ok (.aload_n 0, 1) := by decide +kernel
theorem dX4_account_111 : decode cX4_account 111 = .ok (.iload 4, 2) := by decide +kernel
theorem dX4_account_113 : decode cX4_account 113 = .ok (.putfield 97, 3) := by decide +kernel
theorem dX4_account_116 : decode cX4_account 116 = .ok (.iload_n 3, 1) := by decide +kernel
theorem dX4_account_117 : decode cX4_account 117 = .ok (.ireturn, 1) := by decide +kernel
theorem dX4_kinds_0 : decode cX4_kinds 0 = .ok (.iload_n 1, 1) := by decide +kernel
theorem dX4_kinds_1 : decode cX4_kinds 1 = .ok (.aload_n 0, 1) := by decide +kernel
theorem dX4_kinds_2 : decode cX4_kinds 2 = .ok (.getfield 24, 3) := by decide +kernel
theorem dX4_kinds_5 : decode cX4_kinds 5 = .ok (.getfield 129, 3) := by decide +kernel
theorem dX4_kinds_8 : decode cX4_kinds 8 = .ok (.invokestatic 132, 3) := by decide +kernel
theorem dX4_kinds_11 : decode cX4_kinds 11 = .ok (.ifCond .eq 14, 3) := by decide +kernel
theorem dX4_kinds_14 : decode cX4_kinds 14 = .ok (.aload_n 0, 1) := by decide +kernel
theorem dX4_kinds_15 : decode cX4_kinds 15 = .ok (.getfield 14, 3) := by decide +kernel
theorem dX4_kinds_18 : decode cX4_kinds 18 = .ok (.iload_n 2, 1) := by decide +kernel
theorem dX4_kinds_19 : decode cX4_kinds 19 = .ok (.invokevirtual 78, 3) := by decide +kernel
theorem dX4_kinds_22 : decode cX4_kinds 22 = .ok (.ifCond .ne 5, 3) := by decide +kernel
theorem dX4_kinds_25 : decode cX4_kinds 25 = .ok (.iconst (-1), 1) := by decide +kernel
theorem dX4_kinds_26 : decode cX4_kinds 26 = .ok (.ireturn, 1) := by decide +kernel
theorem dX4_kinds_27 : decode cX4_kinds 27 = .ok (.aload_n 0, 1) := by decide +kernel
theorem dX4_kinds_28 : decode cX4_kinds 28 = .ok (.iload_n 2, 1) := by decide +kernel
theorem dX4_kinds_29 : decode cX4_kinds 29 = .ok (.invokevirtual 248, 3) := by decide +kernel
theorem dX4_kinds_32 : decode cX4_kinds 32 = .ok (.istore_n 3, 1) := by decide +kernel
theorem dX4_kinds_33 : decode cX4_kinds 33 = .ok (.iload_n 3, 1) := by decide +kernel
theorem dX4_kinds_34 : decode cX4_kinds 34 = .ok (.ifCond .eq 5, 3) := by decide +kernel
theorem dX4_kinds_37 : decode cX4_kinds 37 = .ok (.iload_n 3, 1) := by decide +kernel
theorem dX4_kinds_38 : decode cX4_kinds 38 = .ok (.ireturn, 1) := by decide +kernel
theorem dX4_kinds_39 : decode cX4_kinds 39 = .ok (.iconst 0, 1) := by decide +kernel
theorem dX4_kinds_40 : decode cX4_kinds 40 = .ok (.istore 4, 2) := by decide +kernel
theorem dX4_kinds_42 : decode cX4_kinds 42 = .ok (.aload_n 0, 1) := by decide +kernel
theorem dX4_kinds_43 : decode cX4_kinds 43 = .ok (.getfield 49, 3) := by decide +kernel
theorem dX4_kinds_46 : decode cX4_kinds 46 = .ok (.aload_n 0, 1) := by decide +kernel
theorem dX4_kinds_47 : decode cX4_kinds 47 = .ok (.getfield 24, 3) := by decide +kernel
theorem dX4_kinds_50 : decode cX4_kinds 50 = .ok (.invokevirtual 193, 3) := by decide +kernel
theorem dX4_kinds_53 : decode cX4_kinds 53 = .ok (.iconst 0, 1) := by decide +kernel
theorem dX4_kinds_54 : decode cX4_kinds 54 = .ok (.istore 5, 2) := by decide +kernel
theorem dX4_kinds_56 : decode cX4_kinds 56 = .ok (.iload 5, 2) := by decide +kernel
theorem dX4_kinds_58 : decode cX4_kinds 58 = .ok (.bipush 6, 2) := by decide +kernel
theorem dX4_kinds_60 : decode cX4_kinds 60 = .ok (.if_icmp .ge 63, 3) := by decide +kernel
theorem dX4_kinds_63 : decode cX4_kinds 63 = .ok (.aload_n 0, 1) := by decide +kernel
theorem dX4_kinds_64 : decode cX4_kinds 64 = .ok (.getfield 49, 3) := by decide +kernel
theorem dX4_kinds_67 : decode cX4_kinds 67 = .ok (.getfield 254, 3) := by decide +kernel
theorem dX4_kinds_70 : decode cX4_kinds 70 = .ok (.iload_n 1, 1) := by decide +kernel
theorem dX4_kinds_71 : decode cX4_kinds 71 = .ok (.iload 5, 2) := by decide +kernel
theorem dX4_kinds_73 : decode cX4_kinds 73 = .ok (.aload_n 0, 1) := by decide +kernel
theorem dX4_kinds_74 : decode cX4_kinds 74 = .ok (.getfield 24, 3) := by decide +kernel
theorem dX4_kinds_77 : decode cX4_kinds 77 = .ok (.getfield 146, 3) := by decide +kernel
theorem dX4_kinds_80 : decode cX4_kinds 80 = .ok (.iload_n 1, 1) := by decide +kernel
theorem dX4_kinds_81 : decode cX4_kinds 81 = .ok (.iaload, 1) := by decide +kernel
theorem dX4_kinds_82 : decode cX4_kinds 82 = .ok (.aload_n 0, 1) := by decide +kernel
theorem dX4_kinds_83 : decode cX4_kinds 83 = .ok (.getfield 24, 3) := by decide +kernel
theorem dX4_kinds_86 : decode cX4_kinds 86 = .ok (.getfield 162, 3) := by decide +kernel
theorem dX4_kinds_89 : decode cX4_kinds 89 = .ok (.invokestatic 257, 3) := by decide +kernel
theorem dX4_kinds_92 : decode cX4_kinds 92 = .ok (.lastore, 1) := by decide +kernel
theorem dX4_kinds_93 : decode cX4_kinds 93 = .ok (.aload_n 0, 1) := by decide +kernel
theorem dX4_kinds_94 : decode cX4_kinds 94 = .ok (.iload_n 2, 1) := by decide +kernel
theorem dX4_kinds_95 : decode cX4_kinds 95 = .ok (.aload_n 0, 1) := by decide +kernel
theorem dX4_kinds_96 : decode cX4_kinds 96 = .ok (.getfield 24, 3) := by decide +kernel
theorem dX4_kinds_99 : decode cX4_kinds 99 = .ok (.getfield 196, 3) := by decide +kernel
theorem dX4_kinds_102 : decode cX4_kinds 102 = .ok (.invokevirtual 251, 3) := by decide +kernel
theorem dX4_kinds_105 : decode cX4_kinds 105 = .ok (.ifCond .eq 12, 3) := by decide +kernel
theorem dX4_kinds_108 : decode cX4_kinds 108 = .ok (.iload 4, 2) := by decide +kernel
theorem dX4_kinds_110 : decode cX4_kinds 110 = .ok (.iconst 1, 1) := by decide +kernel
theorem dX4_kinds_111 : decode cX4_kinds 111 = .ok (.iload 5, 2) := by decide +kernel
theorem dX4_kinds_113 : decode cX4_kinds 113 = .ok (.ishl, 1) := by decide +kernel
theorem dX4_kinds_114 : decode cX4_kinds 114 = .ok (.ior, 1) := by decide +kernel
theorem dX4_kinds_115 : decode cX4_kinds 115 = .ok (.istore 4, 2) := by decide +kernel
theorem dX4_kinds_117 : decode cX4_kinds 117 = .ok (.iinc 5 1, 3) := by decide +kernel
theorem dX4_kinds_120 : decode cX4_kinds 120 = .ok (.goto (-64), 3) := by decide +kernel
theorem dX4_kinds_123 : decode cX4_kinds 123 = .ok (.iload 4, 2) := by decide +kernel
theorem dX4_kinds_125 : decode cX4_kinds 125 = .ok (.ireturn, 1) := by decide +kernel
theorem dX4_look_0 : decode cX4_look 0 = .ok (.iload_n 1, 1) := by decide +kernel
theorem dX4_look_1 : decode cX4_look 1 = .ok (.aload_n 0, 1) := by decide +kernel
theorem dX4_look_2 : decode cX4_look 2 = .ok (.getfield 24, 3) := by decide +kernel
theorem dX4_look_5 : decode cX4_look 5 = .ok (.getfield 129, 3) := by decide +kernel
theorem dX4_look_8 : decode cX4_look 8 = .ok (.invokestatic 132, 3) := by decide +kernel
theorem dX4_look_11 : decode cX4_look 11 = .ok (.ifCond .ne 5, 3) := by decide +kernel
theorem dX4_look_14 : decode cX4_look 14 = .ok (.iconst (-1), 1) := by decide +kernel
theorem dX4_look_15 : decode cX4_look 15 = .ok (.ireturn, 1) := by decide +kernel
theorem dX4_look_16 : decode cX4_look 16 = .ok (.aload_n 0, 1) := by decide +kernel
theorem dX4_look_17 : decode cX4_look 17 = .ok (.getfield 49, 3) := by decide +kernel
theorem dX4_look_20 : decode cX4_look 20 = .ok (.aload_n 0, 1) := by decide +kernel
theorem dX4_look_21 : decode cX4_look 21 = .ok (.getfield 24, 3) := by decide +kernel
theorem dX4_look_24 : decode cX4_look 24 = .ok (.invokevirtual 193, 3) := by decide +kernel
theorem dX4_look_27 : decode cX4_look 27 = .ok (.iconst 0, 1) := by decide +kernel
theorem dX4_look_28 : decode cX4_look 28 = .ok (.istore_n 2, 1) := by decide +kernel
theorem dX4_look_29 : decode cX4_look 29 = .ok (.iload_n 2, 1) := by decide +kernel
theorem dX4_look_30 : decode cX4_look 30 = .ok (.bipush 6, 2) := by decide +kernel
theorem dX4_look_32 : decode cX4_look 32 = .ok (.if_icmp .ge 75, 3) := by decide +kernel
theorem dX4_look_35 : decode cX4_look 35 = .ok (.aload_n 0, 1) := by decide +kernel
theorem dX4_look_36 : decode cX4_look 36 = .ok (.getfield 49, 3) := by decide +kernel
theorem dX4_look_39 : decode cX4_look 39 = .ok (.getfield 254, 3) := by decide +kernel
theorem dX4_look_42 : decode cX4_look 42 = .ok (.iload_n 1, 1) := by decide +kernel
theorem dX4_look_43 : decode cX4_look 43 = .ok (.iload_n 2, 1) := by decide +kernel
theorem dX4_look_44 : decode cX4_look 44 = .ok (.aload_n 0, 1) := by decide +kernel
theorem dX4_look_45 : decode cX4_look 45 = .ok (.getfield 24, 3) := by decide +kernel
theorem dX4_look_48 : decode cX4_look 48 = .ok (.getfield 146, 3) := by decide +kernel
theorem dX4_look_51 : decode cX4_look 51 = .ok (.iload_n 1, 1) := by decide +kernel
theorem dX4_look_52 : decode cX4_look 52 = .ok (.iaload, 1) := by decide +kernel
theorem dX4_look_53 : decode cX4_look 53 = .ok (.aload_n 0, 1) := by decide +kernel
theorem dX4_look_54 : decode cX4_look 54 = .ok (.getfield 24, 3) := by decide +kernel
theorem dX4_look_57 : decode cX4_look 57 = .ok (.getfield 162, 3) := by decide +kernel
theorem dX4_look_60 : decode cX4_look 60 = .ok (.invokestatic 257, 3) := by decide +kernel
theorem dX4_look_63 : decode cX4_look 63 = .ok (.lastore, 1) := by decide +kernel
theorem dX4_look_64 : decode cX4_look 64 = .ok (.aload_n 0, 1) := by decide +kernel
theorem dX4_look_65 : decode cX4_look 65 = .ok (.getfield 49, 3) := by decide +kernel
theorem dX4_look_68 : decode cX4_look 68 = .ok (.bipush 20, 2) := by decide +kernel
theorem dX4_look_70 : decode cX4_look 70 = .ok (.aload_n 0, 1) := by decide +kernel
theorem dX4_look_71 : decode cX4_look 71 = .ok (.getfield 24, 3) := by decide +kernel
theorem dX4_look_74 : decode cX4_look 74 = .ok (.getfield 196, 3) := by decide +kernel
theorem dX4_look_77 : decode cX4_look 77 = .ok (.invokevirtual 199, 3) := by decide +kernel
theorem dX4_look_80 : decode cX4_look 80 = .ok (.pop, 1) := by decide +kernel
theorem dX4_look_81 : decode cX4_look 81 = .ok (.aload_n 0, 1) := by decide +kernel
theorem dX4_look_82 : decode cX4_look 82 = .ok (.getfield 49, 3) := by decide +kernel
theorem dX4_look_85 : decode cX4_look 85 = .ok (.getfield 202, 3) := by decide +kernel
theorem dX4_look_88 : decode cX4_look 88 = .ok (.iconst 0, 1) := by decide +kernel
theorem dX4_look_89 : decode cX4_look 89 = .ok (.aload_n 0, 1) := by decide +kernel
theorem dX4_look_90 : decode cX4_look 90 = .ok (.getfield 60, 3) := by decide +kernel
theorem dX4_look_93 : decode cX4_look 93 = .ok (.iload_n 2, 1) := by decide +kernel
theorem dX4_look_94 : decode cX4_look 94 = .ok (.aaload, 1) := by decide +kernel
theorem dX4_look_95 : decode cX4_look 95 = .ok (.iconst 0, 1) := by decide +kernel
theorem dX4_look_96 : decode cX4_look 96 = .ok (.bipush 21, 2) := by decide +kernel
theorem dX4_look_98 : decode cX4_look 98 = .ok (.invokestatic 115, 3) := by decide +kernel
theorem dX4_look_101 : decode cX4_look 101 = .ok (.iinc 2 1, 3) := by decide +kernel
theorem dX4_look_104 : decode cX4_look 104 = .ok (.goto (-75), 3) := by decide +kernel
theorem dX4_look_107 : decode cX4_look 107 = .ok (.iconst 1, 1) := by decide +kernel
theorem dX4_look_108 : decode cX4_look 108 = .ok (.istore_n 2, 1) := by decide +kernel
theorem dX4_look_109 : decode cX4_look 109 = .ok (.bipush 7, 2) := by decide +kernel
theorem dX4_look_111 : decode cX4_look 111 = .ok (.istore_n 3, 1) := by decide +kernel
theorem dX4_look_112 : decode cX4_look 112 = .ok (.iconst 1, 1) := by decide +kernel
theorem dX4_look_113 : decode cX4_look 113 = .ok (.istore 4, 2) := by decide +kernel
theorem dX4_look_115 : decode cX4_look 115 = .ok (.iload 4, 2) := by decide +kernel
theorem dX4_look_117 : decode cX4_look 117 = .ok (.bipush 20, 2) := by decide +kernel
theorem dX4_look_119 : decode cX4_look 119 = .ok (.if_icmp .gt 29, 3) := by decide +kernel
theorem dX4_look_122 : decode cX4_look 122 = .ok (.aload_n 0, 1) := by decide +kernel
theorem dX4_look_123 : decode cX4_look 123 = .ok (.iload 4, 2) := by decide +kernel
theorem dX4_look_125 : decode cX4_look 125 = .ok (.invokevirtual 261, 3) := by decide +kernel
theorem dX4_look_128 : decode cX4_look 128 = .ok (.istore 5, 2) := by decide +kernel
theorem dX4_look_130 : decode cX4_look 130 = .ok (.iload 5, 2) := by decide +kernel
theorem dX4_look_132 : decode cX4_look 132 = .ok (.iload_n 3, 1) := by decide +kernel
theorem dX4_look_133 : decode cX4_look 133 = .ok (.if_icmp .ge 9, 3) := by decide +kernel
theorem dX4_look_136 : decode cX4_look 136 = .ok (.iload 5, 2) := by decide +kernel
theorem dX4_look_138 : decode cX4_look 138 = .ok (.istore_n 3, 1) := by decide +kernel
theorem dX4_look_139 : decode cX4_look 139 = .ok (.iload 4, 2) := by decide +kernel
theorem dX4_look_141 : decode cX4_look 141 = .ok (.istore_n 2, 1) := by decide +kernel
theorem dX4_look_142 : decode cX4_look 142 = .ok (.iinc 4 1, 3) := by decide +kernel
theorem dX4_look_145 : decode cX4_look 145 = .ok (.goto (-30), 3) := by decide +kernel
theorem dX4_look_148 : decode cX4_look 148 = .ok (.aload_n 0, 1) := by decide +kernel
theorem dX4_look_149 : decode cX4_look 149 = .ok (.iload_n 3, 1) := by decide +kernel
theorem dX4_look_150 : decode cX4_look 150 = .ok (.putfield 97, 3) := by decide +kernel
theorem dX4_look_153 : decode cX4_look 153 = .ok (.iload_n 2, 1) := by decide +kernel
theorem dX4_look_154 : decode cX4_look 154 = .ok (.ireturn, 1) := by decide +kernel
theorem dX4_duel_0 : decode cX4_duel 0 = .ok (.iload_n 1, 1) := by decide +kernel
theorem dX4_duel_1 : decode cX4_duel 1 = .ok (.iconst 5, 1) := by decide +kernel
theorem dX4_duel_2 : decode cX4_duel 2 = .ok (.invokestatic 132, 3) := by decide +kernel
theorem dX4_duel_5 : decode cX4_duel 5 = .ok (.ifCond .ne 5, 3) := by decide +kernel
theorem dX4_duel_8 : decode cX4_duel 8 = .ok (.iconst (-1), 1) := by decide +kernel
theorem dX4_duel_9 : decode cX4_duel 9 = .ok (.ireturn, 1) := by decide +kernel
theorem dX4_duel_10 : decode cX4_duel 10 = .ok (.aload_n 0, 1) := by decide +kernel
theorem dX4_duel_11 : decode cX4_duel 11 = .ok (.getfield 24, 3) := by decide +kernel
theorem dX4_duel_14 : decode cX4_duel 14 = .ok (.getfield 129, 3) := by decide +kernel
theorem dX4_duel_17 : decode cX4_duel 17 = .ok (.ifCond .ne 6, 3) := by decide +kernel
theorem dX4_duel_20 : decode cX4_duel 20 = .ok (.bipush (-4), 2) := by decide +kernel
theorem dX4_duel_22 : decode cX4_duel 22 = .ok (.ireturn, 1) := by decide +kernel
theorem dX4_duel_23 : decode cX4_duel 23 = .ok (.aload_n 0, 1) := by decide +kernel
theorem dX4_duel_24 : decode cX4_duel 24 = .ok (.getfield 49, 3) := by decide +kernel
theorem dX4_duel_27 : decode cX4_duel 27 = .ok (.aload_n 0, 1) := by decide +kernel
theorem dX4_duel_28 : decode cX4_duel 28 = .ok (.getfield 24, 3) := by decide +kernel
theorem dX4_duel_31 : decode cX4_duel 31 = .ok (.invokevirtual 193, 3) := by decide +kernel
theorem dX4_duel_34 : decode cX4_duel 34 = .ok (.iconst 0, 1) := by decide +kernel
theorem dX4_duel_35 : decode cX4_duel 35 = .ok (.istore_n 2, 1) := by decide +kernel
theorem dX4_duel_36 : decode cX4_duel 36 = .ok (.iload_n 2, 1) := by decide +kernel
theorem dX4_duel_37 : decode cX4_duel 37 = .ok (.aload_n 0, 1) := by decide +kernel
theorem dX4_duel_38 : decode cX4_duel 38 = .ok (.getfield 24, 3) := by decide +kernel
theorem dX4_duel_41 : decode cX4_duel 41 = .ok (.invokevirtual 222, 3) := by decide +kernel
theorem dX4_duel_44 : decode cX4_duel 44 = .ok (.if_icmp .ge 27, 3) := by decide +kernel
theorem dX4_duel_47 : decode cX4_duel 47 = .ok (.aload_n 0, 1) := by decide +kernel
theorem dX4_duel_48 : decode cX4_duel 48 = .ok (.getfield 63, 3) := by decide +kernel
theorem dX4_duel_51 : decode cX4_duel 51 = .ok (.iconst 0, 1) := by decide +kernel
theorem dX4_duel_52 : decode cX4_duel 52 = .ok (.aaload, 1) := by decide +kernel
theorem dX4_duel_53 : decode cX4_duel 53 = .ok (.iload_n 2, 1) := by decide +kernel
theorem dX4_duel_54 : decode cX4_duel 54 = .ok (.aload_n 0, 1) := by decide +kernel
theorem dX4_duel_55 : decode cX4_duel 55 = .ok (.getfield 49, 3) := by decide +kernel
theorem dX4_duel_58 : decode cX4_duel 58 = .ok (.bipush 20, 2) := by decide +kernel
theorem dX4_duel_60 : decode cX4_duel 60 = .ok (.iload_n 2, 1) := by decide +kernel
theorem dX4_duel_61 : decode cX4_duel 61 = .ok (.invokevirtual 199, 3) := by decide +kernel
theorem dX4_duel_64 : decode cX4_duel 64 = .ok (.iastore, 1) := by decide +kernel
theorem dX4_duel_65 : decode cX4_duel 65 = .ok (.iinc 2 1, 3) := by decide +kernel
theorem dX4_duel_68 : decode cX4_duel 68 = .ok (.goto (-32), 3) := by decide +kernel
theorem dX4_duel_71 : decode cX4_duel 71 = .ok (.iconst 1, 1) := by decide +kernel
theorem dX4_duel_72 : decode cX4_duel 72 = .ok (.istore_n 2, 1) := by decide +kernel
theorem dX4_duel_73 : decode cX4_duel 73 = .ok (.iload_n 2, 1) := by decide +kernel
theorem dX4_duel_74 : decode cX4_duel 74 = .ok (.iload_n 1, 1) := by decide +kernel
theorem dX4_duel_75 : decode cX4_duel 75 = .ok (.if_icmp .gt 29, 3) := by decide +kernel
theorem dX4_duel_78 : decode cX4_duel 78 = .ok (.iload_n 1, 1) := by decide +kernel
theorem dX4_duel_79 : decode cX4_duel 79 = .ok (.iload_n 2, 1) := by decide +kernel
theorem dX4_duel_80 : decode cX4_duel 80 = .ok (.isub, 1) := by decide +kernel
theorem dX4_duel_81 : decode cX4_duel 81 = .ok (.iconst 2, 1) := by decide +kernel
theorem dX4_duel_82 : decode cX4_duel 82 = .ok (.irem, 1) := by decide +kernel
theorem dX4_duel_83 : decode cX4_duel 83 = .ok (.ifCond .ne 7, 3) := by decide +kernel
theorem dX4_duel_86 : decode cX4_duel 86 = .ok (.iconst 1, 1) := by decide +kernel
theorem dX4_duel_87 : decode cX4_duel 87 = .ok (.goto 4, 3) := by decide +kernel
theorem dX4_duel_90 : decode cX4_duel 90 = .ok (.iconst 0, 1) := by decide +kernel
theorem dX4_duel_91 : decode cX4_duel 91 = .ok (.istore_n 3, 1) := by decide +kernel
theorem dX4_duel_92 : decode cX4_duel 92 = .ok (.aload_n 0, 1) := by decide +kernel
theorem dX4_duel_93 : decode cX4_duel 93 = .ok (.iload_n 2, 1) := by decide +kernel
theorem dX4_duel_94 : decode cX4_duel 94 = .ok (.iload_n 3, 1) := by decide +kernel
theorem dX4_duel_95 : decode cX4_duel 95 = .ok (.invokevirtual 264, 3) := by decide +kernel
theorem dX4_duel_98 : decode cX4_duel 98 = .ok (.iinc 2 1, 3) := by decide +kernel
theorem dX4_duel_101 : decode cX4_duel 101 = .ok (.goto (-28), 3) := by decide +kernel
theorem dX4_duel_104 : decode cX4_duel 104 = .ok (.aload_n 0, 1) := by decide +kernel
theorem dX4_duel_105 : decode cX4_duel 105 = .ok (.getfield 63, 3) := by decide +kernel
theorem dX4_duel_108 : decode cX4_duel 108 = .ok (.iload_n 1, 1) := by decide +kernel
theorem dX4_duel_109 : decode cX4_duel 109 = .ok (.aaload, 1) := by decide +kernel
theorem dX4_duel_110 : decode cX4_duel 110 = .ok (.aload_n 0, 1) := by decide +kernel
theorem dX4_duel_111 : decode cX4_duel 111 = .ok (.getfield 24, 3) := by decide +kernel
theorem dX4_duel_114 : decode cX4_duel 114 = .ok (.getfield 196, 3) := by decide +kernel
theorem dX4_duel_117 : decode cX4_duel 117 = .ok (.iaload, 1) := by decide +kernel
theorem dX4_duel_118 : decode cX4_duel 118 = .ok (.ireturn, 1) := by decide +kernel
theorem dX4_odds_0 : decode cX4_odds 0 = .ok (.iload_n 1, 1) := by decide +kernel
theorem dX4_odds_1 : decode cX4_odds 1 = .ok (.bipush 31, 2) := by decide +kernel
theorem dX4_odds_3 : decode cX4_odds 3 = .ok (.invokestatic 132, 3) := by decide +kernel
theorem dX4_odds_6 : decode cX4_odds 6 = .ok (.ifCond .eq 21, 3) := by decide +kernel
theorem dX4_odds_9 : decode cX4_odds 9 = .ok (.iload_n 2, 1) := by decide +kernel
theorem dX4_odds_10 : decode cX4_odds 10 = .ok (.bipush 21, 2) := by decide +kernel
theorem dX4_odds_12 : decode cX4_odds 12 = .ok (.invokestatic 132, 3) := by decide +kernel
theorem dX4_odds_15 : decode cX4_odds 15 = .ok (.ifCond .eq 12, 3) := by decide +kernel
theorem dX4_odds_18 : decode cX4_odds 18 = .ok (.iload_n 3, 1) := by decide +kernel
theorem dX4_odds_19 : decode cX4_odds 19 = .ok (.bipush 13, 2) := by decide +kernel
theorem dX4_odds_21 : decode cX4_odds 21 = .ok (.invokestatic 132, 3) := by decide +kernel
theorem dX4_odds_24 : decode cX4_odds 24 = .ok (.ifCond .ne 5, 3) := by decide +kernel
theorem dX4_odds_27 : decode cX4_odds 27 = .ok (.iconst (-1), 1) := by decide +kernel
theorem dX4_odds_28 : decode cX4_odds 28 = .ok (.ireturn, 1) := by decide +kernel
theorem dX4_odds_29 : decode cX4_odds 29 = .ok (.aload_n 0, 1) := by decide +kernel
theorem dX4_odds_30 : decode cX4_odds 30 = .ok (.getfield 24, 3) := by decide +kernel
theorem dX4_odds_33 : decode cX4_odds 33 = .ok (.getfield 129, 3) := by decide +kernel
theorem dX4_odds_36 : decode cX4_odds 36 = .ok (.ifCond .ne 6, 3) := by decide +kernel
theorem dX4_odds_39 : decode cX4_odds 39 = .ok (.bipush (-4), 2) := by decide +kernel
theorem dX4_odds_41 : decode cX4_odds 41 = .ok (.ireturn, 1) := by decide +kernel
theorem dX4_odds_42 : decode cX4_odds 42 = .ok (.aload_n 0, 1) := by decide +kernel
theorem dX4_odds_43 : decode cX4_odds 43 = .ok (.iload_n 1, 1) := by decide +kernel
theorem dX4_odds_44 : decode cX4_odds 44 = .ok (.iload_n 3, 1) := by decide +kernel
theorem dX4_odds_45 : decode cX4_odds 45 = .ok (.invokevirtual 268, 3) := by decide +kernel
theorem dX4_odds_48 : decode cX4_odds 48 = .ok (.lconst 0, 1) := by decide +kernel
theorem dX4_odds_49 : decode cX4_odds 49 = .ok (.lstore 4, 2) := by decide +kernel
theorem dX4_odds_51 : decode cX4_odds 51 = .ok (.iload_n 2, 1) := by decide +kernel
theorem dX4_odds_52 : decode cX4_odds 52 = .ok (.istore 6, 2) := by decide +kernel
theorem dX4_odds_54 : decode cX4_odds 54 = .ok (.iload 6, 2) := by decide +kernel
theorem dX4_odds_56 : decode cX4_odds 56 = .ok (.bipush 20, 2) := by decide +kernel
theorem dX4_odds_58 : decode cX4_odds 58 = .ok (.if_icmp .gt 21, 3) := by decide +kernel
theorem dX4_odds_61 : decode cX4_odds 61 = .ok (.lload 4, 2) := by decide +kernel
theorem dX4_odds_63 : decode cX4_odds 63 = .ok (.aload_n 0, 1) := by decide +kernel
theorem dX4_odds_64 : decode cX4_odds 64 = .ok (.getfield 66, 3) := by decide +kernel
theorem dX4_odds_67 : decode cX4_odds 67 = .ok (.iload 6, 2) := by decide +kernel
theorem dX4_odds_69 : decode cX4_odds 69 = .ok (.laload, 1) := by decide +kernel
theorem dX4_odds_70 : decode cX4_odds 70 = .ok (.ladd, 1) := by decide +kernel
theorem dX4_odds_71 : decode cX4_odds 71 = .ok (.lstore 4, 2) := by decide +kernel
theorem dX4_odds_73 : decode cX4_odds 73 = .ok (.iinc 6 1, 3) := by decide +kernel
theorem dX4_odds_76 : decode cX4_odds 76 = .ok (.goto (-22), 3) := by decide +kernel
theorem dX4_odds_79 : decode cX4_odds 79 = .ok (.aload_n 0, 1) := by decide +kernel
theorem dX4_odds_80 : decode cX4_odds 80 = .ok (.lload 4, 2) := by decide +kernel
theorem dX4_odds_82 : decode cX4_odds 82 = .ok (.bipush 12, 2) := by decide +kernel
theorem dX4_odds_84 : decode cX4_odds 84 = .ok (.aload_n 0, 1) := by decide +kernel
theorem dX4_odds_85 : decode cX4_odds 85 = .ok (.getfield 24, 3) := by decide +kernel
theorem dX4_odds_88 : decode cX4_odds 88 = .ok (.getfield 196, 3) := by decide +kernel
theorem dX4_odds_91 : decode cX4_odds 91 = .ok (.invokestatic 226, 3) := by decide +kernel
theorem dX4_odds_94 : decode cX4_odds 94 = .ok (.invokestatic 271, 3) := by decide +kernel
theorem dX4_odds_97 : decode cX4_odds 97 = .ok (.invokevirtual 275, 3) := by decide +kernel
theorem dX4_odds_100 : decode cX4_odds 100 = .ok (.iconst 1, 1) := by decide +kernel
theorem dX4_odds_101 : decode cX4_odds 101 = .ok (.ireturn, 1) := by decide +kernel
theorem dX4_mid_0 : decode cX4_mid 0 = .ok (.iload_n 1, 1) := by decide +kernel
theorem dX4_mid_1 : decode cX4_mid 1 = .ok (.bipush 31, 2) := by decide +kernel
theorem dX4_mid_3 : decode cX4_mid 3 = .ok (.invokestatic 132, 3) := by decide +kernel
theorem dX4_mid_6 : decode cX4_mid 6 = .ok (.ifCond .eq 12, 3) := by decide +kernel
theorem dX4_mid_9 : decode cX4_mid 9 = .ok (.iload_n 2, 1) := by decide +kernel
theorem dX4_mid_10 : decode cX4_mid 10 = .ok (.bipush 13, 2) := by decide +kernel
theorem dX4_mid_12 : decode cX4_mid 12 = .ok (.invokestatic 132, 3) := by decide +kernel
theorem dX4_mid_15 : decode cX4_mid 15 = .ok (.ifCond .ne 5, 3) := by decide +kernel
theorem dX4_mid_18 : decode cX4_mid 18 = .ok (.iconst (-1), 1) := by decide +kernel
theorem dX4_mid_19 : decode cX4_mid 19 = .ok (.ireturn, 1) := by decide +kernel
theorem dX4_mid_20 : decode cX4_mid 20 = .ok (.aload_n 0, 1) := by decide +kernel
theorem dX4_mid_21 : decode cX4_mid 21 = .ok (.getfield 24, 3) := by decide +kernel
theorem dX4_mid_24 : decode cX4_mid 24 = .ok (.getfield 129, 3) := by decide +kernel
theorem dX4_mid_27 : decode cX4_mid 27 = .ok (.ifCond .ne 6, 3) := by decide +kernel
theorem dX4_mid_30 : decode cX4_mid 30 = .ok (.bipush (-4), 2) := by decide +kernel
theorem dX4_mid_32 : decode cX4_mid 32 = .ok (.ireturn, 1) := by decide +kernel
theorem dX4_mid_33 : decode cX4_mid 33 = .ok (.aload_n 0, 1) := by decide +kernel
theorem dX4_mid_34 : decode cX4_mid 34 = .ok (.iload_n 1, 1) := by decide +kernel
theorem dX4_mid_35 : decode cX4_mid 35 = .ok (.iload_n 2, 1) := by decide +kernel
theorem dX4_mid_36 : decode cX4_mid 36 = .ok (.invokevirtual 268, 3) := by decide +kernel
theorem dX4_mid_39 : decode cX4_mid 39 = .ok (.lconst 0, 1) := by decide +kernel
theorem dX4_mid_40 : decode cX4_mid 40 = .ok (.lstore_n 3, 1) := by decide +kernel
theorem dX4_mid_41 : decode cX4_mid 41 = .ok (.iconst 0, 1) := by decide +kernel
theorem dX4_mid_42 : decode cX4_mid 42 = .ok (.istore 5, 2) := by decide +kernel
theorem dX4_mid_44 : decode cX4_mid 44 = .ok (.iload 5, 2) := by decide +kernel
theorem dX4_mid_46 : decode cX4_mid 46 = .ok (.bipush 20, 2) := by decide +kernel
theorem dX4_mid_48 : decode cX4_mid 48 = .ok (.if_icmp .gt 23, 3) := by decide +kernel
theorem dX4_mid_51 : decode cX4_mid 51 = .ok (.lload_n 3, 1) := by decide +kernel
theorem dX4_mid_52 : decode cX4_mid 52 = .ok (.iload 5, 2) := by decide +kernel
theorem dX4_mid_54 : decode cX4_mid 54 = .ok (.i2l, 1) := by decide +kernel
theorem dX4_mid_55 : decode cX4_mid 55 = .ok (.aload_n 0, 1) := by decide +kernel
theorem dX4_mid_56 : decode cX4_mid 56 = .ok (.getfield 66, 3) := by decide +kernel
theorem dX4_mid_59 : decode cX4_mid 59 = .ok (.iload 5, 2) := by decide +kernel
theorem dX4_mid_61 : decode cX4_mid 61 = .ok (.laload, 1) := by decide +kernel
theorem dX4_mid_62 : decode cX4_mid 62 = .ok (.lmul, 1) := by decide +kernel
theorem dX4_mid_63 : decode cX4_mid 63 = .ok (.ladd, 1) := by decide +kernel
theorem dX4_mid_64 : decode cX4_mid 64 = .ok (.lstore_n 3, 1) := by decide +kernel
theorem dX4_mid_65 : decode cX4_mid 65 = .ok (.iinc 5 1, 3) := by decide +kernel
theorem dX4_mid_68 : decode cX4_mid 68 = .ok (.goto (-24), 3) := by decide +kernel
theorem dX4_mid_71 : decode cX4_mid 71 = .ok (.aload_n 0, 1) := by decide +kernel
theorem dX4_mid_72 : decode cX4_mid 72 = .ok (.lload_n 3, 1) := by decide +kernel
theorem dX4_mid_73 : decode cX4_mid 73 = .ok (.bipush 12, 2) := by decide +kernel
theorem dX4_mid_75 : decode cX4_mid 75 = .ok (.aload_n 0, 1) := by decide +kernel
theorem dX4_mid_76 : decode cX4_mid 76 = .ok (.getfield 24, 3) := by decide +kernel
theorem dX4_mid_79 : decode cX4_mid 79 = .ok (.getfield 196, 3) := by decide +kernel
theorem dX4_mid_82 : decode cX4_mid 82 = .ok (.invokestatic 226, 3) := by decide +kernel
theorem dX4_mid_85 : decode cX4_mid 85 = .ok (.invokestatic 271, 3) := by decide +kernel
theorem dX4_mid_88 : decode cX4_mid 88 = .ok (.invokevirtual 275, 3) := by decide +kernel
theorem dX4_mid_91 : decode cX4_mid 91 = .ok (.iconst 1, 1) := by decide +kernel
theorem dX4_mid_92 : decode cX4_mid 92 = .ok (.ireturn, 1) := by decide +kernel
theorem dX4_lots_0 : decode cX4_lots 0 = .ok (.iload_n 1, 1) := by decide +kernel
theorem dX4_lots_1 : decode cX4_lots 1 = .ok (.iconst 1, 1) := by decide +kernel
theorem dX4_lots_2 : decode cX4_lots 2 = .ok (.if_icmp .lt 21, 3) := by decide +kernel
theorem dX4_lots_5 : decode cX4_lots 5 = .ok (.iload_n 1, 1) := by decide +kernel
theorem dX4_lots_6 : decode cX4_lots 6 = .ok (.bipush 20, 2) := by decide +kernel
theorem dX4_lots_8 : decode cX4_lots 8 = .ok (.if_icmp .gt 15, 3) := by decide +kernel
theorem dX4_lots_11 : decode cX4_lots 11 = .ok (.iload_n 2, 1) := by decide +kernel
theorem dX4_lots_12 : decode cX4_lots 12 = .ok (.iconst 1, 1) := by decide +kernel
theorem dX4_lots_13 : decode cX4_lots 13 = .ok (.if_icmp .lt 10, 3) := by decide +kernel
theorem dX4_lots_16 : decode cX4_lots 16 = .ok (.iload_n 2, 1) := by decide +kernel
theorem dX4_lots_17 : decode cX4_lots 17 = .ok (.ldc_w 279, 3) := by decide +kernel
theorem dX4_lots_20 : decode cX4_lots 20 = .ok (.if_icmp .lt 5, 3) := by decide +kernel
theorem dX4_lots_23 : decode cX4_lots 23 = .ok (.iconst (-1), 1) := by decide +kernel
theorem dX4_lots_24 : decode cX4_lots 24 = .ok (.ireturn, 1) := by decide +kernel
theorem dX4_lots_25 : decode cX4_lots 25 = .ok (.aload_n 0, 1) := by decide +kernel
theorem dX4_lots_26 : decode cX4_lots 26 = .ok (.getfield 24, 3) := by decide +kernel
theorem dX4_lots_29 : decode cX4_lots 29 = .ok (.getfield 129, 3) := by decide +kernel
theorem dX4_lots_32 : decode cX4_lots 32 = .ok (.ifCond .ne 6, 3) := by decide +kernel
theorem dX4_lots_35 : decode cX4_lots 35 = .ok (.bipush (-4), 2) := by decide +kernel
theorem dX4_lots_37 : decode cX4_lots 37 = .ok (.ireturn, 1) := by decide +kernel
theorem dX4_lots_38 : decode cX4_lots 38 = .ok (.aload_n 0, 1) := by decide +kernel
theorem dX4_lots_39 : decode cX4_lots 39 = .ok (.getfield 24, 3) := by decide +kernel
theorem dX4_lots_42 : decode cX4_lots 42 = .ok (.iload_n 1, 1) := by decide +kernel
theorem dX4_lots_43 : decode cX4_lots 43 = .ok (.invokevirtual 165, 3) := by decide +kernel
theorem dX4_lots_46 : decode cX4_lots 46 = .ok (.ifCond .ne 6, 3) := by decide +kernel
theorem dX4_lots_49 : decode cX4_lots 49 = .ok (.bipush (-2), 2) := by decide +kernel
theorem dX4_lots_51 : decode cX4_lots 51 = .ok (.ireturn, 1) := by decide +kernel
theorem dX4_lots_52 : decode cX4_lots 52 = .ok (.iload_n 2, 1) := by decide +kernel
theorem dX4_lots_53 : decode cX4_lots 53 = .ok (.i2l, 1) := by decide +kernel
theorem dX4_lots_54 : decode cX4_lots 54 = .ok (.lstore_n 3, 1) := by decide +kernel
theorem dX4_lots_55 : decode cX4_lots 55 = .ok (.iconst 0, 1) := by decide +kernel
theorem dX4_lots_56 : decode cX4_lots 56 = .ok (.istore 5, 2) := by decide +kernel
theorem dX4_lots_58 : decode cX4_lots 58 = .ok (.iload 5, 2) := by decide +kernel
theorem dX4_lots_60 : decode cX4_lots 60 = .ok (.iload_n 1, 1) := by decide +kernel
theorem dX4_lots_61 : decode cX4_lots 61 = .ok (.if_icmp .ge 25, 3) := by decide +kernel
theorem dX4_lots_64 : decode cX4_lots 64 = .ok (.lload_n 3, 1) := by decide +kernel
theorem dX4_lots_65 : decode cX4_lots 65 = .ok (.ldc2_w 280, 3) := by decide +kernel
theorem dX4_lots_68 : decode cX4_lots 68 = .ok (.lmul, 1) := by decide +kernel
theorem dX4_lots_69 : decode cX4_lots 69 = .ok (.ldc2_w 282, 3) := by decide +kernel
theorem dX4_lots_72 : decode cX4_lots 72 = .ok (.lrem, 1) := by decide +kernel
theorem dX4_lots_73 : decode cX4_lots 73 = .ok (.lstore_n 3, 1) := by decide +kernel
theorem dX4_lots_74 : decode cX4_lots 74 = .ok (.aload_n 0, 1) := by decide +kernel
theorem dX4_lots_75 : decode cX4_lots 75 = .ok (.lload_n 3, 1) := by decide +kernel
theorem dX4_lots_76 : decode cX4_lots 76 = .ok (.l2i, 1) := by decide +kernel
theorem dX4_lots_77 : decode cX4_lots 77 = .ok (.invokevirtual 284, 3) := by decide +kernel
theorem dX4_lots_80 : decode cX4_lots 80 = .ok (.iinc 5 1, 3) := by decide +kernel
theorem dX4_lots_83 : decode cX4_lots 83 = .ok (.goto (-25), 3) := by decide +kernel
theorem dX4_lots_86 : decode cX4_lots 86 = .ok (.aload_n 0, 1) := by decide +kernel
theorem dX4_lots_87 : decode cX4_lots 87 = .ok (.getfield 24, 3) := by decide +kernel
theorem dX4_lots_90 : decode cX4_lots 90 = .ok (.getfield 171, 3) := by decide +kernel
theorem dX4_lots_93 : decode cX4_lots 93 = .ok (.ireturn, 1) := by decide +kernel
theorem dX4_asked_0 : decode cX4_asked 0 = .ok (.aload_n 0, 1) := by decide +kernel
theorem dX4_asked_1 : decode cX4_asked 1 = .ok (.getfield 97, 3) := by decide +kernel
theorem dX4_asked_4 : decode cX4_asked 4 = .ok (.ireturn, 1) := by decide +kernel
theorem dX4_upper_0 : decode cX4_upper 0 = .ok (.aload_n 0, 1) := by decide +kernel
theorem dX4_upper_1 : decode cX4_upper 1 = .ok (.getfield 287, 3) := by decide +kernel
theorem dX4_upper_4 : decode cX4_upper 4 = .ok (.lreturn, 1) := by decide +kernel
theorem dX4_lower_0 : decode cX4_lower 0 = .ok (.aload_n 0, 1) := by decide +kernel
theorem dX4_lower_1 : decode cX4_lower 1 = .ok (.getfield 74, 3) := by decide +kernel
theorem dX4_lower_4 : decode cX4_lower 4 = .ok (.lreturn, 1) := by decide +kernel
theorem dX4_count_0 : decode cX4_count 0 = .ok (.iload_n 1, 1) := by decide +kernel
theorem dX4_count_1 : decode cX4_count 1 = .ok (.bipush 12, 2) := by decide +kernel
theorem dX4_count_3 : decode cX4_count 3 = .ok (.invokestatic 132, 3) := by decide +kernel
theorem dX4_count_6 : decode cX4_count 6 = .ok (.ifCond .eq 11, 3) := by decide +kernel
theorem dX4_count_9 : decode cX4_count 9 = .ok (.aload_n 0, 1) := by decide +kernel
theorem dX4_count_10 : decode cX4_count 10 = .ok (.iload_n 1, 1) := by decide +kernel
theorem dX4_count_11 : decode cX4_count 11 = .ok (.invokevirtual 290, 3) := by decide +kernel
theorem dX4_count_14 : decode cX4_count 14 = .ok (.goto 4, 3) := by decide +kernel
theorem dX4_count_17 : decode cX4_count 17 = .ok (.iconst (-1), 1) := by decide +kernel
theorem dX4_count_18 : decode cX4_count 18 = .ok (.ireturn, 1) := by decide +kernel
theorem dX4_finding_0 : decode cX4_finding 0 = .ok (.aload_n 0, 1) := by decide +kernel
theorem dX4_finding_1 : decode cX4_finding 1 = .ok (.getfield 293, 3) := by decide +kernel
theorem dX4_finding_4 : decode cX4_finding 4 = .ok (.ireturn, 1) := by decide +kernel
theorem dX4_findings_0 : decode cX4_findings 0 = .ok (.iload_n 1, 1) := by decide +kernel
theorem dX4_findings_1 : decode cX4_findings 1 = .ok (.iconst 1, 1) := by decide +kernel
theorem dX4_findings_2 : decode cX4_findings 2 = .ok (.if_icmp .lt 17, 3) := by decide +kernel
theorem dX4_findings_5 : decode cX4_findings 5 = .ok (.iload_n 1, 1) := by decide +kernel
theorem dX4_findings_6 : decode cX4_findings 6 = .ok (.iconst 5, 1) := by decide +kernel
theorem dX4_findings_7 : decode cX4_findings 7 = .ok (.if_icmp .gt 12, 3) := by decide +kernel
theorem dX4_findings_10 : decode cX4_findings 10 = .ok (.aload_n 0, 1) := by decide +kernel
theorem dX4_findings_11 : decode cX4_findings 11 = .ok (.getfield 70, 3) := by decide +kernel
theorem dX4_findings_14 : decode cX4_findings 14 = .ok (.iload_n 1, 1) := by decide +kernel
theorem dX4_findings_15 : decode cX4_findings 15 = .ok (.iaload, 1) := by decide +kernel
theorem dX4_findings_16 : decode cX4_findings 16 = .ok (.goto 4, 3) := by decide +kernel
theorem dX4_findings_19 : decode cX4_findings 19 = .ok (.iconst (-1), 1) := by decide +kernel
theorem dX4_findings_20 : decode cX4_findings 20 = .ok (.ireturn, 1) := by decide +kernel
theorem dX4_digest_0 : decode cX4_digest 0 = .ok (.ldc2_w 296, 3) := by decide +kernel
theorem dX4_digest_3 : decode cX4_digest 3 = .ok (.lstore_n 1, 1) := by decide +kernel
theorem dX4_digest_4 : decode cX4_digest 4 = .ok (.iconst 0, 1) := by decide +kernel
theorem dX4_digest_5 : decode cX4_digest 5 = .ok (.istore_n 3, 1) := by decide +kernel
theorem dX4_digest_6 : decode cX4_digest 6 = .ok (.iload_n 3, 1) := by decide +kernel
theorem dX4_digest_7 : decode cX4_digest 7 = .ok (.bipush 12, 2) := by decide +kernel
theorem dX4_digest_9 : decode cX4_digest 9 = .ok (.if_icmp .ge 22, 3) := by decide +kernel
theorem dX4_digest_12 : decode cX4_digest 12 = .ok (.ldc2_w 298, 3) := by decide +kernel
theorem dX4_digest_15 : decode cX4_digest 15 = .ok (.lload_n 1, 1) := by decide +kernel
theorem dX4_digest_16 : decode cX4_digest 16 = .ok (.lmul, 1) := by decide +kernel
theorem dX4_digest_17 : decode cX4_digest 17 = .ok (.aload_n 0, 1) := by decide +kernel
theorem dX4_digest_18 : decode cX4_digest 18 = .ok (.iload_n 3, 1) := by decide +kernel
theorem dX4_digest_19 : decode cX4_digest 19 = .ok (.invokevirtual 290, 3) := by decide +kernel
theorem dX4_digest_22 : decode cX4_digest 22 = .ok (.i2l, 1) := by decide +kernel
theorem dX4_digest_23 : decode cX4_digest 23 = .ok (.ladd, 1) := by decide +kernel
theorem dX4_digest_24 : decode cX4_digest 24 = .ok (.lstore_n 1, 1) := by decide +kernel
theorem dX4_digest_25 : decode cX4_digest 25 = .ok (.iinc 3 1, 3) := by decide +kernel
theorem dX4_digest_28 : decode cX4_digest 28 = .ok (.goto (-22), 3) := by decide +kernel
theorem dX4_digest_31 : decode cX4_digest 31 = .ok (.iconst 0, 1) := by decide +kernel
theorem dX4_digest_32 : decode cX4_digest 32 = .ok (.istore_n 3, 1) := by decide +kernel
theorem dX4_digest_33 : decode cX4_digest 33 = .ok (.iload_n 3, 1) := by decide +kernel
theorem dX4_digest_34 : decode cX4_digest 34 = .ok (.aload_n 0, 1) := by decide +kernel
theorem dX4_digest_35 : decode cX4_digest 35 = .ok (.getfield 24, 3) := by decide +kernel
theorem dX4_digest_38 : decode cX4_digest 38 = .ok (.getfield 129, 3) := by decide +kernel
theorem dX4_digest_41 : decode cX4_digest 41 = .ok (.if_icmp .ge 39, 3) := by decide +kernel
theorem dX4_digest_44 : decode cX4_digest 44 = .ok (.iconst 0, 1) := by decide +kernel
theorem dX4_digest_45 : decode cX4_digest 45 = .ok (.istore 4, 2) := by decide +kernel
theorem dX4_digest_47 : decode cX4_digest 47 = .ok (.iload 4, 2) := by decide +kernel
theorem dX4_digest_49 : decode cX4_digest 49 = .ok (.iconst 5, 1) := by decide +kernel
theorem dX4_digest_50 : decode cX4_digest 50 = .ok (.if_icmp .ge 24, 3) := by decide +kernel
theorem dX4_digest_53 : decode cX4_digest 53 = .ok (.ldc2_w 298, 3) := by decide +kernel
theorem dX4_digest_56 : decode cX4_digest 56 = .ok (.lload_n 1, 1) := by decide +kernel
theorem dX4_digest_57 : decode cX4_digest 57 = .ok (.lmul, 1) := by decide +kernel
theorem dX4_digest_58 : decode cX4_digest 58 = .ok (.aload_n 0, 1) := by decide +kernel
theorem dX4_digest_59 : decode cX4_digest 59 = .ok (.iload_n 3, 1) := by decide +kernel
theorem dX4_digest_60 : decode cX4_digest 60 = .ok (.iload 4, 2) := by decide +kernel
theorem dX4_digest_62 : decode cX4_digest 62 = .ok (.invokevirtual 136, 3) := by decide +kernel
theorem dX4_digest_65 : decode cX4_digest 65 = .ok (.i2l, 1) := by decide +kernel
theorem dX4_digest_66 : decode cX4_digest 66 = .ok (.ladd, 1) := by decide +kernel
theorem dX4_digest_67 : decode cX4_digest 67 = .ok (.lstore_n 1, 1) := by decide +kernel
theorem dX4_digest_68 : decode cX4_digest 68 = .ok (.iinc 4 1, 3) := by decide +kernel
theorem dX4_digest_71 : decode cX4_digest 71 = .ok (.goto (-24), 3) := by decide +kernel
theorem dX4_digest_74 : decode cX4_digest 74 = .ok (.iinc 3 1, 3) := by decide +kernel
theorem dX4_digest_77 : decode cX4_digest 77 = .ok (.goto (-44), 3) := by decide +kernel
theorem dX4_digest_80 : decode cX4_digest 80 = .ok (.iconst 0, 1) := by decide +kernel
theorem dX4_digest_81 : decode cX4_digest 81 = .ok (.istore_n 3, 1) := by decide +kernel
theorem dX4_digest_82 : decode cX4_digest 82 = .ok (.iload_n 3, 1) := by decide +kernel
theorem dX4_digest_83 : decode cX4_digest 83 = .ok (.iconst 3, 1) := by decide +kernel
theorem dX4_digest_84 : decode cX4_digest 84 = .ok (.if_icmp .ge 39, 3) := by decide +kernel
theorem dX4_digest_87 : decode cX4_digest 87 = .ok (.ldc2_w 298, 3) := by decide +kernel
theorem dX4_digest_90 : decode cX4_digest 90 = .ok (.lload_n 1, 1) := by decide +kernel
theorem dX4_digest_91 : decode cX4_digest 91 = .ok (.lmul, 1) := by decide +kernel
theorem dX4_digest_92 : decode cX4_digest 92 = .ok (.aload_n 0, 1) := by decide +kernel
theorem dX4_digest_93 : decode cX4_digest 93 = .ok (.getfield 35, 3) := by decide +kernel
theorem dX4_digest_96 : decode cX4_digest 96 = .ok (.iload_n 3, 1) := by decide +kernel
theorem dX4_digest_97 : decode cX4_digest 97 = .ok (.baload, 1) := by decide +kernel
theorem dX4_digest_98 : decode cX4_digest 98 = .ok (.ifCond .eq 15, 3) := by decide +kernel
theorem dX4_digest_101 : decode cX4_digest 101 = .ok (.aload_n 0, 1) := by decide +kernel
theorem dX4_digest_102 : decode cX4_digest 102 = .ok (.getfield 31, 3) := by decide +kernel
theorem dX4_digest_105 : decode cX4_digest 105 = .ok (.iload_n 3, 1) := by decide +kernel
theorem dX4_digest_106 : decode cX4_digest 106 = .ok (.aaload, 1) := by decide +kernel
theorem dX4_digest_107 : decode cX4_digest 107 = .ok (.getfield 187, 3) := by decide +kernel
theorem dX4_digest_110 : decode cX4_digest 110 = .ok (.goto 4, 3) := by decide +kernel
theorem dX4_digest_113 : decode cX4_digest 113 = .ok (.iconst (-1), 1) := by decide +kernel
theorem dX4_digest_114 : decode cX4_digest 114 = .ok (.i2l, 1) := by decide +kernel
theorem dX4_digest_115 : decode cX4_digest 115 = .ok (.ladd, 1) := by decide +kernel
theorem dX4_digest_116 : decode cX4_digest 116 = .ok (.lstore_n 1, 1) := by decide +kernel
theorem dX4_digest_117 : decode cX4_digest 117 = .ok (.iinc 3 1, 3) := by decide +kernel
theorem dX4_digest_120 : decode cX4_digest 120 = .ok (.goto (-38), 3) := by decide +kernel
theorem dX4_digest_123 : decode cX4_digest 123 = .ok (.aload_n 0, 1) := by decide +kernel
theorem dX4_digest_124 : decode cX4_digest 124 = .ok (.getfield 18, 3) := by decide +kernel
theorem dX4_digest_127 : decode cX4_digest 127 = .ok (.aload_n 0, 1) := by decide +kernel
theorem dX4_digest_128 : decode cX4_digest 128 = .ok (.getfield 14, 3) := by decide +kernel
theorem dX4_digest_131 : decode cX4_digest 131 = .ok (.lload_n 1, 1) := by decide +kernel
theorem dX4_digest_132 : decode cX4_digest 132 = .ok (.invokevirtual 300, 3) := by decide +kernel
theorem dX4_digest_135 : decode cX4_digest 135 = .ok (.invokevirtual 300, 3) := by decide +kernel
theorem dX4_digest_138 : decode cX4_digest 138 = .ok (.lreturn, 1) := by decide +kernel
theorem dX4_isBelow_0 : decode cX4_isBelow 0 = .ok (.iload_n 0, 1) := by decide +kernel
theorem dX4_isBelow_1 : decode cX4_isBelow 1 = .ok (.ifCond .lt 12, 3) := by decide +kernel
theorem dX4_isBelow_4 : decode cX4_isBelow 4 = .ok (.iload_n 0, 1) := by decide +kernel
theorem dX4_isBelow_5 : decode cX4_isBelow 5 = .ok (.iload_n 1, 1) := by decide +kernel
theorem dX4_isBelow_6 : decode cX4_isBelow 6 = .ok (.if_icmp .ge 7, 3) := by decide +kernel
theorem dX4_isBelow_9 : decode cX4_isBelow 9 = .ok (.iconst 1, 1) := by decide +kernel
theorem dX4_isBelow_10 : decode cX4_isBelow 10 = .ok (.goto 4, 3) := by decide +kernel
theorem dX4_isBelow_13 : decode cX4_isBelow 13 = .ok (.iconst 0, 1) := by decide +kernel
theorem dX4_isBelow_14 : decode cX4_isBelow 14 = .ok (.ireturn, 1) := by decide +kernel
theorem dX4_isSpan_0 : decode cX4_isSpan 0 = .ok (.iload_n 0, 1) := by decide +kernel
theorem dX4_isSpan_1 : decode cX4_isSpan 1 = .ok (.ifCond .lt 19, 3) := by decide +kernel
theorem dX4_isSpan_4 : decode cX4_isSpan 4 = .ok (.iload_n 1, 1) := by decide +kernel
theorem dX4_isSpan_5 : decode cX4_isSpan 5 = .ok (.iload_n 2, 1) := by decide +kernel
theorem dX4_isSpan_6 : decode cX4_isSpan 6 = .ok (.if_icmp .gt 14, 3) := by decide +kernel
theorem dX4_isSpan_9 : decode cX4_isSpan 9 = .ok (.iload_n 0, 1) := by decide +kernel
theorem dX4_isSpan_10 : decode cX4_isSpan 10 = .ok (.iload_n 2, 1) := by decide +kernel
theorem dX4_isSpan_11 : decode cX4_isSpan 11 = .ok (.iload_n 1, 1) := by decide +kernel
theorem dX4_isSpan_12 : decode cX4_isSpan 12 = .ok (.isub, 1) := by decide +kernel
theorem dX4_isSpan_13 : decode cX4_isSpan 13 = .ok (.if_icmp .gt 7, 3) := by decide +kernel
theorem dX4_isSpan_16 : decode cX4_isSpan 16 = .ok (.iconst 1, 1) := by decide +kernel
theorem dX4_isSpan_17 : decode cX4_isSpan 17 = .ok (.goto 4, 3) := by decide +kernel
theorem dX4_isSpan_20 : decode cX4_isSpan 20 = .ok (.iconst 0, 1) := by decide +kernel
theorem dX4_isSpan_21 : decode cX4_isSpan 21 = .ok (.ireturn, 1) := by decide +kernel
theorem dX4_found_0 : decode cX4_found 0 = .ok (.aload_n 0, 1) := by decide +kernel
theorem dX4_found_1 : decode cX4_found 1 = .ok (.iload_n 1, 1) := by decide +kernel
end
section
theorem dX4_found_2 : decode cX4_found 2 = .ok (.putfield 293, 3) := by decide +kernel
theorem dX4_found_5 : decode cX4_found 5 = .ok (.aload_n 0, 1) := by decide +kernel
theorem dX4_found_6 : decode cX4_found 6 = .ok (.getfield 70, 3) := by decide +kernel
theorem dX4_found_9 : decode cX4_found 9 = .ok (.iload_n 1, 1) := by decide +kernel
theorem dX4_found_10 : decode cX4_found 10 = .ok (.dup2, 1) := by decide +kernel
theorem dX4_found_11 : decode cX4_found 11 = .ok (.iaload, 1) := by decide +kernel
theorem dX4_found_12 : decode cX4_found 12 = .ok (.iconst 1, 1) := by decide +kernel
theorem dX4_found_13 : decode cX4_found 13 = .ok (.iadd, 1) := by decide +kernel
theorem dX4_found_14 : decode cX4_found 14 = .ok (.iastore, 1) := by decide +kernel
theorem dX4_found_15 : decode cX4_found 15 = .ok (.bipush (-3), 2) := by decide +kernel
theorem dX4_found_17 : decode cX4_found 17 = .ok (.ireturn, 1) := by decide +kernel
theorem dX4_refusalOfShelf_0 : decode cX4_refusalOfShelf 0 = .ok (.aload_n 1, 1) := by decide +kernel
theorem dX4_refusalOfShelf_1 : decode cX4_refusalOfShelf 1 = .ok (.iload_n 2, 1) := by decide +kernel
theorem dX4_refusalOfShelf_2 : decode cX4_refusalOfShelf 2 = .ok (.invokevirtual 78, 3) := by decide +kernel
theorem dX4_refusalOfShelf_5 : decode cX4_refusalOfShelf 5 = .ok (.ifCond .ne 5, 3) := by decide +kernel
theorem dX4_refusalOfShelf_8 : decode cX4_refusalOfShelf 8 = .ok (.iconst (-1), 1) := by decide +kernel
theorem dX4_refusalOfShelf_9 : decode cX4_refusalOfShelf 9 = .ok (.ireturn, 1) := by decide +kernel
theorem dX4_refusalOfShelf_10 : decode cX4_refusalOfShelf 10 = .ok (.aload_n 1, 1) := by decide +kernel
theorem dX4_refusalOfShelf_11 : decode cX4_refusalOfShelf 11 = .ok (.iload_n 2, 1) := by decide +kernel
theorem dX4_refusalOfShelf_12 : decode cX4_refusalOfShelf 12 = .ok (.invokevirtual 108, 3) := by decide +kernel
theorem dX4_refusalOfShelf_15 : decode cX4_refusalOfShelf 15 = .ok (.ifCond .eq 7, 3) := by decide +kernel
theorem dX4_refusalOfShelf_18 : decode cX4_refusalOfShelf 18 = .ok (.iconst 0, 1) := by decide +kernel
theorem dX4_refusalOfShelf_19 : decode cX4_refusalOfShelf 19 = .ok (.goto 8, 3) := by decide +kernel
theorem dX4_refusalOfShelf_22 : decode cX4_refusalOfShelf 22 = .ok (.aload_n 0, 1) := by decide +kernel
theorem dX4_refusalOfShelf_23 : decode cX4_refusalOfShelf 23 = .ok (.iconst 1, 1) := by decide +kernel
theorem dX4_refusalOfShelf_24 : decode cX4_refusalOfShelf 24 = .ok (.invokevirtual 82, 3) := by decide +kernel
theorem dX4_refusalOfShelf_27 : decode cX4_refusalOfShelf 27 = .ok (.ireturn, 1) := by decide +kernel
theorem dX4_refusalOfCell_0 : decode cX4_refusalOfCell 0 = .ok (.aload_n 0, 1) := by decide +kernel
theorem dX4_refusalOfCell_1 : decode cX4_refusalOfCell 1 = .ok (.aload_n 1, 1) := by decide +kernel
theorem dX4_refusalOfCell_2 : decode cX4_refusalOfCell 2 = .ok (.iload_n 2, 1) := by decide +kernel
theorem dX4_refusalOfCell_3 : decode cX4_refusalOfCell 3 = .ok (.invokevirtual 101, 3) := by decide +kernel
theorem dX4_refusalOfCell_6 : decode cX4_refusalOfCell 6 = .ok (.istore 4, 2) := by decide +kernel
theorem dX4_refusalOfCell_8 : decode cX4_refusalOfCell 8 = .ok (.iload 4, 2) := by decide +kernel
theorem dX4_refusalOfCell_10 : decode cX4_refusalOfCell 10 = .ok (.ifCond .eq 6, 3) := by decide +kernel
theorem dX4_refusalOfCell_13 : decode cX4_refusalOfCell 13 = .ok (.iload 4, 2) := by decide +kernel
theorem dX4_refusalOfCell_15 : decode cX4_refusalOfCell 15 = .ok (.ireturn, 1) := by decide +kernel
theorem dX4_refusalOfCell_16 : decode cX4_refusalOfCell 16 = .ok (.iload_n 3, 1) := by decide +kernel
theorem dX4_refusalOfCell_17 : decode cX4_refusalOfCell 17 = .ok (.aload_n 1, 1) := by decide +kernel
theorem dX4_refusalOfCell_18 : decode cX4_refusalOfCell 18 = .ok (.getfield 105, 3) := by decide +kernel
theorem dX4_refusalOfCell_21 : decode cX4_refusalOfCell 21 = .ok (.iload_n 2, 1) := by decide +kernel
theorem dX4_refusalOfCell_22 : decode cX4_refusalOfCell 22 = .ok (.iaload, 1) := by decide +kernel
theorem dX4_refusalOfCell_23 : decode cX4_refusalOfCell 23 = .ok (.invokestatic 132, 3) := by decide +kernel
theorem dX4_refusalOfCell_26 : decode cX4_refusalOfCell 26 = .ok (.ifCond .eq 7, 3) := by decide +kernel
theorem dX4_refusalOfCell_29 : decode cX4_refusalOfCell 29 = .ok (.iconst 0, 1) := by decide +kernel
theorem dX4_refusalOfCell_30 : decode cX4_refusalOfCell 30 = .ok (.goto 8, 3) := by decide +kernel
theorem dX4_refusalOfCell_33 : decode cX4_refusalOfCell 33 = .ok (.aload_n 0, 1) := by decide +kernel
theorem dX4_refusalOfCell_34 : decode cX4_refusalOfCell 34 = .ok (.iconst 2, 1) := by decide +kernel
theorem dX4_refusalOfCell_35 : decode cX4_refusalOfCell 35 = .ok (.invokevirtual 82, 3) := by decide +kernel
theorem dX4_refusalOfCell_38 : decode cX4_refusalOfCell 38 = .ok (.ireturn, 1) := by decide +kernel
theorem dX4_refusalOfSeen_0 : decode cX4_refusalOfSeen 0 = .ok (.aload_n 0, 1) := by decide +kernel
theorem dX4_refusalOfSeen_1 : decode cX4_refusalOfSeen 1 = .ok (.aload_n 0, 1) := by decide +kernel
theorem dX4_refusalOfSeen_2 : decode cX4_refusalOfSeen 2 = .ok (.getfield 14, 3) := by decide +kernel
theorem dX4_refusalOfSeen_5 : decode cX4_refusalOfSeen 5 = .ok (.iload_n 1, 1) := by decide +kernel
theorem dX4_refusalOfSeen_6 : decode cX4_refusalOfSeen 6 = .ok (.invokevirtual 101, 3) := by decide +kernel
theorem dX4_refusalOfSeen_9 : decode cX4_refusalOfSeen 9 = .ok (.istore_n 2, 1) := by decide +kernel
theorem dX4_refusalOfSeen_10 : decode cX4_refusalOfSeen 10 = .ok (.iload_n 2, 1) := by decide +kernel
theorem dX4_refusalOfSeen_11 : decode cX4_refusalOfSeen 11 = .ok (.ifCond .eq 5, 3) := by decide +kernel
theorem dX4_refusalOfSeen_14 : decode cX4_refusalOfSeen 14 = .ok (.iload_n 2, 1) := by decide +kernel
theorem dX4_refusalOfSeen_15 : decode cX4_refusalOfSeen 15 = .ok (.ireturn, 1) := by decide +kernel
theorem dX4_refusalOfSeen_16 : decode cX4_refusalOfSeen 16 = .ok (.aload_n 0, 1) := by decide +kernel
theorem dX4_refusalOfSeen_17 : decode cX4_refusalOfSeen 17 = .ok (.getfield 14, 3) := by decide +kernel
theorem dX4_refusalOfSeen_20 : decode cX4_refusalOfSeen 20 = .ok (.getfield 105, 3) := by decide +kernel
theorem dX4_refusalOfSeen_23 : decode cX4_refusalOfSeen 23 = .ok (.iload_n 1, 1) := by decide +kernel
theorem dX4_refusalOfSeen_24 : decode cX4_refusalOfSeen 24 = .ok (.iaload, 1) := by decide +kernel
theorem dX4_refusalOfSeen_25 : decode cX4_refusalOfSeen 25 = .ok (.istore_n 3, 1) := by decide +kernel
theorem dX4_refusalOfSeen_26 : decode cX4_refusalOfSeen 26 = .ok (.iload_n 3, 1) := by decide +kernel
theorem dX4_refusalOfSeen_27 : decode cX4_refusalOfSeen 27 = .ok (.iconst 1, 1) := by decide +kernel
theorem dX4_refusalOfSeen_28 : decode cX4_refusalOfSeen 28 = .ok (.if_icmp .lt 9, 3) := by decide +kernel
theorem dX4_refusalOfSeen_31 : decode cX4_refusalOfSeen 31 = .ok (.iload_n 3, 1) := by decide +kernel
theorem dX4_refusalOfSeen_32 : decode cX4_refusalOfSeen 32 = .ok (.bipush 20, 2) := by decide +kernel
theorem dX4_refusalOfSeen_34 : decode cX4_refusalOfSeen 34 = .ok (.if_icmp .le 9, 3) := by decide +kernel
theorem dX4_refusalOfSeen_37 : decode cX4_refusalOfSeen 37 = .ok (.aload_n 0, 1) := by decide +kernel
theorem dX4_refusalOfSeen_38 : decode cX4_refusalOfSeen 38 = .ok (.iconst 5, 1) := by decide +kernel
theorem dX4_refusalOfSeen_39 : decode cX4_refusalOfSeen 39 = .ok (.invokevirtual 82, 3) := by decide +kernel
theorem dX4_refusalOfSeen_42 : decode cX4_refusalOfSeen 42 = .ok (.ireturn, 1) := by decide +kernel
theorem dX4_refusalOfSeen_43 : decode cX4_refusalOfSeen 43 = .ok (.iconst 0, 1) := by decide +kernel
theorem dX4_refusalOfSeen_44 : decode cX4_refusalOfSeen 44 = .ok (.istore 4, 2) := by decide +kernel
theorem dX4_refusalOfSeen_46 : decode cX4_refusalOfSeen 46 = .ok (.iload 4, 2) := by decide +kernel
theorem dX4_refusalOfSeen_48 : decode cX4_refusalOfSeen 48 = .ok (.iload_n 3, 1) := by decide +kernel
theorem dX4_refusalOfSeen_49 : decode cX4_refusalOfSeen 49 = .ok (.if_icmp .ge 42, 3) := by decide +kernel
theorem dX4_refusalOfSeen_52 : decode cX4_refusalOfSeen 52 = .ok (.aload_n 0, 1) := by decide +kernel
theorem dX4_refusalOfSeen_53 : decode cX4_refusalOfSeen 53 = .ok (.getfield 14, 3) := by decide +kernel
theorem dX4_refusalOfSeen_56 : decode cX4_refusalOfSeen 56 = .ok (.getfield 94, 3) := by decide +kernel
theorem dX4_refusalOfSeen_59 : decode cX4_refusalOfSeen 59 = .ok (.iload_n 1, 1) := by decide +kernel
theorem dX4_refusalOfSeen_60 : decode cX4_refusalOfSeen 60 = .ok (.aaload, 1) := by decide +kernel
theorem dX4_refusalOfSeen_61 : decode cX4_refusalOfSeen 61 = .ok (.iload 4, 2) := by decide +kernel
theorem dX4_refusalOfSeen_63 : decode cX4_refusalOfSeen 63 = .ok (.iaload, 1) := by decide +kernel
theorem dX4_refusalOfSeen_64 : decode cX4_refusalOfSeen 64 = .ok (.aload_n 0, 1) := by decide +kernel
theorem dX4_refusalOfSeen_65 : decode cX4_refusalOfSeen 65 = .ok (.getfield 24, 3) := by decide +kernel
theorem dX4_refusalOfSeen_68 : decode cX4_refusalOfSeen 68 = .ok (.getfield 205, 3) := by decide +kernel
theorem dX4_refusalOfSeen_71 : decode cX4_refusalOfSeen 71 = .ok (.iconst 1, 1) := by decide +kernel
theorem dX4_refusalOfSeen_72 : decode cX4_refusalOfSeen 72 = .ok (.iadd, 1) := by decide +kernel
theorem dX4_refusalOfSeen_73 : decode cX4_refusalOfSeen 73 = .ok (.invokestatic 132, 3) := by decide +kernel
theorem dX4_refusalOfSeen_76 : decode cX4_refusalOfSeen 76 = .ok (.ifCond .ne 9, 3) := by decide +kernel
theorem dX4_refusalOfSeen_79 : decode cX4_refusalOfSeen 79 = .ok (.aload_n 0, 1) := by decide +kernel
theorem dX4_refusalOfSeen_80 : decode cX4_refusalOfSeen 80 = .ok (.iconst 3, 1) := by decide +kernel
theorem dX4_refusalOfSeen_81 : decode cX4_refusalOfSeen 81 = .ok (.invokevirtual 82, 3) := by decide +kernel
theorem dX4_refusalOfSeen_84 : decode cX4_refusalOfSeen 84 = .ok (.ireturn, 1) := by decide +kernel
theorem dX4_refusalOfSeen_85 : decode cX4_refusalOfSeen 85 = .ok (.iinc 4 1, 3) := by decide +kernel
theorem dX4_refusalOfSeen_88 : decode cX4_refusalOfSeen 88 = .ok (.goto (-42), 3) := by decide +kernel
theorem dX4_refusalOfSeen_91 : decode cX4_refusalOfSeen 91 = .ok (.iconst 0, 1) := by decide +kernel
theorem dX4_refusalOfSeen_92 : decode cX4_refusalOfSeen 92 = .ok (.ireturn, 1) := by decide +kernel
theorem dX4_wouldDream_0 : decode cX4_wouldDream 0 = .ok (.iload_n 2, 1) := by decide +kernel
theorem dX4_wouldDream_1 : decode cX4_wouldDream 1 = .ok (.iload_n 1, 1) := by decide +kernel
theorem dX4_wouldDream_2 : decode cX4_wouldDream 2 = .ok (.iadd, 1) := by decide +kernel
theorem dX4_wouldDream_3 : decode cX4_wouldDream 3 = .ok (.bipush 6, 2) := by decide +kernel
theorem dX4_wouldDream_5 : decode cX4_wouldDream 5 = .ok (.irem, 1) := by decide +kernel
theorem dX4_wouldDream_6 : decode cX4_wouldDream 6 = .ok (.istore_n 3, 1) := by decide +kernel
theorem dX4_wouldDream_7 : decode cX4_wouldDream 7 = .ok (.iload_n 3, 1) := by decide +kernel
theorem dX4_wouldDream_8 : decode cX4_wouldDream 8 = .ok (.iconst 1, 1) := by decide +kernel
theorem dX4_wouldDream_9 : decode cX4_wouldDream 9 = .ok (.if_icmp .gt 7, 3) := by decide +kernel
theorem dX4_wouldDream_12 : decode cX4_wouldDream 12 = .ok (.iconst 1, 1) := by decide +kernel
theorem dX4_wouldDream_13 : decode cX4_wouldDream 13 = .ok (.goto 4, 3) := by decide +kernel
theorem dX4_wouldDream_16 : decode cX4_wouldDream 16 = .ok (.iconst 0, 1) := by decide +kernel
theorem dX4_wouldDream_17 : decode cX4_wouldDream 17 = .ok (.istore 4, 2) := by decide +kernel
theorem dX4_wouldDream_19 : decode cX4_wouldDream 19 = .ok (.iload_n 3, 1) := by decide +kernel
theorem dX4_wouldDream_20 : decode cX4_wouldDream 20 = .ok (.iconst 3, 1) := by decide +kernel
theorem dX4_wouldDream_21 : decode cX4_wouldDream 21 = .ok (.if_icmp .gt 7, 3) := by decide +kernel
theorem dX4_wouldDream_24 : decode cX4_wouldDream 24 = .ok (.iconst 1, 1) := by decide +kernel
theorem dX4_wouldDream_25 : decode cX4_wouldDream 25 = .ok (.goto 4, 3) := by decide +kernel
theorem dX4_wouldDream_28 : decode cX4_wouldDream 28 = .ok (.iconst 0, 1) := by decide +kernel
theorem dX4_wouldDream_29 : decode cX4_wouldDream 29 = .ok (.istore 5, 2) := by decide +kernel
theorem dX4_wouldDream_31 : decode cX4_wouldDream 31 = .ok (.iload 4, 2) := by decide +kernel
theorem dX4_wouldDream_33 : decode cX4_wouldDream 33 = .ok (.ifCond .ne 11, 3) := by decide +kernel
theorem dX4_wouldDream_36 : decode cX4_wouldDream 36 = .ok (.iload_n 2, 1) := by decide +kernel
theorem dX4_wouldDream_37 : decode cX4_wouldDream 37 = .ok (.iload_n 1, 1) := by decide +kernel
theorem dX4_wouldDream_38 : decode cX4_wouldDream 38 = .ok (.iadd, 1) := by decide +kernel
theorem dX4_wouldDream_39 : decode cX4_wouldDream 39 = .ok (.iconst 5, 1) := by decide +kernel
theorem dX4_wouldDream_40 : decode cX4_wouldDream 40 = .ok (.irem, 1) := by decide +kernel
theorem dX4_wouldDream_41 : decode cX4_wouldDream 41 = .ok (.ifCond .ne 7, 3) := by decide +kernel
theorem dX4_wouldDream_44 : decode cX4_wouldDream 44 = .ok (.iconst 1, 1) := by decide +kernel
theorem dX4_wouldDream_45 : decode cX4_wouldDream 45 = .ok (.goto 4, 3) := by decide +kernel
theorem dX4_wouldDream_48 : decode cX4_wouldDream 48 = .ok (.iconst 0, 1) := by decide +kernel
theorem dX4_wouldDream_49 : decode cX4_wouldDream 49 = .ok (.istore 6, 2) := by decide +kernel
theorem dX4_wouldDream_51 : decode cX4_wouldDream 51 = .ok (.iload_n 0, 1) := by decide +kernel
theorem dX4_wouldDream_52 : decode cX4_wouldDream 52 = .ok (.tableswitch 93 1 5 #[36, 39, 42, 59, 76], 36) := by decide +kernel
theorem dX4_wouldDream_88 : decode cX4_wouldDream 88 = .ok (.iload 5, 2) := by decide +kernel
theorem dX4_wouldDream_90 : decode cX4_wouldDream 90 = .ok (.ireturn, 1) := by decide +kernel
theorem dX4_wouldDream_91 : decode cX4_wouldDream 91 = .ok (.iload 6, 2) := by decide +kernel
theorem dX4_wouldDream_93 : decode cX4_wouldDream 93 = .ok (.ireturn, 1) := by decide +kernel
theorem dX4_wouldDream_94 : decode cX4_wouldDream 94 = .ok (.iload 4, 2) := by decide +kernel
theorem dX4_wouldDream_96 : decode cX4_wouldDream 96 = .ok (.ifCond .eq 13, 3) := by decide +kernel
theorem dX4_wouldDream_99 : decode cX4_wouldDream 99 = .ok (.iload_n 2, 1) := by decide +kernel
theorem dX4_wouldDream_100 : decode cX4_wouldDream 100 = .ok (.bipush 20, 2) := by decide +kernel
theorem dX4_wouldDream_102 : decode cX4_wouldDream 102 = .ok (.if_icmp .lt 7, 3) := by decide +kernel
theorem dX4_wouldDream_105 : decode cX4_wouldDream 105 = .ok (.iconst 1, 1) := by decide +kernel
theorem dX4_wouldDream_106 : decode cX4_wouldDream 106 = .ok (.goto 4, 3) := by decide +kernel
theorem dX4_wouldDream_109 : decode cX4_wouldDream 109 = .ok (.iconst 0, 1) := by decide +kernel
theorem dX4_wouldDream_110 : decode cX4_wouldDream 110 = .ok (.ireturn, 1) := by decide +kernel
theorem dX4_wouldDream_111 : decode cX4_wouldDream 111 = .ok (.iload 5, 2) := by decide +kernel
theorem dX4_wouldDream_113 : decode cX4_wouldDream 113 = .ok (.ifCond .ne 9, 3) := by decide +kernel
theorem dX4_wouldDream_116 : decode cX4_wouldDream 116 = .ok (.iload_n 2, 1) := by decide +kernel
theorem dX4_wouldDream_117 : decode cX4_wouldDream 117 = .ok (.bipush 30, 2) := by decide +kernel
theorem dX4_wouldDream_119 : decode cX4_wouldDream 119 = .ok (.if_icmp .lt 7, 3) := by decide +kernel
theorem dX4_wouldDream_122 : decode cX4_wouldDream 122 = .ok (.iconst 1, 1) := by decide +kernel
theorem dX4_wouldDream_123 : decode cX4_wouldDream 123 = .ok (.goto 4, 3) := by decide +kernel
theorem dX4_wouldDream_126 : decode cX4_wouldDream 126 = .ok (.iconst 0, 1) := by decide +kernel
theorem dX4_wouldDream_127 : decode cX4_wouldDream 127 = .ok (.ireturn, 1) := by decide +kernel
theorem dX4_wouldDream_128 : decode cX4_wouldDream 128 = .ok (.iload 6, 2) := by decide +kernel
theorem dX4_wouldDream_130 : decode cX4_wouldDream 130 = .ok (.ifCond .eq 13, 3) := by decide +kernel
theorem dX4_wouldDream_133 : decode cX4_wouldDream 133 = .ok (.iload_n 1, 1) := by decide +kernel
theorem dX4_wouldDream_134 : decode cX4_wouldDream 134 = .ok (.iconst 2, 1) := by decide +kernel
theorem dX4_wouldDream_135 : decode cX4_wouldDream 135 = .ok (.irem, 1) := by decide +kernel
theorem dX4_wouldDream_136 : decode cX4_wouldDream 136 = .ok (.ifCond .ne 7, 3) := by decide +kernel
theorem dX4_wouldDream_139 : decode cX4_wouldDream 139 = .ok (.iconst 1, 1) := by decide +kernel
theorem dX4_wouldDream_140 : decode cX4_wouldDream 140 = .ok (.goto 4, 3) := by decide +kernel
theorem dX4_wouldDream_143 : decode cX4_wouldDream 143 = .ok (.iconst 0, 1) := by decide +kernel
theorem dX4_wouldDream_144 : decode cX4_wouldDream 144 = .ok (.ireturn, 1) := by decide +kernel
theorem dX4_wouldDream_145 : decode cX4_wouldDream 145 = .ok (.iload 4, 2) := by decide +kernel
theorem dX4_wouldDream_147 : decode cX4_wouldDream 147 = .ok (.ireturn, 1) := by decide +kernel
theorem dX4_dreamtMinutes_0 : decode cX4_dreamtMinutes 0 = .ok (.iconst 0, 1) := by decide +kernel
theorem dX4_dreamtMinutes_1 : decode cX4_dreamtMinutes 1 = .ok (.istore_n 2, 1) := by decide +kernel
theorem dX4_dreamtMinutes_2 : decode cX4_dreamtMinutes 2 = .ok (.iconst 0, 1) := by decide +kernel
theorem dX4_dreamtMinutes_3 : decode cX4_dreamtMinutes 3 = .ok (.istore_n 3, 1) := by decide +kernel
theorem dX4_dreamtMinutes_4 : decode cX4_dreamtMinutes 4 = .ok (.iload_n 3, 1) := by decide +kernel
theorem dX4_dreamtMinutes_5 : decode cX4_dreamtMinutes 5 = .ok (.bipush 60, 2) := by decide +kernel
theorem dX4_dreamtMinutes_7 : decode cX4_dreamtMinutes 7 = .ok (.if_icmp .ge 21, 3) := by decide +kernel
theorem dX4_dreamtMinutes_10 : decode cX4_dreamtMinutes 10 = .ok (.iload_n 2, 1) := by decide +kernel
theorem dX4_dreamtMinutes_11 : decode cX4_dreamtMinutes 11 = .ok (.iload_n 0, 1) := by decide +kernel
theorem dX4_dreamtMinutes_12 : decode cX4_dreamtMinutes 12 = .ok (.iload_n 1, 1) := by decide +kernel
theorem dX4_dreamtMinutes_13 : decode cX4_dreamtMinutes 13 = .ok (.iload_n 3, 1) := by decide +kernel
theorem dX4_dreamtMinutes_14 : decode cX4_dreamtMinutes 14 = .ok (.invokestatic 155, 3) := by decide +kernel
theorem dX4_dreamtMinutes_17 : decode cX4_dreamtMinutes 17 = .ok (.invokestatic 158, 3) := by decide +kernel
theorem dX4_dreamtMinutes_20 : decode cX4_dreamtMinutes 20 = .ok (.iadd, 1) := by decide +kernel
theorem dX4_dreamtMinutes_21 : decode cX4_dreamtMinutes 21 = .ok (.istore_n 2, 1) := by decide +kernel
theorem dX4_dreamtMinutes_22 : decode cX4_dreamtMinutes 22 = .ok (.iinc 3 1, 3) := by decide +kernel
theorem dX4_dreamtMinutes_25 : decode cX4_dreamtMinutes 25 = .ok (.goto (-21), 3) := by decide +kernel
theorem dX4_dreamtMinutes_28 : decode cX4_dreamtMinutes 28 = .ok (.iload_n 2, 1) := by decide +kernel
theorem dX4_dreamtMinutes_29 : decode cX4_dreamtMinutes 29 = .ok (.ireturn, 1) := by decide +kernel
theorem dX4_firstDream_0 : decode cX4_firstDream 0 = .ok (.iconst 0, 1) := by decide +kernel
theorem dX4_firstDream_1 : decode cX4_firstDream 1 = .ok (.istore_n 2, 1) := by decide +kernel
theorem dX4_firstDream_2 : decode cX4_firstDream 2 = .ok (.iload_n 2, 1) := by decide +kernel
theorem dX4_firstDream_3 : decode cX4_firstDream 3 = .ok (.bipush 60, 2) := by decide +kernel
theorem dX4_firstDream_5 : decode cX4_firstDream 5 = .ok (.if_icmp .ge 44, 3) := by decide +kernel
theorem dX4_firstDream_8 : decode cX4_firstDream 8 = .ok (.iload_n 0, 1) := by decide +kernel
theorem dX4_firstDream_9 : decode cX4_firstDream 9 = .ok (.iconst 4, 1) := by decide +kernel
theorem dX4_firstDream_10 : decode cX4_firstDream 10 = .ok (.if_icmp .ne 12, 3) := by decide +kernel
theorem dX4_firstDream_13 : decode cX4_firstDream 13 = .ok (.iconst 1, 1) := by decide +kernel
theorem dX4_firstDream_14 : decode cX4_firstDream 14 = .ok (.iload_n 1, 1) := by decide +kernel
theorem dX4_firstDream_15 : decode cX4_firstDream 15 = .ok (.iload_n 2, 1) := by decide +kernel
theorem dX4_firstDream_16 : decode cX4_firstDream 16 = .ok (.invokestatic 155, 3) := by decide +kernel
theorem dX4_firstDream_19 : decode cX4_firstDream 19 = .ok (.ifCond .ne 7, 3) := by decide +kernel
theorem dX4_firstDream_22 : decode cX4_firstDream 22 = .ok (.iconst 1, 1) := by decide +kernel
theorem dX4_firstDream_23 : decode cX4_firstDream 23 = .ok (.goto 4, 3) := by decide +kernel
theorem dX4_firstDream_26 : decode cX4_firstDream 26 = .ok (.iconst 0, 1) := by decide +kernel
theorem dX4_firstDream_27 : decode cX4_firstDream 27 = .ok (.istore_n 3, 1) := by decide +kernel
theorem dX4_firstDream_28 : decode cX4_firstDream 28 = .ok (.iload_n 3, 1) := by decide +kernel
theorem dX4_firstDream_29 : decode cX4_firstDream 29 = .ok (.ifCond .eq 14, 3) := by decide +kernel
theorem dX4_firstDream_32 : decode cX4_firstDream 32 = .ok (.iload_n 0, 1) := by decide +kernel
theorem dX4_firstDream_33 : decode cX4_firstDream 33 = .ok (.iload_n 1, 1) := by decide +kernel
theorem dX4_firstDream_34 : decode cX4_firstDream 34 = .ok (.iload_n 2, 1) := by decide +kernel
theorem dX4_firstDream_35 : decode cX4_firstDream 35 = .ok (.invokestatic 155, 3) := by decide +kernel
theorem dX4_firstDream_38 : decode cX4_firstDream 38 = .ok (.ifCond .eq 5, 3) := by decide +kernel
theorem dX4_firstDream_41 : decode cX4_firstDream 41 = .ok (.iload_n 2, 1) := by decide +kernel
theorem dX4_firstDream_42 : decode cX4_firstDream 42 = .ok (.ireturn, 1) := by decide +kernel
theorem dX4_firstDream_43 : decode cX4_firstDream 43 = .ok (.iinc 2 1, 3) := by decide +kernel
theorem dX4_firstDream_46 : decode cX4_firstDream 46 = .ok (.goto (-44), 3) := by decide +kernel
theorem dX4_firstDream_49 : decode cX4_firstDream 49 = .ok (.bipush (-9), 2) := by decide +kernel
theorem dX4_firstDream_51 : decode cX4_firstDream 51 = .ok (.ireturn, 1) := by decide +kernel
theorem dX4_dreamBitsFrom_0 : decode cX4_dreamBitsFrom 0 = .ok (.lconst 0, 1) := by decide +kernel
theorem dX4_dreamBitsFrom_1 : decode cX4_dreamBitsFrom 1 = .ok (.lstore_n 3, 1) := by decide +kernel
theorem dX4_dreamBitsFrom_2 : decode cX4_dreamBitsFrom 2 = .ok (.iconst 0, 1) := by decide +kernel
theorem dX4_dreamBitsFrom_3 : decode cX4_dreamBitsFrom 3 = .ok (.istore 5, 2) := by decide +kernel
theorem dX4_dreamBitsFrom_5 : decode cX4_dreamBitsFrom 5 = .ok (.iload 5, 2) := by decide +kernel
theorem dX4_dreamBitsFrom_7 : decode cX4_dreamBitsFrom 7 = .ok (.bipush 60, 2) := by decide +kernel
theorem dX4_dreamBitsFrom_9 : decode cX4_dreamBitsFrom 9 = .ok (.if_icmp .gt 28, 3) := by decide +kernel
theorem dX4_dreamBitsFrom_12 : decode cX4_dreamBitsFrom 12 = .ok (.iload_n 0, 1) := by decide +kernel
theorem dX4_dreamBitsFrom_13 : decode cX4_dreamBitsFrom 13 = .ok (.iload_n 1, 1) := by decide +kernel
theorem dX4_dreamBitsFrom_14 : decode cX4_dreamBitsFrom 14 = .ok (.iload_n 2, 1) := by decide +kernel
theorem dX4_dreamBitsFrom_15 : decode cX4_dreamBitsFrom 15 = .ok (.iload 5, 2) := by decide +kernel
theorem dX4_dreamBitsFrom_17 : decode cX4_dreamBitsFrom 17 = .ok (.iadd, 1) := by decide +kernel
theorem dX4_dreamBitsFrom_18 : decode cX4_dreamBitsFrom 18 = .ok (.invokestatic 155, 3) := by decide +kernel
theorem dX4_dreamBitsFrom_21 : decode cX4_dreamBitsFrom 21 = .ok (.ifCond .eq 10, 3) := by decide +kernel
theorem dX4_dreamBitsFrom_24 : decode cX4_dreamBitsFrom 24 = .ok (.lload_n 3, 1) := by decide +kernel
theorem dX4_dreamBitsFrom_25 : decode cX4_dreamBitsFrom 25 = .ok (.lconst 1, 1) := by decide +kernel
theorem dX4_dreamBitsFrom_26 : decode cX4_dreamBitsFrom 26 = .ok (.iload 5, 2) := by decide +kernel
theorem dX4_dreamBitsFrom_28 : decode cX4_dreamBitsFrom 28 = .ok (.lshl, 1) := by decide +kernel
theorem dX4_dreamBitsFrom_29 : decode cX4_dreamBitsFrom 29 = .ok (.lor, 1) := by decide +kernel
theorem dX4_dreamBitsFrom_30 : decode cX4_dreamBitsFrom 30 = .ok (.lstore_n 3, 1) := by decide +kernel
theorem dX4_dreamBitsFrom_31 : decode cX4_dreamBitsFrom 31 = .ok (.iinc 5 1, 3) := by decide +kernel
theorem dX4_dreamBitsFrom_34 : decode cX4_dreamBitsFrom 34 = .ok (.goto (-29), 3) := by decide +kernel
theorem dX4_dreamBitsFrom_37 : decode cX4_dreamBitsFrom 37 = .ok (.lload_n 3, 1) := by decide +kernel
theorem dX4_dreamBitsFrom_38 : decode cX4_dreamBitsFrom 38 = .ok (.lreturn, 1) := by decide +kernel
theorem dX4_learnSuppers_0 : decode cX4_learnSuppers 0 = .ok (.iconst 0, 1) := by decide +kernel
theorem dX4_learnSuppers_1 : decode cX4_learnSuppers 1 = .ok (.istore_n 1, 1) := by decide +kernel
theorem dX4_learnSuppers_2 : decode cX4_learnSuppers 2 = .ok (.iload_n 1, 1) := by decide +kernel
theorem dX4_learnSuppers_3 : decode cX4_learnSuppers 3 = .ok (.aload_n 0, 1) := by decide +kernel
theorem dX4_learnSuppers_4 : decode cX4_learnSuppers 4 = .ok (.getfield 24, 3) := by decide +kernel
theorem dX4_learnSuppers_7 : decode cX4_learnSuppers 7 = .ok (.getfield 129, 3) := by decide +kernel
theorem dX4_learnSuppers_10 : decode cX4_learnSuppers 10 = .ok (.if_icmp .ge 51, 3) := by decide +kernel
theorem dX4_learnSuppers_13 : decode cX4_learnSuppers 13 = .ok (.iconst 0, 1) := by decide +kernel
theorem dX4_learnSuppers_14 : decode cX4_learnSuppers 14 = .ok (.istore_n 2, 1) := by decide +kernel
theorem dX4_learnSuppers_15 : decode cX4_learnSuppers 15 = .ok (.iload_n 2, 1) := by decide +kernel
theorem dX4_learnSuppers_16 : decode cX4_learnSuppers 16 = .ok (.bipush 10, 2) := by decide +kernel
theorem dX4_learnSuppers_18 : decode cX4_learnSuppers 18 = .ok (.if_icmp .ge 37, 3) := by decide +kernel
theorem dX4_learnSuppers_21 : decode cX4_learnSuppers 21 = .ok (.aload_n 0, 1) := by decide +kernel
theorem dX4_learnSuppers_22 : decode cX4_learnSuppers 22 = .ok (.getfield 55, 3) := by decide +kernel
theorem dX4_learnSuppers_25 : decode cX4_learnSuppers 25 = .ok (.iload_n 1, 1) := by decide +kernel
theorem dX4_learnSuppers_26 : decode cX4_learnSuppers 26 = .ok (.aaload, 1) := by decide +kernel
theorem dX4_learnSuppers_27 : decode cX4_learnSuppers 27 = .ok (.iload_n 2, 1) := by decide +kernel
theorem dX4_learnSuppers_28 : decode cX4_learnSuppers 28 = .ok (.aload_n 0, 1) := by decide +kernel
theorem dX4_learnSuppers_29 : decode cX4_learnSuppers 29 = .ok (.getfield 24, 3) := by decide +kernel
theorem dX4_learnSuppers_32 : decode cX4_learnSuppers 32 = .ok (.getfield 140, 3) := by decide +kernel
theorem dX4_learnSuppers_35 : decode cX4_learnSuppers 35 = .ok (.iload_n 1, 1) := by decide +kernel
theorem dX4_learnSuppers_36 : decode cX4_learnSuppers 36 = .ok (.iaload, 1) := by decide +kernel
theorem dX4_learnSuppers_37 : decode cX4_learnSuppers 37 = .ok (.iload_n 2, 1) := by decide +kernel
theorem dX4_learnSuppers_38 : decode cX4_learnSuppers 38 = .ok (.aload_n 0, 1) := by decide +kernel
theorem dX4_learnSuppers_39 : decode cX4_learnSuppers 39 = .ok (.getfield 24, 3) := by decide +kernel
theorem dX4_learnSuppers_42 : decode cX4_learnSuppers 42 = .ok (.getfield 162, 3) := by decide +kernel
theorem dX4_learnSuppers_45 : decode cX4_learnSuppers 45 = .ok (.invokestatic 257, 3) := by decide +kernel
theorem dX4_learnSuppers_48 : decode cX4_learnSuppers 48 = .ok (.lastore, 1) := by decide +kernel
theorem dX4_learnSuppers_49 : decode cX4_learnSuppers 49 = .ok (.iinc 2 1, 3) := by decide +kernel
theorem dX4_learnSuppers_52 : decode cX4_learnSuppers 52 = .ok (.goto (-37), 3) := by decide +kernel
theorem dX4_learnSuppers_55 : decode cX4_learnSuppers 55 = .ok (.iinc 1 1, 3) := by decide +kernel
theorem dX4_learnSuppers_58 : decode cX4_learnSuppers 58 = .ok (.goto (-56), 3) := by decide +kernel
theorem dX4_learnSuppers_61 : decode cX4_learnSuppers 61 = .ok (.return_, 1) := by decide +kernel
theorem dX4_standsBehind_0 : decode cX4_standsBehind 0 = .ok (.aload_n 0, 1) := by decide +kernel
theorem dX4_standsBehind_1 : decode cX4_standsBehind 1 = .ok (.getfield 49, 3) := by decide +kernel
theorem dX4_standsBehind_4 : decode cX4_standsBehind 4 = .ok (.iload_n 1, 1) := by decide +kernel
theorem dX4_standsBehind_5 : decode cX4_standsBehind 5 = .ok (.iconst 1, 1) := by decide +kernel
theorem dX4_standsBehind_6 : decode cX4_standsBehind 6 = .ok (.iadd, 1) := by decide +kernel
theorem dX4_standsBehind_7 : decode cX4_standsBehind 7 = .ok (.aload_n 0, 1) := by decide +kernel
theorem dX4_standsBehind_8 : decode cX4_standsBehind 8 = .ok (.getfield 24, 3) := by decide +kernel
theorem dX4_standsBehind_11 : decode cX4_standsBehind 11 = .ok (.getfield 196, 3) := by decide +kernel
theorem dX4_standsBehind_14 : decode cX4_standsBehind 14 = .ok (.invokevirtual 199, 3) := by decide +kernel
theorem dX4_standsBehind_17 : decode cX4_standsBehind 17 = .ok (.pop, 1) := by decide +kernel
theorem dX4_standsBehind_18 : decode cX4_standsBehind 18 = .ok (.aload_n 0, 1) := by decide +kernel
theorem dX4_standsBehind_19 : decode cX4_standsBehind 19 = .ok (.getfield 49, 3) := by decide +kernel
theorem dX4_standsBehind_22 : decode cX4_standsBehind 22 = .ok (.getfield 202, 3) := by decide +kernel
theorem dX4_standsBehind_25 : decode cX4_standsBehind 25 = .ok (.iload_n 1, 1) := by decide +kernel
theorem dX4_standsBehind_26 : decode cX4_standsBehind 26 = .ok (.iaload, 1) := by decide +kernel
theorem dX4_standsBehind_27 : decode cX4_standsBehind 27 = .ok (.iload_n 2, 1) := by decide +kernel
theorem dX4_standsBehind_28 : decode cX4_standsBehind 28 = .ok (.if_icmp .ne 22, 3) := by decide +kernel
theorem dX4_standsBehind_31 : decode cX4_standsBehind 31 = .ok (.aload_n 0, 1) := by decide +kernel
theorem dX4_standsBehind_32 : decode cX4_standsBehind 32 = .ok (.getfield 49, 3) := by decide +kernel
theorem dX4_standsBehind_35 : decode cX4_standsBehind 35 = .ok (.getfield 202, 3) := by decide +kernel
theorem dX4_standsBehind_38 : decode cX4_standsBehind 38 = .ok (.iload_n 1, 1) := by decide +kernel
theorem dX4_standsBehind_39 : decode cX4_standsBehind 39 = .ok (.iconst 1, 1) := by decide +kernel
theorem dX4_standsBehind_40 : decode cX4_standsBehind 40 = .ok (.iadd, 1) := by decide +kernel
theorem dX4_standsBehind_41 : decode cX4_standsBehind 41 = .ok (.iaload, 1) := by decide +kernel
theorem dX4_standsBehind_42 : decode cX4_standsBehind 42 = .ok (.iload_n 2, 1) := by decide +kernel
theorem dX4_standsBehind_43 : decode cX4_standsBehind 43 = .ok (.if_icmp .ne 7, 3) := by decide +kernel
theorem dX4_standsBehind_46 : decode cX4_standsBehind 46 = .ok (.iconst 1, 1) := by decide +kernel
theorem dX4_standsBehind_47 : decode cX4_standsBehind 47 = .ok (.goto 4, 3) := by decide +kernel
theorem dX4_standsBehind_50 : decode cX4_standsBehind 50 = .ok (.iconst 0, 1) := by decide +kernel
theorem dX4_standsBehind_51 : decode cX4_standsBehind 51 = .ok (.ireturn, 1) := by decide +kernel
theorem dX4_mattersTo_0 : decode cX4_mattersTo 0 = .ok (.aload_n 0, 1) := by decide +kernel
theorem dX4_mattersTo_1 : decode cX4_mattersTo 1 = .ok (.getfield 24, 3) := by decide +kernel
theorem dX4_mattersTo_4 : decode cX4_mattersTo 4 = .ok (.iload_n 2, 1) := by decide +kernel
theorem dX4_mattersTo_5 : decode cX4_mattersTo 5 = .ok (.invokevirtual 177, 3) := by decide +kernel
theorem dX4_mattersTo_8 : decode cX4_mattersTo 8 = .ok (.ifCond .eq 39, 3) := by decide +kernel
theorem dX4_mattersTo_11 : decode cX4_mattersTo 11 = .ok (.aload_n 0, 1) := by decide +kernel
theorem dX4_mattersTo_12 : decode cX4_mattersTo 12 = .ok (.getfield 24, 3) := by decide +kernel
theorem dX4_mattersTo_15 : decode cX4_mattersTo 15 = .ok (.getfield 208, 3) := by decide +kernel
theorem dX4_mattersTo_18 : decode cX4_mattersTo 18 = .ok (.iload_n 2, 1) := by decide +kernel
theorem dX4_mattersTo_19 : decode cX4_mattersTo 19 = .ok (.iaload, 1) := by decide +kernel
theorem dX4_mattersTo_20 : decode cX4_mattersTo 20 = .ok (.aload_n 0, 1) := by decide +kernel
theorem dX4_mattersTo_21 : decode cX4_mattersTo 21 = .ok (.getfield 24, 3) := by decide +kernel
theorem dX4_mattersTo_24 : decode cX4_mattersTo 24 = .ok (.getfield 171, 3) := by decide +kernel
theorem dX4_mattersTo_27 : decode cX4_mattersTo 27 = .ok (.if_icmp .lt 20, 3) := by decide +kernel
theorem dX4_mattersTo_30 : decode cX4_mattersTo 30 = .ok (.aload_n 0, 1) := by decide +kernel
theorem dX4_mattersTo_31 : decode cX4_mattersTo 31 = .ok (.getfield 24, 3) := by decide +kernel
theorem dX4_mattersTo_34 : decode cX4_mattersTo 34 = .ok (.getfield 208, 3) := by decide +kernel
theorem dX4_mattersTo_37 : decode cX4_mattersTo 37 = .ok (.iload_n 2, 1) := by decide +kernel
theorem dX4_mattersTo_38 : decode cX4_mattersTo 38 = .ok (.iaload, 1) := by decide +kernel
theorem dX4_mattersTo_39 : decode cX4_mattersTo 39 = .ok (.iload_n 1, 1) := by decide +kernel
theorem dX4_mattersTo_40 : decode cX4_mattersTo 40 = .ok (.if_icmp .gt 7, 3) := by decide +kernel
theorem dX4_mattersTo_43 : decode cX4_mattersTo 43 = .ok (.iconst 1, 1) := by decide +kernel
theorem dX4_mattersTo_44 : decode cX4_mattersTo 44 = .ok (.goto 4, 3) := by decide +kernel
theorem dX4_mattersTo_47 : decode cX4_mattersTo 47 = .ok (.iconst 0, 1) := by decide +kernel
theorem dX4_mattersTo_48 : decode cX4_mattersTo 48 = .ok (.ireturn, 1) := by decide +kernel
theorem dX4_wayByOne_0 : decode cX4_wayByOne 0 = .ok (.iload_n 1, 1) := by decide +kernel
theorem dX4_wayByOne_1 : decode cX4_wayByOne 1 = .ok (.istore 4, 2) := by decide +kernel
theorem dX4_wayByOne_3 : decode cX4_wayByOne 3 = .ok (.iload 4, 2) := by decide +kernel
theorem dX4_wayByOne_5 : decode cX4_wayByOne 5 = .ok (.aload_n 0, 1) := by decide +kernel
theorem dX4_wayByOne_6 : decode cX4_wayByOne 6 = .ok (.getfield 24, 3) := by decide +kernel
theorem dX4_wayByOne_9 : decode cX4_wayByOne 9 = .ok (.getfield 129, 3) := by decide +kernel
theorem dX4_wayByOne_12 : decode cX4_wayByOne 12 = .ok (.bipush 10, 2) := by decide +kernel
theorem dX4_wayByOne_14 : decode cX4_wayByOne 14 = .ok (.imul, 1) := by decide +kernel
theorem dX4_wayByOne_15 : decode cX4_wayByOne 15 = .ok (.if_icmp .ge 89, 3) := by decide +kernel
theorem dX4_wayByOne_18 : decode cX4_wayByOne 18 = .ok (.iload 4, 2) := by decide +kernel
theorem dX4_wayByOne_20 : decode cX4_wayByOne 20 = .ok (.bipush 10, 2) := by decide +kernel
theorem dX4_wayByOne_22 : decode cX4_wayByOne 22 = .ok (.idiv, 1) := by decide +kernel
theorem dX4_wayByOne_23 : decode cX4_wayByOne 23 = .ok (.istore 5, 2) := by decide +kernel
theorem dX4_wayByOne_25 : decode cX4_wayByOne 25 = .ok (.aload_n 0, 1) := by decide +kernel
theorem dX4_wayByOne_26 : decode cX4_wayByOne 26 = .ok (.iload_n 3, 1) := by decide +kernel
theorem dX4_wayByOne_27 : decode cX4_wayByOne 27 = .ok (.iload 5, 2) := by decide +kernel
theorem dX4_wayByOne_29 : decode cX4_wayByOne 29 = .ok (.invokevirtual 304, 3) := by decide +kernel
theorem dX4_wayByOne_32 : decode cX4_wayByOne 32 = .ok (.ifCond .eq 66, 3) := by decide +kernel
theorem dX4_wayByOne_35 : decode cX4_wayByOne 35 = .ok (.aload_n 0, 1) := by decide +kernel
theorem dX4_wayByOne_36 : decode cX4_wayByOne 36 = .ok (.getfield 49, 3) := by decide +kernel
theorem dX4_wayByOne_39 : decode cX4_wayByOne 39 = .ok (.getfield 254, 3) := by decide +kernel
theorem dX4_wayByOne_42 : decode cX4_wayByOne 42 = .ok (.iload 5, 2) := by decide +kernel
theorem dX4_wayByOne_44 : decode cX4_wayByOne 44 = .ok (.laload, 1) := by decide +kernel
theorem dX4_wayByOne_45 : decode cX4_wayByOne 45 = .ok (.lstore 6, 2) := by decide +kernel
theorem dX4_wayByOne_47 : decode cX4_wayByOne 47 = .ok (.aload_n 0, 1) := by decide +kernel
theorem dX4_wayByOne_48 : decode cX4_wayByOne 48 = .ok (.getfield 49, 3) := by decide +kernel
theorem dX4_wayByOne_51 : decode cX4_wayByOne 51 = .ok (.getfield 254, 3) := by decide +kernel
theorem dX4_wayByOne_54 : decode cX4_wayByOne 54 = .ok (.iload 5, 2) := by decide +kernel
theorem dX4_wayByOne_56 : decode cX4_wayByOne 56 = .ok (.aload_n 0, 1) := by decide +kernel
theorem dX4_wayByOne_57 : decode cX4_wayByOne 57 = .ok (.getfield 55, 3) := by decide +kernel
theorem dX4_wayByOne_60 : decode cX4_wayByOne 60 = .ok (.iload 5, 2) := by decide +kernel
theorem dX4_wayByOne_62 : decode cX4_wayByOne 62 = .ok (.aaload, 1) := by decide +kernel
theorem dX4_wayByOne_63 : decode cX4_wayByOne 63 = .ok (.iload 4, 2) := by decide +kernel
theorem dX4_wayByOne_65 : decode cX4_wayByOne 65 = .ok (.bipush 10, 2) := by decide +kernel
theorem dX4_wayByOne_67 : decode cX4_wayByOne 67 = .ok (.irem, 1) := by decide +kernel
theorem dX4_wayByOne_68 : decode cX4_wayByOne 68 = .ok (.laload, 1) := by decide +kernel
theorem dX4_wayByOne_69 : decode cX4_wayByOne 69 = .ok (.lastore, 1) := by decide +kernel
theorem dX4_wayByOne_70 : decode cX4_wayByOne 70 = .ok (.aload_n 0, 1) := by decide +kernel
theorem dX4_wayByOne_71 : decode cX4_wayByOne 71 = .ok (.iload_n 2, 1) := by decide +kernel
theorem dX4_wayByOne_72 : decode cX4_wayByOne 72 = .ok (.iload_n 3, 1) := by decide +kernel
theorem dX4_wayByOne_73 : decode cX4_wayByOne 73 = .ok (.invokevirtual 234, 3) := by decide +kernel
theorem dX4_wayByOne_76 : decode cX4_wayByOne 76 = .ok (.istore 8, 2) := by decide +kernel
theorem dX4_wayByOne_78 : decode cX4_wayByOne 78 = .ok (.aload_n 0, 1) := by decide +kernel
theorem dX4_wayByOne_79 : decode cX4_wayByOne 79 = .ok (.getfield 49, 3) := by decide +kernel
theorem dX4_wayByOne_82 : decode cX4_wayByOne 82 = .ok (.getfield 254, 3) := by decide +kernel
theorem dX4_wayByOne_85 : decode cX4_wayByOne 85 = .ok (.iload 5, 2) := by decide +kernel
theorem dX4_wayByOne_87 : decode cX4_wayByOne 87 = .ok (.lload 6, 2) := by decide +kernel
theorem dX4_wayByOne_89 : decode cX4_wayByOne 89 = .ok (.lastore, 1) := by decide +kernel
theorem dX4_wayByOne_90 : decode cX4_wayByOne 90 = .ok (.iload 8, 2) := by decide +kernel
theorem dX4_wayByOne_92 : decode cX4_wayByOne 92 = .ok (.ifCond .eq 6, 3) := by decide +kernel
theorem dX4_wayByOne_95 : decode cX4_wayByOne 95 = .ok (.iload 4, 2) := by decide +kernel
theorem dX4_wayByOne_97 : decode cX4_wayByOne 97 = .ok (.ireturn, 1) := by decide +kernel
theorem dX4_wayByOne_98 : decode cX4_wayByOne 98 = .ok (.iinc 4 1, 3) := by decide +kernel
theorem dX4_wayByOne_101 : decode cX4_wayByOne 101 = .ok (.goto (-98), 3) := by decide +kernel
theorem dX4_wayByOne_104 : decode cX4_wayByOne 104 = .ok (.bipush (-9), 2) := by decide +kernel
theorem dX4_wayByOne_106 : decode cX4_wayByOne 106 = .ok (.ireturn, 1) := by decide +kernel
theorem dX4_wayByTwo_0 : decode cX4_wayByTwo 0 = .ok (.iconst 0, 1) := by decide +kernel
theorem dX4_wayByTwo_1 : decode cX4_wayByTwo 1 = .ok (.istore_n 3, 1) := by decide +kernel
theorem dX4_wayByTwo_2 : decode cX4_wayByTwo 2 = .ok (.iload_n 3, 1) := by decide +kernel
theorem dX4_wayByTwo_3 : decode cX4_wayByTwo 3 = .ok (.aload_n 0, 1) := by decide +kernel
theorem dX4_wayByTwo_4 : decode cX4_wayByTwo 4 = .ok (.getfield 24, 3) := by decide +kernel
theorem dX4_wayByTwo_7 : decode cX4_wayByTwo 7 = .ok (.getfield 129, 3) := by decide +kernel
theorem dX4_wayByTwo_10 : decode cX4_wayByTwo 10 = .ok (.bipush 10, 2) := by decide +kernel
theorem dX4_wayByTwo_12 : decode cX4_wayByTwo 12 = .ok (.imul, 1) := by decide +kernel
theorem dX4_wayByTwo_13 : decode cX4_wayByTwo 13 = .ok (.if_icmp .ge 102, 3) := by decide +kernel
theorem dX4_wayByTwo_16 : decode cX4_wayByTwo 16 = .ok (.iload_n 3, 1) := by decide +kernel
theorem dX4_wayByTwo_17 : decode cX4_wayByTwo 17 = .ok (.bipush 10, 2) := by decide +kernel
theorem dX4_wayByTwo_19 : decode cX4_wayByTwo 19 = .ok (.idiv, 1) := by decide +kernel
theorem dX4_wayByTwo_20 : decode cX4_wayByTwo 20 = .ok (.istore 4, 2) := by decide +kernel
theorem dX4_wayByTwo_22 : decode cX4_wayByTwo 22 = .ok (.aload_n 0, 1) := by decide +kernel
theorem dX4_wayByTwo_23 : decode cX4_wayByTwo 23 = .ok (.iload_n 2, 1) := by decide +kernel
theorem dX4_wayByTwo_24 : decode cX4_wayByTwo 24 = .ok (.iload 4, 2) := by decide +kernel
theorem dX4_wayByTwo_26 : decode cX4_wayByTwo 26 = .ok (.invokevirtual 304, 3) := by decide +kernel
theorem dX4_wayByTwo_29 : decode cX4_wayByTwo 29 = .ok (.ifCond .eq 80, 3) := by decide +kernel
theorem dX4_wayByTwo_32 : decode cX4_wayByTwo 32 = .ok (.aload_n 0, 1) := by decide +kernel
theorem dX4_wayByTwo_33 : decode cX4_wayByTwo 33 = .ok (.getfield 49, 3) := by decide +kernel
theorem dX4_wayByTwo_36 : decode cX4_wayByTwo 36 = .ok (.getfield 254, 3) := by decide +kernel
theorem dX4_wayByTwo_39 : decode cX4_wayByTwo 39 = .ok (.iload 4, 2) := by decide +kernel
theorem dX4_wayByTwo_41 : decode cX4_wayByTwo 41 = .ok (.laload, 1) := by decide +kernel
theorem dX4_wayByTwo_42 : decode cX4_wayByTwo 42 = .ok (.lstore 5, 2) := by decide +kernel
theorem dX4_wayByTwo_44 : decode cX4_wayByTwo 44 = .ok (.aload_n 0, 1) := by decide +kernel
theorem dX4_wayByTwo_45 : decode cX4_wayByTwo 45 = .ok (.getfield 49, 3) := by decide +kernel
theorem dX4_wayByTwo_48 : decode cX4_wayByTwo 48 = .ok (.getfield 254, 3) := by decide +kernel
theorem dX4_wayByTwo_51 : decode cX4_wayByTwo 51 = .ok (.iload 4, 2) := by decide +kernel
theorem dX4_wayByTwo_53 : decode cX4_wayByTwo 53 = .ok (.aload_n 0, 1) := by decide +kernel
theorem dX4_wayByTwo_54 : decode cX4_wayByTwo 54 = .ok (.getfield 55, 3) := by decide +kernel
theorem dX4_wayByTwo_57 : decode cX4_wayByTwo 57 = .ok (.iload 4, 2) := by decide +kernel
theorem dX4_wayByTwo_59 : decode cX4_wayByTwo 59 = .ok (.aaload, 1) := by decide +kernel
theorem dX4_wayByTwo_60 : decode cX4_wayByTwo 60 = .ok (.iload_n 3, 1) := by decide +kernel
theorem dX4_wayByTwo_61 : decode cX4_wayByTwo 61 = .ok (.bipush 10, 2) := by decide +kernel
theorem dX4_wayByTwo_63 : decode cX4_wayByTwo 63 = .ok (.irem, 1) := by decide +kernel
theorem dX4_wayByTwo_64 : decode cX4_wayByTwo 64 = .ok (.laload, 1) := by decide +kernel
theorem dX4_wayByTwo_65 : decode cX4_wayByTwo 65 = .ok (.lastore, 1) := by decide +kernel
theorem dX4_wayByTwo_66 : decode cX4_wayByTwo 66 = .ok (.aload_n 0, 1) := by decide +kernel
theorem dX4_wayByTwo_67 : decode cX4_wayByTwo 67 = .ok (.iload 4, 2) := by decide +kernel
theorem dX4_wayByTwo_69 : decode cX4_wayByTwo 69 = .ok (.iconst 1, 1) := by decide +kernel
theorem dX4_wayByTwo_70 : decode cX4_wayByTwo 70 = .ok (.iadd, 1) := by decide +kernel
theorem dX4_wayByTwo_71 : decode cX4_wayByTwo 71 = .ok (.bipush 10, 2) := by decide +kernel
theorem dX4_wayByTwo_73 : decode cX4_wayByTwo 73 = .ok (.imul, 1) := by decide +kernel
theorem dX4_wayByTwo_74 : decode cX4_wayByTwo 74 = .ok (.iload_n 1, 1) := by decide +kernel
theorem dX4_wayByTwo_75 : decode cX4_wayByTwo 75 = .ok (.iload_n 2, 1) := by decide +kernel
theorem dX4_wayByTwo_76 : decode cX4_wayByTwo 76 = .ok (.invokevirtual 240, 3) := by decide +kernel
theorem dX4_wayByTwo_79 : decode cX4_wayByTwo 79 = .ok (.istore 7, 2) := by decide +kernel
theorem dX4_wayByTwo_81 : decode cX4_wayByTwo 81 = .ok (.aload_n 0, 1) := by decide +kernel
theorem dX4_wayByTwo_82 : decode cX4_wayByTwo 82 = .ok (.getfield 49, 3) := by decide +kernel
theorem dX4_wayByTwo_85 : decode cX4_wayByTwo 85 = .ok (.getfield 254, 3) := by decide +kernel
theorem dX4_wayByTwo_88 : decode cX4_wayByTwo 88 = .ok (.iload 4, 2) := by decide +kernel
theorem dX4_wayByTwo_90 : decode cX4_wayByTwo 90 = .ok (.lload 5, 2) := by decide +kernel
theorem dX4_wayByTwo_92 : decode cX4_wayByTwo 92 = .ok (.lastore, 1) := by decide +kernel
theorem dX4_wayByTwo_93 : decode cX4_wayByTwo 93 = .ok (.iload 7, 2) := by decide +kernel
theorem dX4_wayByTwo_95 : decode cX4_wayByTwo 95 = .ok (.bipush (-9), 2) := by decide +kernel
theorem dX4_wayByTwo_97 : decode cX4_wayByTwo 97 = .ok (.if_icmp .eq 12, 3) := by decide +kernel
theorem dX4_wayByTwo_100 : decode cX4_wayByTwo 100 = .ok (.sipush 1000, 3) := by decide +kernel
theorem dX4_wayByTwo_103 : decode cX4_wayByTwo 103 = .ok (.iload_n 3, 1) := by decide +kernel
theorem dX4_wayByTwo_104 : decode cX4_wayByTwo 104 = .ok (.imul, 1) := by decide +kernel
theorem dX4_wayByTwo_105 : decode cX4_wayByTwo 105 = .ok (.iload 7, 2) := by decide +kernel
theorem dX4_wayByTwo_107 : decode cX4_wayByTwo 107 = .ok (.iadd, 1) := by decide +kernel
theorem dX4_wayByTwo_108 : decode cX4_wayByTwo 108 = .ok (.ireturn, 1) := by decide +kernel
theorem dX4_wayByTwo_109 : decode cX4_wayByTwo 109 = .ok (.iinc 3 1, 3) := by decide +kernel
theorem dX4_wayByTwo_112 : decode cX4_wayByTwo 112 = .ok (.goto (-110), 3) := by decide +kernel
theorem dX4_wayByTwo_115 : decode cX4_wayByTwo 115 = .ok (.bipush (-9), 2) := by decide +kernel
theorem dX4_wayByTwo_117 : decode cX4_wayByTwo 117 = .ok (.ireturn, 1) := by decide +kernel
theorem dX4_fitsSeen_0 : decode cX4_fitsSeen 0 = .ok (.aload_n 0, 1) := by decide +kernel
theorem dX4_fitsSeen_1 : decode cX4_fitsSeen 1 = .ok (.getfield 14, 3) := by decide +kernel
theorem dX4_fitsSeen_4 : decode cX4_fitsSeen 4 = .ok (.getfield 105, 3) := by decide +kernel
theorem dX4_fitsSeen_7 : decode cX4_fitsSeen 7 = .ok (.iload_n 1, 1) := by decide +kernel
theorem dX4_fitsSeen_8 : decode cX4_fitsSeen 8 = .ok (.iaload, 1) := by decide +kernel
theorem dX4_fitsSeen_9 : decode cX4_fitsSeen 9 = .ok (.istore_n 3, 1) := by decide +kernel
theorem dX4_fitsSeen_10 : decode cX4_fitsSeen 10 = .ok (.aload_n 0, 1) := by decide +kernel
theorem dX4_fitsSeen_11 : decode cX4_fitsSeen 11 = .ok (.getfield 49, 3) := by decide +kernel
theorem dX4_fitsSeen_14 : decode cX4_fitsSeen 14 = .ok (.iload_n 3, 1) := by decide +kernel
theorem dX4_fitsSeen_15 : decode cX4_fitsSeen 15 = .ok (.iload_n 2, 1) := by decide +kernel
theorem dX4_fitsSeen_16 : decode cX4_fitsSeen 16 = .ok (.invokevirtual 199, 3) := by decide +kernel
theorem dX4_fitsSeen_19 : decode cX4_fitsSeen 19 = .ok (.pop, 1) := by decide +kernel
theorem dX4_fitsSeen_20 : decode cX4_fitsSeen 20 = .ok (.iconst 0, 1) := by decide +kernel
theorem dX4_fitsSeen_21 : decode cX4_fitsSeen 21 = .ok (.istore 4, 2) := by decide +kernel
theorem dX4_fitsSeen_23 : decode cX4_fitsSeen 23 = .ok (.iload 4, 2) := by decide +kernel
theorem dX4_fitsSeen_25 : decode cX4_fitsSeen 25 = .ok (.iload_n 3, 1) := by decide +kernel
theorem dX4_fitsSeen_26 : decode cX4_fitsSeen 26 = .ok (.if_icmp .ge 38, 3) := by decide +kernel
theorem dX4_fitsSeen_29 : decode cX4_fitsSeen 29 = .ok (.aload_n 0, 1) := by decide +kernel
theorem dX4_fitsSeen_30 : decode cX4_fitsSeen 30 = .ok (.getfield 49, 3) := by decide +kernel
theorem dX4_fitsSeen_33 : decode cX4_fitsSeen 33 = .ok (.getfield 202, 3) := by decide +kernel
theorem dX4_fitsSeen_36 : decode cX4_fitsSeen 36 = .ok (.iload 4, 2) := by decide +kernel
theorem dX4_fitsSeen_38 : decode cX4_fitsSeen 38 = .ok (.iconst 1, 1) := by decide +kernel
theorem dX4_fitsSeen_39 : decode cX4_fitsSeen 39 = .ok (.iadd, 1) := by decide +kernel
theorem dX4_fitsSeen_40 : decode cX4_fitsSeen 40 = .ok (.iaload, 1) := by decide +kernel
theorem dX4_fitsSeen_41 : decode cX4_fitsSeen 41 = .ok (.aload_n 0, 1) := by decide +kernel
theorem dX4_fitsSeen_42 : decode cX4_fitsSeen 42 = .ok (.getfield 14, 3) := by decide +kernel
theorem dX4_fitsSeen_45 : decode cX4_fitsSeen 45 = .ok (.getfield 94, 3) := by decide +kernel
theorem dX4_fitsSeen_48 : decode cX4_fitsSeen 48 = .ok (.iload_n 1, 1) := by decide +kernel
theorem dX4_fitsSeen_49 : decode cX4_fitsSeen 49 = .ok (.aaload, 1) := by decide +kernel
theorem dX4_fitsSeen_50 : decode cX4_fitsSeen 50 = .ok (.iload 4, 2) := by decide +kernel
theorem dX4_fitsSeen_52 : decode cX4_fitsSeen 52 = .ok (.iaload, 1) := by decide +kernel
theorem dX4_fitsSeen_53 : decode cX4_fitsSeen 53 = .ok (.if_icmp .eq 5, 3) := by decide +kernel
theorem dX4_fitsSeen_56 : decode cX4_fitsSeen 56 = .ok (.iconst 0, 1) := by decide +kernel
theorem dX4_fitsSeen_57 : decode cX4_fitsSeen 57 = .ok (.ireturn, 1) := by decide +kernel
theorem dX4_fitsSeen_58 : decode cX4_fitsSeen 58 = .ok (.iinc 4 1, 3) := by decide +kernel
theorem dX4_fitsSeen_61 : decode cX4_fitsSeen 61 = .ok (.goto (-38), 3) := by decide +kernel
theorem dX4_fitsSeen_64 : decode cX4_fitsSeen 64 = .ok (.iconst 1, 1) := by decide +kernel
theorem dX4_fitsSeen_65 : decode cX4_fitsSeen 65 = .ok (.ireturn, 1) := by decide +kernel
theorem dX4_greatestPart_0 : decode cX4_greatestPart 0 = .ok (.iconst 0, 1) := by decide +kernel
theorem dX4_greatestPart_1 : decode cX4_greatestPart 1 = .ok (.istore_n 2, 1) := by decide +kernel
theorem dX4_greatestPart_2 : decode cX4_greatestPart 2 = .ok (.iconst 0, 1) := by decide +kernel
theorem dX4_greatestPart_3 : decode cX4_greatestPart 3 = .ok (.istore_n 3, 1) := by decide +kernel
theorem dX4_greatestPart_4 : decode cX4_greatestPart 4 = .ok (.iload_n 3, 1) := by decide +kernel
theorem dX4_greatestPart_5 : decode cX4_greatestPart 5 = .ok (.bipush 6, 2) := by decide +kernel
theorem dX4_greatestPart_7 : decode cX4_greatestPart 7 = .ok (.if_icmp .ge 68, 3) := by decide +kernel
theorem dX4_greatestPart_10 : decode cX4_greatestPart 10 = .ok (.iconst 0, 1) := by decide +kernel
theorem dX4_greatestPart_11 : decode cX4_greatestPart 11 = .ok (.istore 4, 2) := by decide +kernel
theorem dX4_greatestPart_13 : decode cX4_greatestPart 13 = .ok (.iconst 0, 1) := by decide +kernel
theorem dX4_greatestPart_14 : decode cX4_greatestPart 14 = .ok (.istore 5, 2) := by decide +kernel
theorem dX4_greatestPart_16 : decode cX4_greatestPart 16 = .ok (.iload 5, 2) := by decide +kernel
theorem dX4_greatestPart_18 : decode cX4_greatestPart 18 = .ok (.bipush 6, 2) := by decide +kernel
theorem dX4_greatestPart_20 : decode cX4_greatestPart 20 = .ok (.if_icmp .ge 42, 3) := by decide +kernel
theorem dX4_greatestPart_23 : decode cX4_greatestPart 23 = .ok (.iload 4, 2) := by decide +kernel
theorem dX4_greatestPart_25 : decode cX4_greatestPart 25 = .ok (.aload_n 0, 1) := by decide +kernel
theorem dX4_greatestPart_26 : decode cX4_greatestPart 26 = .ok (.getfield 60, 3) := by decide +kernel
theorem dX4_greatestPart_29 : decode cX4_greatestPart 29 = .ok (.iload 5, 2) := by decide +kernel
theorem dX4_greatestPart_31 : decode cX4_greatestPart 31 = .ok (.aaload, 1) := by decide +kernel
theorem dX4_greatestPart_32 : decode cX4_greatestPart 32 = .ok (.iload_n 1, 1) := by decide +kernel
theorem dX4_greatestPart_33 : decode cX4_greatestPart 33 = .ok (.iaload, 1) := by decide +kernel
theorem dX4_greatestPart_34 : decode cX4_greatestPart 34 = .ok (.aload_n 0, 1) := by decide +kernel
theorem dX4_greatestPart_35 : decode cX4_greatestPart 35 = .ok (.getfield 60, 3) := by decide +kernel
theorem dX4_greatestPart_38 : decode cX4_greatestPart 38 = .ok (.iload_n 3, 1) := by decide +kernel
theorem dX4_greatestPart_39 : decode cX4_greatestPart 39 = .ok (.aaload, 1) := by decide +kernel
theorem dX4_greatestPart_40 : decode cX4_greatestPart 40 = .ok (.iload_n 1, 1) := by decide +kernel
theorem dX4_greatestPart_41 : decode cX4_greatestPart 41 = .ok (.iaload, 1) := by decide +kernel
theorem dX4_greatestPart_42 : decode cX4_greatestPart 42 = .ok (.if_icmp .ne 7, 3) := by decide +kernel
theorem dX4_greatestPart_45 : decode cX4_greatestPart 45 = .ok (.iconst 1, 1) := by decide +kernel
theorem dX4_greatestPart_46 : decode cX4_greatestPart 46 = .ok (.goto 4, 3) := by decide +kernel
theorem dX4_greatestPart_49 : decode cX4_greatestPart 49 = .ok (.iconst 0, 1) := by decide +kernel
theorem dX4_greatestPart_50 : decode cX4_greatestPart 50 = .ok (.invokestatic 158, 3) := by decide +kernel
theorem dX4_greatestPart_53 : decode cX4_greatestPart 53 = .ok (.iadd, 1) := by decide +kernel
theorem dX4_greatestPart_54 : decode cX4_greatestPart 54 = .ok (.istore 4, 2) := by decide +kernel
theorem dX4_greatestPart_56 : decode cX4_greatestPart 56 = .ok (.iinc 5 1, 3) := by decide +kernel
theorem dX4_greatestPart_59 : decode cX4_greatestPart 59 = .ok (.goto (-43), 3) := by decide +kernel
theorem dX4_greatestPart_62 : decode cX4_greatestPart 62 = .ok (.iload_n 2, 1) := by decide +kernel
theorem dX4_greatestPart_63 : decode cX4_greatestPart 63 = .ok (.iload 4, 2) := by decide +kernel
theorem dX4_greatestPart_65 : decode cX4_greatestPart 65 = .ok (.invokestatic 217, 3) := by decide +kernel
theorem dX4_greatestPart_68 : decode cX4_greatestPart 68 = .ok (.istore_n 2, 1) := by decide +kernel
theorem dX4_greatestPart_69 : decode cX4_greatestPart 69 = .ok (.iinc 3 1, 3) := by decide +kernel
theorem dX4_greatestPart_72 : decode cX4_greatestPart 72 = .ok (.goto (-68), 3) := by decide +kernel
theorem dX4_greatestPart_75 : decode cX4_greatestPart 75 = .ok (.iload_n 2, 1) := by decide +kernel
theorem dX4_greatestPart_76 : decode cX4_greatestPart 76 = .ok (.ireturn, 1) := by decide +kernel
theorem dX4_playTurn_0 : decode cX4_playTurn 0 = .ok (.iconst 0, 1) := by decide +kernel
theorem dX4_playTurn_1 : decode cX4_playTurn 1 = .ok (.istore_n 3, 1) := by decide +kernel
theorem dX4_playTurn_2 : decode cX4_playTurn 2 = .ok (.iload_n 3, 1) := by decide +kernel
theorem dX4_playTurn_3 : decode cX4_playTurn 3 = .ok (.aload_n 0, 1) := by decide +kernel
theorem dX4_playTurn_4 : decode cX4_playTurn 4 = .ok (.getfield 24, 3) := by decide +kernel
theorem dX4_playTurn_7 : decode cX4_playTurn 7 = .ok (.invokevirtual 222, 3) := by decide +kernel
theorem dX4_playTurn_10 : decode cX4_playTurn 10 = .ok (.if_icmp .ge 126, 3) := by decide +kernel
theorem dX4_playTurn_13 : decode cX4_playTurn 13 = .ok (.aload_n 0, 1) := by decide +kernel
theorem dX4_playTurn_14 : decode cX4_playTurn 14 = .ok (.getfield 63, 3) := by decide +kernel
theorem dX4_playTurn_17 : decode cX4_playTurn 17 = .ok (.iload_n 1, 1) := by decide +kernel
theorem dX4_playTurn_18 : decode cX4_playTurn 18 = .ok (.iconst 1, 1) := by decide +kernel
theorem dX4_playTurn_19 : decode cX4_playTurn 19 = .ok (.isub, 1) := by decide +kernel
theorem dX4_playTurn_20 : decode cX4_playTurn 20 = .ok (.aaload, 1) := by decide +kernel
theorem dX4_playTurn_21 : decode cX4_playTurn 21 = .ok (.iload_n 3, 1) := by decide +kernel
theorem dX4_playTurn_22 : decode cX4_playTurn 22 = .ok (.iaload, 1) := by decide +kernel
theorem dX4_playTurn_23 : decode cX4_playTurn 23 = .ok (.istore 4, 2) := by decide +kernel
theorem dX4_playTurn_25 : decode cX4_playTurn 25 = .ok (.iconst 0, 1) := by decide +kernel
theorem dX4_playTurn_26 : decode cX4_playTurn 26 = .ok (.istore 5, 2) := by decide +kernel
theorem dX4_playTurn_28 : decode cX4_playTurn 28 = .ok (.iload 5, 2) := by decide +kernel
theorem dX4_playTurn_30 : decode cX4_playTurn 30 = .ok (.aload_n 0, 1) := by decide +kernel
theorem dX4_playTurn_31 : decode cX4_playTurn 31 = .ok (.getfield 24, 3) := by decide +kernel
theorem dX4_playTurn_34 : decode cX4_playTurn 34 = .ok (.getfield 129, 3) := by decide +kernel
theorem dX4_playTurn_37 : decode cX4_playTurn 37 = .ok (.if_icmp .ge 83, 3) := by decide +kernel
theorem dX4_playTurn_40 : decode cX4_playTurn 40 = .ok (.iconst 1, 1) := by decide +kernel
theorem dX4_playTurn_41 : decode cX4_playTurn 41 = .ok (.iload 5, 2) := by decide +kernel
theorem dX4_playTurn_43 : decode cX4_playTurn 43 = .ok (.ishl, 1) := by decide +kernel
theorem dX4_playTurn_44 : decode cX4_playTurn 44 = .ok (.istore 6, 2) := by decide +kernel
theorem dX4_playTurn_46 : decode cX4_playTurn 46 = .ok (.aload_n 0, 1) := by decide +kernel
theorem dX4_playTurn_47 : decode cX4_playTurn 47 = .ok (.getfield 63, 3) := by decide +kernel
theorem dX4_playTurn_50 : decode cX4_playTurn 50 = .ok (.iload_n 1, 1) := by decide +kernel
theorem dX4_playTurn_51 : decode cX4_playTurn 51 = .ok (.iconst 1, 1) := by decide +kernel
theorem dX4_playTurn_52 : decode cX4_playTurn 52 = .ok (.isub, 1) := by decide +kernel
theorem dX4_playTurn_53 : decode cX4_playTurn 53 = .ok (.aaload, 1) := by decide +kernel
theorem dX4_playTurn_54 : decode cX4_playTurn 54 = .ok (.iload_n 3, 1) := by decide +kernel
theorem dX4_playTurn_55 : decode cX4_playTurn 55 = .ok (.iload 6, 2) := by decide +kernel
theorem dX4_playTurn_57 : decode cX4_playTurn 57 = .ok (.ixor, 1) := by decide +kernel
theorem dX4_playTurn_58 : decode cX4_playTurn 58 = .ok (.iaload, 1) := by decide +kernel
theorem dX4_playTurn_59 : decode cX4_playTurn 59 = .ok (.istore 7, 2) := by decide +kernel
theorem dX4_playTurn_61 : decode cX4_playTurn 61 = .ok (.iload_n 3, 1) := by decide +kernel
theorem dX4_playTurn_62 : decode cX4_playTurn 62 = .ok (.iload 6, 2) := by decide +kernel
theorem dX4_playTurn_64 : decode cX4_playTurn 64 = .ok (.iand, 1) := by decide +kernel
theorem dX4_playTurn_65 : decode cX4_playTurn 65 = .ok (.ifCond .eq 7, 3) := by decide +kernel
theorem dX4_playTurn_68 : decode cX4_playTurn 68 = .ok (.iconst 1, 1) := by decide +kernel
theorem dX4_playTurn_69 : decode cX4_playTurn 69 = .ok (.goto 4, 3) := by decide +kernel
theorem dX4_playTurn_72 : decode cX4_playTurn 72 = .ok (.iconst 0, 1) := by decide +kernel
theorem dX4_playTurn_73 : decode cX4_playTurn 73 = .ok (.istore 8, 2) := by decide +kernel
theorem dX4_playTurn_75 : decode cX4_playTurn 75 = .ok (.iload_n 2, 1) := by decide +kernel
theorem dX4_playTurn_76 : decode cX4_playTurn 76 = .ok (.ifCond .eq 20, 3) := by decide +kernel
theorem dX4_playTurn_79 : decode cX4_playTurn 79 = .ok (.iload 8, 2) := by decide +kernel
theorem dX4_playTurn_81 : decode cX4_playTurn 81 = .ok (.ifCond .eq 15, 3) := by decide +kernel
theorem dX4_playTurn_84 : decode cX4_playTurn 84 = .ok (.iload 4, 2) := by decide +kernel
theorem dX4_playTurn_86 : decode cX4_playTurn 86 = .ok (.iload 7, 2) := by decide +kernel
theorem dX4_playTurn_88 : decode cX4_playTurn 88 = .ok (.invokestatic 217, 3) := by decide +kernel
theorem dX4_playTurn_91 : decode cX4_playTurn 91 = .ok (.istore 4, 2) := by decide +kernel
theorem dX4_playTurn_93 : decode cX4_playTurn 93 = .ok (.goto 21, 3) := by decide +kernel
theorem dX4_playTurn_96 : decode cX4_playTurn 96 = .ok (.iload_n 2, 1) := by decide +kernel
theorem dX4_playTurn_97 : decode cX4_playTurn 97 = .ok (.ifCond .ne 17, 3) := by decide +kernel
theorem dX4_playTurn_100 : decode cX4_playTurn 100 = .ok (.iload 8, 2) := by decide +kernel
theorem dX4_playTurn_102 : decode cX4_playTurn 102 = .ok (.ifCond .ne 12, 3) := by decide +kernel
theorem dX4_playTurn_105 : decode cX4_playTurn 105 = .ok (.iload 4, 2) := by decide +kernel
theorem dX4_playTurn_107 : decode cX4_playTurn 107 = .ok (.iload 7, 2) := by decide +kernel
theorem dX4_playTurn_109 : decode cX4_playTurn 109 = .ok (.invokestatic 307, 3) := by decide +kernel
theorem dX4_playTurn_112 : decode cX4_playTurn 112 = .ok (.istore 4, 2) := by decide +kernel
theorem dX4_playTurn_114 : decode cX4_playTurn 114 = .ok (.iinc 5 1, 3) := by decide +kernel
theorem dX4_playTurn_117 : decode cX4_playTurn 117 = .ok (.goto (-89), 3) := by decide +kernel
theorem dX4_playTurn_120 : decode cX4_playTurn 120 = .ok (.aload_n 0, 1) := by decide +kernel
theorem dX4_playTurn_121 : decode cX4_playTurn 121 = .ok (.getfield 63, 3) := by decide +kernel
theorem dX4_playTurn_124 : decode cX4_playTurn 124 = .ok (.iload_n 1, 1) := by decide +kernel
theorem dX4_playTurn_125 : decode cX4_playTurn 125 = .ok (.aaload, 1) := by decide +kernel
theorem dX4_playTurn_126 : decode cX4_playTurn 126 = .ok (.iload_n 3, 1) := by decide +kernel
theorem dX4_playTurn_127 : decode cX4_playTurn 127 = .ok (.iload 4, 2) := by decide +kernel
theorem dX4_playTurn_129 : decode cX4_playTurn 129 = .ok (.iastore, 1) := by decide +kernel
theorem dX4_playTurn_130 : decode cX4_playTurn 130 = .ok (.iinc 3 1, 3) := by decide +kernel
theorem dX4_playTurn_133 : decode cX4_playTurn 133 = .ok (.goto (-131), 3) := by decide +kernel
theorem dX4_playTurn_136 : decode cX4_playTurn 136 = .ok (.return_, 1) := by decide +kernel
theorem dX4_weighPlaces_0 : decode cX4_weighPlaces 0 = .ok (.aload_n 0, 1) := by decide +kernel
theorem dX4_weighPlaces_1 : decode cX4_weighPlaces 1 = .ok (.getfield 66, 3) := by decide +kernel
theorem dX4_weighPlaces_4 : decode cX4_weighPlaces 4 = .ok (.lconst 0, 1) := by decide +kernel
theorem dX4_weighPlaces_5 : decode cX4_weighPlaces 5 = .ok (.invokestatic 310, 3) := by decide +kernel
theorem dX4_weighPlaces_8 : decode cX4_weighPlaces 8 = .ok (.aload_n 0, 1) := by decide +kernel
theorem dX4_weighPlaces_9 : decode cX4_weighPlaces 9 = .ok (.getfield 49, 3) := by decide +kernel
theorem dX4_weighPlaces_12 : decode cX4_weighPlaces 12 = .ok (.aload_n 0, 1) := by decide +kernel
theorem dX4_weighPlaces_13 : decode cX4_weighPlaces 13 = .ok (.getfield 24, 3) := by decide +kernel
theorem dX4_weighPlaces_16 : decode cX4_weighPlaces 16 = .ok (.invokevirtual 193, 3) := by decide +kernel
theorem dX4_weighPlaces_19 : decode cX4_weighPlaces 19 = .ok (.iconst 0, 1) := by decide +kernel
theorem dX4_weighPlaces_20 : decode cX4_weighPlaces 20 = .ok (.istore_n 3, 1) := by decide +kernel
theorem dX4_weighPlaces_21 : decode cX4_weighPlaces 21 = .ok (.iload_n 3, 1) := by decide +kernel
theorem dX4_weighPlaces_22 : decode cX4_weighPlaces 22 = .ok (.aload_n 0, 1) := by decide +kernel
theorem dX4_weighPlaces_23 : decode cX4_weighPlaces 23 = .ok (.getfield 24, 3) := by decide +kernel
theorem dX4_weighPlaces_26 : decode cX4_weighPlaces 26 = .ok (.invokevirtual 222, 3) := by decide +kernel
theorem dX4_weighPlaces_29 : decode cX4_weighPlaces 29 = .ok (.if_icmp .ge 78, 3) := by decide +kernel
theorem dX4_weighPlaces_32 : decode cX4_weighPlaces 32 = .ok (.iload_n 3, 1) := by decide +kernel
theorem dX4_weighPlaces_33 : decode cX4_weighPlaces 33 = .ok (.aload_n 0, 1) := by decide +kernel
theorem dX4_weighPlaces_34 : decode cX4_weighPlaces 34 = .ok (.getfield 24, 3) := by decide +kernel
theorem dX4_weighPlaces_37 : decode cX4_weighPlaces 37 = .ok (.getfield 196, 3) := by decide +kernel
theorem dX4_weighPlaces_40 : decode cX4_weighPlaces 40 = .ok (.invokestatic 231, 3) := by decide +kernel
theorem dX4_weighPlaces_43 : decode cX4_weighPlaces 43 = .ok (.ifCond .eq 58, 3) := by decide +kernel
theorem dX4_weighPlaces_46 : decode cX4_weighPlaces 46 = .ok (.aload_n 0, 1) := by decide +kernel
theorem dX4_weighPlaces_47 : decode cX4_weighPlaces 47 = .ok (.getfield 49, 3) := by decide +kernel
theorem dX4_weighPlaces_50 : decode cX4_weighPlaces 50 = .ok (.iload_n 1, 1) := by decide +kernel
theorem dX4_weighPlaces_51 : decode cX4_weighPlaces 51 = .ok (.iload_n 3, 1) := by decide +kernel
theorem dX4_weighPlaces_52 : decode cX4_weighPlaces 52 = .ok (.invokevirtual 199, 3) := by decide +kernel
theorem dX4_weighPlaces_55 : decode cX4_weighPlaces 55 = .ok (.istore 4, 2) := by decide +kernel
theorem dX4_weighPlaces_57 : decode cX4_weighPlaces 57 = .ok (.iload_n 2, 1) := by decide +kernel
theorem dX4_weighPlaces_58 : decode cX4_weighPlaces 58 = .ok (.aload_n 0, 1) := by decide +kernel
theorem dX4_weighPlaces_59 : decode cX4_weighPlaces 59 = .ok (.getfield 24, 3) := by decide +kernel
theorem dX4_weighPlaces_62 : decode cX4_weighPlaces 62 = .ok (.getfield 196, 3) := by decide +kernel
theorem dX4_weighPlaces_65 : decode cX4_weighPlaces 65 = .ok (.iload_n 3, 1) := by decide +kernel
theorem dX4_weighPlaces_66 : decode cX4_weighPlaces 66 = .ok (.iconst (-1), 1) := by decide +kernel
theorem dX4_weighPlaces_67 : decode cX4_weighPlaces 67 = .ok (.ixor, 1) := by decide +kernel
theorem dX4_weighPlaces_68 : decode cX4_weighPlaces 68 = .ok (.iand, 1) := by decide +kernel
theorem dX4_weighPlaces_69 : decode cX4_weighPlaces 69 = .ok (.invokestatic 226, 3) := by decide +kernel
theorem dX4_weighPlaces_72 : decode cX4_weighPlaces 72 = .ok (.invokestatic 271, 3) := by decide +kernel
theorem dX4_weighPlaces_75 : decode cX4_weighPlaces 75 = .ok (.lstore 5, 2) := by decide +kernel
theorem dX4_weighPlaces_77 : decode cX4_weighPlaces 77 = .ok (.aload_n 0, 1) := by decide +kernel
theorem dX4_weighPlaces_78 : decode cX4_weighPlaces 78 = .ok (.getfield 66, 3) := by decide +kernel
theorem dX4_weighPlaces_81 : decode cX4_weighPlaces 81 = .ok (.iload 4, 2) := by decide +kernel
theorem dX4_weighPlaces_83 : decode cX4_weighPlaces 83 = .ok (.dup2, 1) := by decide +kernel
theorem dX4_weighPlaces_84 : decode cX4_weighPlaces 84 = .ok (.laload, 1) := by decide +kernel
theorem dX4_weighPlaces_85 : decode cX4_weighPlaces 85 = .ok (.lload 5, 2) := by decide +kernel
theorem dX4_weighPlaces_87 : decode cX4_weighPlaces 87 = .ok (.bipush 12, 2) := by decide +kernel
theorem dX4_weighPlaces_89 : decode cX4_weighPlaces 89 = .ok (.iload_n 2, 1) := by decide +kernel
theorem dX4_weighPlaces_90 : decode cX4_weighPlaces 90 = .ok (.isub, 1) := by decide +kernel
theorem dX4_weighPlaces_91 : decode cX4_weighPlaces 91 = .ok (.iload_n 3, 1) := by decide +kernel
theorem dX4_weighPlaces_92 : decode cX4_weighPlaces 92 = .ok (.invokestatic 226, 3) := by decide +kernel
theorem dX4_weighPlaces_95 : decode cX4_weighPlaces 95 = .ok (.invokestatic 271, 3) := by decide +kernel
theorem dX4_weighPlaces_98 : decode cX4_weighPlaces 98 = .ok (.lmul, 1) := by decide +kernel
theorem dX4_weighPlaces_99 : decode cX4_weighPlaces 99 = .ok (.ladd, 1) := by decide +kernel
theorem dX4_weighPlaces_100 : decode cX4_weighPlaces 100 = .ok (.lastore, 1) := by decide +kernel
theorem dX4_weighPlaces_101 : decode cX4_weighPlaces 101 = .ok (.iinc 3 1, 3) := by decide +kernel
theorem dX4_weighPlaces_104 : decode cX4_weighPlaces 104 = .ok (.goto (-83), 3) := by decide +kernel
theorem dX4_weighPlaces_107 : decode cX4_weighPlaces 107 = .ok (.return_, 1) := by decide +kernel
theorem dX4_tellPart_0 : decode cX4_tellPart 0 = .ok (.lload_n 1, 1) := by decide +kernel
theorem dX4_tellPart_1 : decode cX4_tellPart 1 = .ok (.lload_n 3, 1) := by decide +kernel
theorem dX4_tellPart_2 : decode cX4_tellPart 2 = .ok (.invokestatic 316, 3) := by decide +kernel
theorem dX4_tellPart_5 : decode cX4_tellPart 5 = .ok (.lstore 5, 2) := by decide +kernel
theorem dX4_tellPart_7 : decode cX4_tellPart 7 = .ok (.aload_n 0, 1) := by decide +kernel
theorem dX4_tellPart_8 : decode cX4_tellPart 8 = .ok (.lload_n 1, 1) := by decide +kernel
theorem dX4_tellPart_9 : decode cX4_tellPart 9 = .ok (.lload 5, 2) := by decide +kernel
theorem dX4_tellPart_11 : decode cX4_tellPart 11 = .ok (.ldiv, 1) := by decide +kernel
theorem dX4_tellPart_12 : decode cX4_tellPart 12 = .ok (.putfield 287, 3) := by decide +kernel
theorem dX4_tellPart_15 : decode cX4_tellPart 15 = .ok (.aload_n 0, 1) := by decide +kernel
theorem dX4_tellPart_16 : decode cX4_tellPart 16 = .ok (.lload_n 3, 1) := by decide +kernel
theorem dX4_tellPart_17 : decode cX4_tellPart 17 = .ok (.lload 5, 2) := by decide +kernel
theorem dX4_tellPart_19 : decode cX4_tellPart 19 = .ok (.ldiv, 1) := by decide +kernel
theorem dX4_tellPart_20 : decode cX4_tellPart 20 = .ok (.putfield 74, 3) := by decide +kernel
theorem dX4_tellPart_23 : decode cX4_tellPart 23 = .ok (.return_, 1) := by decide +kernel
theorem dX4_greatestDivisor_0 : decode cX4_greatestDivisor 0 = .ok (.iconst 0, 1) := by decide +kernel
theorem dX4_greatestDivisor_1 : decode cX4_greatestDivisor 1 = .ok (.istore 4, 2) := by decide +kernel
theorem dX4_greatestDivisor_3 : decode cX4_greatestDivisor 3 = .ok (.iload 4, 2) := by decide +kernel
theorem dX4_greatestDivisor_5 : decode cX4_greatestDivisor 5 = .ok (.sipush 200, 3) := by decide +kernel
theorem dX4_greatestDivisor_8 : decode cX4_greatestDivisor 8 = .ok (.if_icmp .ge 25, 3) := by decide +kernel
theorem dX4_greatestDivisor_11 : decode cX4_greatestDivisor 11 = .ok (.lload_n 2, 1) := by decide +kernel
theorem dX4_greatestDivisor_12 : decode cX4_greatestDivisor 12 = .ok (.lconst 0, 1) := by decide +kernel
theorem dX4_greatestDivisor_13 : decode cX4_greatestDivisor 13 = .ok (.lcmp, 1) := by decide +kernel
theorem dX4_greatestDivisor_14 : decode cX4_greatestDivisor 14 = .ok (.ifCond .eq 19, 3) := by decide +kernel
theorem dX4_greatestDivisor_17 : decode cX4_greatestDivisor 17 = .ok (.lload_n 0, 1) := by decide +kernel
theorem dX4_greatestDivisor_18 : decode cX4_greatestDivisor 18 = .ok (.lload_n 2, 1) := by decide +kernel
theorem dX4_greatestDivisor_19 : decode cX4_greatestDivisor 19 = .ok (.lrem, 1) := by decide +kernel
theorem dX4_greatestDivisor_20 : decode cX4_greatestDivisor 20 = .ok (.lstore 5, 2) := by decide +kernel
theorem dX4_greatestDivisor_22 : decode cX4_greatestDivisor 22 = .ok (.lload_n 2, 1) := by decide +kernel
theorem dX4_greatestDivisor_23 : decode cX4_greatestDivisor 23 = .ok (.lstore_n 0, 1) := by decide +kernel
theorem dX4_greatestDivisor_24 : decode cX4_greatestDivisor 24 = .ok (.lload 5, 2) := by decide +kernel
theorem dX4_greatestDivisor_26 : decode cX4_greatestDivisor 26 = .ok (.lstore_n 2, 1) := by decide +kernel
theorem dX4_greatestDivisor_27 : decode cX4_greatestDivisor 27 = .ok (.iinc 4 1, 3) := by decide +kernel
theorem dX4_greatestDivisor_30 : decode cX4_greatestDivisor 30 = .ok (.goto (-27), 3) := by decide +kernel
theorem dX4_greatestDivisor_33 : decode cX4_greatestDivisor 33 = .ok (.lconst 1, 1) := by decide +kernel
theorem dX4_greatestDivisor_34 : decode cX4_greatestDivisor 34 = .ok (.lload_n 0, 1) := by decide +kernel
theorem dX4_greatestDivisor_35 : decode cX4_greatestDivisor 35 = .ok (.invokestatic 320, 3) := by decide +kernel
theorem dX4_greatestDivisor_38 : decode cX4_greatestDivisor 38 = .ok (.lreturn, 1) := by decide +kernel
theorem dX4_power_0 : decode cX4_power 0 = .ok (.lconst 1, 1) := by decide +kernel
theorem dX4_power_1 : decode cX4_power 1 = .ok (.lstore_n 2, 1) := by decide +kernel
theorem dX4_power_2 : decode cX4_power 2 = .ok (.iconst 0, 1) := by decide +kernel
theorem dX4_power_3 : decode cX4_power 3 = .ok (.istore 4, 2) := by decide +kernel
theorem dX4_power_5 : decode cX4_power 5 = .ok (.iload 4, 2) := by decide +kernel
theorem dX4_power_7 : decode cX4_power 7 = .ok (.iload_n 1, 1) := by decide +kernel
theorem dX4_power_8 : decode cX4_power 8 = .ok (.if_icmp .ge 14, 3) := by decide +kernel
theorem dX4_power_11 : decode cX4_power 11 = .ok (.lload_n 2, 1) := by decide +kernel
theorem dX4_power_12 : decode cX4_power 12 = .ok (.iload_n 0, 1) := by decide +kernel
theorem dX4_power_13 : decode cX4_power 13 = .ok (.i2l, 1) := by decide +kernel
theorem dX4_power_14 : decode cX4_power 14 = .ok (.lmul, 1) := by decide +kernel
theorem dX4_power_15 : decode cX4_power 15 = .ok (.lstore_n 2, 1) := by decide +kernel
theorem dX4_power_16 : decode cX4_power 16 = .ok (.iinc 4 1, 3) := by decide +kernel
theorem dX4_power_19 : decode cX4_power 19 = .ok (.goto (-14), 3) := by decide +kernel
theorem dX4_power_22 : decode cX4_power 22 = .ok (.lload_n 2, 1) := by decide +kernel
theorem dX4_power_23 : decode cX4_power 23 = .ok (.lreturn, 1) := by decide +kernel
theorem dX4_doByLot_0 : decode cX4_doByLot 0 = .ok (.aload_n 0, 1) := by decide +kernel
theorem dX4_doByLot_1 : decode cX4_doByLot 1 = .ok (.getfield 24, 3) := by decide +kernel
theorem dX4_doByLot_4 : decode cX4_doByLot 4 = .ok (.getfield 129, 3) := by decide +kernel
theorem dX4_doByLot_7 : decode cX4_doByLot 7 = .ok (.ifCond .ne 4, 3) := by decide +kernel
theorem dX4_doByLot_10 : decode cX4_doByLot 10 = .ok (.return_, 1) := by decide +kernel
theorem dX4_doByLot_11 : decode cX4_doByLot 11 = .ok (.iload_n 1, 1) := by decide +kernel
theorem dX4_doByLot_12 : decode cX4_doByLot 12 = .ok (.bipush 8, 2) := by decide +kernel
theorem dX4_doByLot_14 : decode cX4_doByLot 14 = .ok (.idiv, 1) := by decide +kernel
theorem dX4_doByLot_15 : decode cX4_doByLot 15 = .ok (.aload_n 0, 1) := by decide +kernel
theorem dX4_doByLot_16 : decode cX4_doByLot 16 = .ok (.getfield 24, 3) := by decide +kernel
theorem dX4_doByLot_19 : decode cX4_doByLot 19 = .ok (.getfield 129, 3) := by decide +kernel
theorem dX4_doByLot_22 : decode cX4_doByLot 22 = .ok (.irem, 1) := by decide +kernel
theorem dX4_doByLot_23 : decode cX4_doByLot 23 = .ok (.istore_n 2, 1) := by decide +kernel
theorem dX4_doByLot_24 : decode cX4_doByLot 24 = .ok (.iload_n 1, 1) := by decide +kernel
theorem dX4_doByLot_25 : decode cX4_doByLot 25 = .ok (.iconst 4, 1) := by decide +kernel
theorem dX4_doByLot_26 : decode cX4_doByLot 26 = .ok (.irem, 1) := by decide +kernel
theorem dX4_doByLot_27 : decode cX4_doByLot 27 = .ok (.lookupswitch 54 #[(0, 25), (1, 36)], 25) := by decide +kernel
theorem dX4_doByLot_52 : decode cX4_doByLot 52 = .ok (.aload_n 0, 1) := by decide +kernel
theorem dX4_doByLot_53 : decode cX4_doByLot 53 = .ok (.getfield 24, 3) := by decide +kernel
theorem dX4_doByLot_56 : decode cX4_doByLot 56 = .ok (.iload_n 2, 1) := by decide +kernel
theorem dX4_doByLot_57 : decode cX4_doByLot 57 = .ok (.invokevirtual 183, 3) := by decide +kernel
theorem dX4_doByLot_60 : decode cX4_doByLot 60 = .ok (.goto 28, 3) := by decide +kernel
theorem dX4_doByLot_63 : decode cX4_doByLot 63 = .ok (.aload_n 0, 1) := by decide +kernel
theorem dX4_doByLot_64 : decode cX4_doByLot 64 = .ok (.getfield 24, 3) := by decide +kernel
theorem dX4_doByLot_67 : decode cX4_doByLot 67 = .ok (.iload_n 2, 1) := by decide +kernel
theorem dX4_doByLot_68 : decode cX4_doByLot 68 = .ok (.iload_n 1, 1) := by decide +kernel
theorem dX4_doByLot_69 : decode cX4_doByLot 69 = .ok (.bipush 64, 2) := by decide +kernel
theorem dX4_doByLot_71 : decode cX4_doByLot 71 = .ok (.idiv, 1) := by decide +kernel
theorem dX4_doByLot_72 : decode cX4_doByLot 72 = .ok (.bipush 10, 2) := by decide +kernel
theorem dX4_doByLot_74 : decode cX4_doByLot 74 = .ok (.irem, 1) := by decide +kernel
theorem dX4_doByLot_75 : decode cX4_doByLot 75 = .ok (.invokevirtual 174, 3) := by decide +kernel
theorem dX4_doByLot_78 : decode cX4_doByLot 78 = .ok (.goto 10, 3) := by decide +kernel
theorem dX4_doByLot_81 : decode cX4_doByLot 81 = .ok (.aload_n 0, 1) := by decide +kernel
theorem dX4_doByLot_82 : decode cX4_doByLot 82 = .ok (.getfield 24, 3) := by decide +kernel
theorem dX4_doByLot_85 : decode cX4_doByLot 85 = .ok (.invokevirtual 168, 3) := by decide +kernel
theorem dX4_doByLot_88 : decode cX4_doByLot 88 = .ok (.return_, 1) := by decide +kernel
theorem dX4_bit_0 : decode cX4_bit 0 = .ok (.iload_n 0, 1) := by decide +kernel
theorem dX4_bit_1 : decode cX4_bit 1 = .ok (.ifCond .eq 7, 3) := by decide +kernel
theorem dX4_bit_4 : decode cX4_bit 4 = .ok (.iconst 1, 1) := by decide +kernel
theorem dX4_bit_5 : decode cX4_bit 5 = .ok (.goto 4, 3) := by decide +kernel
theorem dX4_bit_8 : decode cX4_bit 8 = .ok (.iconst 0, 1) := by decide +kernel
theorem dX4_bit_9 : decode cX4_bit 9 = .ok (.ireturn, 1) := by decide +kernel
theorem dX4_isPart_0 : decode cX4_isPart 0 = .ok (.iload_n 0, 1) := by decide +kernel
theorem dX4_isPart_1 : decode cX4_isPart 1 = .ok (.iload_n 1, 1) := by decide +kernel
theorem dX4_isPart_2 : decode cX4_isPart 2 = .ok (.iconst (-1), 1) := by decide +kernel
theorem dX4_isPart_3 : decode cX4_isPart 3 = .ok (.ixor, 1) := by decide +kernel
theorem dX4_isPart_4 : decode cX4_isPart 4 = .ok (.iand, 1) := by decide +kernel
theorem dX4_isPart_5 : decode cX4_isPart 5 = .ok (.ifCond .ne 7, 3) := by decide +kernel
theorem dX4_isPart_8 : decode cX4_isPart 8 = .ok (.iconst 1, 1) := by decide +kernel
theorem dX4_isPart_9 : decode cX4_isPart 9 = .ok (.goto 4, 3) := by decide +kernel
theorem dX4_isPart_12 : decode cX4_isPart 12 = .ok (.iconst 0, 1) := by decide +kernel
theorem dX4_isPart_13 : decode cX4_isPart 13 = .ok (.ireturn, 1) := by decide +kernel
theorem dX4_toldOfSleeper_0 : decode cX4_toldOfSleeper 0 = .ok (.iload_n 2, 1) := by decide +kernel
theorem dX4_toldOfSleeper_1 : decode cX4_toldOfSleeper 1 = .ok (.tableswitch 73 0 3 #[31, 41, 51, 61], 31) := by decide +kernel
theorem dX4_toldOfSleeper_32 : decode cX4_toldOfSleeper 32 = .ok (.aload_n 0, 1) := by decide +kernel
theorem dX4_toldOfSleeper_33 : decode cX4_toldOfSleeper 33 = .ok (.getfield 24, 3) := by decide +kernel
theorem dX4_toldOfSleeper_36 : decode cX4_toldOfSleeper 36 = .ok (.getfield 140, 3) := by decide +kernel
theorem dX4_toldOfSleeper_39 : decode cX4_toldOfSleeper 39 = .ok (.iload_n 1, 1) := by decide +kernel
theorem dX4_toldOfSleeper_40 : decode cX4_toldOfSleeper 40 = .ok (.iaload, 1) := by decide +kernel
theorem dX4_toldOfSleeper_41 : decode cX4_toldOfSleeper 41 = .ok (.ireturn, 1) := by decide +kernel
theorem dX4_toldOfSleeper_42 : decode cX4_toldOfSleeper 42 = .ok (.aload_n 0, 1) := by decide +kernel
theorem dX4_toldOfSleeper_43 : decode cX4_toldOfSleeper 43 = .ok (.getfield 24, 3) := by decide +kernel
theorem dX4_toldOfSleeper_46 : decode cX4_toldOfSleeper 46 = .ok (.getfield 208, 3) := by decide +kernel
theorem dX4_toldOfSleeper_49 : decode cX4_toldOfSleeper 49 = .ok (.iload_n 1, 1) := by decide +kernel
theorem dX4_toldOfSleeper_50 : decode cX4_toldOfSleeper 50 = .ok (.iaload, 1) := by decide +kernel
theorem dX4_toldOfSleeper_51 : decode cX4_toldOfSleeper 51 = .ok (.ireturn, 1) := by decide +kernel
theorem dX4_toldOfSleeper_52 : decode cX4_toldOfSleeper 52 = .ok (.aload_n 0, 1) := by decide +kernel
theorem dX4_toldOfSleeper_53 : decode cX4_toldOfSleeper 53 = .ok (.getfield 24, 3) := by decide +kernel
theorem dX4_toldOfSleeper_56 : decode cX4_toldOfSleeper 56 = .ok (.getfield 146, 3) := by decide +kernel
theorem dX4_toldOfSleeper_59 : decode cX4_toldOfSleeper 59 = .ok (.iload_n 1, 1) := by decide +kernel
theorem dX4_toldOfSleeper_60 : decode cX4_toldOfSleeper 60 = .ok (.iaload, 1) := by decide +kernel
theorem dX4_toldOfSleeper_61 : decode cX4_toldOfSleeper 61 = .ok (.ireturn, 1) := by decide +kernel
theorem dX4_toldOfSleeper_62 : decode cX4_toldOfSleeper 62 = .ok (.aload_n 0, 1) := by decide +kernel
theorem dX4_toldOfSleeper_63 : decode cX4_toldOfSleeper 63 = .ok (.getfield 24, 3) := by decide +kernel
theorem dX4_toldOfSleeper_66 : decode cX4_toldOfSleeper 66 = .ok (.iload_n 1, 1) := by decide +kernel
theorem dX4_toldOfSleeper_67 : decode cX4_toldOfSleeper 67 = .ok (.invokevirtual 177, 3) := by decide +kernel
theorem dX4_toldOfSleeper_70 : decode cX4_toldOfSleeper 70 = .ok (.invokestatic 158, 3) := by decide +kernel
theorem dX4_toldOfSleeper_73 : decode cX4_toldOfSleeper 73 = .ok (.ireturn, 1) := by decide +kernel
theorem dX4_toldOfSleeper_74 : decode cX4_toldOfSleeper 74 = .ok (.aload_n 0, 1) := by decide +kernel
theorem dX4_toldOfSleeper_75 : decode cX4_toldOfSleeper 75 = .ok (.getfield 24, 3) := by decide +kernel
theorem dX4_toldOfSleeper_78 : decode cX4_toldOfSleeper 78 = .ok (.iload_n 1, 1) := by decide +kernel
theorem dX4_toldOfSleeper_79 : decode cX4_toldOfSleeper 79 = .ok (.invokevirtual 180, 3) := by decide +kernel
theorem dX4_toldOfSleeper_82 : decode cX4_toldOfSleeper 82 = .ok (.invokestatic 158, 3) := by decide +kernel
theorem dX4_toldOfSleeper_85 : decode cX4_toldOfSleeper 85 = .ok (.ireturn, 1) := by decide +kernel
theorem dX4_toldCount_0 : decode cX4_toldCount 0 = .ok (.iload_n 1, 1) := by decide +kernel
theorem dX4_toldCount_1 : decode cX4_toldCount 1 = .ok (.tableswitch 144 0 10 #[59, 67, 75, 83, 91, 99, 107, 115, 123, 131, 139], 59) := by decide +kernel
theorem dX4_toldCount_60 : decode cX4_toldCount 60 = .ok (.aload_n 0, 1) := by decide +kernel
theorem dX4_toldCount_61 : decode cX4_toldCount 61 = .ok (.getfield 24, 3) := by decide +kernel
theorem dX4_toldCount_64 : decode cX4_toldCount 64 = .ok (.getfield 129, 3) := by decide +kernel
theorem dX4_toldCount_67 : decode cX4_toldCount 67 = .ok (.ireturn, 1) := by decide +kernel
theorem dX4_toldCount_68 : decode cX4_toldCount 68 = .ok (.aload_n 0, 1) := by decide +kernel
theorem dX4_toldCount_69 : decode cX4_toldCount 69 = .ok (.getfield 24, 3) := by decide +kernel
theorem dX4_toldCount_72 : decode cX4_toldCount 72 = .ok (.getfield 205, 3) := by decide +kernel
theorem dX4_toldCount_75 : decode cX4_toldCount 75 = .ok (.ireturn, 1) := by decide +kernel
theorem dX4_toldCount_76 : decode cX4_toldCount 76 = .ok (.aload_n 0, 1) := by decide +kernel
theorem dX4_toldCount_77 : decode cX4_toldCount 77 = .ok (.getfield 24, 3) := by decide +kernel
theorem dX4_toldCount_80 : decode cX4_toldCount 80 = .ok (.getfield 187, 3) := by decide +kernel
theorem dX4_toldCount_83 : decode cX4_toldCount 83 = .ok (.ireturn, 1) := by decide +kernel
theorem dX4_toldCount_84 : decode cX4_toldCount 84 = .ok (.aload_n 0, 1) := by decide +kernel
theorem dX4_toldCount_85 : decode cX4_toldCount 85 = .ok (.getfield 24, 3) := by decide +kernel
theorem dX4_toldCount_88 : decode cX4_toldCount 88 = .ok (.getfield 162, 3) := by decide +kernel
theorem dX4_toldCount_91 : decode cX4_toldCount 91 = .ok (.ireturn, 1) := by decide +kernel
theorem dX4_toldCount_92 : decode cX4_toldCount 92 = .ok (.aload_n 0, 1) := by decide +kernel
theorem dX4_toldCount_93 : decode cX4_toldCount 93 = .ok (.getfield 24, 3) := by decide +kernel
theorem dX4_toldCount_96 : decode cX4_toldCount 96 = .ok (.getfield 171, 3) := by decide +kernel
theorem dX4_toldCount_99 : decode cX4_toldCount 99 = .ok (.ireturn, 1) := by decide +kernel
theorem dX4_toldCount_100 : decode cX4_toldCount 100 = .ok (.aload_n 0, 1) := by decide +kernel
theorem dX4_toldCount_101 : decode cX4_toldCount 101 = .ok (.getfield 24, 3) := by decide +kernel
theorem dX4_toldCount_104 : decode cX4_toldCount 104 = .ok (.getfield 196, 3) := by decide +kernel
theorem dX4_toldCount_107 : decode cX4_toldCount 107 = .ok (.ireturn, 1) := by decide +kernel
theorem dX4_toldCount_108 : decode cX4_toldCount 108 = .ok (.aload_n 0, 1) := by decide +kernel
theorem dX4_toldCount_109 : decode cX4_toldCount 109 = .ok (.getfield 24, 3) := by decide +kernel
theorem dX4_toldCount_112 : decode cX4_toldCount 112 = .ok (.invokevirtual 322, 3) := by decide +kernel
theorem dX4_toldCount_115 : decode cX4_toldCount 115 = .ok (.ireturn, 1) := by decide +kernel
theorem dX4_toldCount_116 : decode cX4_toldCount 116 = .ok (.aload_n 0, 1) := by decide +kernel
theorem dX4_toldCount_117 : decode cX4_toldCount 117 = .ok (.getfield 24, 3) := by decide +kernel
theorem dX4_toldCount_120 : decode cX4_toldCount 120 = .ok (.getfield 214, 3) := by decide +kernel
theorem dX4_toldCount_123 : decode cX4_toldCount 123 = .ok (.ireturn, 1) := by decide +kernel
theorem dX4_toldCount_124 : decode cX4_toldCount 124 = .ok (.aload_n 0, 1) := by decide +kernel
theorem dX4_toldCount_125 : decode cX4_toldCount 125 = .ok (.getfield 14, 3) := by decide +kernel
theorem dX4_toldCount_128 : decode cX4_toldCount 128 = .ok (.invokevirtual 325, 3) := by decide +kernel
theorem dX4_toldCount_131 : decode cX4_toldCount 131 = .ok (.ireturn, 1) := by decide +kernel
theorem dX4_toldCount_132 : decode cX4_toldCount 132 = .ok (.aload_n 0, 1) := by decide +kernel
theorem dX4_toldCount_133 : decode cX4_toldCount 133 = .ok (.getfield 18, 3) := by decide +kernel
theorem dX4_toldCount_136 : decode cX4_toldCount 136 = .ok (.invokevirtual 325, 3) := by decide +kernel
theorem dX4_toldCount_139 : decode cX4_toldCount 139 = .ok (.ireturn, 1) := by decide +kernel
theorem dX4_toldCount_140 : decode cX4_toldCount 140 = .ok (.aload_n 0, 1) := by decide +kernel
theorem dX4_toldCount_141 : decode cX4_toldCount 141 = .ok (.invokevirtual 328, 3) := by decide +kernel
theorem dX4_toldCount_144 : decode cX4_toldCount 144 = .ok (.ireturn, 1) := by decide +kernel
theorem dX4_toldCount_145 : decode cX4_toldCount 145 = .ok (.aload_n 0, 1) := by decide +kernel
theorem dX4_toldCount_146 : decode cX4_toldCount 146 = .ok (.getfield 24, 3) := by decide +kernel
theorem dX4_toldCount_149 : decode cX4_toldCount 149 = .ok (.invokevirtual 331, 3) := by decide +kernel
theorem dX4_toldCount_152 : decode cX4_toldCount 152 = .ok (.ireturn, 1) := by decide +kernel
theorem dX4_keptCount_0 : decode cX4_keptCount 0 = .ok (.iconst 0, 1) := by decide +kernel
theorem dX4_keptCount_1 : decode cX4_keptCount 1 = .ok (.istore_n 1, 1) := by decide +kernel
theorem dX4_keptCount_2 : decode cX4_keptCount 2 = .ok (.iconst 0, 1) := by decide +kernel
theorem dX4_keptCount_3 : decode cX4_keptCount 3 = .ok (.istore_n 2, 1) := by decide +kernel
theorem dX4_keptCount_4 : decode cX4_keptCount 4 = .ok (.iload_n 2, 1) := by decide +kernel
theorem dX4_keptCount_5 : decode cX4_keptCount 5 = .ok (.iconst 3, 1) := by decide +kernel
theorem dX4_keptCount_6 : decode cX4_keptCount 6 = .ok (.if_icmp .ge 21, 3) := by decide +kernel
theorem dX4_keptCount_9 : decode cX4_keptCount 9 = .ok (.iload_n 1, 1) := by decide +kernel
theorem dX4_keptCount_10 : decode cX4_keptCount 10 = .ok (.aload_n 0, 1) := by decide +kernel
theorem dX4_keptCount_11 : decode cX4_keptCount 11 = .ok (.getfield 35, 3) := by decide +kernel
theorem dX4_keptCount_14 : decode cX4_keptCount 14 = .ok (.iload_n 2, 1) := by decide +kernel
theorem dX4_keptCount_15 : decode cX4_keptCount 15 = .ok (.baload, 1) := by decide +kernel
theorem dX4_keptCount_16 : decode cX4_keptCount 16 = .ok (.invokestatic 158, 3) := by decide +kernel
theorem dX4_keptCount_19 : decode cX4_keptCount 19 = .ok (.iadd, 1) := by decide +kernel
theorem dX4_keptCount_20 : decode cX4_keptCount 20 = .ok (.istore_n 1, 1) := by decide +kernel
theorem dX4_keptCount_21 : decode cX4_keptCount 21 = .ok (.iinc 2 1, 3) := by decide +kernel
theorem dX4_keptCount_24 : decode cX4_keptCount 24 = .ok (.goto (-20), 3) := by decide +kernel
theorem dX4_keptCount_27 : decode cX4_keptCount 27 = .ok (.iload_n 1, 1) := by decide +kernel
theorem dX4_keptCount_28 : decode cX4_keptCount 28 = .ok (.ireturn, 1) := by decide +kernel
theorem dX5_init_0 : decode cX5_init 0 = .ok (.aload_n 0, 1) := by decide +kernel
theorem dX5_init_1 : decode cX5_init 1 = .ok (.invokespecial 1, 3) := by decide +kernel
theorem dX5_init_4 : decode cX5_init 4 = .ok (.aload_n 0, 1) := by decide +kernel
theorem dX5_init_5 : decode cX5_init 5 = .ok (.sipush 240, 3) := by decide +kernel
theorem dX5_init_8 : decode cX5_init 8 = .ok (.newarray .int, 2) := by decide +kernel
theorem dX5_init_10 : decode cX5_init 10 = .ok (.putfield 7, 3) := by decide +kernel
theorem dX5_init_13 : decode cX5_init 13 = .ok (.aload_n 0, 1) := by decide +kernel
theorem dX5_init_14 : decode cX5_init 14 = .ok (.bipush 6, 2) := by decide +kernel
theorem dX5_init_16 : decode cX5_init 16 = .ok (.newarray .int, 2) := by decide +kernel
theorem dX5_init_18 : decode cX5_init 18 = .ok (.putfield 13, 3) := by decide +kernel
theorem dX5_init_21 : decode cX5_init 21 = .ok (.aload_n 0, 1) := by decide +kernel
theorem dX5_init_22 : decode cX5_init 22 = .ok (.sipush 240, 3) := by decide +kernel
theorem dX5_init_25 : decode cX5_init 25 = .ok (.newarray .int, 2) := by decide +kernel
theorem dX5_init_27 : decode cX5_init 27 = .ok (.putfield 16, 3) := by decide +kernel
theorem dX5_init_30 : decode cX5_init 30 = .ok (.aload_n 0, 1) := by decide +kernel
theorem dX5_init_31 : decode cX5_init 31 = .ok (.iconst 4, 1) := by decide +kernel
theorem dX5_init_32 : decode cX5_init 32 = .ok (.newarray .int, 2) := by decide +kernel
theorem dX5_init_34 : decode cX5_init 34 = .ok (.putfield 19, 3) := by decide +kernel
theorem dX5_init_37 : decode cX5_init 37 = .ok (.aload_n 0, 1) := by decide +kernel
theorem dX5_init_38 : decode cX5_init 38 = .ok (.lconst 1, 1) := by decide +kernel
theorem dX5_init_39 : decode cX5_init 39 = .ok (.putfield 22, 3) := by decide +kernel
theorem dX5_init_42 : decode cX5_init 42 = .ok (.aload_n 0, 1) := by decide +kernel
theorem dX5_init_43 : decode cX5_init 43 = .ok (.bipush 6, 2) := by decide +kernel
theorem dX5_init_45 : decode cX5_init 45 = .ok (.newarray .int, 2) := by decide +kernel
theorem dX5_init_47 : decode cX5_init 47 = .ok (.putfield 26, 3) := by decide +kernel
theorem dX5_init_50 : decode cX5_init 50 = .ok (.aload_n 0, 1) := by decide +kernel
theorem dX5_init_51 : decode cX5_init 51 = .ok (.bipush 6, 2) := by decide +kernel
theorem dX5_init_53 : decode cX5_init 53 = .ok (.newarray .int, 2) := by decide +kernel
theorem dX5_init_55 : decode cX5_init 55 = .ok (.putfield 29, 3) := by decide +kernel
theorem dX5_init_58 : decode cX5_init 58 = .ok (.aload_n 0, 1) := by decide +kernel
theorem dX5_init_59 : decode cX5_init 59 = .ok (.bipush 6, 2) := by decide +kernel
theorem dX5_init_61 : decode cX5_init 61 = .ok (.newarray .int, 2) := by decide +kernel
theorem dX5_init_63 : decode cX5_init 63 = .ok (.putfield 32, 3) := by decide +kernel
theorem dX5_init_66 : decode cX5_init 66 = .ok (.aload_n 0, 1) := by decide +kernel
theorem dX5_init_67 : decode cX5_init 67 = .ok (.bipush 9, 2) := by decide +kernel
theorem dX5_init_69 : decode cX5_init 69 = .ok (.newarray .int, 2) := by decide +kernel
theorem dX5_init_71 : decode cX5_init 71 = .ok (.putfield 35, 3) := by decide +kernel
theorem dX5_init_74 : decode cX5_init 74 = .ok (.aload_n 0, 1) := by decide +kernel
theorem dX5_init_75 : decode cX5_init 75 = .ok (.bipush 9, 2) := by decide +kernel
theorem dX5_init_77 : decode cX5_init 77 = .ok (.newarray .int, 2) := by decide +kernel
theorem dX5_init_79 : decode cX5_init 79 = .ok (.putfield 38, 3) := by decide +kernel
theorem dX5_init_82 : decode cX5_init 82 = .ok (.aload_n 0, 1) := by decide +kernel
theorem dX5_init_83 : decode cX5_init 83 = .ok (.sipush 360, 3) := by decide +kernel
theorem dX5_init_86 : decode cX5_init 86 = .ok (.newarray .int, 2) := by decide +kernel
theorem dX5_init_88 : decode cX5_init 88 = .ok (.putfield 41, 3) := by decide +kernel
theorem dX5_init_91 : decode cX5_init 91 = .ok (.aload_n 0, 1) := by decide +kernel
theorem dX5_init_92 : decode cX5_init 92 = .ok (.sipush 1110, 3) := by decide +kernel
theorem dX5_init_95 : decode cX5_init 95 = .ok (.newarray .int, 2) := by decide +kernel
theorem dX5_init_97 : decode cX5_init 97 = .ok (.putfield 44, 3) := by decide +kernel
theorem dX5_init_100 : decode cX5_init 100 = .ok (.aload_n 0, 1) := by decide +kernel
theorem dX5_init_101 : decode cX5_init 101 = .ok (.bipush 6, 2) := by decide +kernel
theorem dX5_init_103 : decode cX5_init 103 = .ok (.newarray .int, 2) := by decide +kernel
theorem dX5_init_105 : decode cX5_init 105 = .ok (.putfield 47, 3) := by decide +kernel
theorem dX5_init_108 : decode cX5_init 108 = .ok (.aload_n 0, 1) := by decide +kernel
theorem dX5_init_109 : decode cX5_init 109 = .ok (.bipush 6, 2) := by decide +kernel
theorem dX5_init_111 : decode cX5_init 111 = .ok (.newarray .int, 2) := by decide +kernel
theorem dX5_init_113 : decode cX5_init 113 = .ok (.putfield 50, 3) := by decide +kernel
theorem dX5_init_116 : decode cX5_init 116 = .ok (.aload_n 0, 1) := by decide +kernel
theorem dX5_init_117 : decode cX5_init 117 = .ok (.bipush 6, 2) := by decide +kernel
theorem dX5_init_119 : decode cX5_init 119 = .ok (.newarray .int, 2) := by decide +kernel
theorem dX5_init_121 : decode cX5_init 121 = .ok (.putfield 53, 3) := by decide +kernel
theorem dX5_init_124 : decode cX5_init 124 = .ok (.aload_n 0, 1) := by decide +kernel
theorem dX5_init_125 : decode cX5_init 125 = .ok (.bipush 120, 2) := by decide +kernel
theorem dX5_init_127 : decode cX5_init 127 = .ok (.newarray .int, 2) := by decide +kernel
theorem dX5_init_129 : decode cX5_init 129 = .ok (.putfield 56, 3) := by decide +kernel
theorem dX5_init_132 : decode cX5_init 132 = .ok (.aload_n 0, 1) := by decide +kernel
theorem dX5_init_133 : decode cX5_init 133 = .ok (.bipush 64, 2) := by decide +kernel
theorem dX5_init_135 : decode cX5_init 135 = .ok (.newarray .int, 2) := by decide +kernel
theorem dX5_init_137 : decode cX5_init 137 = .ok (.putfield 59, 3) := by decide +kernel
theorem dX5_init_140 : decode cX5_init 140 = .ok (.aload_n 0, 1) := by decide +kernel
theorem dX5_init_141 : decode cX5_init 141 = .ok (.bipush 64, 2) := by decide +kernel
theorem dX5_init_143 : decode cX5_init 143 = .ok (.newarray .int, 2) := by decide +kernel
theorem dX5_init_145 : decode cX5_init 145 = .ok (.putfield 62, 3) := by decide +kernel
theorem dX5_init_148 : decode cX5_init 148 = .ok (.iconst 0, 1) := by decide +kernel
theorem dX5_init_149 : decode cX5_init 149 = .ok (.istore_n 1, 1) := by decide +kernel
theorem dX5_init_150 : decode cX5_init 150 = .ok (.iload_n 1, 1) := by decide +kernel
theorem dX5_init_151 : decode cX5_init 151 = .ok (.bipush 6, 2) := by decide +kernel
theorem dX5_init_153 : decode cX5_init 153 = .ok (.if_icmp .ge 16, 3) := by decide +kernel
theorem dX5_init_156 : decode cX5_init 156 = .ok (.aload_n 0, 1) := by decide +kernel
theorem dX5_init_157 : decode cX5_init 157 = .ok (.getfield 13, 3) := by decide +kernel
theorem dX5_init_160 : decode cX5_init 160 = .ok (.iload_n 1, 1) := by decide +kernel
theorem dX5_init_161 : decode cX5_init 161 = .ok (.iconst (-1), 1) := by decide +kernel
theorem dX5_init_162 : decode cX5_init 162 = .ok (.iastore, 1) := by decide +kernel
theorem dX5_init_163 : decode cX5_init 163 = .ok (.iinc 1 1, 3) := by decide +kernel
theorem dX5_init_166 : decode cX5_init 166 = .ok (.goto (-16), 3) := by decide +kernel
theorem dX5_init_169 : decode cX5_init 169 = .ok (.iconst 0, 1) := by decide +kernel
theorem dX5_init_170 : decode cX5_init 170 = .ok (.istore_n 1, 1) := by decide +kernel
theorem dX5_init_171 : decode cX5_init 171 = .ok (.iload_n 1, 1) := by decide +kernel
theorem dX5_init_172 : decode cX5_init 172 = .ok (.iconst 4, 1) := by decide +kernel
theorem dX5_init_173 : decode cX5_init 173 = .ok (.if_icmp .ge 16, 3) := by decide +kernel
theorem dX5_init_176 : decode cX5_init 176 = .ok (.aload_n 0, 1) := by decide +kernel
theorem dX5_init_177 : decode cX5_init 177 = .ok (.getfield 19, 3) := by decide +kernel
theorem dX5_init_180 : decode cX5_init 180 = .ok (.iload_n 1, 1) := by decide +kernel
theorem dX5_init_181 : decode cX5_init 181 = .ok (.iconst (-1), 1) := by decide +kernel
theorem dX5_init_182 : decode cX5_init 182 = .ok (.iastore, 1) := by decide +kernel
theorem dX5_init_183 : decode cX5_init 183 = .ok (.iinc 1 1, 3) := by decide +kernel
theorem dX5_init_186 : decode cX5_init 186 = .ok (.goto (-15), 3) := by decide +kernel
theorem dX5_init_189 : decode cX5_init 189 = .ok (.aload_n 0, 1) := by decide +kernel
theorem dX5_init_190 : decode cX5_init 190 = .ok (.invokevirtual 65, 3) := by decide +kernel
theorem dX5_init_193 : decode cX5_init 193 = .ok (.return_, 1) := by decide +kernel
theorem dX5_in_0 : decode cX5_in 0 = .ok (.lload_n 0, 1) := by decide +kernel
theorem dX5_in_1 : decode cX5_in 1 = .ok (.lload_n 2, 1) := by decide +kernel
theorem dX5_in_2 : decode cX5_in 2 = .ok (.lcmp, 1) := by decide +kernel
theorem dX5_in_3 : decode cX5_in 3 = .ok (.ifCond .lt 14, 3) := by decide +kernel
theorem dX5_in_6 : decode cX5_in 6 = .ok (.lload_n 0, 1) := by decide +kernel
theorem dX5_in_7 : decode cX5_in 7 = .ok (.lload 4, 2) := by decide +kernel
theorem dX5_in_9 : decode cX5_in 9 = .ok (.lcmp, 1) := by decide +kernel
theorem dX5_in_10 : decode cX5_in 10 = .ok (.ifCond .gt 7, 3) := by decide +kernel
theorem dX5_in_13 : decode cX5_in 13 = .ok (.iconst 1, 1) := by decide +kernel
theorem dX5_in_14 : decode cX5_in 14 = .ok (.goto 4, 3) := by decide +kernel
theorem dX5_in_17 : decode cX5_in 17 = .ok (.iconst 0, 1) := by decide +kernel
theorem dX5_in_18 : decode cX5_in 18 = .ok (.ireturn, 1) := by decide +kernel
theorem dX5_has_0 : decode cX5_has 0 = .ok (.iload_n 0, 1) := by decide +kernel
theorem dX5_has_1 : decode cX5_has 1 = .ok (.iload_n 1, 1) := by decide +kernel
theorem dX5_has_2 : decode cX5_has 2 = .ok (.ishr, 1) := by decide +kernel
theorem dX5_has_3 : decode cX5_has 3 = .ok (.iconst 1, 1) := by decide +kernel
theorem dX5_has_4 : decode cX5_has 4 = .ok (.iand, 1) := by decide +kernel
theorem dX5_has_5 : decode cX5_has 5 = .ok (.iconst 1, 1) := by decide +kernel
theorem dX5_has_6 : decode cX5_has 6 = .ok (.if_icmp .ne 7, 3) := by decide +kernel
theorem dX5_has_9 : decode cX5_has 9 = .ok (.iconst 1, 1) := by decide +kernel
theorem dX5_has_10 : decode cX5_has 10 = .ok (.goto 4, 3) := by decide +kernel
theorem dX5_has_13 : decode cX5_has 13 = .ok (.iconst 0, 1) := by decide +kernel
theorem dX5_has_14 : decode cX5_has 14 = .ok (.ireturn, 1) := by decide +kernel
theorem dX5_bits_0 : decode cX5_bits 0 = .ok (.iconst 0, 1) := by decide +kernel
theorem dX5_bits_1 : decode cX5_bits 1 = .ok (.istore_n 1, 1) := by decide +kernel
theorem dX5_bits_2 : decode cX5_bits 2 = .ok (.iload_n 0, 1) := by decide +kernel
theorem dX5_bits_3 : decode cX5_bits 3 = .ok (.istore_n 2, 1) := by decide +kernel
theorem dX5_bits_4 : decode cX5_bits 4 = .ok (.iload_n 2, 1) := by decide +kernel
theorem dX5_bits_5 : decode cX5_bits 5 = .ok (.ifCond .eq 15, 3) := by decide +kernel
theorem dX5_bits_8 : decode cX5_bits 8 = .ok (.iinc 1 1, 3) := by decide +kernel
theorem dX5_bits_11 : decode cX5_bits 11 = .ok (.iload_n 2, 1) := by decide +kernel
theorem dX5_bits_12 : decode cX5_bits 12 = .ok (.iload_n 2, 1) := by decide +kernel
theorem dX5_bits_13 : decode cX5_bits 13 = .ok (.iconst 1, 1) := by decide +kernel
theorem dX5_bits_14 : decode cX5_bits 14 = .ok (.isub, 1) := by decide +kernel
theorem dX5_bits_15 : decode cX5_bits 15 = .ok (.iand, 1) := by decide +kernel
theorem dX5_bits_16 : decode cX5_bits 16 = .ok (.istore_n 2, 1) := by decide +kernel
theorem dX5_bits_17 : decode cX5_bits 17 = .ok (.goto (-13), 3) := by decide +kernel
theorem dX5_bits_20 : decode cX5_bits 20 = .ok (.iload_n 1, 1) := by decide +kernel
theorem dX5_bits_21 : decode cX5_bits 21 = .ok (.ireturn, 1) := by decide +kernel
theorem dX5_found_0 : decode cX5_found 0 = .ok (.aload_n 0, 1) := by decide +kernel
theorem dX5_found_1 : decode cX5_found 1 = .ok (.iload_n 1, 1) := by decide +kernel
theorem dX5_found_2 : decode cX5_found 2 = .ok (.putfield 68, 3) := by decide +kernel
theorem dX5_found_5 : decode cX5_found 5 = .ok (.aload_n 0, 1) := by decide +kernel
theorem dX5_found_6 : decode cX5_found 6 = .ok (.getfield 26, 3) := by decide +kernel
theorem dX5_found_9 : decode cX5_found 9 = .ok (.iload_n 1, 1) := by decide +kernel
theorem dX5_found_10 : decode cX5_found 10 = .ok (.dup2, 1) := by decide +kernel
theorem dX5_found_11 : decode cX5_found 11 = .ok (.iaload, 1) := by decide +kernel
theorem dX5_found_12 : decode cX5_found 12 = .ok (.iconst 1, 1) := by decide +kernel
theorem dX5_found_13 : decode cX5_found 13 = .ok (.iadd, 1) := by decide +kernel
theorem dX5_found_14 : decode cX5_found 14 = .ok (.iastore, 1) := by decide +kernel
theorem dX5_found_15 : decode cX5_found 15 = .ok (.bipush (-3), 2) := by decide +kernel
theorem dX5_found_17 : decode cX5_found 17 = .ok (.ireturn, 1) := by decide +kernel
theorem dX5_tell_0 : decode cX5_tell 0 = .ok (.aload_n 0, 1) := by decide +kernel
theorem dX5_tell_1 : decode cX5_tell 1 = .ok (.iload_n 1, 1) := by decide +kernel
theorem dX5_tell_2 : decode cX5_tell 2 = .ok (.putfield 72, 3) := by decide +kernel
theorem dX5_tell_5 : decode cX5_tell 5 = .ok (.iconst 1, 1) := by decide +kernel
theorem dX5_tell_6 : decode cX5_tell 6 = .ok (.ireturn, 1) := by decide +kernel
theorem dX5_answer_0 : decode cX5_answer 0 = .ok (.aload_n 0, 1) := by decide +kernel
theorem dX5_answer_1 : decode cX5_answer 1 = .ok (.iload_n 2, 1) := by decide +kernel
theorem dX5_answer_2 : decode cX5_answer 2 = .ok (.putfield 72, 3) := by decide +kernel
theorem dX5_answer_5 : decode cX5_answer 5 = .ok (.iload_n 1, 1) := by decide +kernel
theorem dX5_answer_6 : decode cX5_answer 6 = .ok (.ireturn, 1) := by decide +kernel
theorem dX5_isRow_0 : decode cX5_isRow 0 = .ok (.iload_n 0, 1) := by decide +kernel
theorem dX5_isRow_1 : decode cX5_isRow 1 = .ok (.i2l, 1) := by decide +kernel
theorem dX5_isRow_2 : decode cX5_isRow 2 = .ok (.lconst 0, 1) := by decide +kernel
theorem dX5_isRow_3 : decode cX5_isRow 3 = .ok (.ldc2_w 75, 3) := by decide +kernel
theorem dX5_isRow_6 : decode cX5_isRow 6 = .ok (.invokestatic 77, 3) := by decide +kernel
theorem dX5_isRow_9 : decode cX5_isRow 9 = .ok (.ireturn, 1) := by decide +kernel
theorem dX5_isText_0 : decode cX5_isText 0 = .ok (.iload_n 0, 1) := by decide +kernel
theorem dX5_isText_1 : decode cX5_isText 1 = .ok (.i2l, 1) := by decide +kernel
theorem dX5_isText_2 : decode cX5_isText 2 = .ok (.lconst 0, 1) := by decide +kernel
theorem dX5_isText_3 : decode cX5_isText 3 = .ok (.ldc2_w 81, 3) := by decide +kernel
theorem dX5_isText_6 : decode cX5_isText 6 = .ok (.invokestatic 77, 3) := by decide +kernel
theorem dX5_isText_9 : decode cX5_isText 9 = .ok (.ireturn, 1) := by decide +kernel
theorem dX5_row_0 : decode cX5_row 0 = .ok (.iload_n 1, 1) := by decide +kernel
theorem dX5_row_1 : decode cX5_row 1 = .ok (.invokestatic 83, 3) := by decide +kernel
theorem dX5_row_4 : decode cX5_row 4 = .ok (.ifCond .eq 9, 3) := by decide +kernel
theorem dX5_row_7 : decode cX5_row 7 = .ok (.iload_n 2, 1) := by decide +kernel
theorem dX5_row_8 : decode cX5_row 8 = .ok (.bipush 40, 2) := by decide +kernel
theorem dX5_row_10 : decode cX5_row 10 = .ok (.if_icmp .le 5, 3) := by decide +kernel
theorem dX5_row_13 : decode cX5_row 13 = .ok (.iconst (-1), 1) := by decide +kernel
theorem dX5_row_14 : decode cX5_row 14 = .ok (.ireturn, 1) := by decide +kernel
theorem dX5_row_15 : decode cX5_row 15 = .ok (.iload_n 2, 1) := by decide +kernel
theorem dX5_row_16 : decode cX5_row 16 = .ok (.ifCond .ge 9, 3) := by decide +kernel
theorem dX5_row_19 : decode cX5_row 19 = .ok (.aload_n 0, 1) := by decide +kernel
theorem dX5_row_20 : decode cX5_row 20 = .ok (.iconst 5, 1) := by decide +kernel
theorem dX5_row_21 : decode cX5_row 21 = .ok (.invokevirtual 87, 3) := by decide +kernel
theorem dX5_row_24 : decode cX5_row 24 = .ok (.ireturn, 1) := by decide +kernel
theorem dX5_row_25 : decode cX5_row 25 = .ok (.aload_n 0, 1) := by decide +kernel
theorem dX5_row_26 : decode cX5_row 26 = .ok (.getfield 13, 3) := by decide +kernel
theorem dX5_row_29 : decode cX5_row 29 = .ok (.iload_n 1, 1) := by decide +kernel
theorem dX5_row_30 : decode cX5_row 30 = .ok (.iload_n 2, 1) := by decide +kernel
theorem dX5_row_31 : decode cX5_row 31 = .ok (.iastore, 1) := by decide +kernel
theorem dX5_row_32 : decode cX5_row 32 = .ok (.iconst 0, 1) := by decide +kernel
theorem dX5_row_33 : decode cX5_row 33 = .ok (.istore_n 3, 1) := by decide +kernel
theorem dX5_row_34 : decode cX5_row 34 = .ok (.iload_n 3, 1) := by decide +kernel
theorem dX5_row_35 : decode cX5_row 35 = .ok (.bipush 40, 2) := by decide +kernel
theorem dX5_row_37 : decode cX5_row 37 = .ok (.if_icmp .ge 21, 3) := by decide +kernel
theorem dX5_row_40 : decode cX5_row 40 = .ok (.aload_n 0, 1) := by decide +kernel
theorem dX5_row_41 : decode cX5_row 41 = .ok (.getfield 7, 3) := by decide +kernel
theorem dX5_row_44 : decode cX5_row 44 = .ok (.bipush 40, 2) := by decide +kernel
theorem dX5_row_46 : decode cX5_row 46 = .ok (.iload_n 1, 1) := by decide +kernel
theorem dX5_row_47 : decode cX5_row 47 = .ok (.imul, 1) := by decide +kernel
theorem dX5_row_48 : decode cX5_row 48 = .ok (.iload_n 3, 1) := by decide +kernel
theorem dX5_row_49 : decode cX5_row 49 = .ok (.iadd, 1) := by decide +kernel
theorem dX5_row_50 : decode cX5_row 50 = .ok (.iconst 0, 1) := by decide +kernel
theorem dX5_row_51 : decode cX5_row 51 = .ok (.iastore, 1) := by decide +kernel
theorem dX5_row_52 : decode cX5_row 52 = .ok (.iinc 3 1, 3) := by decide +kernel
theorem dX5_row_55 : decode cX5_row 55 = .ok (.goto (-21), 3) := by decide +kernel
theorem dX5_row_58 : decode cX5_row 58 = .ok (.iload_n 2, 1) := by decide +kernel
theorem dX5_row_59 : decode cX5_row 59 = .ok (.ireturn, 1) := by decide +kernel
theorem dX5_lay_0 : decode cX5_lay 0 = .ok (.iload_n 1, 1) := by decide +kernel
theorem dX5_lay_1 : decode cX5_lay 1 = .ok (.invokestatic 83, 3) := by decide +kernel
theorem dX5_lay_4 : decode cX5_lay 4 = .ok (.ifCond .ne 5, 3) := by decide +kernel
theorem dX5_lay_7 : decode cX5_lay 7 = .ok (.iconst (-1), 1) := by decide +kernel
theorem dX5_lay_8 : decode cX5_lay 8 = .ok (.ireturn, 1) := by decide +kernel
theorem dX5_lay_9 : decode cX5_lay 9 = .ok (.aload_n 0, 1) := by decide +kernel
theorem dX5_lay_10 : decode cX5_lay 10 = .ok (.getfield 13, 3) := by decide +kernel
theorem dX5_lay_13 : decode cX5_lay 13 = .ok (.iload_n 1, 1) := by decide +kernel
theorem dX5_lay_14 : decode cX5_lay 14 = .ok (.iaload, 1) := by decide +kernel
theorem dX5_lay_15 : decode cX5_lay 15 = .ok (.ifCond .ge 9, 3) := by decide +kernel
theorem dX5_lay_18 : decode cX5_lay 18 = .ok (.aload_n 0, 1) := by decide +kernel
theorem dX5_lay_19 : decode cX5_lay 19 = .ok (.iconst 1, 1) := by decide +kernel
theorem dX5_lay_20 : decode cX5_lay 20 = .ok (.invokevirtual 87, 3) := by decide +kernel
theorem dX5_lay_23 : decode cX5_lay 23 = .ok (.ireturn, 1) := by decide +kernel
theorem dX5_lay_24 : decode cX5_lay 24 = .ok (.iload_n 2, 1) := by decide +kernel
theorem dX5_lay_25 : decode cX5_lay 25 = .ok (.i2l, 1) := by decide +kernel
theorem dX5_lay_26 : decode cX5_lay 26 = .ok (.lconst 0, 1) := by decide +kernel
theorem dX5_lay_27 : decode cX5_lay 27 = .ok (.aload_n 0, 1) := by decide +kernel
theorem dX5_lay_28 : decode cX5_lay 28 = .ok (.getfield 13, 3) := by decide +kernel
theorem dX5_lay_31 : decode cX5_lay 31 = .ok (.iload_n 1, 1) := by decide +kernel
theorem dX5_lay_32 : decode cX5_lay 32 = .ok (.iaload, 1) := by decide +kernel
theorem dX5_lay_33 : decode cX5_lay 33 = .ok (.iconst 1, 1) := by decide +kernel
theorem dX5_lay_34 : decode cX5_lay 34 = .ok (.isub, 1) := by decide +kernel
theorem dX5_lay_35 : decode cX5_lay 35 = .ok (.i2l, 1) := by decide +kernel
theorem dX5_lay_36 : decode cX5_lay 36 = .ok (.invokestatic 77, 3) := by decide +kernel
theorem dX5_lay_39 : decode cX5_lay 39 = .ok (.ifCond .ne 9, 3) := by decide +kernel
theorem dX5_lay_42 : decode cX5_lay 42 = .ok (.aload_n 0, 1) := by decide +kernel
theorem dX5_lay_43 : decode cX5_lay 43 = .ok (.iconst 2, 1) := by decide +kernel
theorem dX5_lay_44 : decode cX5_lay 44 = .ok (.invokevirtual 87, 3) := by decide +kernel
theorem dX5_lay_47 : decode cX5_lay 47 = .ok (.ireturn, 1) := by decide +kernel
theorem dX5_lay_48 : decode cX5_lay 48 = .ok (.aload_n 0, 1) := by decide +kernel
theorem dX5_lay_49 : decode cX5_lay 49 = .ok (.getfield 7, 3) := by decide +kernel
theorem dX5_lay_52 : decode cX5_lay 52 = .ok (.bipush 40, 2) := by decide +kernel
theorem dX5_lay_54 : decode cX5_lay 54 = .ok (.iload_n 1, 1) := by decide +kernel
theorem dX5_lay_55 : decode cX5_lay 55 = .ok (.imul, 1) := by decide +kernel
theorem dX5_lay_56 : decode cX5_lay 56 = .ok (.iload_n 2, 1) := by decide +kernel
theorem dX5_lay_57 : decode cX5_lay 57 = .ok (.iadd, 1) := by decide +kernel
theorem dX5_lay_58 : decode cX5_lay 58 = .ok (.iaload, 1) := by decide +kernel
theorem dX5_lay_59 : decode cX5_lay 59 = .ok (.istore 4, 2) := by decide +kernel
theorem dX5_lay_61 : decode cX5_lay 61 = .ok (.aload_n 0, 1) := by decide +kernel
theorem dX5_lay_62 : decode cX5_lay 62 = .ok (.getfield 7, 3) := by decide +kernel
theorem dX5_lay_65 : decode cX5_lay 65 = .ok (.bipush 40, 2) := by decide +kernel
theorem dX5_lay_67 : decode cX5_lay 67 = .ok (.iload_n 1, 1) := by decide +kernel
theorem dX5_lay_68 : decode cX5_lay 68 = .ok (.imul, 1) := by decide +kernel
theorem dX5_lay_69 : decode cX5_lay 69 = .ok (.iload_n 2, 1) := by decide +kernel
theorem dX5_lay_70 : decode cX5_lay 70 = .ok (.iadd, 1) := by decide +kernel
theorem dX5_lay_71 : decode cX5_lay 71 = .ok (.iload_n 3, 1) := by decide +kernel
theorem dX5_lay_72 : decode cX5_lay 72 = .ok (.iastore, 1) := by decide +kernel
theorem dX5_lay_73 : decode cX5_lay 73 = .ok (.aload_n 0, 1) := by decide +kernel
theorem dX5_lay_74 : decode cX5_lay 74 = .ok (.iload 4, 2) := by decide +kernel
theorem dX5_lay_76 : decode cX5_lay 76 = .ok (.invokevirtual 91, 3) := by decide +kernel
theorem dX5_lay_79 : decode cX5_lay 79 = .ok (.ireturn, 1) := by decide +kernel
theorem dX5_at_0 : decode cX5_at 0 = .ok (.iload_n 1, 1) := by decide +kernel
theorem dX5_at_1 : decode cX5_at 1 = .ok (.invokestatic 83, 3) := by decide +kernel
theorem dX5_at_4 : decode cX5_at 4 = .ok (.ifCond .ne 5, 3) := by decide +kernel
theorem dX5_at_7 : decode cX5_at 7 = .ok (.iconst (-1), 1) := by decide +kernel
theorem dX5_at_8 : decode cX5_at 8 = .ok (.ireturn, 1) := by decide +kernel
theorem dX5_at_9 : decode cX5_at 9 = .ok (.aload_n 0, 1) := by decide +kernel
theorem dX5_at_10 : decode cX5_at 10 = .ok (.getfield 13, 3) := by decide +kernel
theorem dX5_at_13 : decode cX5_at 13 = .ok (.iload_n 1, 1) := by decide +kernel
theorem dX5_at_14 : decode cX5_at 14 = .ok (.iaload, 1) := by decide +kernel
theorem dX5_at_15 : decode cX5_at 15 = .ok (.ifCond .ge 9, 3) := by decide +kernel
theorem dX5_at_18 : decode cX5_at 18 = .ok (.aload_n 0, 1) := by decide +kernel
theorem dX5_at_19 : decode cX5_at 19 = .ok (.iconst 1, 1) := by decide +kernel
theorem dX5_at_20 : decode cX5_at 20 = .ok (.invokevirtual 87, 3) := by decide +kernel
theorem dX5_at_23 : decode cX5_at 23 = .ok (.ireturn, 1) := by decide +kernel
theorem dX5_at_24 : decode cX5_at 24 = .ok (.iload_n 2, 1) := by decide +kernel
theorem dX5_at_25 : decode cX5_at 25 = .ok (.i2l, 1) := by decide +kernel
theorem dX5_at_26 : decode cX5_at 26 = .ok (.lconst 0, 1) := by decide +kernel
theorem dX5_at_27 : decode cX5_at 27 = .ok (.aload_n 0, 1) := by decide +kernel
theorem dX5_at_28 : decode cX5_at 28 = .ok (.getfield 13, 3) := by decide +kernel
theorem dX5_at_31 : decode cX5_at 31 = .ok (.iload_n 1, 1) := by decide +kernel
theorem dX5_at_32 : decode cX5_at 32 = .ok (.iaload, 1) := by decide +kernel
theorem dX5_at_33 : decode cX5_at 33 = .ok (.iconst 1, 1) := by decide +kernel
theorem dX5_at_34 : decode cX5_at 34 = .ok (.isub, 1) := by decide +kernel
theorem dX5_at_35 : decode cX5_at 35 = .ok (.i2l, 1) := by decide +kernel
theorem dX5_at_36 : decode cX5_at 36 = .ok (.invokestatic 77, 3) := by decide +kernel
theorem dX5_at_39 : decode cX5_at 39 = .ok (.ifCond .eq 21, 3) := by decide +kernel
theorem dX5_at_42 : decode cX5_at 42 = .ok (.aload_n 0, 1) := by decide +kernel
theorem dX5_at_43 : decode cX5_at 43 = .ok (.aload_n 0, 1) := by decide +kernel
theorem dX5_at_44 : decode cX5_at 44 = .ok (.getfield 7, 3) := by decide +kernel
theorem dX5_at_47 : decode cX5_at 47 = .ok (.bipush 40, 2) := by decide +kernel
theorem dX5_at_49 : decode cX5_at 49 = .ok (.iload_n 1, 1) := by decide +kernel
theorem dX5_at_50 : decode cX5_at 50 = .ok (.imul, 1) := by decide +kernel
theorem dX5_at_51 : decode cX5_at 51 = .ok (.iload_n 2, 1) := by decide +kernel
theorem dX5_at_52 : decode cX5_at 52 = .ok (.iadd, 1) := by decide +kernel
theorem dX5_at_53 : decode cX5_at 53 = .ok (.iaload, 1) := by decide +kernel
theorem dX5_at_54 : decode cX5_at 54 = .ok (.invokevirtual 91, 3) := by decide +kernel
theorem dX5_at_57 : decode cX5_at 57 = .ok (.goto 8, 3) := by decide +kernel
theorem dX5_at_60 : decode cX5_at 60 = .ok (.aload_n 0, 1) := by decide +kernel
theorem dX5_at_61 : decode cX5_at 61 = .ok (.iconst 2, 1) := by decide +kernel
theorem dX5_at_62 : decode cX5_at 62 = .ok (.invokevirtual 87, 3) := by decide +kernel
theorem dX5_at_65 : decode cX5_at 65 = .ok (.ireturn, 1) := by decide +kernel
theorem dX5_tear_0 : decode cX5_tear 0 = .ok (.iload_n 1, 1) := by decide +kernel
theorem dX5_tear_1 : decode cX5_tear 1 = .ok (.invokestatic 83, 3) := by decide +kernel
theorem dX5_tear_4 : decode cX5_tear 4 = .ok (.ifCond .ne 5, 3) := by decide +kernel
theorem dX5_tear_7 : decode cX5_tear 7 = .ok (.iconst (-1), 1) := by decide +kernel
theorem dX5_tear_8 : decode cX5_tear 8 = .ok (.ireturn, 1) := by decide +kernel
theorem dX5_tear_9 : decode cX5_tear 9 = .ok (.aload_n 0, 1) := by decide +kernel
theorem dX5_tear_10 : decode cX5_tear 10 = .ok (.getfield 13, 3) := by decide +kernel
theorem dX5_tear_13 : decode cX5_tear 13 = .ok (.iload_n 1, 1) := by decide +kernel
theorem dX5_tear_14 : decode cX5_tear 14 = .ok (.iaload, 1) := by decide +kernel
theorem dX5_tear_15 : decode cX5_tear 15 = .ok (.ifCond .ge 9, 3) := by decide +kernel
theorem dX5_tear_18 : decode cX5_tear 18 = .ok (.aload_n 0, 1) := by decide +kernel
theorem dX5_tear_19 : decode cX5_tear 19 = .ok (.iconst 1, 1) := by decide +kernel
theorem dX5_tear_20 : decode cX5_tear 20 = .ok (.invokevirtual 87, 3) := by decide +kernel
theorem dX5_tear_23 : decode cX5_tear 23 = .ok (.ireturn, 1) := by decide +kernel
theorem dX5_tear_24 : decode cX5_tear 24 = .ok (.aload_n 0, 1) := by decide +kernel
theorem dX5_tear_25 : decode cX5_tear 25 = .ok (.getfield 13, 3) := by decide +kernel
theorem dX5_tear_28 : decode cX5_tear 28 = .ok (.iload_n 1, 1) := by decide +kernel
theorem dX5_tear_29 : decode cX5_tear 29 = .ok (.iconst (-1), 1) := by decide +kernel
theorem dX5_tear_30 : decode cX5_tear 30 = .ok (.iastore, 1) := by decide +kernel
theorem dX5_tear_31 : decode cX5_tear 31 = .ok (.iconst 1, 1) := by decide +kernel
theorem dX5_tear_32 : decode cX5_tear 32 = .ok (.ireturn, 1) := by decide +kernel
theorem dX5_copy_0 : decode cX5_copy 0 = .ok (.iload_n 1, 1) := by decide +kernel
theorem dX5_copy_1 : decode cX5_copy 1 = .ok (.invokestatic 83, 3) := by decide +kernel
theorem dX5_copy_4 : decode cX5_copy 4 = .ok (.ifCond .eq 10, 3) := by decide +kernel
theorem dX5_copy_7 : decode cX5_copy 7 = .ok (.iload_n 3, 1) := by decide +kernel
theorem dX5_copy_8 : decode cX5_copy 8 = .ok (.invokestatic 83, 3) := by decide +kernel
theorem dX5_copy_11 : decode cX5_copy 11 = .ok (.ifCond .ne 5, 3) := by decide +kernel
theorem dX5_copy_14 : decode cX5_copy 14 = .ok (.iconst (-1), 1) := by decide +kernel
theorem dX5_copy_15 : decode cX5_copy 15 = .ok (.ireturn, 1) := by decide +kernel
theorem dX5_copy_16 : decode cX5_copy 16 = .ok (.iload 5, 2) := by decide +kernel
theorem dX5_copy_18 : decode cX5_copy 18 = .ok (.ifCond .ge 9, 3) := by decide +kernel
theorem dX5_copy_21 : decode cX5_copy 21 = .ok (.aload_n 0, 1) := by decide +kernel
theorem dX5_copy_22 : decode cX5_copy 22 = .ok (.iconst 5, 1) := by decide +kernel
theorem dX5_copy_23 : decode cX5_copy 23 = .ok (.invokevirtual 87, 3) := by decide +kernel
theorem dX5_copy_26 : decode cX5_copy 26 = .ok (.ireturn, 1) := by decide +kernel
theorem dX5_copy_27 : decode cX5_copy 27 = .ok (.aload_n 0, 1) := by decide +kernel
theorem dX5_copy_28 : decode cX5_copy 28 = .ok (.getfield 13, 3) := by decide +kernel
theorem dX5_copy_31 : decode cX5_copy 31 = .ok (.iload_n 1, 1) := by decide +kernel
theorem dX5_copy_32 : decode cX5_copy 32 = .ok (.iaload, 1) := by decide +kernel
theorem dX5_copy_33 : decode cX5_copy 33 = .ok (.ifCond .lt 12, 3) := by decide +kernel
theorem dX5_copy_36 : decode cX5_copy 36 = .ok (.aload_n 0, 1) := by decide +kernel
theorem dX5_copy_37 : decode cX5_copy 37 = .ok (.getfield 13, 3) := by decide +kernel
theorem dX5_copy_40 : decode cX5_copy 40 = .ok (.iload_n 3, 1) := by decide +kernel
theorem dX5_copy_41 : decode cX5_copy 41 = .ok (.iaload, 1) := by decide +kernel
theorem dX5_copy_42 : decode cX5_copy 42 = .ok (.ifCond .ge 9, 3) := by decide +kernel
theorem dX5_copy_45 : decode cX5_copy 45 = .ok (.aload_n 0, 1) := by decide +kernel
theorem dX5_copy_46 : decode cX5_copy 46 = .ok (.iconst 1, 1) := by decide +kernel
theorem dX5_copy_47 : decode cX5_copy 47 = .ok (.invokevirtual 87, 3) := by decide +kernel
theorem dX5_copy_50 : decode cX5_copy 50 = .ok (.ireturn, 1) := by decide +kernel
theorem dX5_copy_51 : decode cX5_copy 51 = .ok (.iload_n 2, 1) := by decide +kernel
theorem dX5_copy_52 : decode cX5_copy 52 = .ok (.ifCond .lt 43, 3) := by decide +kernel
theorem dX5_copy_55 : decode cX5_copy 55 = .ok (.iload 4, 2) := by decide +kernel
theorem dX5_copy_57 : decode cX5_copy 57 = .ok (.ifCond .lt 38, 3) := by decide +kernel
theorem dX5_copy_60 : decode cX5_copy 60 = .ok (.iload_n 2, 1) := by decide +kernel
theorem dX5_copy_61 : decode cX5_copy 61 = .ok (.i2l, 1) := by decide +kernel
theorem dX5_copy_62 : decode cX5_copy 62 = .ok (.iload 5, 2) := by decide +kernel
theorem dX5_copy_64 : decode cX5_copy 64 = .ok (.i2l, 1) := by decide +kernel
theorem dX5_copy_65 : decode cX5_copy 65 = .ok (.ladd, 1) := by decide +kernel
theorem dX5_copy_66 : decode cX5_copy 66 = .ok (.aload_n 0, 1) := by decide +kernel
theorem dX5_copy_67 : decode cX5_copy 67 = .ok (.getfield 13, 3) := by decide +kernel
theorem dX5_copy_70 : decode cX5_copy 70 = .ok (.iload_n 1, 1) := by decide +kernel
theorem dX5_copy_71 : decode cX5_copy 71 = .ok (.iaload, 1) := by decide +kernel
theorem dX5_copy_72 : decode cX5_copy 72 = .ok (.i2l, 1) := by decide +kernel
theorem dX5_copy_73 : decode cX5_copy 73 = .ok (.lcmp, 1) := by decide +kernel
theorem dX5_copy_74 : decode cX5_copy 74 = .ok (.ifCond .gt 21, 3) := by decide +kernel
theorem dX5_copy_77 : decode cX5_copy 77 = .ok (.iload 4, 2) := by decide +kernel
theorem dX5_copy_79 : decode cX5_copy 79 = .ok (.i2l, 1) := by decide +kernel
theorem dX5_copy_80 : decode cX5_copy 80 = .ok (.iload 5, 2) := by decide +kernel
theorem dX5_copy_82 : decode cX5_copy 82 = .ok (.i2l, 1) := by decide +kernel
theorem dX5_copy_83 : decode cX5_copy 83 = .ok (.ladd, 1) := by decide +kernel
theorem dX5_copy_84 : decode cX5_copy 84 = .ok (.aload_n 0, 1) := by decide +kernel
theorem dX5_copy_85 : decode cX5_copy 85 = .ok (.getfield 13, 3) := by decide +kernel
theorem dX5_copy_88 : decode cX5_copy 88 = .ok (.iload_n 3, 1) := by decide +kernel
theorem dX5_copy_89 : decode cX5_copy 89 = .ok (.iaload, 1) := by decide +kernel
theorem dX5_copy_90 : decode cX5_copy 90 = .ok (.i2l, 1) := by decide +kernel
theorem dX5_copy_91 : decode cX5_copy 91 = .ok (.lcmp, 1) := by decide +kernel
theorem dX5_copy_92 : decode cX5_copy 92 = .ok (.ifCond .le 9, 3) := by decide +kernel
theorem dX5_copy_95 : decode cX5_copy 95 = .ok (.aload_n 0, 1) := by decide +kernel
theorem dX5_copy_96 : decode cX5_copy 96 = .ok (.iconst 2, 1) := by decide +kernel
theorem dX5_copy_97 : decode cX5_copy 97 = .ok (.invokevirtual 87, 3) := by decide +kernel
theorem dX5_copy_100 : decode cX5_copy 100 = .ok (.ireturn, 1) := by decide +kernel
theorem dX5_copy_101 : decode cX5_copy 101 = .ok (.iconst 0, 1) := by decide +kernel
theorem dX5_copy_102 : decode cX5_copy 102 = .ok (.istore 6, 2) := by decide +kernel
theorem dX5_copy_104 : decode cX5_copy 104 = .ok (.iload 6, 2) := by decide +kernel
theorem dX5_copy_106 : decode cX5_copy 106 = .ok (.iload 5, 2) := by decide +kernel
theorem dX5_copy_108 : decode cX5_copy 108 = .ok (.if_icmp .ge 58, 3) := by decide +kernel
theorem dX5_copy_111 : decode cX5_copy 111 = .ok (.iload 4, 2) := by decide +kernel
theorem dX5_copy_113 : decode cX5_copy 113 = .ok (.iload_n 2, 1) := by decide +kernel
theorem dX5_copy_114 : decode cX5_copy 114 = .ok (.if_icmp .le 13, 3) := by decide +kernel
theorem dX5_copy_117 : decode cX5_copy 117 = .ok (.iload 5, 2) := by decide +kernel
theorem dX5_copy_119 : decode cX5_copy 119 = .ok (.iconst 1, 1) := by decide +kernel
theorem dX5_copy_120 : decode cX5_copy 120 = .ok (.isub, 1) := by decide +kernel
theorem dX5_copy_121 : decode cX5_copy 121 = .ok (.iload 6, 2) := by decide +kernel
theorem dX5_copy_123 : decode cX5_copy 123 = .ok (.isub, 1) := by decide +kernel
theorem dX5_copy_124 : decode cX5_copy 124 = .ok (.goto 5, 3) := by decide +kernel
theorem dX5_copy_127 : decode cX5_copy 127 = .ok (.iload 6, 2) := by decide +kernel
theorem dX5_copy_129 : decode cX5_copy 129 = .ok (.istore 7, 2) := by decide +kernel
theorem dX5_copy_131 : decode cX5_copy 131 = .ok (.aload_n 0, 1) := by decide +kernel
theorem dX5_copy_132 : decode cX5_copy 132 = .ok (.getfield 7, 3) := by decide +kernel
theorem dX5_copy_135 : decode cX5_copy 135 = .ok (.bipush 40, 2) := by decide +kernel
theorem dX5_copy_137 : decode cX5_copy 137 = .ok (.iload_n 3, 1) := by decide +kernel
theorem dX5_copy_138 : decode cX5_copy 138 = .ok (.imul, 1) := by decide +kernel
theorem dX5_copy_139 : decode cX5_copy 139 = .ok (.iload 4, 2) := by decide +kernel
theorem dX5_copy_141 : decode cX5_copy 141 = .ok (.iadd, 1) := by decide +kernel
theorem dX5_copy_142 : decode cX5_copy 142 = .ok (.iload 7, 2) := by decide +kernel
theorem dX5_copy_144 : decode cX5_copy 144 = .ok (.iadd, 1) := by decide +kernel
theorem dX5_copy_145 : decode cX5_copy 145 = .ok (.aload_n 0, 1) := by decide +kernel
theorem dX5_copy_146 : decode cX5_copy 146 = .ok (.getfield 7, 3) := by decide +kernel
theorem dX5_copy_149 : decode cX5_copy 149 = .ok (.bipush 40, 2) := by decide +kernel
theorem dX5_copy_151 : decode cX5_copy 151 = .ok (.iload_n 1, 1) := by decide +kernel
theorem dX5_copy_152 : decode cX5_copy 152 = .ok (.imul, 1) := by decide +kernel
theorem dX5_copy_153 : decode cX5_copy 153 = .ok (.iload_n 2, 1) := by decide +kernel
theorem dX5_copy_154 : decode cX5_copy 154 = .ok (.iadd, 1) := by decide +kernel
theorem dX5_copy_155 : decode cX5_copy 155 = .ok (.iload 7, 2) := by decide +kernel
theorem dX5_copy_157 : decode cX5_copy 157 = .ok (.iadd, 1) := by decide +kernel
theorem dX5_copy_158 : decode cX5_copy 158 = .ok (.iaload, 1) := by decide +kernel
theorem dX5_copy_159 : decode cX5_copy 159 = .ok (.iastore, 1) := by decide +kernel
theorem dX5_copy_160 : decode cX5_copy 160 = .ok (.iinc 6 1, 3) := by decide +kernel
theorem dX5_copy_163 : decode cX5_copy 163 = .ok (.goto (-59), 3) := by decide +kernel
theorem dX5_copy_166 : decode cX5_copy 166 = .ok (.iconst 1, 1) := by decide +kernel
theorem dX5_copy_167 : decode cX5_copy 167 = .ok (.ireturn, 1) := by decide +kernel
theorem dX5_mean_0 : decode cX5_mean 0 = .ok (.iload_n 1, 1) := by decide +kernel
theorem dX5_mean_1 : decode cX5_mean 1 = .ok (.invokestatic 83, 3) := by decide +kernel
theorem dX5_mean_4 : decode cX5_mean 4 = .ok (.ifCond .ne 5, 3) := by decide +kernel
theorem dX5_mean_7 : decode cX5_mean 7 = .ok (.iconst (-1), 1) := by decide +kernel
theorem dX5_mean_8 : decode cX5_mean 8 = .ok (.ireturn, 1) := by decide +kernel
theorem dX5_mean_9 : decode cX5_mean 9 = .ok (.aload_n 0, 1) := by decide +kernel
theorem dX5_mean_10 : decode cX5_mean 10 = .ok (.getfield 13, 3) := by decide +kernel
theorem dX5_mean_13 : decode cX5_mean 13 = .ok (.iload_n 1, 1) := by decide +kernel
theorem dX5_mean_14 : decode cX5_mean 14 = .ok (.iaload, 1) := by decide +kernel
theorem dX5_mean_15 : decode cX5_mean 15 = .ok (.ifCond .ge 9, 3) := by decide +kernel
theorem dX5_mean_18 : decode cX5_mean 18 = .ok (.aload_n 0, 1) := by decide +kernel
theorem dX5_mean_19 : decode cX5_mean 19 = .ok (.iconst 1, 1) := by decide +kernel
theorem dX5_mean_20 : decode cX5_mean 20 = .ok (.invokevirtual 87, 3) := by decide +kernel
theorem dX5_mean_23 : decode cX5_mean 23 = .ok (.ireturn, 1) := by decide +kernel
theorem dX5_mean_24 : decode cX5_mean 24 = .ok (.aload_n 0, 1) := by decide +kernel
theorem dX5_mean_25 : decode cX5_mean 25 = .ok (.getfield 13, 3) := by decide +kernel
theorem dX5_mean_28 : decode cX5_mean 28 = .ok (.iload_n 1, 1) := by decide +kernel
theorem dX5_mean_29 : decode cX5_mean 29 = .ok (.iaload, 1) := by decide +kernel
theorem dX5_mean_30 : decode cX5_mean 30 = .ok (.ifCond .ne 9, 3) := by decide +kernel
theorem dX5_mean_33 : decode cX5_mean 33 = .ok (.aload_n 0, 1) := by decide +kernel
theorem dX5_mean_34 : decode cX5_mean 34 = .ok (.iconst 4, 1) := by decide +kernel
theorem dX5_mean_35 : decode cX5_mean 35 = .ok (.invokevirtual 87, 3) := by decide +kernel
theorem dX5_mean_38 : decode cX5_mean 38 = .ok (.ireturn, 1) := by decide +kernel
theorem dX5_mean_39 : decode cX5_mean 39 = .ok (.lconst 0, 1) := by decide +kernel
theorem dX5_mean_40 : decode cX5_mean 40 = .ok (.lstore_n 2, 1) := by decide +kernel
theorem dX5_mean_41 : decode cX5_mean 41 = .ok (.iconst 0, 1) := by decide +kernel
theorem dX5_mean_42 : decode cX5_mean 42 = .ok (.istore 4, 2) := by decide +kernel
theorem dX5_mean_44 : decode cX5_mean 44 = .ok (.iload 4, 2) := by decide +kernel
theorem dX5_mean_46 : decode cX5_mean 46 = .ok (.aload_n 0, 1) := by decide +kernel
theorem dX5_mean_47 : decode cX5_mean 47 = .ok (.getfield 13, 3) := by decide +kernel
theorem dX5_mean_50 : decode cX5_mean 50 = .ok (.iload_n 1, 1) := by decide +kernel
theorem dX5_mean_51 : decode cX5_mean 51 = .ok (.iaload, 1) := by decide +kernel
theorem dX5_mean_52 : decode cX5_mean 52 = .ok (.if_icmp .ge 25, 3) := by decide +kernel
theorem dX5_mean_55 : decode cX5_mean 55 = .ok (.lload_n 2, 1) := by decide +kernel
theorem dX5_mean_56 : decode cX5_mean 56 = .ok (.aload_n 0, 1) := by decide +kernel
theorem dX5_mean_57 : decode cX5_mean 57 = .ok (.getfield 7, 3) := by decide +kernel
theorem dX5_mean_60 : decode cX5_mean 60 = .ok (.bipush 40, 2) := by decide +kernel
theorem dX5_mean_62 : decode cX5_mean 62 = .ok (.iload_n 1, 1) := by decide +kernel
theorem dX5_mean_63 : decode cX5_mean 63 = .ok (.imul, 1) := by decide +kernel
theorem dX5_mean_64 : decode cX5_mean 64 = .ok (.iload 4, 2) := by decide +kernel
theorem dX5_mean_66 : decode cX5_mean 66 = .ok (.iadd, 1) := by decide +kernel
theorem dX5_mean_67 : decode cX5_mean 67 = .ok (.iaload, 1) := by decide +kernel
theorem dX5_mean_68 : decode cX5_mean 68 = .ok (.i2l, 1) := by decide +kernel
theorem dX5_mean_69 : decode cX5_mean 69 = .ok (.ladd, 1) := by decide +kernel
theorem dX5_mean_70 : decode cX5_mean 70 = .ok (.lstore_n 2, 1) := by decide +kernel
theorem dX5_mean_71 : decode cX5_mean 71 = .ok (.iinc 4 1, 3) := by decide +kernel
theorem dX5_mean_74 : decode cX5_mean 74 = .ok (.goto (-30), 3) := by decide +kernel
theorem dX5_mean_77 : decode cX5_mean 77 = .ok (.aload_n 0, 1) := by decide +kernel
theorem dX5_mean_78 : decode cX5_mean 78 = .ok (.lload_n 2, 1) := by decide +kernel
theorem dX5_mean_79 : decode cX5_mean 79 = .ok (.aload_n 0, 1) := by decide +kernel
theorem dX5_mean_80 : decode cX5_mean 80 = .ok (.getfield 13, 3) := by decide +kernel
theorem dX5_mean_83 : decode cX5_mean 83 = .ok (.iload_n 1, 1) := by decide +kernel
theorem dX5_mean_84 : decode cX5_mean 84 = .ok (.iaload, 1) := by decide +kernel
theorem dX5_mean_85 : decode cX5_mean 85 = .ok (.i2l, 1) := by decide +kernel
theorem dX5_mean_86 : decode cX5_mean 86 = .ok (.ldiv, 1) := by decide +kernel
theorem dX5_mean_87 : decode cX5_mean 87 = .ok (.l2i, 1) := by decide +kernel
theorem dX5_mean_88 : decode cX5_mean 88 = .ok (.invokevirtual 91, 3) := by decide +kernel
theorem dX5_mean_91 : decode cX5_mean 91 = .ok (.ireturn, 1) := by decide +kernel
theorem dX5_text_0 : decode cX5_text 0 = .ok (.iload_n 1, 1) := by decide +kernel
theorem dX5_text_1 : decode cX5_text 1 = .ok (.invokestatic 94, 3) := by decide +kernel
theorem dX5_text_4 : decode cX5_text 4 = .ok (.ifCond .eq 9, 3) := by decide +kernel
theorem dX5_text_7 : decode cX5_text 7 = .ok (.iload_n 2, 1) := by decide +kernel
theorem dX5_text_8 : decode cX5_text 8 = .ok (.bipush 60, 2) := by decide +kernel
theorem dX5_text_10 : decode cX5_text 10 = .ok (.if_icmp .le 5, 3) := by decide +kernel
theorem dX5_text_13 : decode cX5_text 13 = .ok (.iconst (-1), 1) := by decide +kernel
theorem dX5_text_14 : decode cX5_text 14 = .ok (.ireturn, 1) := by decide +kernel
theorem dX5_text_15 : decode cX5_text 15 = .ok (.iload_n 2, 1) := by decide +kernel
theorem dX5_text_16 : decode cX5_text 16 = .ok (.ifCond .ge 9, 3) := by decide +kernel
theorem dX5_text_19 : decode cX5_text 19 = .ok (.aload_n 0, 1) := by decide +kernel
theorem dX5_text_20 : decode cX5_text 20 = .ok (.iconst 5, 1) := by decide +kernel
theorem dX5_text_21 : decode cX5_text 21 = .ok (.invokevirtual 87, 3) := by decide +kernel
theorem dX5_text_24 : decode cX5_text 24 = .ok (.ireturn, 1) := by decide +kernel
theorem dX5_text_25 : decode cX5_text 25 = .ok (.aload_n 0, 1) := by decide +kernel
theorem dX5_text_26 : decode cX5_text 26 = .ok (.getfield 19, 3) := by decide +kernel
theorem dX5_text_29 : decode cX5_text 29 = .ok (.iload_n 1, 1) := by decide +kernel
theorem dX5_text_30 : decode cX5_text 30 = .ok (.iload_n 2, 1) := by decide +kernel
theorem dX5_text_31 : decode cX5_text 31 = .ok (.iastore, 1) := by decide +kernel
theorem dX5_text_32 : decode cX5_text 32 = .ok (.iconst 0, 1) := by decide +kernel
theorem dX5_text_33 : decode cX5_text 33 = .ok (.istore_n 3, 1) := by decide +kernel
theorem dX5_text_34 : decode cX5_text 34 = .ok (.iload_n 3, 1) := by decide +kernel
theorem dX5_text_35 : decode cX5_text 35 = .ok (.bipush 60, 2) := by decide +kernel
theorem dX5_text_37 : decode cX5_text 37 = .ok (.if_icmp .ge 22, 3) := by decide +kernel
theorem dX5_text_40 : decode cX5_text 40 = .ok (.aload_n 0, 1) := by decide +kernel
theorem dX5_text_41 : decode cX5_text 41 = .ok (.getfield 16, 3) := by decide +kernel
theorem dX5_text_44 : decode cX5_text 44 = .ok (.bipush 60, 2) := by decide +kernel
theorem dX5_text_46 : decode cX5_text 46 = .ok (.iload_n 1, 1) := by decide +kernel
theorem dX5_text_47 : decode cX5_text 47 = .ok (.imul, 1) := by decide +kernel
theorem dX5_text_48 : decode cX5_text 48 = .ok (.iload_n 3, 1) := by decide +kernel
theorem dX5_text_49 : decode cX5_text 49 = .ok (.iadd, 1) := by decide +kernel
theorem dX5_text_50 : decode cX5_text 50 = .ok (.bipush 32, 2) := by decide +kernel
theorem dX5_text_52 : decode cX5_text 52 = .ok (.iastore, 1) := by decide +kernel
theorem dX5_text_53 : decode cX5_text 53 = .ok (.iinc 3 1, 3) := by decide +kernel
theorem dX5_text_56 : decode cX5_text 56 = .ok (.goto (-22), 3) := by decide +kernel
theorem dX5_text_59 : decode cX5_text 59 = .ok (.iload_n 2, 1) := by decide +kernel
theorem dX5_text_60 : decode cX5_text 60 = .ok (.ireturn, 1) := by decide +kernel
theorem dX5_put_0 : decode cX5_put 0 = .ok (.iload_n 1, 1) := by decide +kernel
theorem dX5_put_1 : decode cX5_put 1 = .ok (.invokestatic 94, 3) := by decide +kernel
theorem dX5_put_4 : decode cX5_put 4 = .ok (.ifCond .ne 5, 3) := by decide +kernel
theorem dX5_put_7 : decode cX5_put 7 = .ok (.iconst (-1), 1) := by decide +kernel
theorem dX5_put_8 : decode cX5_put 8 = .ok (.ireturn, 1) := by decide +kernel
theorem dX5_put_9 : decode cX5_put 9 = .ok (.aload_n 0, 1) := by decide +kernel
theorem dX5_put_10 : decode cX5_put 10 = .ok (.getfield 19, 3) := by decide +kernel
theorem dX5_put_13 : decode cX5_put 13 = .ok (.iload_n 1, 1) := by decide +kernel
theorem dX5_put_14 : decode cX5_put 14 = .ok (.iaload, 1) := by decide +kernel
theorem dX5_put_15 : decode cX5_put 15 = .ok (.ifCond .ge 9, 3) := by decide +kernel
theorem dX5_put_18 : decode cX5_put 18 = .ok (.aload_n 0, 1) := by decide +kernel
theorem dX5_put_19 : decode cX5_put 19 = .ok (.iconst 1, 1) := by decide +kernel
theorem dX5_put_20 : decode cX5_put 20 = .ok (.invokevirtual 87, 3) := by decide +kernel
theorem dX5_put_23 : decode cX5_put 23 = .ok (.ireturn, 1) := by decide +kernel
theorem dX5_put_24 : decode cX5_put 24 = .ok (.iload_n 2, 1) := by decide +kernel
theorem dX5_put_25 : decode cX5_put 25 = .ok (.i2l, 1) := by decide +kernel
theorem dX5_put_26 : decode cX5_put 26 = .ok (.lconst 0, 1) := by decide +kernel
theorem dX5_put_27 : decode cX5_put 27 = .ok (.aload_n 0, 1) := by decide +kernel
theorem dX5_put_28 : decode cX5_put 28 = .ok (.getfield 19, 3) := by decide +kernel
theorem dX5_put_31 : decode cX5_put 31 = .ok (.iload_n 1, 1) := by decide +kernel
theorem dX5_put_32 : decode cX5_put 32 = .ok (.iaload, 1) := by decide +kernel
theorem dX5_put_33 : decode cX5_put 33 = .ok (.iconst 1, 1) := by decide +kernel
theorem dX5_put_34 : decode cX5_put 34 = .ok (.isub, 1) := by decide +kernel
theorem dX5_put_35 : decode cX5_put 35 = .ok (.i2l, 1) := by decide +kernel
theorem dX5_put_36 : decode cX5_put 36 = .ok (.invokestatic 77, 3) := by decide +kernel
theorem dX5_put_39 : decode cX5_put 39 = .ok (.ifCond .ne 9, 3) := by decide +kernel
theorem dX5_put_42 : decode cX5_put 42 = .ok (.aload_n 0, 1) := by decide +kernel
theorem dX5_put_43 : decode cX5_put 43 = .ok (.iconst 2, 1) := by decide +kernel
theorem dX5_put_44 : decode cX5_put 44 = .ok (.invokevirtual 87, 3) := by decide +kernel
theorem dX5_put_47 : decode cX5_put 47 = .ok (.ireturn, 1) := by decide +kernel
theorem dX5_put_48 : decode cX5_put 48 = .ok (.aload_n 0, 1) := by decide +kernel
theorem dX5_put_49 : decode cX5_put 49 = .ok (.getfield 16, 3) := by decide +kernel
theorem dX5_put_52 : decode cX5_put 52 = .ok (.bipush 60, 2) := by decide +kernel
theorem dX5_put_54 : decode cX5_put 54 = .ok (.iload_n 1, 1) := by decide +kernel
theorem dX5_put_55 : decode cX5_put 55 = .ok (.imul, 1) := by decide +kernel
theorem dX5_put_56 : decode cX5_put 56 = .ok (.iload_n 2, 1) := by decide +kernel
theorem dX5_put_57 : decode cX5_put 57 = .ok (.iadd, 1) := by decide +kernel
theorem dX5_put_58 : decode cX5_put 58 = .ok (.iaload, 1) := by decide +kernel
theorem dX5_put_59 : decode cX5_put 59 = .ok (.istore 4, 2) := by decide +kernel
theorem dX5_put_61 : decode cX5_put 61 = .ok (.aload_n 0, 1) := by decide +kernel
theorem dX5_put_62 : decode cX5_put 62 = .ok (.getfield 16, 3) := by decide +kernel
theorem dX5_put_65 : decode cX5_put 65 = .ok (.bipush 60, 2) := by decide +kernel
theorem dX5_put_67 : decode cX5_put 67 = .ok (.iload_n 1, 1) := by decide +kernel
theorem dX5_put_68 : decode cX5_put 68 = .ok (.imul, 1) := by decide +kernel
theorem dX5_put_69 : decode cX5_put 69 = .ok (.iload_n 2, 1) := by decide +kernel
theorem dX5_put_70 : decode cX5_put 70 = .ok (.iadd, 1) := by decide +kernel
theorem dX5_put_71 : decode cX5_put 71 = .ok (.iload_n 3, 1) := by decide +kernel
theorem dX5_put_72 : decode cX5_put 72 = .ok (.i2b, 1) := by decide +kernel
theorem dX5_put_73 : decode cX5_put 73 = .ok (.iastore, 1) := by decide +kernel
theorem dX5_put_74 : decode cX5_put 74 = .ok (.iload 4, 2) := by decide +kernel
theorem dX5_put_76 : decode cX5_put 76 = .ok (.sipush 1000, 3) := by decide +kernel
theorem dX5_put_79 : decode cX5_put 79 = .ok (.iadd, 1) := by decide +kernel
theorem dX5_put_80 : decode cX5_put 80 = .ok (.ireturn, 1) := by decide +kernel
theorem dX5_copies_0 : decode cX5_copies 0 = .ok (.iconst 0, 1) := by decide +kernel
theorem dX5_copies_1 : decode cX5_copies 1 = .ok (.istore 5, 2) := by decide +kernel
theorem dX5_copies_3 : decode cX5_copies 3 = .ok (.iload 5, 2) := by decide +kernel
theorem dX5_copies_5 : decode cX5_copies 5 = .ok (.iload 4, 2) := by decide +kernel
theorem dX5_copies_7 : decode cX5_copies 7 = .ok (.if_icmp .ge 21, 3) := by decide +kernel
theorem dX5_copies_10 : decode cX5_copies 10 = .ok (.aload_n 2, 1) := by decide +kernel
theorem dX5_copies_11 : decode cX5_copies 11 = .ok (.iload_n 3, 1) := by decide +kernel
theorem dX5_copies_12 : decode cX5_copies 12 = .ok (.iload 5, 2) := by decide +kernel
theorem dX5_copies_14 : decode cX5_copies 14 = .ok (.iadd, 1) := by decide +kernel
theorem dX5_copies_15 : decode cX5_copies 15 = .ok (.aload_n 0, 1) := by decide +kernel
theorem dX5_copies_16 : decode cX5_copies 16 = .ok (.iload_n 1, 1) := by decide +kernel
theorem dX5_copies_17 : decode cX5_copies 17 = .ok (.iload 5, 2) := by decide +kernel
theorem dX5_copies_19 : decode cX5_copies 19 = .ok (.iadd, 1) := by decide +kernel
theorem dX5_copies_20 : decode cX5_copies 20 = .ok (.iaload, 1) := by decide +kernel
theorem dX5_copies_21 : decode cX5_copies 21 = .ok (.iastore, 1) := by decide +kernel
theorem dX5_copies_22 : decode cX5_copies 22 = .ok (.iinc 5 1, 3) := by decide +kernel
theorem dX5_copies_25 : decode cX5_copies 25 = .ok (.goto (-22), 3) := by decide +kernel
theorem dX5_copies_28 : decode cX5_copies 28 = .ok (.return_, 1) := by decide +kernel
theorem dX5_begins_0 : decode cX5_begins 0 = .ok (.aload_n 0, 1) := by decide +kernel
theorem dX5_begins_1 : decode cX5_begins 1 = .ok (.getfield 35, 3) := by decide +kernel
theorem dX5_begins_4 : decode cX5_begins 4 = .ok (.iconst 0, 1) := by decide +kernel
theorem dX5_begins_5 : decode cX5_begins 5 = .ok (.iconst 0, 1) := by decide +kernel
theorem dX5_begins_6 : decode cX5_begins 6 = .ok (.iastore, 1) := by decide +kernel
theorem dX5_begins_7 : decode cX5_begins 7 = .ok (.aload_n 0, 1) := by decide +kernel
theorem dX5_begins_8 : decode cX5_begins 8 = .ok (.getfield 35, 3) := by decide +kernel
theorem dX5_begins_11 : decode cX5_begins 11 = .ok (.iconst 1, 1) := by decide +kernel
theorem dX5_begins_12 : decode cX5_begins 12 = .ok (.iconst 0, 1) := by decide +kernel
theorem dX5_begins_13 : decode cX5_begins 13 = .ok (.iastore, 1) := by decide +kernel
theorem dX5_begins_14 : decode cX5_begins 14 = .ok (.aload_n 0, 1) := by decide +kernel
theorem dX5_begins_15 : decode cX5_begins 15 = .ok (.getfield 35, 3) := by decide +kernel
theorem dX5_begins_18 : decode cX5_begins 18 = .ok (.iconst 2, 1) := by decide +kernel
theorem dX5_begins_19 : decode cX5_begins 19 = .ok (.iconst 1, 1) := by decide +kernel
theorem dX5_begins_20 : decode cX5_begins 20 = .ok (.aload_n 0, 1) := by decide +kernel
theorem dX5_begins_21 : decode cX5_begins 21 = .ok (.getfield 97, 3) := by decide +kernel
theorem dX5_begins_24 : decode cX5_begins 24 = .ok (.ishl, 1) := by decide +kernel
theorem dX5_begins_25 : decode cX5_begins 25 = .ok (.iconst 1, 1) := by decide +kernel
theorem dX5_begins_26 : decode cX5_begins 26 = .ok (.isub, 1) := by decide +kernel
theorem dX5_begins_27 : decode cX5_begins 27 = .ok (.iastore, 1) := by decide +kernel
theorem dX5_begins_28 : decode cX5_begins 28 = .ok (.aload_n 0, 1) := by decide +kernel
theorem dX5_begins_29 : decode cX5_begins 29 = .ok (.iconst 0, 1) := by decide +kernel
theorem dX5_begins_30 : decode cX5_begins 30 = .ok (.putfield 100, 3) := by decide +kernel
theorem dX5_begins_33 : decode cX5_begins 33 = .ok (.iconst 0, 1) := by decide +kernel
theorem dX5_begins_34 : decode cX5_begins 34 = .ok (.istore_n 1, 1) := by decide +kernel
theorem dX5_begins_35 : decode cX5_begins 35 = .ok (.iload_n 1, 1) := by decide +kernel
theorem dX5_begins_36 : decode cX5_begins 36 = .ok (.iconst 3, 1) := by decide +kernel
theorem dX5_begins_37 : decode cX5_begins 37 = .ok (.if_icmp .ge 20, 3) := by decide +kernel
theorem dX5_begins_40 : decode cX5_begins 40 = .ok (.aload_n 0, 1) := by decide +kernel
theorem dX5_begins_41 : decode cX5_begins 41 = .ok (.getfield 44, 3) := by decide +kernel
theorem dX5_begins_44 : decode cX5_begins 44 = .ok (.sipush 370, 3) := by decide +kernel
theorem dX5_begins_47 : decode cX5_begins 47 = .ok (.iload_n 1, 1) := by decide +kernel
theorem dX5_begins_48 : decode cX5_begins 48 = .ok (.imul, 1) := by decide +kernel
theorem dX5_begins_49 : decode cX5_begins 49 = .ok (.iconst (-1), 1) := by decide +kernel
theorem dX5_begins_50 : decode cX5_begins 50 = .ok (.iastore, 1) := by decide +kernel
theorem dX5_begins_51 : decode cX5_begins 51 = .ok (.iinc 1 1, 3) := by decide +kernel
theorem dX5_begins_54 : decode cX5_begins 54 = .ok (.goto (-19), 3) := by decide +kernel
theorem dX5_begins_57 : decode cX5_begins 57 = .ok (.return_, 1) := by decide +kernel
theorem dX5_here_0 : decode cX5_here 0 = .ok (.aload_n 0, 1) := by decide +kernel
theorem dX5_here_1 : decode cX5_here 1 = .ok (.getfield 103, 3) := by decide +kernel
theorem dX5_here_4 : decode cX5_here 4 = .ok (.aload_n 0, 1) := by decide +kernel
theorem dX5_here_5 : decode cX5_here 5 = .ok (.getfield 106, 3) := by decide +kernel
theorem dX5_here_8 : decode cX5_here 8 = .ok (.if_icmp .ge 23, 3) := by decide +kernel
theorem dX5_here_11 : decode cX5_here 11 = .ok (.aload_n 0, 1) := by decide +kernel
theorem dX5_here_12 : decode cX5_here 12 = .ok (.getfield 16, 3) := by decide +kernel
theorem dX5_here_15 : decode cX5_here 15 = .ok (.bipush 60, 2) := by decide +kernel
theorem dX5_here_17 : decode cX5_here 17 = .ok (.aload_n 0, 1) := by decide +kernel
theorem dX5_here_18 : decode cX5_here 18 = .ok (.getfield 109, 3) := by decide +kernel
theorem dX5_here_21 : decode cX5_here 21 = .ok (.imul, 1) := by decide +kernel
theorem dX5_here_22 : decode cX5_here 22 = .ok (.aload_n 0, 1) := by decide +kernel
theorem dX5_here_23 : decode cX5_here 23 = .ok (.getfield 103, 3) := by decide +kernel
theorem dX5_here_26 : decode cX5_here 26 = .ok (.iadd, 1) := by decide +kernel
theorem dX5_here_27 : decode cX5_here 27 = .ok (.iaload, 1) := by decide +kernel
theorem dX5_here_28 : decode cX5_here 28 = .ok (.goto 4, 3) := by decide +kernel
theorem dX5_here_31 : decode cX5_here 31 = .ok (.iconst (-1), 1) := by decide +kernel
theorem dX5_here_32 : decode cX5_here 32 = .ok (.ireturn, 1) := by decide +kernel
theorem dX5_kindOf_0 : decode cX5_kindOf 0 = .ok (.iload_n 0, 1) := by decide +kernel
theorem dX5_kindOf_1 : decode cX5_kindOf 1 = .ok (.tableswitch 99 98 115 #[91, 89, 99, 99, 99, 95, 99, 93, 99, 99, 97, 99, 99, 99, 99, 99, 99, 87], 87) := by decide +kernel
theorem dX5_kindOf_88 : decode cX5_kindOf 88 = .ok (.iconst 0, 1) := by decide +kernel
theorem dX5_kindOf_89 : decode cX5_kindOf 89 = .ok (.ireturn, 1) := by decide +kernel
theorem dX5_kindOf_90 : decode cX5_kindOf 90 = .ok (.iconst 1, 1) := by decide +kernel
theorem dX5_kindOf_91 : decode cX5_kindOf 91 = .ok (.ireturn, 1) := by decide +kernel
theorem dX5_kindOf_92 : decode cX5_kindOf 92 = .ok (.iconst 2, 1) := by decide +kernel
theorem dX5_kindOf_93 : decode cX5_kindOf 93 = .ok (.ireturn, 1) := by decide +kernel
theorem dX5_kindOf_94 : decode cX5_kindOf 94 = .ok (.iconst 3, 1) := by decide +kernel
theorem dX5_kindOf_95 : decode cX5_kindOf 95 = .ok (.ireturn, 1) := by decide +kernel
theorem dX5_kindOf_96 : decode cX5_kindOf 96 = .ok (.iconst 4, 1) := by decide +kernel
theorem dX5_kindOf_97 : decode cX5_kindOf 97 = .ok (.ireturn, 1) := by decide +kernel
theorem dX5_kindOf_98 : decode cX5_kindOf 98 = .ok (.iconst 5, 1) := by decide +kernel
theorem dX5_kindOf_99 : decode cX5_kindOf 99 = .ok (.ireturn, 1) := by decide +kernel
theorem dX5_kindOf_100 : decode cX5_kindOf 100 = .ok (.bipush (-9), 2) := by decide +kernel
theorem dX5_kindOf_102 : decode cX5_kindOf 102 = .ok (.ireturn, 1) := by decide +kernel
theorem dX5_isFigure_0 : decode cX5_isFigure 0 = .ok (.aload_n 0, 1) := by decide +kernel
theorem dX5_isFigure_1 : decode cX5_isFigure 1 = .ok (.invokevirtual 112, 3) := by decide +kernel
theorem dX5_isFigure_4 : decode cX5_isFigure 4 = .ok (.i2l, 1) := by decide +kernel
theorem dX5_isFigure_5 : decode cX5_isFigure 5 = .ok (.ldc2_w 116, 3) := by decide +kernel
theorem dX5_isFigure_8 : decode cX5_isFigure 8 = .ok (.ldc2_w 118, 3) := by decide +kernel
theorem dX5_isFigure_11 : decode cX5_isFigure 11 = .ok (.invokestatic 77, 3) := by decide +kernel
theorem dX5_isFigure_14 : decode cX5_isFigure 14 = .ok (.ifCond .ne 5, 3) := by decide +kernel
theorem dX5_isFigure_17 : decode cX5_isFigure 17 = .ok (.iconst 0, 1) := by decide +kernel
theorem dX5_isFigure_18 : decode cX5_isFigure 18 = .ok (.ireturn, 1) := by decide +kernel
theorem dX5_isFigure_19 : decode cX5_isFigure 19 = .ok (.aload_n 0, 1) := by decide +kernel
theorem dX5_isFigure_20 : decode cX5_isFigure 20 = .ok (.aload_n 0, 1) := by decide +kernel
theorem dX5_isFigure_21 : decode cX5_isFigure 21 = .ok (.invokevirtual 112, 3) := by decide +kernel
theorem dX5_isFigure_24 : decode cX5_isFigure 24 = .ok (.bipush 48, 2) := by decide +kernel
theorem dX5_isFigure_26 : decode cX5_isFigure 26 = .ok (.isub, 1) := by decide +kernel
theorem dX5_isFigure_27 : decode cX5_isFigure 27 = .ok (.putfield 120, 3) := by decide +kernel
theorem dX5_isFigure_30 : decode cX5_isFigure 30 = .ok (.aload_n 0, 1) := by decide +kernel
theorem dX5_isFigure_31 : decode cX5_isFigure 31 = .ok (.dup, 1) := by decide +kernel
theorem dX5_isFigure_32 : decode cX5_isFigure 32 = .ok (.getfield 103, 3) := by decide +kernel
theorem dX5_isFigure_35 : decode cX5_isFigure 35 = .ok (.iconst 1, 1) := by decide +kernel
theorem dX5_isFigure_36 : decode cX5_isFigure 36 = .ok (.iadd, 1) := by decide +kernel
theorem dX5_isFigure_37 : decode cX5_isFigure 37 = .ok (.putfield 103, 3) := by decide +kernel
theorem dX5_isFigure_40 : decode cX5_isFigure 40 = .ok (.iconst 1, 1) := by decide +kernel
theorem dX5_isFigure_41 : decode cX5_isFigure 41 = .ok (.ireturn, 1) := by decide +kernel
theorem dX5_areFigures_0 : decode cX5_areFigures 0 = .ok (.aload_n 0, 1) := by decide +kernel
theorem dX5_areFigures_1 : decode cX5_areFigures 1 = .ok (.getfield 103, 3) := by decide +kernel
theorem dX5_areFigures_4 : decode cX5_areFigures 4 = .ok (.istore_n 3, 1) := by decide +kernel
theorem dX5_areFigures_5 : decode cX5_areFigures 5 = .ok (.aload_n 0, 1) := by decide +kernel
theorem dX5_areFigures_6 : decode cX5_areFigures 6 = .ok (.invokevirtual 123, 3) := by decide +kernel
theorem dX5_areFigures_9 : decode cX5_areFigures 9 = .ok (.ifCond .ne 5, 3) := by decide +kernel
theorem dX5_areFigures_12 : decode cX5_areFigures 12 = .ok (.iconst 0, 1) := by decide +kernel
theorem dX5_areFigures_13 : decode cX5_areFigures 13 = .ok (.ireturn, 1) := by decide +kernel
theorem dX5_areFigures_14 : decode cX5_areFigures 14 = .ok (.aload_n 0, 1) := by decide +kernel
theorem dX5_areFigures_15 : decode cX5_areFigures 15 = .ok (.getfield 120, 3) := by decide +kernel
theorem dX5_areFigures_18 : decode cX5_areFigures 18 = .ok (.istore 4, 2) := by decide +kernel
theorem dX5_areFigures_20 : decode cX5_areFigures 20 = .ok (.aload_n 0, 1) := by decide +kernel
theorem dX5_areFigures_21 : decode cX5_areFigures 21 = .ok (.invokevirtual 123, 3) := by decide +kernel
theorem dX5_areFigures_24 : decode cX5_areFigures 24 = .ok (.ifCond .ne 5, 3) := by decide +kernel
theorem dX5_areFigures_27 : decode cX5_areFigures 27 = .ok (.iconst 0, 1) := by decide +kernel
theorem dX5_areFigures_28 : decode cX5_areFigures 28 = .ok (.ireturn, 1) := by decide +kernel
theorem dX5_areFigures_29 : decode cX5_areFigures 29 = .ok (.aload_n 0, 1) := by decide +kernel
theorem dX5_areFigures_30 : decode cX5_areFigures 30 = .ok (.dup, 1) := by decide +kernel
theorem dX5_areFigures_31 : decode cX5_areFigures 31 = .ok (.getfield 120, 3) := by decide +kernel
theorem dX5_areFigures_34 : decode cX5_areFigures 34 = .ok (.bipush 10, 2) := by decide +kernel
theorem dX5_areFigures_36 : decode cX5_areFigures 36 = .ok (.iload 4, 2) := by decide +kernel
theorem dX5_areFigures_38 : decode cX5_areFigures 38 = .ok (.imul, 1) := by decide +kernel
theorem dX5_areFigures_39 : decode cX5_areFigures 39 = .ok (.iadd, 1) := by decide +kernel
theorem dX5_areFigures_40 : decode cX5_areFigures 40 = .ok (.putfield 120, 3) := by decide +kernel
theorem dX5_areFigures_43 : decode cX5_areFigures 43 = .ok (.aload_n 0, 1) := by decide +kernel
theorem dX5_areFigures_44 : decode cX5_areFigures 44 = .ok (.aload_n 0, 1) := by decide +kernel
theorem dX5_areFigures_45 : decode cX5_areFigures 45 = .ok (.getfield 120, 3) := by decide +kernel
theorem dX5_areFigures_48 : decode cX5_areFigures 48 = .ok (.i2l, 1) := by decide +kernel
theorem dX5_areFigures_49 : decode cX5_areFigures 49 = .ok (.iload_n 1, 1) := by decide +kernel
theorem dX5_areFigures_50 : decode cX5_areFigures 50 = .ok (.i2l, 1) := by decide +kernel
theorem dX5_areFigures_51 : decode cX5_areFigures 51 = .ok (.iload_n 2, 1) := by decide +kernel
theorem dX5_areFigures_52 : decode cX5_areFigures 52 = .ok (.i2l, 1) := by decide +kernel
theorem dX5_areFigures_53 : decode cX5_areFigures 53 = .ok (.invokestatic 77, 3) := by decide +kernel
theorem dX5_areFigures_56 : decode cX5_areFigures 56 = .ok (.ifCond .eq 10, 3) := by decide +kernel
theorem dX5_areFigures_59 : decode cX5_areFigures 59 = .ok (.aload_n 0, 1) := by decide +kernel
theorem dX5_areFigures_60 : decode cX5_areFigures 60 = .ok (.getfield 103, 3) := by decide +kernel
theorem dX5_areFigures_63 : decode cX5_areFigures 63 = .ok (.goto 4, 3) := by decide +kernel
theorem dX5_areFigures_66 : decode cX5_areFigures 66 = .ok (.iload_n 3, 1) := by decide +kernel
theorem dX5_areFigures_67 : decode cX5_areFigures 67 = .ok (.putfield 103, 3) := by decide +kernel
theorem dX5_areFigures_70 : decode cX5_areFigures 70 = .ok (.aload_n 0, 1) := by decide +kernel
theorem dX5_areFigures_71 : decode cX5_areFigures 71 = .ok (.getfield 120, 3) := by decide +kernel
theorem dX5_areFigures_74 : decode cX5_areFigures 74 = .ok (.i2l, 1) := by decide +kernel
theorem dX5_areFigures_75 : decode cX5_areFigures 75 = .ok (.iload_n 1, 1) := by decide +kernel
theorem dX5_areFigures_76 : decode cX5_areFigures 76 = .ok (.i2l, 1) := by decide +kernel
theorem dX5_areFigures_77 : decode cX5_areFigures 77 = .ok (.iload_n 2, 1) := by decide +kernel
theorem dX5_areFigures_78 : decode cX5_areFigures 78 = .ok (.i2l, 1) := by decide +kernel
theorem dX5_areFigures_79 : decode cX5_areFigures 79 = .ok (.invokestatic 77, 3) := by decide +kernel
theorem dX5_areFigures_82 : decode cX5_areFigures 82 = .ok (.ireturn, 1) := by decide +kernel
theorem dX5_skips_0 : decode cX5_skips 0 = .ok (.aload_n 0, 1) := by decide +kernel
theorem dX5_skips_1 : decode cX5_skips 1 = .ok (.invokevirtual 112, 3) := by decide +kernel
theorem dX5_skips_4 : decode cX5_skips 4 = .ok (.bipush 32, 2) := by decide +kernel
theorem dX5_skips_6 : decode cX5_skips 6 = .ok (.if_icmp .ne 16, 3) := by decide +kernel
theorem dX5_skips_9 : decode cX5_skips 9 = .ok (.aload_n 0, 1) := by decide +kernel
theorem dX5_skips_10 : decode cX5_skips 10 = .ok (.dup, 1) := by decide +kernel
theorem dX5_skips_11 : decode cX5_skips 11 = .ok (.getfield 103, 3) := by decide +kernel
theorem dX5_skips_14 : decode cX5_skips 14 = .ok (.iconst 1, 1) := by decide +kernel
theorem dX5_skips_15 : decode cX5_skips 15 = .ok (.iadd, 1) := by decide +kernel
theorem dX5_skips_16 : decode cX5_skips 16 = .ok (.putfield 103, 3) := by decide +kernel
theorem dX5_skips_19 : decode cX5_skips 19 = .ok (.goto (-19), 3) := by decide +kernel
theorem dX5_skips_22 : decode cX5_skips 22 = .ok (.return_, 1) := by decide +kernel
theorem dX5_readsHead_0 : decode cX5_readsHead 0 = .ok (.aload_n 0, 1) := by decide +kernel
theorem dX5_readsHead_1 : decode cX5_readsHead 1 = .ok (.invokevirtual 127, 3) := by decide +kernel
theorem dX5_readsHead_4 : decode cX5_readsHead 4 = .ok (.aload_n 0, 1) := by decide +kernel
theorem dX5_readsHead_5 : decode cX5_readsHead 5 = .ok (.invokevirtual 112, 3) := by decide +kernel
theorem dX5_readsHead_8 : decode cX5_readsHead 8 = .ok (.bipush 110, 2) := by decide +kernel
theorem dX5_readsHead_10 : decode cX5_readsHead 10 = .ok (.if_icmp .eq 5, 3) := by decide +kernel
theorem dX5_readsHead_13 : decode cX5_readsHead 13 = .ok (.iconst 0, 1) := by decide +kernel
theorem dX5_readsHead_14 : decode cX5_readsHead 14 = .ok (.ireturn, 1) := by decide +kernel
theorem dX5_readsHead_15 : decode cX5_readsHead 15 = .ok (.aload_n 0, 1) := by decide +kernel
theorem dX5_readsHead_16 : decode cX5_readsHead 16 = .ok (.dup, 1) := by decide +kernel
theorem dX5_readsHead_17 : decode cX5_readsHead 17 = .ok (.getfield 103, 3) := by decide +kernel
theorem dX5_readsHead_20 : decode cX5_readsHead 20 = .ok (.iconst 1, 1) := by decide +kernel
theorem dX5_readsHead_21 : decode cX5_readsHead 21 = .ok (.iadd, 1) := by decide +kernel
theorem dX5_readsHead_22 : decode cX5_readsHead 22 = .ok (.putfield 103, 3) := by decide +kernel
theorem dX5_readsHead_25 : decode cX5_readsHead 25 = .ok (.aload_n 0, 1) := by decide +kernel
theorem dX5_readsHead_26 : decode cX5_readsHead 26 = .ok (.iconst 5, 1) := by decide +kernel
theorem dX5_readsHead_27 : decode cX5_readsHead 27 = .ok (.bipush 20, 2) := by decide +kernel
theorem dX5_readsHead_29 : decode cX5_readsHead 29 = .ok (.invokevirtual 130, 3) := by decide +kernel
theorem dX5_readsHead_32 : decode cX5_readsHead 32 = .ok (.ifCond .ne 5, 3) := by decide +kernel
theorem dX5_readsHead_35 : decode cX5_readsHead 35 = .ok (.iconst 0, 1) := by decide +kernel
theorem dX5_readsHead_36 : decode cX5_readsHead 36 = .ok (.ireturn, 1) := by decide +kernel
theorem dX5_readsHead_37 : decode cX5_readsHead 37 = .ok (.aload_n 0, 1) := by decide +kernel
theorem dX5_readsHead_38 : decode cX5_readsHead 38 = .ok (.aload_n 0, 1) := by decide +kernel
theorem dX5_readsHead_39 : decode cX5_readsHead 39 = .ok (.getfield 120, 3) := by decide +kernel
theorem dX5_readsHead_42 : decode cX5_readsHead 42 = .ok (.putfield 134, 3) := by decide +kernel
theorem dX5_readsHead_45 : decode cX5_readsHead 45 = .ok (.aload_n 0, 1) := by decide +kernel
theorem dX5_readsHead_46 : decode cX5_readsHead 46 = .ok (.iconst 0, 1) := by decide +kernel
theorem dX5_readsHead_47 : decode cX5_readsHead 47 = .ok (.bipush 60, 2) := by decide +kernel
theorem dX5_readsHead_49 : decode cX5_readsHead 49 = .ok (.invokevirtual 130, 3) := by decide +kernel
theorem dX5_readsHead_52 : decode cX5_readsHead 52 = .ok (.ifCond .ne 5, 3) := by decide +kernel
theorem dX5_readsHead_55 : decode cX5_readsHead 55 = .ok (.iconst 0, 1) := by decide +kernel
theorem dX5_readsHead_56 : decode cX5_readsHead 56 = .ok (.ireturn, 1) := by decide +kernel
theorem dX5_readsHead_57 : decode cX5_readsHead 57 = .ok (.aload_n 0, 1) := by decide +kernel
theorem dX5_readsHead_58 : decode cX5_readsHead 58 = .ok (.aload_n 0, 1) := by decide +kernel
theorem dX5_readsHead_59 : decode cX5_readsHead 59 = .ok (.getfield 120, 3) := by decide +kernel
theorem dX5_readsHead_62 : decode cX5_readsHead 62 = .ok (.putfield 137, 3) := by decide +kernel
theorem dX5_readsHead_65 : decode cX5_readsHead 65 = .ok (.iconst 1, 1) := by decide +kernel
theorem dX5_readsHead_66 : decode cX5_readsHead 66 = .ok (.ireturn, 1) := by decide +kernel
theorem dX5_readsSleeper_0 : decode cX5_readsSleeper 0 = .ok (.aload_n 0, 1) := by decide +kernel
theorem dX5_readsSleeper_1 : decode cX5_readsSleeper 1 = .ok (.invokevirtual 112, 3) := by decide +kernel
theorem dX5_readsSleeper_4 : decode cX5_readsSleeper 4 = .ok (.invokestatic 140, 3) := by decide +kernel
theorem dX5_readsSleeper_7 : decode cX5_readsSleeper 7 = .ok (.istore_n 1, 1) := by decide +kernel
theorem dX5_readsSleeper_8 : decode cX5_readsSleeper 8 = .ok (.iload_n 1, 1) := by decide +kernel
theorem dX5_readsSleeper_9 : decode cX5_readsSleeper 9 = .ok (.bipush (-9), 2) := by decide +kernel
theorem dX5_readsSleeper_11 : decode cX5_readsSleeper 11 = .ok (.if_icmp .eq 12, 3) := by decide +kernel
theorem dX5_readsSleeper_14 : decode cX5_readsSleeper 14 = .ok (.aload_n 0, 1) := by decide +kernel
theorem dX5_readsSleeper_15 : decode cX5_readsSleeper 15 = .ok (.getfield 143, 3) := by decide +kernel
theorem dX5_readsSleeper_18 : decode cX5_readsSleeper 18 = .ok (.bipush 6, 2) := by decide +kernel
theorem dX5_readsSleeper_20 : decode cX5_readsSleeper 20 = .ok (.if_icmp .ne 5, 3) := by decide +kernel
theorem dX5_readsSleeper_23 : decode cX5_readsSleeper 23 = .ok (.iconst 0, 1) := by decide +kernel
theorem dX5_readsSleeper_24 : decode cX5_readsSleeper 24 = .ok (.ireturn, 1) := by decide +kernel
theorem dX5_readsSleeper_25 : decode cX5_readsSleeper 25 = .ok (.aload_n 0, 1) := by decide +kernel
theorem dX5_readsSleeper_26 : decode cX5_readsSleeper 26 = .ok (.dup, 1) := by decide +kernel
theorem dX5_readsSleeper_27 : decode cX5_readsSleeper 27 = .ok (.getfield 103, 3) := by decide +kernel
theorem dX5_readsSleeper_30 : decode cX5_readsSleeper 30 = .ok (.iconst 1, 1) := by decide +kernel
theorem dX5_readsSleeper_31 : decode cX5_readsSleeper 31 = .ok (.iadd, 1) := by decide +kernel
theorem dX5_readsSleeper_32 : decode cX5_readsSleeper 32 = .ok (.putfield 103, 3) := by decide +kernel
theorem dX5_readsSleeper_35 : decode cX5_readsSleeper 35 = .ok (.aload_n 0, 1) := by decide +kernel
theorem dX5_readsSleeper_36 : decode cX5_readsSleeper 36 = .ok (.iconst 0, 1) := by decide +kernel
theorem dX5_readsSleeper_37 : decode cX5_readsSleeper 37 = .ok (.aload_n 0, 1) := by decide +kernel
theorem dX5_readsSleeper_38 : decode cX5_readsSleeper 38 = .ok (.getfield 134, 3) := by decide +kernel
theorem dX5_readsSleeper_41 : decode cX5_readsSleeper 41 = .ok (.invokevirtual 130, 3) := by decide +kernel
theorem dX5_readsSleeper_44 : decode cX5_readsSleeper 44 = .ok (.ifCond .ne 5, 3) := by decide +kernel
theorem dX5_readsSleeper_47 : decode cX5_readsSleeper 47 = .ok (.iconst 0, 1) := by decide +kernel
theorem dX5_readsSleeper_48 : decode cX5_readsSleeper 48 = .ok (.ireturn, 1) := by decide +kernel
theorem dX5_readsSleeper_49 : decode cX5_readsSleeper 49 = .ok (.aload_n 0, 1) := by decide +kernel
theorem dX5_readsSleeper_50 : decode cX5_readsSleeper 50 = .ok (.getfield 47, 3) := by decide +kernel
theorem dX5_readsSleeper_53 : decode cX5_readsSleeper 53 = .ok (.aload_n 0, 1) := by decide +kernel
theorem dX5_readsSleeper_54 : decode cX5_readsSleeper 54 = .ok (.getfield 143, 3) := by decide +kernel
theorem dX5_readsSleeper_57 : decode cX5_readsSleeper 57 = .ok (.iload_n 1, 1) := by decide +kernel
theorem dX5_readsSleeper_58 : decode cX5_readsSleeper 58 = .ok (.iastore, 1) := by decide +kernel
theorem dX5_readsSleeper_59 : decode cX5_readsSleeper 59 = .ok (.aload_n 0, 1) := by decide +kernel
theorem dX5_readsSleeper_60 : decode cX5_readsSleeper 60 = .ok (.getfield 50, 3) := by decide +kernel
theorem dX5_readsSleeper_63 : decode cX5_readsSleeper 63 = .ok (.aload_n 0, 1) := by decide +kernel
theorem dX5_readsSleeper_64 : decode cX5_readsSleeper 64 = .ok (.getfield 143, 3) := by decide +kernel
theorem dX5_readsSleeper_67 : decode cX5_readsSleeper 67 = .ok (.aload_n 0, 1) := by decide +kernel
theorem dX5_readsSleeper_68 : decode cX5_readsSleeper 68 = .ok (.getfield 120, 3) := by decide +kernel
theorem dX5_readsSleeper_71 : decode cX5_readsSleeper 71 = .ok (.iastore, 1) := by decide +kernel
theorem dX5_readsSleeper_72 : decode cX5_readsSleeper 72 = .ok (.aload_n 0, 1) := by decide +kernel
theorem dX5_readsSleeper_73 : decode cX5_readsSleeper 73 = .ok (.invokevirtual 123, 3) := by decide +kernel
theorem dX5_readsSleeper_76 : decode cX5_readsSleeper 76 = .ok (.ifCond .ne 5, 3) := by decide +kernel
theorem dX5_readsSleeper_79 : decode cX5_readsSleeper 79 = .ok (.iconst 0, 1) := by decide +kernel
theorem dX5_readsSleeper_80 : decode cX5_readsSleeper 80 = .ok (.ireturn, 1) := by decide +kernel
theorem dX5_readsSleeper_81 : decode cX5_readsSleeper 81 = .ok (.aload_n 0, 1) := by decide +kernel
theorem dX5_readsSleeper_82 : decode cX5_readsSleeper 82 = .ok (.getfield 53, 3) := by decide +kernel
theorem dX5_readsSleeper_85 : decode cX5_readsSleeper 85 = .ok (.aload_n 0, 1) := by decide +kernel
theorem dX5_readsSleeper_86 : decode cX5_readsSleeper 86 = .ok (.getfield 143, 3) := by decide +kernel
theorem dX5_readsSleeper_89 : decode cX5_readsSleeper 89 = .ok (.aload_n 0, 1) := by decide +kernel
theorem dX5_readsSleeper_90 : decode cX5_readsSleeper 90 = .ok (.getfield 120, 3) := by decide +kernel
theorem dX5_readsSleeper_93 : decode cX5_readsSleeper 93 = .ok (.iastore, 1) := by decide +kernel
theorem dX5_readsSleeper_94 : decode cX5_readsSleeper 94 = .ok (.aload_n 0, 1) := by decide +kernel
theorem dX5_readsSleeper_95 : decode cX5_readsSleeper 95 = .ok (.dup, 1) := by decide +kernel
theorem dX5_readsSleeper_96 : decode cX5_readsSleeper 96 = .ok (.getfield 143, 3) := by decide +kernel
theorem dX5_readsSleeper_99 : decode cX5_readsSleeper 99 = .ok (.iconst 1, 1) := by decide +kernel
theorem dX5_readsSleeper_100 : decode cX5_readsSleeper 100 = .ok (.iadd, 1) := by decide +kernel
theorem dX5_readsSleeper_101 : decode cX5_readsSleeper 101 = .ok (.putfield 143, 3) := by decide +kernel
theorem dX5_readsSleeper_104 : decode cX5_readsSleeper 104 = .ok (.iconst 1, 1) := by decide +kernel
theorem dX5_readsSleeper_105 : decode cX5_readsSleeper 105 = .ok (.ireturn, 1) := by decide +kernel
theorem dX5_reads_0 : decode cX5_reads 0 = .ok (.aload_n 0, 1) := by decide +kernel
theorem dX5_reads_1 : decode cX5_reads 1 = .ok (.iload_n 1, 1) := by decide +kernel
theorem dX5_reads_2 : decode cX5_reads 2 = .ok (.putfield 109, 3) := by decide +kernel
theorem dX5_reads_5 : decode cX5_reads 5 = .ok (.aload_n 0, 1) := by decide +kernel
theorem dX5_reads_6 : decode cX5_reads 6 = .ok (.aload_n 0, 1) := by decide +kernel
theorem dX5_reads_7 : decode cX5_reads 7 = .ok (.getfield 19, 3) := by decide +kernel
theorem dX5_reads_10 : decode cX5_reads 10 = .ok (.iload_n 1, 1) := by decide +kernel
theorem dX5_reads_11 : decode cX5_reads 11 = .ok (.iaload, 1) := by decide +kernel
theorem dX5_reads_12 : decode cX5_reads 12 = .ok (.putfield 106, 3) := by decide +kernel
theorem dX5_reads_15 : decode cX5_reads 15 = .ok (.aload_n 0, 1) := by decide +kernel
theorem dX5_reads_16 : decode cX5_reads 16 = .ok (.iconst 0, 1) := by decide +kernel
theorem dX5_reads_17 : decode cX5_reads 17 = .ok (.putfield 103, 3) := by decide +kernel
theorem dX5_reads_20 : decode cX5_reads 20 = .ok (.aload_n 0, 1) := by decide +kernel
theorem dX5_reads_21 : decode cX5_reads 21 = .ok (.iconst 0, 1) := by decide +kernel
theorem dX5_reads_22 : decode cX5_reads 22 = .ok (.putfield 143, 3) := by decide +kernel
theorem dX5_reads_25 : decode cX5_reads 25 = .ok (.aload_n 0, 1) := by decide +kernel
theorem dX5_reads_26 : decode cX5_reads 26 = .ok (.invokevirtual 146, 3) := by decide +kernel
theorem dX5_reads_29 : decode cX5_reads 29 = .ok (.istore_n 2, 1) := by decide +kernel
theorem dX5_reads_30 : decode cX5_reads 30 = .ok (.iload_n 2, 1) := by decide +kernel
theorem dX5_reads_31 : decode cX5_reads 31 = .ok (.ifCond .eq 7, 3) := by decide +kernel
theorem dX5_reads_34 : decode cX5_reads 34 = .ok (.aload_n 0, 1) := by decide +kernel
theorem dX5_reads_35 : decode cX5_reads 35 = .ok (.invokevirtual 127, 3) := by decide +kernel
theorem dX5_reads_38 : decode cX5_reads 38 = .ok (.aload_n 0, 1) := by decide +kernel
theorem dX5_reads_39 : decode cX5_reads 39 = .ok (.getfield 103, 3) := by decide +kernel
theorem dX5_reads_42 : decode cX5_reads 42 = .ok (.aload_n 0, 1) := by decide +kernel
theorem dX5_reads_43 : decode cX5_reads 43 = .ok (.getfield 106, 3) := by decide +kernel
theorem dX5_reads_46 : decode cX5_reads 46 = .ok (.if_icmp .ge 23, 3) := by decide +kernel
theorem dX5_reads_49 : decode cX5_reads 49 = .ok (.iload_n 2, 1) := by decide +kernel
theorem dX5_reads_50 : decode cX5_reads 50 = .ok (.ifCond .eq 19, 3) := by decide +kernel
theorem dX5_reads_53 : decode cX5_reads 53 = .ok (.aload_n 0, 1) := by decide +kernel
theorem dX5_reads_54 : decode cX5_reads 54 = .ok (.invokevirtual 149, 3) := by decide +kernel
theorem dX5_reads_57 : decode cX5_reads 57 = .ok (.istore_n 2, 1) := by decide +kernel
theorem dX5_reads_58 : decode cX5_reads 58 = .ok (.iload_n 2, 1) := by decide +kernel
theorem dX5_reads_59 : decode cX5_reads 59 = .ok (.ifCond .eq (-21), 3) := by decide +kernel
theorem dX5_reads_62 : decode cX5_reads 62 = .ok (.aload_n 0, 1) := by decide +kernel
theorem dX5_reads_63 : decode cX5_reads 63 = .ok (.invokevirtual 127, 3) := by decide +kernel
theorem dX5_reads_66 : decode cX5_reads 66 = .ok (.goto (-28), 3) := by decide +kernel
theorem dX5_reads_69 : decode cX5_reads 69 = .ok (.iload_n 2, 1) := by decide +kernel
theorem dX5_reads_70 : decode cX5_reads 70 = .ok (.ifCond .eq 15, 3) := by decide +kernel
theorem dX5_reads_73 : decode cX5_reads 73 = .ok (.aload_n 0, 1) := by decide +kernel
theorem dX5_reads_74 : decode cX5_reads 74 = .ok (.getfield 143, 3) := by decide +kernel
theorem dX5_reads_77 : decode cX5_reads 77 = .ok (.ifCond .le 8, 3) := by decide +kernel
theorem dX5_reads_80 : decode cX5_reads 80 = .ok (.bipush (-9), 2) := by decide +kernel
theorem dX5_reads_82 : decode cX5_reads 82 = .ok (.goto 7, 3) := by decide +kernel
theorem dX5_reads_85 : decode cX5_reads 85 = .ok (.aload_n 0, 1) := by decide +kernel
theorem dX5_reads_86 : decode cX5_reads 86 = .ok (.getfield 103, 3) := by decide +kernel
theorem dX5_reads_89 : decode cX5_reads 89 = .ok (.ireturn, 1) := by decide +kernel
theorem dX5_fault_0 : decode cX5_fault 0 = .ok (.iload_n 1, 1) := by decide +kernel
theorem dX5_fault_1 : decode cX5_fault 1 = .ok (.invokestatic 94, 3) := by decide +kernel
theorem dX5_fault_4 : decode cX5_fault 4 = .ok (.ifCond .ne 5, 3) := by decide +kernel
theorem dX5_fault_7 : decode cX5_fault 7 = .ok (.iconst (-1), 1) := by decide +kernel
theorem dX5_fault_8 : decode cX5_fault 8 = .ok (.ireturn, 1) := by decide +kernel
theorem dX5_fault_9 : decode cX5_fault 9 = .ok (.aload_n 0, 1) := by decide +kernel
theorem dX5_fault_10 : decode cX5_fault 10 = .ok (.getfield 19, 3) := by decide +kernel
theorem dX5_fault_13 : decode cX5_fault 13 = .ok (.iload_n 1, 1) := by decide +kernel
theorem dX5_fault_14 : decode cX5_fault 14 = .ok (.iaload, 1) := by decide +kernel
theorem dX5_fault_15 : decode cX5_fault 15 = .ok (.ifCond .ge 11, 3) := by decide +kernel
theorem dX5_fault_18 : decode cX5_fault 18 = .ok (.aload_n 0, 1) := by decide +kernel
theorem dX5_fault_19 : decode cX5_fault 19 = .ok (.iconst 1, 1) := by decide +kernel
theorem dX5_fault_20 : decode cX5_fault 20 = .ok (.invokevirtual 87, 3) := by decide +kernel
theorem dX5_fault_23 : decode cX5_fault 23 = .ok (.goto 8, 3) := by decide +kernel
theorem dX5_fault_26 : decode cX5_fault 26 = .ok (.aload_n 0, 1) := by decide +kernel
theorem dX5_fault_27 : decode cX5_fault 27 = .ok (.iload_n 1, 1) := by decide +kernel
theorem dX5_fault_28 : decode cX5_fault 28 = .ok (.invokevirtual 152, 3) := by decide +kernel
theorem dX5_fault_31 : decode cX5_fault 31 = .ok (.ireturn, 1) := by decide +kernel
theorem dX5_line_0 : decode cX5_line 0 = .ok (.iload_n 1, 1) := by decide +kernel
theorem dX5_line_1 : decode cX5_line 1 = .ok (.invokestatic 94, 3) := by decide +kernel
theorem dX5_line_4 : decode cX5_line 4 = .ok (.ifCond .ne 5, 3) := by decide +kernel
theorem dX5_line_7 : decode cX5_line 7 = .ok (.iconst (-1), 1) := by decide +kernel
theorem dX5_line_8 : decode cX5_line 8 = .ok (.ireturn, 1) := by decide +kernel
theorem dX5_line_9 : decode cX5_line 9 = .ok (.aload_n 0, 1) := by decide +kernel
theorem dX5_line_10 : decode cX5_line 10 = .ok (.getfield 19, 3) := by decide +kernel
theorem dX5_line_13 : decode cX5_line 13 = .ok (.iload_n 1, 1) := by decide +kernel
theorem dX5_line_14 : decode cX5_line 14 = .ok (.iaload, 1) := by decide +kernel
theorem dX5_line_15 : decode cX5_line 15 = .ok (.ifCond .ge 9, 3) := by decide +kernel
theorem dX5_line_18 : decode cX5_line 18 = .ok (.aload_n 0, 1) := by decide +kernel
theorem dX5_line_19 : decode cX5_line 19 = .ok (.iconst 1, 1) := by decide +kernel
theorem dX5_line_20 : decode cX5_line 20 = .ok (.invokevirtual 87, 3) := by decide +kernel
theorem dX5_line_23 : decode cX5_line 23 = .ok (.ireturn, 1) := by decide +kernel
theorem dX5_line_24 : decode cX5_line 24 = .ok (.aload_n 0, 1) := by decide +kernel
theorem dX5_line_25 : decode cX5_line 25 = .ok (.iload_n 1, 1) := by decide +kernel
theorem dX5_line_26 : decode cX5_line 26 = .ok (.invokevirtual 152, 3) := by decide +kernel
theorem dX5_line_29 : decode cX5_line 29 = .ok (.bipush (-9), 2) := by decide +kernel
theorem dX5_line_31 : decode cX5_line 31 = .ok (.if_icmp .eq 6, 3) := by decide +kernel
theorem dX5_line_34 : decode cX5_line 34 = .ok (.bipush (-4), 2) := by decide +kernel
theorem dX5_line_36 : decode cX5_line 36 = .ok (.ireturn, 1) := by decide +kernel
theorem dX5_line_37 : decode cX5_line 37 = .ok (.aload_n 0, 1) := by decide +kernel
theorem dX5_line_38 : decode cX5_line 38 = .ok (.aload_n 0, 1) := by decide +kernel
theorem dX5_line_39 : decode cX5_line 39 = .ok (.getfield 143, 3) := by decide +kernel
theorem dX5_line_42 : decode cX5_line 42 = .ok (.putfield 97, 3) := by decide +kernel
theorem dX5_line_45 : decode cX5_line 45 = .ok (.aload_n 0, 1) := by decide +kernel
theorem dX5_line_46 : decode cX5_line 46 = .ok (.aload_n 0, 1) := by decide +kernel
theorem dX5_line_47 : decode cX5_line 47 = .ok (.getfield 134, 3) := by decide +kernel
theorem dX5_line_50 : decode cX5_line 50 = .ok (.putfield 155, 3) := by decide +kernel
theorem dX5_line_53 : decode cX5_line 53 = .ok (.aload_n 0, 1) := by decide +kernel
theorem dX5_line_54 : decode cX5_line 54 = .ok (.aload_n 0, 1) := by decide +kernel
theorem dX5_line_55 : decode cX5_line 55 = .ok (.getfield 137, 3) := by decide +kernel
theorem dX5_line_58 : decode cX5_line 58 = .ok (.putfield 158, 3) := by decide +kernel
theorem dX5_line_61 : decode cX5_line 61 = .ok (.iconst 0, 1) := by decide +kernel
theorem dX5_line_62 : decode cX5_line 62 = .ok (.istore_n 2, 1) := by decide +kernel
theorem dX5_line_63 : decode cX5_line 63 = .ok (.iload_n 2, 1) := by decide +kernel
theorem dX5_line_64 : decode cX5_line 64 = .ok (.bipush 6, 2) := by decide +kernel
theorem dX5_line_66 : decode cX5_line 66 = .ok (.if_icmp .ge 47, 3) := by decide +kernel
theorem dX5_line_69 : decode cX5_line 69 = .ok (.aload_n 0, 1) := by decide +kernel
theorem dX5_line_70 : decode cX5_line 70 = .ok (.getfield 29, 3) := by decide +kernel
theorem dX5_line_73 : decode cX5_line 73 = .ok (.iload_n 2, 1) := by decide +kernel
theorem dX5_line_74 : decode cX5_line 74 = .ok (.aload_n 0, 1) := by decide +kernel
theorem dX5_line_75 : decode cX5_line 75 = .ok (.getfield 47, 3) := by decide +kernel
theorem dX5_line_78 : decode cX5_line 78 = .ok (.iload_n 2, 1) := by decide +kernel
theorem dX5_line_79 : decode cX5_line 79 = .ok (.iaload, 1) := by decide +kernel
theorem dX5_line_80 : decode cX5_line 80 = .ok (.iastore, 1) := by decide +kernel
theorem dX5_line_81 : decode cX5_line 81 = .ok (.aload_n 0, 1) := by decide +kernel
theorem dX5_line_82 : decode cX5_line 82 = .ok (.getfield 32, 3) := by decide +kernel
theorem dX5_line_85 : decode cX5_line 85 = .ok (.iload_n 2, 1) := by decide +kernel
theorem dX5_line_86 : decode cX5_line 86 = .ok (.aload_n 0, 1) := by decide +kernel
theorem dX5_line_87 : decode cX5_line 87 = .ok (.getfield 50, 3) := by decide +kernel
theorem dX5_line_90 : decode cX5_line 90 = .ok (.iload_n 2, 1) := by decide +kernel
theorem dX5_line_91 : decode cX5_line 91 = .ok (.iaload, 1) := by decide +kernel
theorem dX5_line_92 : decode cX5_line 92 = .ok (.iastore, 1) := by decide +kernel
theorem dX5_line_93 : decode cX5_line 93 = .ok (.aload_n 0, 1) := by decide +kernel
theorem dX5_line_94 : decode cX5_line 94 = .ok (.getfield 35, 3) := by decide +kernel
theorem dX5_line_97 : decode cX5_line 97 = .ok (.iconst 3, 1) := by decide +kernel
theorem dX5_line_98 : decode cX5_line 98 = .ok (.iload_n 2, 1) := by decide +kernel
theorem dX5_line_99 : decode cX5_line 99 = .ok (.iadd, 1) := by decide +kernel
theorem dX5_line_100 : decode cX5_line 100 = .ok (.aload_n 0, 1) := by decide +kernel
theorem dX5_line_101 : decode cX5_line 101 = .ok (.getfield 53, 3) := by decide +kernel
theorem dX5_line_104 : decode cX5_line 104 = .ok (.iload_n 2, 1) := by decide +kernel
theorem dX5_line_105 : decode cX5_line 105 = .ok (.iaload, 1) := by decide +kernel
theorem dX5_line_106 : decode cX5_line 106 = .ok (.iastore, 1) := by decide +kernel
theorem dX5_line_107 : decode cX5_line 107 = .ok (.iinc 2 1, 3) := by decide +kernel
theorem dX5_line_110 : decode cX5_line 110 = .ok (.goto (-47), 3) := by decide +kernel
theorem dX5_line_113 : decode cX5_line 113 = .ok (.aload_n 0, 1) := by decide +kernel
theorem dX5_line_114 : decode cX5_line 114 = .ok (.invokevirtual 65, 3) := by decide +kernel
theorem dX5_line_117 : decode cX5_line 117 = .ok (.aload_n 0, 1) := by decide +kernel
theorem dX5_line_118 : decode cX5_line 118 = .ok (.getfield 97, 3) := by decide +kernel
theorem dX5_line_121 : decode cX5_line 121 = .ok (.ireturn, 1) := by decide +kernel
theorem dX5_isOne_0 : decode cX5_isOne 0 = .ok (.iload_n 1, 1) := by decide +kernel
theorem dX5_isOne_1 : decode cX5_isOne 1 = .ok (.i2l, 1) := by decide +kernel
theorem dX5_isOne_2 : decode cX5_isOne 2 = .ok (.lconst 0, 1) := by decide +kernel
theorem dX5_isOne_3 : decode cX5_isOne 3 = .ok (.aload_n 0, 1) := by decide +kernel
theorem dX5_isOne_4 : decode cX5_isOne 4 = .ok (.getfield 97, 3) := by decide +kernel
theorem dX5_isOne_7 : decode cX5_isOne 7 = .ok (.iconst 1, 1) := by decide +kernel
theorem dX5_isOne_8 : decode cX5_isOne 8 = .ok (.isub, 1) := by decide +kernel
theorem dX5_isOne_9 : decode cX5_isOne 9 = .ok (.i2l, 1) := by decide +kernel
theorem dX5_isOne_10 : decode cX5_isOne 10 = .ok (.invokestatic 77, 3) := by decide +kernel
theorem dX5_isOne_13 : decode cX5_isOne 13 = .ok (.ireturn, 1) := by decide +kernel
theorem dX5_dreamsBy_0 : decode cX5_dreamsBy 0 = .ok (.iload_n 2, 1) := by decide +kernel
theorem dX5_dreamsBy_1 : decode cX5_dreamsBy 1 = .ok (.iload_n 1, 1) := by decide +kernel
theorem dX5_dreamsBy_2 : decode cX5_dreamsBy 2 = .ok (.iadd, 1) := by decide +kernel
theorem dX5_dreamsBy_3 : decode cX5_dreamsBy 3 = .ok (.bipush 6, 2) := by decide +kernel
theorem dX5_dreamsBy_5 : decode cX5_dreamsBy 5 = .ok (.irem, 1) := by decide +kernel
theorem dX5_dreamsBy_6 : decode cX5_dreamsBy 6 = .ok (.istore_n 3, 1) := by decide +kernel
theorem dX5_dreamsBy_7 : decode cX5_dreamsBy 7 = .ok (.iload_n 2, 1) := by decide +kernel
theorem dX5_dreamsBy_8 : decode cX5_dreamsBy 8 = .ok (.iload_n 1, 1) := by decide +kernel
theorem dX5_dreamsBy_9 : decode cX5_dreamsBy 9 = .ok (.iadd, 1) := by decide +kernel
theorem dX5_dreamsBy_10 : decode cX5_dreamsBy 10 = .ok (.iconst 5, 1) := by decide +kernel
theorem dX5_dreamsBy_11 : decode cX5_dreamsBy 11 = .ok (.irem, 1) := by decide +kernel
theorem dX5_dreamsBy_12 : decode cX5_dreamsBy 12 = .ok (.ifCond .ne 7, 3) := by decide +kernel
theorem dX5_dreamsBy_15 : decode cX5_dreamsBy 15 = .ok (.iconst 1, 1) := by decide +kernel
theorem dX5_dreamsBy_16 : decode cX5_dreamsBy 16 = .ok (.goto 4, 3) := by decide +kernel
theorem dX5_dreamsBy_19 : decode cX5_dreamsBy 19 = .ok (.iconst 0, 1) := by decide +kernel
theorem dX5_dreamsBy_20 : decode cX5_dreamsBy 20 = .ok (.istore 4, 2) := by decide +kernel
theorem dX5_dreamsBy_22 : decode cX5_dreamsBy 22 = .ok (.iload_n 0, 1) := by decide +kernel
theorem dX5_dreamsBy_23 : decode cX5_dreamsBy 23 = .ok (.tableswitch 116 1 5 #[33, 44, 60, 77, 94], 33) := by decide +kernel
theorem dX5_dreamsBy_56 : decode cX5_dreamsBy 56 = .ok (.iload_n 3, 1) := by decide +kernel
theorem dX5_dreamsBy_57 : decode cX5_dreamsBy 57 = .ok (.iconst 4, 1) := by decide +kernel
theorem dX5_dreamsBy_58 : decode cX5_dreamsBy 58 = .ok (.if_icmp .ge 7, 3) := by decide +kernel
theorem dX5_dreamsBy_61 : decode cX5_dreamsBy 61 = .ok (.iconst 1, 1) := by decide +kernel
theorem dX5_dreamsBy_62 : decode cX5_dreamsBy 62 = .ok (.goto 4, 3) := by decide +kernel
theorem dX5_dreamsBy_65 : decode cX5_dreamsBy 65 = .ok (.iconst 0, 1) := by decide +kernel
theorem dX5_dreamsBy_66 : decode cX5_dreamsBy 66 = .ok (.ireturn, 1) := by decide +kernel
theorem dX5_dreamsBy_67 : decode cX5_dreamsBy 67 = .ok (.iload_n 3, 1) := by decide +kernel
theorem dX5_dreamsBy_68 : decode cX5_dreamsBy 68 = .ok (.iconst 2, 1) := by decide +kernel
theorem dX5_dreamsBy_69 : decode cX5_dreamsBy 69 = .ok (.if_icmp .lt 8, 3) := by decide +kernel
theorem dX5_dreamsBy_72 : decode cX5_dreamsBy 72 = .ok (.iload 4, 2) := by decide +kernel
theorem dX5_dreamsBy_74 : decode cX5_dreamsBy 74 = .ok (.ifCond .eq 7, 3) := by decide +kernel
theorem dX5_dreamsBy_77 : decode cX5_dreamsBy 77 = .ok (.iconst 1, 1) := by decide +kernel
theorem dX5_dreamsBy_78 : decode cX5_dreamsBy 78 = .ok (.goto 4, 3) := by decide +kernel
theorem dX5_dreamsBy_81 : decode cX5_dreamsBy 81 = .ok (.iconst 0, 1) := by decide +kernel
theorem dX5_dreamsBy_82 : decode cX5_dreamsBy 82 = .ok (.ireturn, 1) := by decide +kernel
theorem dX5_dreamsBy_83 : decode cX5_dreamsBy 83 = .ok (.iload_n 3, 1) := by decide +kernel
theorem dX5_dreamsBy_84 : decode cX5_dreamsBy 84 = .ok (.iconst 2, 1) := by decide +kernel
theorem dX5_dreamsBy_85 : decode cX5_dreamsBy 85 = .ok (.if_icmp .ge 13, 3) := by decide +kernel
theorem dX5_dreamsBy_88 : decode cX5_dreamsBy 88 = .ok (.iload_n 2, 1) := by decide +kernel
theorem dX5_dreamsBy_89 : decode cX5_dreamsBy 89 = .ok (.bipush 19, 2) := by decide +kernel
theorem dX5_dreamsBy_91 : decode cX5_dreamsBy 91 = .ok (.if_icmp .le 7, 3) := by decide +kernel
theorem dX5_dreamsBy_94 : decode cX5_dreamsBy 94 = .ok (.iconst 1, 1) := by decide +kernel
theorem dX5_dreamsBy_95 : decode cX5_dreamsBy 95 = .ok (.goto 4, 3) := by decide +kernel
theorem dX5_dreamsBy_98 : decode cX5_dreamsBy 98 = .ok (.iconst 0, 1) := by decide +kernel
theorem dX5_dreamsBy_99 : decode cX5_dreamsBy 99 = .ok (.ireturn, 1) := by decide +kernel
theorem dX5_dreamsBy_100 : decode cX5_dreamsBy 100 = .ok (.iload_n 3, 1) := by decide +kernel
theorem dX5_dreamsBy_101 : decode cX5_dreamsBy 101 = .ok (.iconst 4, 1) := by decide +kernel
theorem dX5_dreamsBy_102 : decode cX5_dreamsBy 102 = .ok (.if_icmp .lt 9, 3) := by decide +kernel
theorem dX5_dreamsBy_105 : decode cX5_dreamsBy 105 = .ok (.iload_n 2, 1) := by decide +kernel
theorem dX5_dreamsBy_106 : decode cX5_dreamsBy 106 = .ok (.bipush 29, 2) := by decide +kernel
theorem dX5_dreamsBy_108 : decode cX5_dreamsBy 108 = .ok (.if_icmp .le 7, 3) := by decide +kernel
theorem dX5_dreamsBy_111 : decode cX5_dreamsBy 111 = .ok (.iconst 1, 1) := by decide +kernel
theorem dX5_dreamsBy_112 : decode cX5_dreamsBy 112 = .ok (.goto 4, 3) := by decide +kernel
theorem dX5_dreamsBy_115 : decode cX5_dreamsBy 115 = .ok (.iconst 0, 1) := by decide +kernel
theorem dX5_dreamsBy_116 : decode cX5_dreamsBy 116 = .ok (.ireturn, 1) := by decide +kernel
theorem dX5_dreamsBy_117 : decode cX5_dreamsBy 117 = .ok (.iload_n 3, 1) := by decide +kernel
theorem dX5_dreamsBy_118 : decode cX5_dreamsBy 118 = .ok (.iconst 2, 1) := by decide +kernel
theorem dX5_dreamsBy_119 : decode cX5_dreamsBy 119 = .ok (.if_icmp .lt 8, 3) := by decide +kernel
theorem dX5_dreamsBy_122 : decode cX5_dreamsBy 122 = .ok (.iload 4, 2) := by decide +kernel
theorem dX5_dreamsBy_124 : decode cX5_dreamsBy 124 = .ok (.ifCond .eq 13, 3) := by decide +kernel
theorem dX5_dreamsBy_127 : decode cX5_dreamsBy 127 = .ok (.iload_n 1, 1) := by decide +kernel
theorem dX5_dreamsBy_128 : decode cX5_dreamsBy 128 = .ok (.iconst 2, 1) := by decide +kernel
theorem dX5_dreamsBy_129 : decode cX5_dreamsBy 129 = .ok (.irem, 1) := by decide +kernel
theorem dX5_dreamsBy_130 : decode cX5_dreamsBy 130 = .ok (.ifCond .ne 7, 3) := by decide +kernel
theorem dX5_dreamsBy_133 : decode cX5_dreamsBy 133 = .ok (.iconst 1, 1) := by decide +kernel
theorem dX5_dreamsBy_134 : decode cX5_dreamsBy 134 = .ok (.goto 4, 3) := by decide +kernel
theorem dX5_dreamsBy_137 : decode cX5_dreamsBy 137 = .ok (.iconst 0, 1) := by decide +kernel
theorem dX5_dreamsBy_138 : decode cX5_dreamsBy 138 = .ok (.ireturn, 1) := by decide +kernel
theorem dX5_dreamsBy_139 : decode cX5_dreamsBy 139 = .ok (.iload_n 3, 1) := by decide +kernel
theorem dX5_dreamsBy_140 : decode cX5_dreamsBy 140 = .ok (.iconst 2, 1) := by decide +kernel
theorem dX5_dreamsBy_141 : decode cX5_dreamsBy 141 = .ok (.if_icmp .ge 7, 3) := by decide +kernel
theorem dX5_dreamsBy_144 : decode cX5_dreamsBy 144 = .ok (.iconst 1, 1) := by decide +kernel
theorem dX5_dreamsBy_145 : decode cX5_dreamsBy 145 = .ok (.goto 4, 3) := by decide +kernel
theorem dX5_dreamsBy_148 : decode cX5_dreamsBy 148 = .ok (.iconst 0, 1) := by decide +kernel
theorem dX5_dreamsBy_149 : decode cX5_dreamsBy 149 = .ok (.ireturn, 1) := by decide +kernel
theorem dX5_dreamsOn_0 : decode cX5_dreamsOn 0 = .ok (.aload_n 0, 1) := by decide +kernel
theorem dX5_dreamsOn_1 : decode cX5_dreamsOn 1 = .ok (.getfield 29, 3) := by decide +kernel
theorem dX5_dreamsOn_4 : decode cX5_dreamsOn 4 = .ok (.iload_n 2, 1) := by decide +kernel
theorem dX5_dreamsOn_5 : decode cX5_dreamsOn 5 = .ok (.iaload, 1) := by decide +kernel
theorem dX5_dreamsOn_6 : decode cX5_dreamsOn 6 = .ok (.aload_n 1, 1) := by decide +kernel
theorem dX5_dreamsOn_7 : decode cX5_dreamsOn 7 = .ok (.iconst 3, 1) := by decide +kernel
theorem dX5_dreamsOn_8 : decode cX5_dreamsOn 8 = .ok (.iload_n 2, 1) := by decide +kernel
theorem dX5_dreamsOn_9 : decode cX5_dreamsOn 9 = .ok (.iadd, 1) := by decide +kernel
theorem dX5_dreamsOn_10 : decode cX5_dreamsOn 10 = .ok (.iaload, 1) := by decide +kernel
theorem dX5_dreamsOn_11 : decode cX5_dreamsOn 11 = .ok (.iload_n 3, 1) := by decide +kernel
theorem dX5_dreamsOn_12 : decode cX5_dreamsOn 12 = .ok (.invokestatic 161, 3) := by decide +kernel
theorem dX5_dreamsOn_15 : decode cX5_dreamsOn 15 = .ok (.ireturn, 1) := by decide +kernel
theorem dX5_standsOn_0 : decode cX5_standsOn 0 = .ok (.aload_n 1, 1) := by decide +kernel
theorem dX5_standsOn_1 : decode cX5_standsOn 1 = .ok (.iconst 1, 1) := by decide +kernel
theorem dX5_standsOn_2 : decode cX5_standsOn 2 = .ok (.iaload, 1) := by decide +kernel
theorem dX5_standsOn_3 : decode cX5_standsOn 3 = .ok (.aload_n 0, 1) := by decide +kernel
theorem dX5_standsOn_4 : decode cX5_standsOn 4 = .ok (.getfield 155, 3) := by decide +kernel
theorem dX5_standsOn_7 : decode cX5_standsOn 7 = .ok (.if_icmp .ne 7, 3) := by decide +kernel
theorem dX5_standsOn_10 : decode cX5_standsOn 10 = .ok (.iconst 1, 1) := by decide +kernel
theorem dX5_standsOn_11 : decode cX5_standsOn 11 = .ok (.goto 4, 3) := by decide +kernel
theorem dX5_standsOn_14 : decode cX5_standsOn 14 = .ok (.iconst 0, 1) := by decide +kernel
theorem dX5_standsOn_15 : decode cX5_standsOn 15 = .ok (.istore_n 2, 1) := by decide +kernel
theorem dX5_standsOn_16 : decode cX5_standsOn 16 = .ok (.iconst 0, 1) := by decide +kernel
theorem dX5_standsOn_17 : decode cX5_standsOn 17 = .ok (.istore_n 3, 1) := by decide +kernel
theorem dX5_standsOn_18 : decode cX5_standsOn 18 = .ok (.iload_n 3, 1) := by decide +kernel
theorem dX5_standsOn_19 : decode cX5_standsOn 19 = .ok (.aload_n 0, 1) := by decide +kernel
theorem dX5_standsOn_20 : decode cX5_standsOn 20 = .ok (.getfield 97, 3) := by decide +kernel
theorem dX5_standsOn_23 : decode cX5_standsOn 23 = .ok (.if_icmp .ge 53, 3) := by decide +kernel
theorem dX5_standsOn_26 : decode cX5_standsOn 26 = .ok (.iload_n 2, 1) := by decide +kernel
theorem dX5_standsOn_27 : decode cX5_standsOn 27 = .ok (.ifCond .ne 37, 3) := by decide +kernel
theorem dX5_standsOn_30 : decode cX5_standsOn 30 = .ok (.aload_n 1, 1) := by decide +kernel
theorem dX5_standsOn_31 : decode cX5_standsOn 31 = .ok (.iconst 2, 1) := by decide +kernel
theorem dX5_standsOn_32 : decode cX5_standsOn 32 = .ok (.iaload, 1) := by decide +kernel
theorem dX5_standsOn_33 : decode cX5_standsOn 33 = .ok (.iload_n 3, 1) := by decide +kernel
theorem dX5_standsOn_34 : decode cX5_standsOn 34 = .ok (.invokestatic 165, 3) := by decide +kernel
theorem dX5_standsOn_37 : decode cX5_standsOn 37 = .ok (.ifCond .eq 31, 3) := by decide +kernel
theorem dX5_standsOn_40 : decode cX5_standsOn 40 = .ok (.aload_n 0, 1) := by decide +kernel
theorem dX5_standsOn_41 : decode cX5_standsOn 41 = .ok (.getfield 32, 3) := by decide +kernel
theorem dX5_standsOn_44 : decode cX5_standsOn 44 = .ok (.iload_n 3, 1) := by decide +kernel
theorem dX5_standsOn_45 : decode cX5_standsOn 45 = .ok (.iaload, 1) := by decide +kernel
theorem dX5_standsOn_46 : decode cX5_standsOn 46 = .ok (.aload_n 1, 1) := by decide +kernel
theorem dX5_standsOn_47 : decode cX5_standsOn 47 = .ok (.iconst 1, 1) := by decide +kernel
theorem dX5_standsOn_48 : decode cX5_standsOn 48 = .ok (.iaload, 1) := by decide +kernel
theorem dX5_standsOn_49 : decode cX5_standsOn 49 = .ok (.if_icmp .ne 19, 3) := by decide +kernel
theorem dX5_standsOn_52 : decode cX5_standsOn 52 = .ok (.aload_n 0, 1) := by decide +kernel
theorem dX5_standsOn_53 : decode cX5_standsOn 53 = .ok (.aload_n 1, 1) := by decide +kernel
theorem dX5_standsOn_54 : decode cX5_standsOn 54 = .ok (.iload_n 3, 1) := by decide +kernel
theorem dX5_standsOn_55 : decode cX5_standsOn 55 = .ok (.aload_n 1, 1) := by decide +kernel
theorem dX5_standsOn_56 : decode cX5_standsOn 56 = .ok (.iconst 0, 1) := by decide +kernel
theorem dX5_standsOn_57 : decode cX5_standsOn 57 = .ok (.iaload, 1) := by decide +kernel
theorem dX5_standsOn_58 : decode cX5_standsOn 58 = .ok (.invokevirtual 168, 3) := by decide +kernel
theorem dX5_standsOn_61 : decode cX5_standsOn 61 = .ok (.ifCond .eq 7, 3) := by decide +kernel
theorem dX5_standsOn_64 : decode cX5_standsOn 64 = .ok (.iconst 1, 1) := by decide +kernel
theorem dX5_standsOn_65 : decode cX5_standsOn 65 = .ok (.goto 4, 3) := by decide +kernel
theorem dX5_standsOn_68 : decode cX5_standsOn 68 = .ok (.iconst 0, 1) := by decide +kernel
theorem dX5_standsOn_69 : decode cX5_standsOn 69 = .ok (.istore_n 2, 1) := by decide +kernel
theorem dX5_standsOn_70 : decode cX5_standsOn 70 = .ok (.iinc 3 1, 3) := by decide +kernel
theorem dX5_standsOn_73 : decode cX5_standsOn 73 = .ok (.goto (-55), 3) := by decide +kernel
theorem dX5_standsOn_76 : decode cX5_standsOn 76 = .ok (.iload_n 2, 1) := by decide +kernel
theorem dX5_standsOn_77 : decode cX5_standsOn 77 = .ok (.ireturn, 1) := by decide +kernel
theorem dX5_goes_0 : decode cX5_goes 0 = .ok (.aload_n 0, 1) := by decide +kernel
theorem dX5_goes_1 : decode cX5_goes 1 = .ok (.aload_n 1, 1) := by decide +kernel
theorem dX5_goes_2 : decode cX5_goes 2 = .ok (.invokevirtual 172, 3) := by decide +kernel
theorem dX5_goes_5 : decode cX5_goes 5 = .ok (.istore_n 2, 1) := by decide +kernel
theorem dX5_goes_6 : decode cX5_goes 6 = .ok (.aload_n 1, 1) := by decide +kernel
theorem dX5_goes_7 : decode cX5_goes 7 = .ok (.iconst 1, 1) := by decide +kernel
theorem dX5_goes_8 : decode cX5_goes 8 = .ok (.dup2, 1) := by decide +kernel
theorem dX5_goes_9 : decode cX5_goes 9 = .ok (.iaload, 1) := by decide +kernel
theorem dX5_goes_10 : decode cX5_goes 10 = .ok (.iload_n 2, 1) := by decide +kernel
theorem dX5_goes_11 : decode cX5_goes 11 = .ok (.ifCond .eq 7, 3) := by decide +kernel
theorem dX5_goes_14 : decode cX5_goes 14 = .ok (.iconst 0, 1) := by decide +kernel
theorem dX5_goes_15 : decode cX5_goes 15 = .ok (.goto 4, 3) := by decide +kernel
theorem dX5_goes_18 : decode cX5_goes 18 = .ok (.iconst 1, 1) := by decide +kernel
theorem dX5_goes_19 : decode cX5_goes 19 = .ok (.iadd, 1) := by decide +kernel
theorem dX5_goes_20 : decode cX5_goes 20 = .ok (.iastore, 1) := by decide +kernel
theorem dX5_goes_21 : decode cX5_goes 21 = .ok (.aload_n 1, 1) := by decide +kernel
theorem dX5_goes_22 : decode cX5_goes 22 = .ok (.iconst 0, 1) := by decide +kernel
theorem dX5_goes_23 : decode cX5_goes 23 = .ok (.dup2, 1) := by decide +kernel
theorem dX5_goes_24 : decode cX5_goes 24 = .ok (.iaload, 1) := by decide +kernel
theorem dX5_goes_25 : decode cX5_goes 25 = .ok (.iconst 1, 1) := by decide +kernel
theorem dX5_goes_26 : decode cX5_goes 26 = .ok (.iadd, 1) := by decide +kernel
theorem dX5_goes_27 : decode cX5_goes 27 = .ok (.iastore, 1) := by decide +kernel
theorem dX5_goes_28 : decode cX5_goes 28 = .ok (.iload_n 2, 1) := by decide +kernel
theorem dX5_goes_29 : decode cX5_goes 29 = .ok (.ireturn, 1) := by decide +kernel
theorem dX5_isDreaming_0 : decode cX5_isDreaming 0 = .ok (.aload_n 0, 1) := by decide +kernel
theorem dX5_isDreaming_1 : decode cX5_isDreaming 1 = .ok (.getfield 35, 3) := by decide +kernel
theorem dX5_isDreaming_4 : decode cX5_isDreaming 4 = .ok (.iconst 2, 1) := by decide +kernel
theorem dX5_isDreaming_5 : decode cX5_isDreaming 5 = .ok (.iaload, 1) := by decide +kernel
theorem dX5_isDreaming_6 : decode cX5_isDreaming 6 = .ok (.iload_n 1, 1) := by decide +kernel
theorem dX5_isDreaming_7 : decode cX5_isDreaming 7 = .ok (.invokestatic 165, 3) := by decide +kernel
theorem dX5_isDreaming_10 : decode cX5_isDreaming 10 = .ok (.ifCond .eq 25, 3) := by decide +kernel
theorem dX5_isDreaming_13 : decode cX5_isDreaming 13 = .ok (.aload_n 0, 1) := by decide +kernel
theorem dX5_isDreaming_14 : decode cX5_isDreaming 14 = .ok (.aload_n 0, 1) := by decide +kernel
theorem dX5_isDreaming_15 : decode cX5_isDreaming 15 = .ok (.getfield 35, 3) := by decide +kernel
theorem dX5_isDreaming_18 : decode cX5_isDreaming 18 = .ok (.iload_n 1, 1) := by decide +kernel
theorem dX5_isDreaming_19 : decode cX5_isDreaming 19 = .ok (.aload_n 0, 1) := by decide +kernel
theorem dX5_isDreaming_20 : decode cX5_isDreaming 20 = .ok (.getfield 35, 3) := by decide +kernel
theorem dX5_isDreaming_23 : decode cX5_isDreaming 23 = .ok (.iconst 0, 1) := by decide +kernel
theorem dX5_isDreaming_24 : decode cX5_isDreaming 24 = .ok (.iaload, 1) := by decide +kernel
theorem dX5_isDreaming_25 : decode cX5_isDreaming 25 = .ok (.invokevirtual 168, 3) := by decide +kernel
theorem dX5_isDreaming_28 : decode cX5_isDreaming 28 = .ok (.ifCond .eq 7, 3) := by decide +kernel
theorem dX5_isDreaming_31 : decode cX5_isDreaming 31 = .ok (.iconst 1, 1) := by decide +kernel
theorem dX5_isDreaming_32 : decode cX5_isDreaming 32 = .ok (.goto 4, 3) := by decide +kernel
theorem dX5_isDreaming_35 : decode cX5_isDreaming 35 = .ok (.iconst 0, 1) := by decide +kernel
theorem dX5_isDreaming_36 : decode cX5_isDreaming 36 = .ok (.ireturn, 1) := by decide +kernel
theorem dX5_sleeper_0 : decode cX5_sleeper 0 = .ok (.aload_n 0, 1) := by decide +kernel
theorem dX5_sleeper_1 : decode cX5_sleeper 1 = .ok (.iload_n 1, 1) := by decide +kernel
theorem dX5_sleeper_2 : decode cX5_sleeper 2 = .ok (.invokevirtual 176, 3) := by decide +kernel
theorem dX5_sleeper_5 : decode cX5_sleeper 5 = .ok (.ifCond .eq 15, 3) := by decide +kernel
theorem dX5_sleeper_8 : decode cX5_sleeper 8 = .ok (.iload_n 2, 1) := by decide +kernel
theorem dX5_sleeper_9 : decode cX5_sleeper 9 = .ok (.i2l, 1) := by decide +kernel
theorem dX5_sleeper_10 : decode cX5_sleeper 10 = .ok (.lconst 0, 1) := by decide +kernel
theorem dX5_sleeper_11 : decode cX5_sleeper 11 = .ok (.ldc2_w 179, 3) := by decide +kernel
theorem dX5_sleeper_14 : decode cX5_sleeper 14 = .ok (.invokestatic 77, 3) := by decide +kernel
theorem dX5_sleeper_17 : decode cX5_sleeper 17 = .ok (.ifCond .ne 5, 3) := by decide +kernel
theorem dX5_sleeper_20 : decode cX5_sleeper 20 = .ok (.iconst (-1), 1) := by decide +kernel
theorem dX5_sleeper_21 : decode cX5_sleeper 21 = .ok (.ireturn, 1) := by decide +kernel
theorem dX5_sleeper_22 : decode cX5_sleeper 22 = .ok (.iload_n 2, 1) := by decide +kernel
theorem dX5_sleeper_23 : decode cX5_sleeper 23 = .ok (.tableswitch 79 0 3 #[29, 40, 51, 64], 29) := by decide +kernel
theorem dX5_sleeper_52 : decode cX5_sleeper 52 = .ok (.aload_n 0, 1) := by decide +kernel
theorem dX5_sleeper_53 : decode cX5_sleeper 53 = .ok (.aload_n 0, 1) := by decide +kernel
theorem dX5_sleeper_54 : decode cX5_sleeper 54 = .ok (.getfield 29, 3) := by decide +kernel
theorem dX5_sleeper_57 : decode cX5_sleeper 57 = .ok (.iload_n 1, 1) := by decide +kernel
theorem dX5_sleeper_58 : decode cX5_sleeper 58 = .ok (.iaload, 1) := by decide +kernel
theorem dX5_sleeper_59 : decode cX5_sleeper 59 = .ok (.invokevirtual 91, 3) := by decide +kernel
theorem dX5_sleeper_62 : decode cX5_sleeper 62 = .ok (.ireturn, 1) := by decide +kernel
theorem dX5_sleeper_63 : decode cX5_sleeper 63 = .ok (.aload_n 0, 1) := by decide +kernel
theorem dX5_sleeper_64 : decode cX5_sleeper 64 = .ok (.aload_n 0, 1) := by decide +kernel
theorem dX5_sleeper_65 : decode cX5_sleeper 65 = .ok (.getfield 32, 3) := by decide +kernel
theorem dX5_sleeper_68 : decode cX5_sleeper 68 = .ok (.iload_n 1, 1) := by decide +kernel
theorem dX5_sleeper_69 : decode cX5_sleeper 69 = .ok (.iaload, 1) := by decide +kernel
theorem dX5_sleeper_70 : decode cX5_sleeper 70 = .ok (.invokevirtual 91, 3) := by decide +kernel
theorem dX5_sleeper_73 : decode cX5_sleeper 73 = .ok (.ireturn, 1) := by decide +kernel
theorem dX5_sleeper_74 : decode cX5_sleeper 74 = .ok (.aload_n 0, 1) := by decide +kernel
theorem dX5_sleeper_75 : decode cX5_sleeper 75 = .ok (.aload_n 0, 1) := by decide +kernel
theorem dX5_sleeper_76 : decode cX5_sleeper 76 = .ok (.getfield 35, 3) := by decide +kernel
theorem dX5_sleeper_79 : decode cX5_sleeper 79 = .ok (.iconst 3, 1) := by decide +kernel
theorem dX5_sleeper_80 : decode cX5_sleeper 80 = .ok (.iload_n 1, 1) := by decide +kernel
theorem dX5_sleeper_81 : decode cX5_sleeper 81 = .ok (.iadd, 1) := by decide +kernel
theorem dX5_sleeper_82 : decode cX5_sleeper 82 = .ok (.iaload, 1) := by decide +kernel
theorem dX5_sleeper_83 : decode cX5_sleeper 83 = .ok (.invokevirtual 91, 3) := by decide +kernel
theorem dX5_sleeper_86 : decode cX5_sleeper 86 = .ok (.ireturn, 1) := by decide +kernel
theorem dX5_sleeper_87 : decode cX5_sleeper 87 = .ok (.aload_n 0, 1) := by decide +kernel
theorem dX5_sleeper_88 : decode cX5_sleeper 88 = .ok (.aload_n 0, 1) := by decide +kernel
theorem dX5_sleeper_89 : decode cX5_sleeper 89 = .ok (.getfield 35, 3) := by decide +kernel
theorem dX5_sleeper_92 : decode cX5_sleeper 92 = .ok (.iconst 2, 1) := by decide +kernel
theorem dX5_sleeper_93 : decode cX5_sleeper 93 = .ok (.iaload, 1) := by decide +kernel
theorem dX5_sleeper_94 : decode cX5_sleeper 94 = .ok (.iload_n 1, 1) := by decide +kernel
theorem dX5_sleeper_95 : decode cX5_sleeper 95 = .ok (.ishr, 1) := by decide +kernel
theorem dX5_sleeper_96 : decode cX5_sleeper 96 = .ok (.iconst 1, 1) := by decide +kernel
theorem dX5_sleeper_97 : decode cX5_sleeper 97 = .ok (.iand, 1) := by decide +kernel
theorem dX5_sleeper_98 : decode cX5_sleeper 98 = .ok (.invokevirtual 91, 3) := by decide +kernel
theorem dX5_sleeper_101 : decode cX5_sleeper 101 = .ok (.ireturn, 1) := by decide +kernel
theorem dX5_sleeper_102 : decode cX5_sleeper 102 = .ok (.aload_n 0, 1) := by decide +kernel
theorem dX5_sleeper_103 : decode cX5_sleeper 103 = .ok (.aload_n 0, 1) := by decide +kernel
theorem dX5_sleeper_104 : decode cX5_sleeper 104 = .ok (.iload_n 1, 1) := by decide +kernel
theorem dX5_sleeper_105 : decode cX5_sleeper 105 = .ok (.invokevirtual 181, 3) := by decide +kernel
theorem dX5_sleeper_108 : decode cX5_sleeper 108 = .ok (.ifCond .eq 7, 3) := by decide +kernel
theorem dX5_sleeper_111 : decode cX5_sleeper 111 = .ok (.iconst 1, 1) := by decide +kernel
theorem dX5_sleeper_112 : decode cX5_sleeper 112 = .ok (.goto 4, 3) := by decide +kernel
theorem dX5_sleeper_115 : decode cX5_sleeper 115 = .ok (.iconst 0, 1) := by decide +kernel
theorem dX5_sleeper_116 : decode cX5_sleeper 116 = .ok (.invokevirtual 91, 3) := by decide +kernel
theorem dX5_sleeper_119 : decode cX5_sleeper 119 = .ok (.ireturn, 1) := by decide +kernel
theorem dX5_isOf_0 : decode cX5_isOf 0 = .ok (.iload_n 0, 1) := by decide +kernel
theorem dX5_isOf_1 : decode cX5_isOf 1 = .ok (.iload_n 1, 1) := by decide +kernel
theorem dX5_isOf_2 : decode cX5_isOf 2 = .ok (.if_icmp .eq 23, 3) := by decide +kernel
theorem dX5_isOf_5 : decode cX5_isOf 5 = .ok (.iload_n 0, 1) := by decide +kernel
theorem dX5_isOf_6 : decode cX5_isOf 6 = .ok (.iconst 4, 1) := by decide +kernel
theorem dX5_isOf_7 : decode cX5_isOf 7 = .ok (.if_icmp .ne 8, 3) := by decide +kernel
theorem dX5_isOf_10 : decode cX5_isOf 10 = .ok (.iload_n 1, 1) := by decide +kernel
theorem dX5_isOf_11 : decode cX5_isOf 11 = .ok (.iconst 1, 1) := by decide +kernel
theorem dX5_isOf_12 : decode cX5_isOf 12 = .ok (.if_icmp .eq 13, 3) := by decide +kernel
theorem dX5_isOf_15 : decode cX5_isOf 15 = .ok (.iload_n 0, 1) := by decide +kernel
theorem dX5_isOf_16 : decode cX5_isOf 16 = .ok (.iconst 5, 1) := by decide +kernel
theorem dX5_isOf_17 : decode cX5_isOf 17 = .ok (.if_icmp .ne 12, 3) := by decide +kernel
theorem dX5_isOf_20 : decode cX5_isOf 20 = .ok (.iload_n 1, 1) := by decide +kernel
theorem dX5_isOf_21 : decode cX5_isOf 21 = .ok (.iconst 2, 1) := by decide +kernel
theorem dX5_isOf_22 : decode cX5_isOf 22 = .ok (.if_icmp .ne 7, 3) := by decide +kernel
theorem dX5_isOf_25 : decode cX5_isOf 25 = .ok (.iconst 1, 1) := by decide +kernel
theorem dX5_isOf_26 : decode cX5_isOf 26 = .ok (.goto 4, 3) := by decide +kernel
theorem dX5_isOf_29 : decode cX5_isOf 29 = .ok (.iconst 0, 1) := by decide +kernel
theorem dX5_isOf_30 : decode cX5_isOf 30 = .ok (.ireturn, 1) := by decide +kernel
theorem dX5_often_0 : decode cX5_often 0 = .ok (.iconst 0, 1) := by decide +kernel
theorem dX5_often_1 : decode cX5_often 1 = .ok (.istore_n 2, 1) := by decide +kernel
theorem dX5_often_2 : decode cX5_often 2 = .ok (.iconst 0, 1) := by decide +kernel
theorem dX5_often_3 : decode cX5_often 3 = .ok (.istore_n 3, 1) := by decide +kernel
theorem dX5_often_4 : decode cX5_often 4 = .ok (.iload_n 3, 1) := by decide +kernel
theorem dX5_often_5 : decode cX5_often 5 = .ok (.bipush 60, 2) := by decide +kernel
theorem dX5_often_7 : decode cX5_often 7 = .ok (.if_icmp .ge 26, 3) := by decide +kernel
theorem dX5_often_10 : decode cX5_often 10 = .ok (.iload_n 2, 1) := by decide +kernel
theorem dX5_often_11 : decode cX5_often 11 = .ok (.iload_n 0, 1) := by decide +kernel
theorem dX5_often_12 : decode cX5_often 12 = .ok (.iload_n 1, 1) := by decide +kernel
theorem dX5_often_13 : decode cX5_often 13 = .ok (.iload_n 3, 1) := by decide +kernel
theorem dX5_often_14 : decode cX5_often 14 = .ok (.invokestatic 161, 3) := by decide +kernel
theorem dX5_often_17 : decode cX5_often 17 = .ok (.ifCond .eq 7, 3) := by decide +kernel
theorem dX5_often_20 : decode cX5_often 20 = .ok (.iconst 1, 1) := by decide +kernel
theorem dX5_often_21 : decode cX5_often 21 = .ok (.goto 4, 3) := by decide +kernel
theorem dX5_often_24 : decode cX5_often 24 = .ok (.iconst 0, 1) := by decide +kernel
theorem dX5_often_25 : decode cX5_often 25 = .ok (.iadd, 1) := by decide +kernel
theorem dX5_often_26 : decode cX5_often 26 = .ok (.istore_n 2, 1) := by decide +kernel
theorem dX5_often_27 : decode cX5_often 27 = .ok (.iinc 3 1, 3) := by decide +kernel
theorem dX5_often_30 : decode cX5_often 30 = .ok (.goto (-26), 3) := by decide +kernel
theorem dX5_often_33 : decode cX5_often 33 = .ok (.iload_n 2, 1) := by decide +kernel
theorem dX5_often_34 : decode cX5_often 34 = .ok (.ireturn, 1) := by decide +kernel
theorem dX5_firstOf_0 : decode cX5_firstOf 0 = .ok (.iconst 0, 1) := by decide +kernel
theorem dX5_firstOf_1 : decode cX5_firstOf 1 = .ok (.istore 4, 2) := by decide +kernel
theorem dX5_firstOf_3 : decode cX5_firstOf 3 = .ok (.iload_n 1, 1) := by decide +kernel
theorem dX5_firstOf_4 : decode cX5_firstOf 4 = .ok (.iload_n 2, 1) := by decide +kernel
theorem dX5_firstOf_5 : decode cX5_firstOf 5 = .ok (.iload 4, 2) := by decide +kernel
theorem dX5_firstOf_7 : decode cX5_firstOf 7 = .ok (.invokestatic 161, 3) := by decide +kernel
theorem dX5_firstOf_10 : decode cX5_firstOf 10 = .ok (.ifCond .eq 17, 3) := by decide +kernel
theorem dX5_firstOf_13 : decode cX5_firstOf 13 = .ok (.iload_n 3, 1) := by decide +kernel
theorem dX5_firstOf_14 : decode cX5_firstOf 14 = .ok (.ifCond .eq 19, 3) := by decide +kernel
theorem dX5_firstOf_17 : decode cX5_firstOf 17 = .ok (.iconst 1, 1) := by decide +kernel
theorem dX5_firstOf_18 : decode cX5_firstOf 18 = .ok (.iload_n 2, 1) := by decide +kernel
theorem dX5_firstOf_19 : decode cX5_firstOf 19 = .ok (.iload 4, 2) := by decide +kernel
theorem dX5_firstOf_21 : decode cX5_firstOf 21 = .ok (.invokestatic 161, 3) := by decide +kernel
theorem dX5_firstOf_24 : decode cX5_firstOf 24 = .ok (.ifCond .eq 9, 3) := by decide +kernel
theorem dX5_firstOf_27 : decode cX5_firstOf 27 = .ok (.iinc 4 1, 3) := by decide +kernel
theorem dX5_firstOf_30 : decode cX5_firstOf 30 = .ok (.goto (-27), 3) := by decide +kernel
theorem dX5_firstOf_33 : decode cX5_firstOf 33 = .ok (.iload 4, 2) := by decide +kernel
theorem dX5_firstOf_35 : decode cX5_firstOf 35 = .ok (.ireturn, 1) := by decide +kernel
theorem dX5_mark_0 : decode cX5_mark 0 = .ok (.aload_n 0, 1) := by decide +kernel
theorem dX5_mark_1 : decode cX5_mark 1 = .ok (.iload_n 1, 1) := by decide +kernel
theorem dX5_mark_2 : decode cX5_mark 2 = .ok (.invokevirtual 176, 3) := by decide +kernel
theorem dX5_mark_5 : decode cX5_mark 5 = .ok (.ifCond .eq 15, 3) := by decide +kernel
theorem dX5_mark_8 : decode cX5_mark 8 = .ok (.iload_n 2, 1) := by decide +kernel
theorem dX5_mark_9 : decode cX5_mark 9 = .ok (.i2l, 1) := by decide +kernel
theorem dX5_mark_10 : decode cX5_mark 10 = .ok (.lconst 1, 1) := by decide +kernel
theorem dX5_mark_11 : decode cX5_mark 11 = .ok (.ldc2_w 75, 3) := by decide +kernel
theorem dX5_mark_14 : decode cX5_mark 14 = .ok (.invokestatic 77, 3) := by decide +kernel
theorem dX5_mark_17 : decode cX5_mark 17 = .ok (.ifCond .ne 5, 3) := by decide +kernel
theorem dX5_mark_20 : decode cX5_mark 20 = .ok (.iconst (-1), 1) := by decide +kernel
theorem dX5_mark_21 : decode cX5_mark 21 = .ok (.ireturn, 1) := by decide +kernel
theorem dX5_mark_22 : decode cX5_mark 22 = .ok (.aload_n 0, 1) := by decide +kernel
theorem dX5_mark_23 : decode cX5_mark 23 = .ok (.getfield 29, 3) := by decide +kernel
theorem dX5_mark_26 : decode cX5_mark 26 = .ok (.iload_n 1, 1) := by decide +kernel
theorem dX5_mark_27 : decode cX5_mark 27 = .ok (.iaload, 1) := by decide +kernel
theorem dX5_mark_28 : decode cX5_mark 28 = .ok (.iload_n 2, 1) := by decide +kernel
theorem dX5_mark_29 : decode cX5_mark 29 = .ok (.invokestatic 184, 3) := by decide +kernel
theorem dX5_mark_32 : decode cX5_mark 32 = .ok (.ifCond .ne 9, 3) := by decide +kernel
theorem dX5_mark_35 : decode cX5_mark 35 = .ok (.aload_n 0, 1) := by decide +kernel
theorem dX5_mark_36 : decode cX5_mark 36 = .ok (.iconst 3, 1) := by decide +kernel
theorem dX5_mark_37 : decode cX5_mark 37 = .ok (.invokevirtual 87, 3) := by decide +kernel
theorem dX5_mark_40 : decode cX5_mark 40 = .ok (.ireturn, 1) := by decide +kernel
theorem dX5_mark_41 : decode cX5_mark 41 = .ok (.aload_n 0, 1) := by decide +kernel
theorem dX5_mark_42 : decode cX5_mark 42 = .ok (.getfield 35, 3) := by decide +kernel
theorem dX5_mark_45 : decode cX5_mark 45 = .ok (.iconst 3, 1) := by decide +kernel
theorem dX5_mark_46 : decode cX5_mark 46 = .ok (.iload_n 1, 1) := by decide +kernel
theorem dX5_mark_47 : decode cX5_mark 47 = .ok (.iadd, 1) := by decide +kernel
theorem dX5_mark_48 : decode cX5_mark 48 = .ok (.iaload, 1) := by decide +kernel
theorem dX5_mark_49 : decode cX5_mark 49 = .ok (.istore_n 3, 1) := by decide +kernel
theorem dX5_mark_50 : decode cX5_mark 50 = .ok (.iload_n 2, 1) := by decide +kernel
theorem dX5_mark_51 : decode cX5_mark 51 = .ok (.tableswitch 76 1 4 #[29, 40, 60, 68], 29) := by decide +kernel
theorem dX5_mark_80 : decode cX5_mark 80 = .ok (.aload_n 0, 1) := by decide +kernel
theorem dX5_mark_81 : decode cX5_mark 81 = .ok (.getfield 29, 3) := by decide +kernel
theorem dX5_mark_84 : decode cX5_mark 84 = .ok (.iload_n 1, 1) := by decide +kernel
theorem dX5_mark_85 : decode cX5_mark 85 = .ok (.iaload, 1) := by decide +kernel
theorem dX5_mark_86 : decode cX5_mark 86 = .ok (.iload_n 3, 1) := by decide +kernel
theorem dX5_mark_87 : decode cX5_mark 87 = .ok (.invokestatic 187, 3) := by decide +kernel
theorem dX5_mark_90 : decode cX5_mark 90 = .ok (.ireturn, 1) := by decide +kernel
theorem dX5_mark_91 : decode cX5_mark 91 = .ok (.bipush 100, 2) := by decide +kernel
theorem dX5_mark_93 : decode cX5_mark 93 = .ok (.aload_n 0, 1) := by decide +kernel
theorem dX5_mark_94 : decode cX5_mark 94 = .ok (.getfield 29, 3) := by decide +kernel
theorem dX5_mark_97 : decode cX5_mark 97 = .ok (.iload_n 1, 1) := by decide +kernel
theorem dX5_mark_98 : decode cX5_mark 98 = .ok (.iaload, 1) := by decide +kernel
theorem dX5_mark_99 : decode cX5_mark 99 = .ok (.iload_n 3, 1) := by decide +kernel
theorem dX5_mark_100 : decode cX5_mark 100 = .ok (.invokestatic 187, 3) := by decide +kernel
theorem dX5_mark_103 : decode cX5_mark 103 = .ok (.iadd, 1) := by decide +kernel
theorem dX5_mark_104 : decode cX5_mark 104 = .ok (.iconst 0, 1) := by decide +kernel
theorem dX5_mark_105 : decode cX5_mark 105 = .ok (.iload_n 3, 1) := by decide +kernel
theorem dX5_mark_106 : decode cX5_mark 106 = .ok (.invokestatic 187, 3) := by decide +kernel
theorem dX5_mark_109 : decode cX5_mark 109 = .ok (.isub, 1) := by decide +kernel
theorem dX5_mark_110 : decode cX5_mark 110 = .ok (.ireturn, 1) := by decide +kernel
theorem dX5_mark_111 : decode cX5_mark 111 = .ok (.aload_n 0, 1) := by decide +kernel
theorem dX5_mark_112 : decode cX5_mark 112 = .ok (.iconst 3, 1) := by decide +kernel
theorem dX5_mark_113 : decode cX5_mark 113 = .ok (.iload_n 3, 1) := by decide +kernel
theorem dX5_mark_114 : decode cX5_mark 114 = .ok (.iconst 0, 1) := by decide +kernel
theorem dX5_mark_115 : decode cX5_mark 115 = .ok (.invokevirtual 191, 3) := by decide +kernel
theorem dX5_mark_118 : decode cX5_mark 118 = .ok (.ireturn, 1) := by decide +kernel
theorem dX5_mark_119 : decode cX5_mark 119 = .ok (.aload_n 0, 1) := by decide +kernel
theorem dX5_mark_120 : decode cX5_mark 120 = .ok (.iconst 4, 1) := by decide +kernel
theorem dX5_mark_121 : decode cX5_mark 121 = .ok (.iload_n 3, 1) := by decide +kernel
theorem dX5_mark_122 : decode cX5_mark 122 = .ok (.iconst 1, 1) := by decide +kernel
theorem dX5_mark_123 : decode cX5_mark 123 = .ok (.invokevirtual 191, 3) := by decide +kernel
theorem dX5_mark_126 : decode cX5_mark 126 = .ok (.ireturn, 1) := by decide +kernel
theorem dX5_mark_127 : decode cX5_mark 127 = .ok (.iconst 2, 1) := by decide +kernel
theorem dX5_mark_128 : decode cX5_mark 128 = .ok (.iload_n 3, 1) := by decide +kernel
theorem dX5_mark_129 : decode cX5_mark 129 = .ok (.invokestatic 187, 3) := by decide +kernel
theorem dX5_mark_132 : decode cX5_mark 132 = .ok (.iconst 5, 1) := by decide +kernel
theorem dX5_mark_133 : decode cX5_mark 133 = .ok (.iload_n 3, 1) := by decide +kernel
theorem dX5_mark_134 : decode cX5_mark 134 = .ok (.invokestatic 187, 3) := by decide +kernel
theorem dX5_mark_137 : decode cX5_mark 137 = .ok (.isub, 1) := by decide +kernel
theorem dX5_mark_138 : decode cX5_mark 138 = .ok (.ireturn, 1) := by decide +kernel
theorem dX5_dreams_0 : decode cX5_dreams 0 = .ok (.aload_n 0, 1) := by decide +kernel
theorem dX5_dreams_1 : decode cX5_dreams 1 = .ok (.iload_n 1, 1) := by decide +kernel
theorem dX5_dreams_2 : decode cX5_dreams 2 = .ok (.invokevirtual 176, 3) := by decide +kernel
theorem dX5_dreams_5 : decode cX5_dreams 5 = .ok (.ifCond .eq 15, 3) := by decide +kernel
theorem dX5_dreams_8 : decode cX5_dreams 8 = .ok (.iload_n 2, 1) := by decide +kernel
theorem dX5_dreams_9 : decode cX5_dreams 9 = .ok (.i2l, 1) := by decide +kernel
theorem dX5_dreams_10 : decode cX5_dreams 10 = .ok (.lconst 0, 1) := by decide +kernel
theorem dX5_dreams_11 : decode cX5_dreams 11 = .ok (.ldc2_w 195, 3) := by decide +kernel
theorem dX5_dreams_14 : decode cX5_dreams 14 = .ok (.invokestatic 77, 3) := by decide +kernel
theorem dX5_dreams_17 : decode cX5_dreams 17 = .ok (.ifCond .ne 5, 3) := by decide +kernel
theorem dX5_dreams_20 : decode cX5_dreams 20 = .ok (.iconst (-1), 1) := by decide +kernel
theorem dX5_dreams_21 : decode cX5_dreams 21 = .ok (.ireturn, 1) := by decide +kernel
theorem dX5_dreams_22 : decode cX5_dreams 22 = .ok (.aload_n 0, 1) := by decide +kernel
theorem dX5_dreams_23 : decode cX5_dreams 23 = .ok (.aload_n 0, 1) := by decide +kernel
theorem dX5_dreams_24 : decode cX5_dreams 24 = .ok (.getfield 35, 3) := by decide +kernel
theorem dX5_dreams_27 : decode cX5_dreams 27 = .ok (.iload_n 1, 1) := by decide +kernel
theorem dX5_dreams_28 : decode cX5_dreams 28 = .ok (.iload_n 2, 1) := by decide +kernel
theorem dX5_dreams_29 : decode cX5_dreams 29 = .ok (.invokevirtual 168, 3) := by decide +kernel
theorem dX5_dreams_32 : decode cX5_dreams 32 = .ok (.ifCond .eq 7, 3) := by decide +kernel
theorem dX5_dreams_35 : decode cX5_dreams 35 = .ok (.iconst 1, 1) := by decide +kernel
theorem dX5_dreams_36 : decode cX5_dreams 36 = .ok (.goto 4, 3) := by decide +kernel
theorem dX5_dreams_39 : decode cX5_dreams 39 = .ok (.iconst 0, 1) := by decide +kernel
theorem dX5_dreams_40 : decode cX5_dreams 40 = .ok (.ireturn, 1) := by decide +kernel
theorem dX5_refuses_0 : decode cX5_refuses 0 = .ok (.aload_n 0, 1) := by decide +kernel
theorem dX5_refuses_1 : decode cX5_refuses 1 = .ok (.getfield 97, 3) := by decide +kernel
theorem dX5_refuses_4 : decode cX5_refuses 4 = .ok (.ifCond .ne 8, 3) := by decide +kernel
theorem dX5_refuses_7 : decode cX5_refuses 7 = .ok (.bipush (-4), 2) := by decide +kernel
theorem dX5_refuses_9 : decode cX5_refuses 9 = .ok (.goto 20, 3) := by decide +kernel
theorem dX5_refuses_12 : decode cX5_refuses 12 = .ok (.aload_n 0, 1) := by decide +kernel
theorem dX5_refuses_13 : decode cX5_refuses 13 = .ok (.getfield 100, 3) := by decide +kernel
theorem dX5_refuses_16 : decode cX5_refuses 16 = .ok (.iload_n 1, 1) := by decide +kernel
theorem dX5_refuses_17 : decode cX5_refuses 17 = .ok (.iadd, 1) := by decide +kernel
theorem dX5_refuses_18 : decode cX5_refuses 18 = .ok (.bipush 40, 2) := by decide +kernel
theorem dX5_refuses_20 : decode cX5_refuses 20 = .ok (.if_icmp .le 8, 3) := by decide +kernel
theorem dX5_refuses_23 : decode cX5_refuses 23 = .ok (.bipush (-2), 2) := by decide +kernel
theorem dX5_refuses_25 : decode cX5_refuses 25 = .ok (.goto 4, 3) := by decide +kernel
theorem dX5_refuses_28 : decode cX5_refuses 28 = .ok (.iconst 0, 1) := by decide +kernel
theorem dX5_refuses_29 : decode cX5_refuses 29 = .ok (.ireturn, 1) := by decide +kernel
theorem dX5_remember_0 : decode cX5_remember 0 = .ok (.aload_n 0, 1) := by decide +kernel
theorem dX5_remember_1 : decode cX5_remember 1 = .ok (.getfield 35, 3) := by decide +kernel
theorem dX5_remember_4 : decode cX5_remember 4 = .ok (.iconst 0, 1) := by decide +kernel
theorem dX5_remember_5 : decode cX5_remember 5 = .ok (.aload_n 0, 1) := by decide +kernel
theorem dX5_remember_6 : decode cX5_remember 6 = .ok (.getfield 41, 3) := by decide +kernel
theorem dX5_remember_9 : decode cX5_remember 9 = .ok (.bipush 9, 2) := by decide +kernel
theorem dX5_remember_11 : decode cX5_remember 11 = .ok (.aload_n 0, 1) := by decide +kernel
theorem dX5_remember_12 : decode cX5_remember 12 = .ok (.getfield 100, 3) := by decide +kernel
theorem dX5_remember_15 : decode cX5_remember 15 = .ok (.imul, 1) := by decide +kernel
theorem dX5_remember_16 : decode cX5_remember 16 = .ok (.bipush 9, 2) := by decide +kernel
theorem dX5_remember_18 : decode cX5_remember 18 = .ok (.invokestatic 197, 3) := by decide +kernel
theorem dX5_remember_21 : decode cX5_remember 21 = .ok (.aload_n 0, 1) := by decide +kernel
theorem dX5_remember_22 : decode cX5_remember 22 = .ok (.dup, 1) := by decide +kernel
theorem dX5_remember_23 : decode cX5_remember 23 = .ok (.getfield 100, 3) := by decide +kernel
theorem dX5_remember_26 : decode cX5_remember 26 = .ok (.iconst 1, 1) := by decide +kernel
theorem dX5_remember_27 : decode cX5_remember 27 = .ok (.iadd, 1) := by decide +kernel
theorem dX5_remember_28 : decode cX5_remember 28 = .ok (.putfield 100, 3) := by decide +kernel
theorem dX5_remember_31 : decode cX5_remember 31 = .ok (.return_, 1) := by decide +kernel
theorem dX5_minute_0 : decode cX5_minute 0 = .ok (.aload_n 0, 1) := by decide +kernel
theorem dX5_minute_1 : decode cX5_minute 1 = .ok (.getfield 97, 3) := by decide +kernel
theorem dX5_minute_4 : decode cX5_minute 4 = .ok (.ifCond .eq 14, 3) := by decide +kernel
theorem dX5_minute_7 : decode cX5_minute 7 = .ok (.aload_n 0, 1) := by decide +kernel
theorem dX5_minute_8 : decode cX5_minute 8 = .ok (.getfield 35, 3) := by decide +kernel
theorem dX5_minute_11 : decode cX5_minute 11 = .ok (.iconst 0, 1) := by decide +kernel
theorem dX5_minute_12 : decode cX5_minute 12 = .ok (.iaload, 1) := by decide +kernel
theorem dX5_minute_13 : decode cX5_minute 13 = .ok (.bipush 99, 2) := by decide +kernel
theorem dX5_minute_15 : decode cX5_minute 15 = .ok (.if_icmp .ne 6, 3) := by decide +kernel
theorem dX5_minute_18 : decode cX5_minute 18 = .ok (.bipush (-4), 2) := by decide +kernel
theorem dX5_minute_20 : decode cX5_minute 20 = .ok (.ireturn, 1) := by decide +kernel
theorem dX5_minute_21 : decode cX5_minute 21 = .ok (.aload_n 0, 1) := by decide +kernel
theorem dX5_minute_22 : decode cX5_minute 22 = .ok (.getfield 100, 3) := by decide +kernel
theorem dX5_minute_25 : decode cX5_minute 25 = .ok (.bipush 40, 2) := by decide +kernel
theorem dX5_minute_27 : decode cX5_minute 27 = .ok (.if_icmp .ne 6, 3) := by decide +kernel
theorem dX5_minute_30 : decode cX5_minute 30 = .ok (.bipush (-2), 2) := by decide +kernel
theorem dX5_minute_32 : decode cX5_minute 32 = .ok (.ireturn, 1) := by decide +kernel
theorem dX5_minute_33 : decode cX5_minute 33 = .ok (.aload_n 0, 1) := by decide +kernel
theorem dX5_minute_34 : decode cX5_minute 34 = .ok (.invokevirtual 201, 3) := by decide +kernel
theorem dX5_minute_37 : decode cX5_minute 37 = .ok (.aload_n 0, 1) := by decide +kernel
theorem dX5_minute_38 : decode cX5_minute 38 = .ok (.aload_n 0, 1) := by decide +kernel
theorem dX5_minute_39 : decode cX5_minute 39 = .ok (.getfield 35, 3) := by decide +kernel
theorem dX5_minute_42 : decode cX5_minute 42 = .ok (.invokevirtual 204, 3) := by decide +kernel
theorem dX5_minute_45 : decode cX5_minute 45 = .ok (.istore_n 1, 1) := by decide +kernel
theorem dX5_minute_46 : decode cX5_minute 46 = .ok (.aload_n 0, 1) := by decide +kernel
theorem dX5_minute_47 : decode cX5_minute 47 = .ok (.getfield 35, 3) := by decide +kernel
theorem dX5_minute_50 : decode cX5_minute 50 = .ok (.iconst 1, 1) := by decide +kernel
theorem dX5_minute_51 : decode cX5_minute 51 = .ok (.iaload, 1) := by decide +kernel
theorem dX5_minute_52 : decode cX5_minute 52 = .ok (.ireturn, 1) := by decide +kernel
theorem dX5_feed_0 : decode cX5_feed 0 = .ok (.aload_n 0, 1) := by decide +kernel
theorem dX5_feed_1 : decode cX5_feed 1 = .ok (.iload_n 1, 1) := by decide +kernel
theorem dX5_feed_2 : decode cX5_feed 2 = .ok (.invokevirtual 176, 3) := by decide +kernel
theorem dX5_feed_5 : decode cX5_feed 5 = .ok (.ifCond .eq 15, 3) := by decide +kernel
theorem dX5_feed_8 : decode cX5_feed 8 = .ok (.iload_n 2, 1) := by decide +kernel
theorem dX5_feed_9 : decode cX5_feed 9 = .ok (.i2l, 1) := by decide +kernel
theorem dX5_feed_10 : decode cX5_feed 10 = .ok (.lconst 0, 1) := by decide +kernel
theorem dX5_feed_11 : decode cX5_feed 11 = .ok (.ldc2_w 207, 3) := by decide +kernel
theorem dX5_feed_14 : decode cX5_feed 14 = .ok (.invokestatic 77, 3) := by decide +kernel
theorem dX5_feed_17 : decode cX5_feed 17 = .ok (.ifCond .ne 5, 3) := by decide +kernel
theorem dX5_feed_20 : decode cX5_feed 20 = .ok (.iconst (-1), 1) := by decide +kernel
theorem dX5_feed_21 : decode cX5_feed 21 = .ok (.ireturn, 1) := by decide +kernel
theorem dX5_feed_22 : decode cX5_feed 22 = .ok (.aload_n 0, 1) := by decide +kernel
theorem dX5_feed_23 : decode cX5_feed 23 = .ok (.getfield 100, 3) := by decide +kernel
theorem dX5_feed_26 : decode cX5_feed 26 = .ok (.bipush 40, 2) := by decide +kernel
theorem dX5_feed_28 : decode cX5_feed 28 = .ok (.if_icmp .ne 6, 3) := by decide +kernel
theorem dX5_feed_31 : decode cX5_feed 31 = .ok (.bipush (-2), 2) := by decide +kernel
theorem dX5_feed_33 : decode cX5_feed 33 = .ok (.ireturn, 1) := by decide +kernel
theorem dX5_feed_34 : decode cX5_feed 34 = .ok (.aload_n 0, 1) := by decide +kernel
theorem dX5_feed_35 : decode cX5_feed 35 = .ok (.invokevirtual 201, 3) := by decide +kernel
theorem dX5_feed_38 : decode cX5_feed 38 = .ok (.aload_n 0, 1) := by decide +kernel
theorem dX5_feed_39 : decode cX5_feed 39 = .ok (.getfield 35, 3) := by decide +kernel
theorem dX5_feed_42 : decode cX5_feed 42 = .ok (.iconst 3, 1) := by decide +kernel
theorem dX5_feed_43 : decode cX5_feed 43 = .ok (.iload_n 1, 1) := by decide +kernel
theorem dX5_feed_44 : decode cX5_feed 44 = .ok (.iadd, 1) := by decide +kernel
theorem dX5_feed_45 : decode cX5_feed 45 = .ok (.iaload, 1) := by decide +kernel
theorem dX5_feed_46 : decode cX5_feed 46 = .ok (.istore_n 3, 1) := by decide +kernel
theorem dX5_feed_47 : decode cX5_feed 47 = .ok (.aload_n 0, 1) := by decide +kernel
theorem dX5_feed_48 : decode cX5_feed 48 = .ok (.getfield 35, 3) := by decide +kernel
theorem dX5_feed_51 : decode cX5_feed 51 = .ok (.iconst 3, 1) := by decide +kernel
theorem dX5_feed_52 : decode cX5_feed 52 = .ok (.iload_n 1, 1) := by decide +kernel
theorem dX5_feed_53 : decode cX5_feed 53 = .ok (.iadd, 1) := by decide +kernel
theorem dX5_feed_54 : decode cX5_feed 54 = .ok (.iload_n 2, 1) := by decide +kernel
theorem dX5_feed_55 : decode cX5_feed 55 = .ok (.iastore, 1) := by decide +kernel
theorem dX5_feed_56 : decode cX5_feed 56 = .ok (.iload_n 3, 1) := by decide +kernel
theorem dX5_feed_57 : decode cX5_feed 57 = .ok (.ireturn, 1) := by decide +kernel
theorem dX5_wake_0 : decode cX5_wake 0 = .ok (.aload_n 0, 1) := by decide +kernel
theorem dX5_wake_1 : decode cX5_wake 1 = .ok (.iload_n 1, 1) := by decide +kernel
theorem dX5_wake_2 : decode cX5_wake 2 = .ok (.invokevirtual 176, 3) := by decide +kernel
theorem dX5_wake_5 : decode cX5_wake 5 = .ok (.ifCond .ne 5, 3) := by decide +kernel
theorem dX5_wake_8 : decode cX5_wake 8 = .ok (.iconst (-1), 1) := by decide +kernel
theorem dX5_wake_9 : decode cX5_wake 9 = .ok (.ireturn, 1) := by decide +kernel
theorem dX5_wake_10 : decode cX5_wake 10 = .ok (.aload_n 0, 1) := by decide +kernel
theorem dX5_wake_11 : decode cX5_wake 11 = .ok (.getfield 35, 3) := by decide +kernel
theorem dX5_wake_14 : decode cX5_wake 14 = .ok (.iconst 2, 1) := by decide +kernel
theorem dX5_wake_15 : decode cX5_wake 15 = .ok (.iaload, 1) := by decide +kernel
theorem dX5_wake_16 : decode cX5_wake 16 = .ok (.iload_n 1, 1) := by decide +kernel
theorem dX5_wake_17 : decode cX5_wake 17 = .ok (.invokestatic 165, 3) := by decide +kernel
theorem dX5_wake_20 : decode cX5_wake 20 = .ok (.ifCond .ne 6, 3) := by decide +kernel
theorem dX5_wake_23 : decode cX5_wake 23 = .ok (.bipush (-4), 2) := by decide +kernel
theorem dX5_wake_25 : decode cX5_wake 25 = .ok (.ireturn, 1) := by decide +kernel
theorem dX5_wake_26 : decode cX5_wake 26 = .ok (.aload_n 0, 1) := by decide +kernel
theorem dX5_wake_27 : decode cX5_wake 27 = .ok (.getfield 100, 3) := by decide +kernel
theorem dX5_wake_30 : decode cX5_wake 30 = .ok (.bipush 40, 2) := by decide +kernel
theorem dX5_wake_32 : decode cX5_wake 32 = .ok (.if_icmp .ne 6, 3) := by decide +kernel
theorem dX5_wake_35 : decode cX5_wake 35 = .ok (.bipush (-2), 2) := by decide +kernel
theorem dX5_wake_37 : decode cX5_wake 37 = .ok (.ireturn, 1) := by decide +kernel
theorem dX5_wake_38 : decode cX5_wake 38 = .ok (.aload_n 0, 1) := by decide +kernel
theorem dX5_wake_39 : decode cX5_wake 39 = .ok (.invokevirtual 201, 3) := by decide +kernel
theorem dX5_wake_42 : decode cX5_wake 42 = .ok (.aload_n 0, 1) := by decide +kernel
theorem dX5_wake_43 : decode cX5_wake 43 = .ok (.iload_n 1, 1) := by decide +kernel
theorem dX5_wake_44 : decode cX5_wake 44 = .ok (.invokevirtual 181, 3) := by decide +kernel
theorem dX5_wake_47 : decode cX5_wake 47 = .ok (.istore_n 2, 1) := by decide +kernel
theorem dX5_wake_48 : decode cX5_wake 48 = .ok (.aload_n 0, 1) := by decide +kernel
theorem dX5_wake_49 : decode cX5_wake 49 = .ok (.getfield 35, 3) := by decide +kernel
theorem dX5_wake_52 : decode cX5_wake 52 = .ok (.iconst 2, 1) := by decide +kernel
theorem dX5_wake_53 : decode cX5_wake 53 = .ok (.dup2, 1) := by decide +kernel
theorem dX5_wake_54 : decode cX5_wake 54 = .ok (.iaload, 1) := by decide +kernel
theorem dX5_wake_55 : decode cX5_wake 55 = .ok (.iconst 1, 1) := by decide +kernel
theorem dX5_wake_56 : decode cX5_wake 56 = .ok (.iload_n 1, 1) := by decide +kernel
theorem dX5_wake_57 : decode cX5_wake 57 = .ok (.ishl, 1) := by decide +kernel
theorem dX5_wake_58 : decode cX5_wake 58 = .ok (.ixor, 1) := by decide +kernel
theorem dX5_wake_59 : decode cX5_wake 59 = .ok (.iastore, 1) := by decide +kernel
theorem dX5_wake_60 : decode cX5_wake 60 = .ok (.iload_n 2, 1) := by decide +kernel
theorem dX5_wake_61 : decode cX5_wake 61 = .ok (.ifCond .eq 7, 3) := by decide +kernel
theorem dX5_wake_64 : decode cX5_wake 64 = .ok (.iconst 1, 1) := by decide +kernel
theorem dX5_wake_65 : decode cX5_wake 65 = .ok (.goto 4, 3) := by decide +kernel
theorem dX5_wake_68 : decode cX5_wake 68 = .ok (.iconst 0, 1) := by decide +kernel
theorem dX5_wake_69 : decode cX5_wake 69 = .ok (.ireturn, 1) := by decide +kernel
theorem dX5_lull_0 : decode cX5_lull 0 = .ok (.aload_n 0, 1) := by decide +kernel
theorem dX5_lull_1 : decode cX5_lull 1 = .ok (.iload_n 1, 1) := by decide +kernel
theorem dX5_lull_2 : decode cX5_lull 2 = .ok (.invokevirtual 176, 3) := by decide +kernel
theorem dX5_lull_5 : decode cX5_lull 5 = .ok (.ifCond .ne 5, 3) := by decide +kernel
theorem dX5_lull_8 : decode cX5_lull 8 = .ok (.iconst (-1), 1) := by decide +kernel
theorem dX5_lull_9 : decode cX5_lull 9 = .ok (.ireturn, 1) := by decide +kernel
theorem dX5_lull_10 : decode cX5_lull 10 = .ok (.aload_n 0, 1) := by decide +kernel
theorem dX5_lull_11 : decode cX5_lull 11 = .ok (.getfield 35, 3) := by decide +kernel
theorem dX5_lull_14 : decode cX5_lull 14 = .ok (.iconst 2, 1) := by decide +kernel
theorem dX5_lull_15 : decode cX5_lull 15 = .ok (.iaload, 1) := by decide +kernel
theorem dX5_lull_16 : decode cX5_lull 16 = .ok (.iload_n 1, 1) := by decide +kernel
theorem dX5_lull_17 : decode cX5_lull 17 = .ok (.invokestatic 165, 3) := by decide +kernel
theorem dX5_lull_20 : decode cX5_lull 20 = .ok (.ifCond .eq 6, 3) := by decide +kernel
theorem dX5_lull_23 : decode cX5_lull 23 = .ok (.bipush (-4), 2) := by decide +kernel
theorem dX5_lull_25 : decode cX5_lull 25 = .ok (.ireturn, 1) := by decide +kernel
theorem dX5_lull_26 : decode cX5_lull 26 = .ok (.aload_n 0, 1) := by decide +kernel
theorem dX5_lull_27 : decode cX5_lull 27 = .ok (.getfield 100, 3) := by decide +kernel
theorem dX5_lull_30 : decode cX5_lull 30 = .ok (.bipush 40, 2) := by decide +kernel
theorem dX5_lull_32 : decode cX5_lull 32 = .ok (.if_icmp .ne 6, 3) := by decide +kernel
theorem dX5_lull_35 : decode cX5_lull 35 = .ok (.bipush (-2), 2) := by decide +kernel
theorem dX5_lull_37 : decode cX5_lull 37 = .ok (.ireturn, 1) := by decide +kernel
theorem dX5_lull_38 : decode cX5_lull 38 = .ok (.aload_n 0, 1) := by decide +kernel
theorem dX5_lull_39 : decode cX5_lull 39 = .ok (.invokevirtual 201, 3) := by decide +kernel
theorem dX5_lull_42 : decode cX5_lull 42 = .ok (.aload_n 0, 1) := by decide +kernel
theorem dX5_lull_43 : decode cX5_lull 43 = .ok (.getfield 35, 3) := by decide +kernel
theorem dX5_lull_46 : decode cX5_lull 46 = .ok (.iconst 2, 1) := by decide +kernel
theorem dX5_lull_47 : decode cX5_lull 47 = .ok (.dup2, 1) := by decide +kernel
theorem dX5_lull_48 : decode cX5_lull 48 = .ok (.iaload, 1) := by decide +kernel
theorem dX5_lull_49 : decode cX5_lull 49 = .ok (.iconst 1, 1) := by decide +kernel
theorem dX5_lull_50 : decode cX5_lull 50 = .ok (.iload_n 1, 1) := by decide +kernel
theorem dX5_lull_51 : decode cX5_lull 51 = .ok (.ishl, 1) := by decide +kernel
theorem dX5_lull_52 : decode cX5_lull 52 = .ok (.ixor, 1) := by decide +kernel
theorem dX5_lull_53 : decode cX5_lull 53 = .ok (.iastore, 1) := by decide +kernel
theorem dX5_lull_54 : decode cX5_lull 54 = .ok (.aload_n 0, 1) := by decide +kernel
theorem dX5_lull_55 : decode cX5_lull 55 = .ok (.iload_n 1, 1) := by decide +kernel
theorem dX5_lull_56 : decode cX5_lull 56 = .ok (.invokevirtual 181, 3) := by decide +kernel
theorem dX5_lull_59 : decode cX5_lull 59 = .ok (.ifCond .eq 7, 3) := by decide +kernel
theorem dX5_lull_62 : decode cX5_lull 62 = .ok (.iconst 1, 1) := by decide +kernel
theorem dX5_lull_63 : decode cX5_lull 63 = .ok (.goto 4, 3) := by decide +kernel
theorem dX5_lull_66 : decode cX5_lull 66 = .ok (.iconst 0, 1) := by decide +kernel
theorem dX5_lull_67 : decode cX5_lull 67 = .ok (.ireturn, 1) := by decide +kernel
theorem dX5_undo_0 : decode cX5_undo 0 = .ok (.iload_n 1, 1) := by decide +kernel
theorem dX5_undo_1 : decode cX5_undo 1 = .ok (.i2l, 1) := by decide +kernel
theorem dX5_undo_2 : decode cX5_undo 2 = .ok (.lconst 0, 1) := by decide +kernel
theorem dX5_undo_3 : decode cX5_undo 3 = .ok (.aload_n 0, 1) := by decide +kernel
theorem dX5_undo_4 : decode cX5_undo 4 = .ok (.getfield 100, 3) := by decide +kernel
theorem dX5_undo_7 : decode cX5_undo 7 = .ok (.i2l, 1) := by decide +kernel
theorem dX5_undo_8 : decode cX5_undo 8 = .ok (.invokestatic 77, 3) := by decide +kernel
theorem dX5_undo_11 : decode cX5_undo 11 = .ok (.ifCond .ne 5, 3) := by decide +kernel
theorem dX5_undo_14 : decode cX5_undo 14 = .ok (.iconst (-1), 1) := by decide +kernel
theorem dX5_undo_15 : decode cX5_undo 15 = .ok (.ireturn, 1) := by decide +kernel
theorem dX5_undo_16 : decode cX5_undo 16 = .ok (.aload_n 0, 1) := by decide +kernel
theorem dX5_undo_17 : decode cX5_undo 17 = .ok (.getfield 100, 3) := by decide +kernel
theorem dX5_undo_20 : decode cX5_undo 20 = .ok (.iload_n 1, 1) := by decide +kernel
theorem dX5_undo_21 : decode cX5_undo 21 = .ok (.isub, 1) := by decide +kernel
theorem dX5_undo_22 : decode cX5_undo 22 = .ok (.istore_n 2, 1) := by decide +kernel
theorem dX5_undo_23 : decode cX5_undo 23 = .ok (.iload_n 2, 1) := by decide +kernel
theorem dX5_undo_24 : decode cX5_undo 24 = .ok (.ifCond .le 21, 3) := by decide +kernel
theorem dX5_undo_27 : decode cX5_undo 27 = .ok (.aload_n 0, 1) := by decide +kernel
theorem dX5_undo_28 : decode cX5_undo 28 = .ok (.getfield 41, 3) := by decide +kernel
theorem dX5_undo_31 : decode cX5_undo 31 = .ok (.bipush 9, 2) := by decide +kernel
theorem dX5_undo_33 : decode cX5_undo 33 = .ok (.iload_n 1, 1) := by decide +kernel
theorem dX5_undo_34 : decode cX5_undo 34 = .ok (.imul, 1) := by decide +kernel
theorem dX5_undo_35 : decode cX5_undo 35 = .ok (.aload_n 0, 1) := by decide +kernel
theorem dX5_undo_36 : decode cX5_undo 36 = .ok (.getfield 35, 3) := by decide +kernel
theorem dX5_undo_39 : decode cX5_undo 39 = .ok (.iconst 0, 1) := by decide +kernel
theorem dX5_undo_40 : decode cX5_undo 40 = .ok (.bipush 9, 2) := by decide +kernel
theorem dX5_undo_42 : decode cX5_undo 42 = .ok (.invokestatic 197, 3) := by decide +kernel
theorem dX5_undo_45 : decode cX5_undo 45 = .ok (.aload_n 0, 1) := by decide +kernel
theorem dX5_undo_46 : decode cX5_undo 46 = .ok (.iload_n 1, 1) := by decide +kernel
theorem dX5_undo_47 : decode cX5_undo 47 = .ok (.putfield 100, 3) := by decide +kernel
theorem dX5_undo_50 : decode cX5_undo 50 = .ok (.iload_n 2, 1) := by decide +kernel
theorem dX5_undo_51 : decode cX5_undo 51 = .ok (.ireturn, 1) := by decide +kernel
theorem dX5_keep_0 : decode cX5_keep 0 = .ok (.iload_n 1, 1) := by decide +kernel
theorem dX5_keep_1 : decode cX5_keep 1 = .ok (.i2l, 1) := by decide +kernel
theorem dX5_keep_2 : decode cX5_keep 2 = .ok (.lconst 0, 1) := by decide +kernel
theorem dX5_keep_3 : decode cX5_keep 3 = .ok (.ldc2_w 209, 3) := by decide +kernel
theorem dX5_keep_6 : decode cX5_keep 6 = .ok (.invokestatic 77, 3) := by decide +kernel
theorem dX5_keep_9 : decode cX5_keep 9 = .ok (.ifCond .ne 5, 3) := by decide +kernel
theorem dX5_keep_12 : decode cX5_keep 12 = .ok (.iconst (-1), 1) := by decide +kernel
theorem dX5_keep_13 : decode cX5_keep 13 = .ok (.ireturn, 1) := by decide +kernel
theorem dX5_keep_14 : decode cX5_keep 14 = .ok (.aload_n 0, 1) := by decide +kernel
theorem dX5_keep_15 : decode cX5_keep 15 = .ok (.getfield 97, 3) := by decide +kernel
theorem dX5_keep_18 : decode cX5_keep 18 = .ok (.ifCond .ne 6, 3) := by decide +kernel
theorem dX5_keep_21 : decode cX5_keep 21 = .ok (.bipush (-4), 2) := by decide +kernel
theorem dX5_keep_23 : decode cX5_keep 23 = .ok (.ireturn, 1) := by decide +kernel
theorem dX5_keep_24 : decode cX5_keep 24 = .ok (.aload_n 0, 1) := by decide +kernel
theorem dX5_keep_25 : decode cX5_keep 25 = .ok (.getfield 44, 3) := by decide +kernel
theorem dX5_keep_28 : decode cX5_keep 28 = .ok (.sipush 370, 3) := by decide +kernel
theorem dX5_keep_31 : decode cX5_keep 31 = .ok (.iload_n 1, 1) := by decide +kernel
theorem dX5_keep_32 : decode cX5_keep 32 = .ok (.imul, 1) := by decide +kernel
theorem dX5_keep_33 : decode cX5_keep 33 = .ok (.aload_n 0, 1) := by decide +kernel
theorem dX5_keep_34 : decode cX5_keep 34 = .ok (.getfield 100, 3) := by decide +kernel
theorem dX5_keep_37 : decode cX5_keep 37 = .ok (.iastore, 1) := by decide +kernel
theorem dX5_keep_38 : decode cX5_keep 38 = .ok (.aload_n 0, 1) := by decide +kernel
theorem dX5_keep_39 : decode cX5_keep 39 = .ok (.getfield 35, 3) := by decide +kernel
theorem dX5_keep_42 : decode cX5_keep 42 = .ok (.iconst 0, 1) := by decide +kernel
theorem dX5_keep_43 : decode cX5_keep 43 = .ok (.aload_n 0, 1) := by decide +kernel
theorem dX5_keep_44 : decode cX5_keep 44 = .ok (.getfield 44, 3) := by decide +kernel
theorem dX5_keep_47 : decode cX5_keep 47 = .ok (.sipush 370, 3) := by decide +kernel
theorem dX5_keep_50 : decode cX5_keep 50 = .ok (.iload_n 1, 1) := by decide +kernel
theorem dX5_keep_51 : decode cX5_keep 51 = .ok (.imul, 1) := by decide +kernel
theorem dX5_keep_52 : decode cX5_keep 52 = .ok (.iconst 1, 1) := by decide +kernel
theorem dX5_keep_53 : decode cX5_keep 53 = .ok (.iadd, 1) := by decide +kernel
theorem dX5_keep_54 : decode cX5_keep 54 = .ok (.bipush 9, 2) := by decide +kernel
theorem dX5_keep_56 : decode cX5_keep 56 = .ok (.invokestatic 197, 3) := by decide +kernel
theorem dX5_keep_59 : decode cX5_keep 59 = .ok (.aload_n 0, 1) := by decide +kernel
theorem dX5_keep_60 : decode cX5_keep 60 = .ok (.getfield 41, 3) := by decide +kernel
theorem dX5_keep_63 : decode cX5_keep 63 = .ok (.iconst 0, 1) := by decide +kernel
theorem dX5_keep_64 : decode cX5_keep 64 = .ok (.aload_n 0, 1) := by decide +kernel
theorem dX5_keep_65 : decode cX5_keep 65 = .ok (.getfield 44, 3) := by decide +kernel
theorem dX5_keep_68 : decode cX5_keep 68 = .ok (.sipush 370, 3) := by decide +kernel
theorem dX5_keep_71 : decode cX5_keep 71 = .ok (.iload_n 1, 1) := by decide +kernel
theorem dX5_keep_72 : decode cX5_keep 72 = .ok (.imul, 1) := by decide +kernel
theorem dX5_keep_73 : decode cX5_keep 73 = .ok (.iconst 1, 1) := by decide +kernel
theorem dX5_keep_74 : decode cX5_keep 74 = .ok (.iadd, 1) := by decide +kernel
theorem dX5_keep_75 : decode cX5_keep 75 = .ok (.bipush 9, 2) := by decide +kernel
theorem dX5_keep_77 : decode cX5_keep 77 = .ok (.iadd, 1) := by decide +kernel
theorem dX5_keep_78 : decode cX5_keep 78 = .ok (.sipush 360, 3) := by decide +kernel
theorem dX5_keep_81 : decode cX5_keep 81 = .ok (.invokestatic 197, 3) := by decide +kernel
theorem dX5_keep_84 : decode cX5_keep 84 = .ok (.aload_n 0, 1) := by decide +kernel
theorem dX5_keep_85 : decode cX5_keep 85 = .ok (.getfield 100, 3) := by decide +kernel
theorem dX5_keep_88 : decode cX5_keep 88 = .ok (.ireturn, 1) := by decide +kernel
theorem dX5_on_0 : decode cX5_on 0 = .ok (.iload_n 1, 1) := by decide +kernel
theorem dX5_on_1 : decode cX5_on 1 = .ok (.i2l, 1) := by decide +kernel
theorem dX5_on_2 : decode cX5_on 2 = .ok (.lconst 0, 1) := by decide +kernel
theorem dX5_on_3 : decode cX5_on 3 = .ok (.ldc2_w 209, 3) := by decide +kernel
theorem dX5_on_6 : decode cX5_on 6 = .ok (.invokestatic 77, 3) := by decide +kernel
theorem dX5_on_9 : decode cX5_on 9 = .ok (.ifCond .ne 5, 3) := by decide +kernel
theorem dX5_on_12 : decode cX5_on 12 = .ok (.iconst (-1), 1) := by decide +kernel
theorem dX5_on_13 : decode cX5_on 13 = .ok (.ireturn, 1) := by decide +kernel
theorem dX5_on_14 : decode cX5_on 14 = .ok (.aload_n 0, 1) := by decide +kernel
theorem dX5_on_15 : decode cX5_on 15 = .ok (.getfield 44, 3) := by decide +kernel
theorem dX5_on_18 : decode cX5_on 18 = .ok (.sipush 370, 3) := by decide +kernel
theorem dX5_on_21 : decode cX5_on 21 = .ok (.iload_n 1, 1) := by decide +kernel
theorem dX5_on_22 : decode cX5_on 22 = .ok (.imul, 1) := by decide +kernel
theorem dX5_on_23 : decode cX5_on 23 = .ok (.iaload, 1) := by decide +kernel
theorem dX5_on_24 : decode cX5_on 24 = .ok (.ifCond .ge 9, 3) := by decide +kernel
theorem dX5_on_27 : decode cX5_on 27 = .ok (.aload_n 0, 1) := by decide +kernel
theorem dX5_on_28 : decode cX5_on 28 = .ok (.iconst 1, 1) := by decide +kernel
theorem dX5_on_29 : decode cX5_on 29 = .ok (.invokevirtual 87, 3) := by decide +kernel
theorem dX5_on_32 : decode cX5_on 32 = .ok (.ireturn, 1) := by decide +kernel
theorem dX5_on_33 : decode cX5_on 33 = .ok (.aload_n 0, 1) := by decide +kernel
theorem dX5_on_34 : decode cX5_on 34 = .ok (.aload_n 0, 1) := by decide +kernel
theorem dX5_on_35 : decode cX5_on 35 = .ok (.getfield 44, 3) := by decide +kernel
theorem dX5_on_38 : decode cX5_on 38 = .ok (.sipush 370, 3) := by decide +kernel
theorem dX5_on_41 : decode cX5_on 41 = .ok (.iload_n 1, 1) := by decide +kernel
theorem dX5_on_42 : decode cX5_on 42 = .ok (.imul, 1) := by decide +kernel
theorem dX5_on_43 : decode cX5_on 43 = .ok (.iaload, 1) := by decide +kernel
theorem dX5_on_44 : decode cX5_on 44 = .ok (.putfield 100, 3) := by decide +kernel
theorem dX5_on_47 : decode cX5_on 47 = .ok (.aload_n 0, 1) := by decide +kernel
theorem dX5_on_48 : decode cX5_on 48 = .ok (.getfield 44, 3) := by decide +kernel
theorem dX5_on_51 : decode cX5_on 51 = .ok (.sipush 370, 3) := by decide +kernel
theorem dX5_on_54 : decode cX5_on 54 = .ok (.iload_n 1, 1) := by decide +kernel
theorem dX5_on_55 : decode cX5_on 55 = .ok (.imul, 1) := by decide +kernel
theorem dX5_on_56 : decode cX5_on 56 = .ok (.iconst 1, 1) := by decide +kernel
theorem dX5_on_57 : decode cX5_on 57 = .ok (.iadd, 1) := by decide +kernel
theorem dX5_on_58 : decode cX5_on 58 = .ok (.aload_n 0, 1) := by decide +kernel
theorem dX5_on_59 : decode cX5_on 59 = .ok (.getfield 35, 3) := by decide +kernel
theorem dX5_on_62 : decode cX5_on 62 = .ok (.iconst 0, 1) := by decide +kernel
theorem dX5_on_63 : decode cX5_on 63 = .ok (.bipush 9, 2) := by decide +kernel
theorem dX5_on_65 : decode cX5_on 65 = .ok (.invokestatic 197, 3) := by decide +kernel
theorem dX5_on_68 : decode cX5_on 68 = .ok (.aload_n 0, 1) := by decide +kernel
theorem dX5_on_69 : decode cX5_on 69 = .ok (.getfield 44, 3) := by decide +kernel
theorem dX5_on_72 : decode cX5_on 72 = .ok (.sipush 370, 3) := by decide +kernel
theorem dX5_on_75 : decode cX5_on 75 = .ok (.iload_n 1, 1) := by decide +kernel
theorem dX5_on_76 : decode cX5_on 76 = .ok (.imul, 1) := by decide +kernel
theorem dX5_on_77 : decode cX5_on 77 = .ok (.iconst 1, 1) := by decide +kernel
theorem dX5_on_78 : decode cX5_on 78 = .ok (.iadd, 1) := by decide +kernel
theorem dX5_on_79 : decode cX5_on 79 = .ok (.bipush 9, 2) := by decide +kernel
theorem dX5_on_81 : decode cX5_on 81 = .ok (.iadd, 1) := by decide +kernel
theorem dX5_on_82 : decode cX5_on 82 = .ok (.aload_n 0, 1) := by decide +kernel
theorem dX5_on_83 : decode cX5_on 83 = .ok (.getfield 41, 3) := by decide +kernel
theorem dX5_on_86 : decode cX5_on 86 = .ok (.iconst 0, 1) := by decide +kernel
theorem dX5_on_87 : decode cX5_on 87 = .ok (.sipush 360, 3) := by decide +kernel
theorem dX5_on_90 : decode cX5_on 90 = .ok (.invokestatic 197, 3) := by decide +kernel
theorem dX5_on_93 : decode cX5_on 93 = .ok (.aload_n 0, 1) := by decide +kernel
theorem dX5_on_94 : decode cX5_on 94 = .ok (.getfield 100, 3) := by decide +kernel
theorem dX5_on_97 : decode cX5_on 97 = .ok (.ireturn, 1) := by decide +kernel
theorem dX5_layAside_0 : decode cX5_layAside 0 = .ok (.aload_n 0, 1) := by decide +kernel
theorem dX5_layAside_1 : decode cX5_layAside 1 = .ok (.getfield 35, 3) := by decide +kernel
theorem dX5_layAside_4 : decode cX5_layAside 4 = .ok (.iconst 0, 1) := by decide +kernel
theorem dX5_layAside_5 : decode cX5_layAside 5 = .ok (.aload_n 0, 1) := by decide +kernel
theorem dX5_layAside_6 : decode cX5_layAside 6 = .ok (.getfield 38, 3) := by decide +kernel
theorem dX5_layAside_9 : decode cX5_layAside 9 = .ok (.iconst 0, 1) := by decide +kernel
theorem dX5_layAside_10 : decode cX5_layAside 10 = .ok (.bipush 9, 2) := by decide +kernel
theorem dX5_layAside_12 : decode cX5_layAside 12 = .ok (.invokestatic 197, 3) := by decide +kernel
theorem dX5_layAside_15 : decode cX5_layAside 15 = .ok (.return_, 1) := by decide +kernel
theorem dX5_placeBehind_0 : decode cX5_placeBehind 0 = .ok (.iconst 0, 1) := by decide +kernel
theorem dX5_placeBehind_1 : decode cX5_placeBehind 1 = .ok (.istore_n 2, 1) := by decide +kernel
theorem dX5_placeBehind_2 : decode cX5_placeBehind 2 = .ok (.iload_n 2, 1) := by decide +kernel
theorem dX5_placeBehind_3 : decode cX5_placeBehind 3 = .ok (.iload_n 1, 1) := by decide +kernel
theorem dX5_placeBehind_4 : decode cX5_placeBehind 4 = .ok (.if_icmp .ge 18, 3) := by decide +kernel
theorem dX5_placeBehind_7 : decode cX5_placeBehind 7 = .ok (.aload_n 0, 1) := by decide +kernel
theorem dX5_placeBehind_8 : decode cX5_placeBehind 8 = .ok (.aload_n 0, 1) := by decide +kernel
theorem dX5_placeBehind_9 : decode cX5_placeBehind 9 = .ok (.getfield 38, 3) := by decide +kernel
theorem dX5_placeBehind_12 : decode cX5_placeBehind 12 = .ok (.invokevirtual 204, 3) := by decide +kernel
theorem dX5_placeBehind_15 : decode cX5_placeBehind 15 = .ok (.istore_n 3, 1) := by decide +kernel
theorem dX5_placeBehind_16 : decode cX5_placeBehind 16 = .ok (.iinc 2 1, 3) := by decide +kernel
theorem dX5_placeBehind_19 : decode cX5_placeBehind 19 = .ok (.goto (-17), 3) := by decide +kernel
theorem dX5_placeBehind_22 : decode cX5_placeBehind 22 = .ok (.aload_n 0, 1) := by decide +kernel
theorem dX5_placeBehind_23 : decode cX5_placeBehind 23 = .ok (.getfield 38, 3) := by decide +kernel
theorem dX5_placeBehind_26 : decode cX5_placeBehind 26 = .ok (.iconst 1, 1) := by decide +kernel
theorem dX5_placeBehind_27 : decode cX5_placeBehind 27 = .ok (.iaload, 1) := by decide +kernel
theorem dX5_placeBehind_28 : decode cX5_placeBehind 28 = .ok (.ireturn, 1) := by decide +kernel
end
section
theorem dX5_train_0 : decode cX5_train 0 = .ok (.iload_n 1, 1) := by decide +kernel
theorem dX5_train_1 : decode cX5_train 1 = .ok (.i2l, 1) := by decide +kernel
theorem dX5_train_2 : decode cX5_train 2 = .ok (.lconst 0, 1) := by decide +kernel
theorem dX5_train_3 : decode cX5_train 3 = .ok (.ldc2_w 211, 3) := by decide +kernel
theorem dX5_train_6 : decode cX5_train 6 = .ok (.invokestatic 77, 3) := by decide +kernel
theorem dX5_train_9 : decode cX5_train 9 = .ok (.ifCond .ne 5, 3) := by decide +kernel
theorem dX5_train_12 : decode cX5_train 12 = .ok (.iconst (-1), 1) := by decide +kernel
theorem dX5_train_13 : decode cX5_train 13 = .ok (.ireturn, 1) := by decide +kernel
theorem dX5_train_14 : decode cX5_train 14 = .ok (.aload_n 0, 1) := by decide +kernel
theorem dX5_train_15 : decode cX5_train 15 = .ok (.getfield 97, 3) := by decide +kernel
theorem dX5_train_18 : decode cX5_train 18 = .ok (.ifCond .ne 6, 3) := by decide +kernel
theorem dX5_train_21 : decode cX5_train 21 = .ok (.bipush (-4), 2) := by decide +kernel
theorem dX5_train_23 : decode cX5_train 23 = .ok (.ireturn, 1) := by decide +kernel
theorem dX5_train_24 : decode cX5_train 24 = .ok (.aload_n 0, 1) := by decide +kernel
theorem dX5_train_25 : decode cX5_train 25 = .ok (.invokevirtual 213, 3) := by decide +kernel
theorem dX5_train_28 : decode cX5_train 28 = .ok (.iconst 0, 1) := by decide +kernel
theorem dX5_train_29 : decode cX5_train 29 = .ok (.istore_n 2, 1) := by decide +kernel
theorem dX5_train_30 : decode cX5_train 30 = .ok (.iconst 0, 1) := by decide +kernel
theorem dX5_train_31 : decode cX5_train 31 = .ok (.istore_n 3, 1) := by decide +kernel
theorem dX5_train_32 : decode cX5_train 32 = .ok (.iload_n 3, 1) := by decide +kernel
theorem dX5_train_33 : decode cX5_train 33 = .ok (.iload_n 1, 1) := by decide +kernel
theorem dX5_train_34 : decode cX5_train 34 = .ok (.if_icmp .ge 28, 3) := by decide +kernel
theorem dX5_train_37 : decode cX5_train 37 = .ok (.iload_n 2, 1) := by decide +kernel
theorem dX5_train_38 : decode cX5_train 38 = .ok (.aload_n 0, 1) := by decide +kernel
theorem dX5_train_39 : decode cX5_train 39 = .ok (.aload_n 0, 1) := by decide +kernel
theorem dX5_train_40 : decode cX5_train 40 = .ok (.getfield 38, 3) := by decide +kernel
theorem dX5_train_43 : decode cX5_train 43 = .ok (.invokevirtual 204, 3) := by decide +kernel
theorem dX5_train_46 : decode cX5_train 46 = .ok (.ifCond .eq 7, 3) := by decide +kernel
theorem dX5_train_49 : decode cX5_train 49 = .ok (.iconst 1, 1) := by decide +kernel
theorem dX5_train_50 : decode cX5_train 50 = .ok (.goto 4, 3) := by decide +kernel
theorem dX5_train_53 : decode cX5_train 53 = .ok (.iconst 0, 1) := by decide +kernel
theorem dX5_train_54 : decode cX5_train 54 = .ok (.iadd, 1) := by decide +kernel
theorem dX5_train_55 : decode cX5_train 55 = .ok (.istore_n 2, 1) := by decide +kernel
theorem dX5_train_56 : decode cX5_train 56 = .ok (.iinc 3 1, 3) := by decide +kernel
theorem dX5_train_59 : decode cX5_train 59 = .ok (.goto (-27), 3) := by decide +kernel
theorem dX5_train_62 : decode cX5_train 62 = .ok (.aload_n 0, 1) := by decide +kernel
theorem dX5_train_63 : decode cX5_train 63 = .ok (.aload_n 0, 1) := by decide +kernel
theorem dX5_train_64 : decode cX5_train 64 = .ok (.getfield 38, 3) := by decide +kernel
theorem dX5_train_67 : decode cX5_train 67 = .ok (.iconst 1, 1) := by decide +kernel
theorem dX5_train_68 : decode cX5_train 68 = .ok (.iaload, 1) := by decide +kernel
theorem dX5_train_69 : decode cX5_train 69 = .ok (.iload_n 2, 1) := by decide +kernel
theorem dX5_train_70 : decode cX5_train 70 = .ok (.invokevirtual 216, 3) := by decide +kernel
theorem dX5_train_73 : decode cX5_train 73 = .ok (.ireturn, 1) := by decide +kernel
theorem dX5_comes_0 : decode cX5_comes 0 = .ok (.aload_n 0, 1) := by decide +kernel
theorem dX5_comes_1 : decode cX5_comes 1 = .ok (.getfield 97, 3) := by decide +kernel
theorem dX5_comes_4 : decode cX5_comes 4 = .ok (.ifCond .ne 6, 3) := by decide +kernel
theorem dX5_comes_7 : decode cX5_comes 7 = .ok (.bipush (-4), 2) := by decide +kernel
theorem dX5_comes_9 : decode cX5_comes 9 = .ok (.ireturn, 1) := by decide +kernel
theorem dX5_comes_10 : decode cX5_comes 10 = .ok (.aload_n 0, 1) := by decide +kernel
theorem dX5_comes_11 : decode cX5_comes 11 = .ok (.invokevirtual 213, 3) := by decide +kernel
theorem dX5_comes_14 : decode cX5_comes 14 = .ok (.iconst 0, 1) := by decide +kernel
theorem dX5_comes_15 : decode cX5_comes 15 = .ok (.istore_n 1, 1) := by decide +kernel
theorem dX5_comes_16 : decode cX5_comes 16 = .ok (.iload_n 1, 1) := by decide +kernel
theorem dX5_comes_17 : decode cX5_comes 17 = .ok (.bipush 61, 2) := by decide +kernel
theorem dX5_comes_19 : decode cX5_comes 19 = .ok (.if_icmp .ge 43, 3) := by decide +kernel
theorem dX5_comes_22 : decode cX5_comes 22 = .ok (.aload_n 0, 1) := by decide +kernel
theorem dX5_comes_23 : decode cX5_comes 23 = .ok (.getfield 38, 3) := by decide +kernel
theorem dX5_comes_26 : decode cX5_comes 26 = .ok (.iconst 1, 1) := by decide +kernel
theorem dX5_comes_27 : decode cX5_comes 27 = .ok (.iaload, 1) := by decide +kernel
theorem dX5_comes_28 : decode cX5_comes 28 = .ok (.aload_n 0, 1) := by decide +kernel
theorem dX5_comes_29 : decode cX5_comes 29 = .ok (.getfield 155, 3) := by decide +kernel
theorem dX5_comes_32 : decode cX5_comes 32 = .ok (.if_icmp .ne 15, 3) := by decide +kernel
theorem dX5_comes_35 : decode cX5_comes 35 = .ok (.aload_n 0, 1) := by decide +kernel
theorem dX5_comes_36 : decode cX5_comes 36 = .ok (.iload_n 1, 1) := by decide +kernel
theorem dX5_comes_37 : decode cX5_comes 37 = .ok (.aload_n 0, 1) := by decide +kernel
theorem dX5_comes_38 : decode cX5_comes 38 = .ok (.getfield 38, 3) := by decide +kernel
theorem dX5_comes_41 : decode cX5_comes 41 = .ok (.iconst 0, 1) := by decide +kernel
theorem dX5_comes_42 : decode cX5_comes 42 = .ok (.iaload, 1) := by decide +kernel
theorem dX5_comes_43 : decode cX5_comes 43 = .ok (.invokevirtual 216, 3) := by decide +kernel
theorem dX5_comes_46 : decode cX5_comes 46 = .ok (.ireturn, 1) := by decide +kernel
theorem dX5_comes_47 : decode cX5_comes 47 = .ok (.aload_n 0, 1) := by decide +kernel
theorem dX5_comes_48 : decode cX5_comes 48 = .ok (.aload_n 0, 1) := by decide +kernel
theorem dX5_comes_49 : decode cX5_comes 49 = .ok (.getfield 38, 3) := by decide +kernel
theorem dX5_comes_52 : decode cX5_comes 52 = .ok (.invokevirtual 204, 3) := by decide +kernel
theorem dX5_comes_55 : decode cX5_comes 55 = .ok (.istore_n 2, 1) := by decide +kernel
theorem dX5_comes_56 : decode cX5_comes 56 = .ok (.iinc 1 1, 3) := by decide +kernel
theorem dX5_comes_59 : decode cX5_comes 59 = .ok (.goto (-43), 3) := by decide +kernel
theorem dX5_comes_62 : decode cX5_comes 62 = .ok (.bipush (-9), 2) := by decide +kernel
theorem dX5_comes_64 : decode cX5_comes 64 = .ok (.ireturn, 1) := by decide +kernel
theorem dX5_standsAt_0 : decode cX5_standsAt 0 = .ok (.aload_n 0, 1) := by decide +kernel
theorem dX5_standsAt_1 : decode cX5_standsAt 1 = .ok (.invokevirtual 213, 3) := by decide +kernel
theorem dX5_standsAt_4 : decode cX5_standsAt 4 = .ok (.iconst 0, 1) := by decide +kernel
theorem dX5_standsAt_5 : decode cX5_standsAt 5 = .ok (.istore_n 3, 1) := by decide +kernel
theorem dX5_standsAt_6 : decode cX5_standsAt 6 = .ok (.iconst 0, 1) := by decide +kernel
theorem dX5_standsAt_7 : decode cX5_standsAt 7 = .ok (.istore 4, 2) := by decide +kernel
theorem dX5_standsAt_9 : decode cX5_standsAt 9 = .ok (.iload 4, 2) := by decide +kernel
theorem dX5_standsAt_11 : decode cX5_standsAt 11 = .ok (.iload_n 2, 1) := by decide +kernel
theorem dX5_standsAt_12 : decode cX5_standsAt 12 = .ok (.if_icmp .ge 54, 3) := by decide +kernel
theorem dX5_standsAt_15 : decode cX5_standsAt 15 = .ok (.aload_n 0, 1) := by decide +kernel
theorem dX5_standsAt_16 : decode cX5_standsAt 16 = .ok (.getfield 38, 3) := by decide +kernel
theorem dX5_standsAt_19 : decode cX5_standsAt 19 = .ok (.iconst 1, 1) := by decide +kernel
theorem dX5_standsAt_20 : decode cX5_standsAt 20 = .ok (.iaload, 1) := by decide +kernel
theorem dX5_standsAt_21 : decode cX5_standsAt 21 = .ok (.iload_n 1, 1) := by decide +kernel
theorem dX5_standsAt_22 : decode cX5_standsAt 22 = .ok (.if_icmp .ne 7, 3) := by decide +kernel
theorem dX5_standsAt_25 : decode cX5_standsAt 25 = .ok (.iconst 1, 1) := by decide +kernel
theorem dX5_standsAt_26 : decode cX5_standsAt 26 = .ok (.goto 4, 3) := by decide +kernel
theorem dX5_standsAt_29 : decode cX5_standsAt 29 = .ok (.iconst 0, 1) := by decide +kernel
theorem dX5_standsAt_30 : decode cX5_standsAt 30 = .ok (.istore 5, 2) := by decide +kernel
theorem dX5_standsAt_32 : decode cX5_standsAt 32 = .ok (.aload_n 0, 1) := by decide +kernel
theorem dX5_standsAt_33 : decode cX5_standsAt 33 = .ok (.aload_n 0, 1) := by decide +kernel
theorem dX5_standsAt_34 : decode cX5_standsAt 34 = .ok (.getfield 38, 3) := by decide +kernel
theorem dX5_standsAt_37 : decode cX5_standsAt 37 = .ok (.invokevirtual 204, 3) := by decide +kernel
theorem dX5_standsAt_40 : decode cX5_standsAt 40 = .ok (.istore 6, 2) := by decide +kernel
theorem dX5_standsAt_42 : decode cX5_standsAt 42 = .ok (.iload_n 3, 1) := by decide +kernel
theorem dX5_standsAt_43 : decode cX5_standsAt 43 = .ok (.iload 5, 2) := by decide +kernel
theorem dX5_standsAt_45 : decode cX5_standsAt 45 = .ok (.ifCond .eq 12, 3) := by decide +kernel
theorem dX5_standsAt_48 : decode cX5_standsAt 48 = .ok (.iload 6, 2) := by decide +kernel
theorem dX5_standsAt_50 : decode cX5_standsAt 50 = .ok (.ifCond .eq 7, 3) := by decide +kernel
theorem dX5_standsAt_53 : decode cX5_standsAt 53 = .ok (.iconst 1, 1) := by decide +kernel
theorem dX5_standsAt_54 : decode cX5_standsAt 54 = .ok (.goto 4, 3) := by decide +kernel
theorem dX5_standsAt_57 : decode cX5_standsAt 57 = .ok (.iconst 0, 1) := by decide +kernel
theorem dX5_standsAt_58 : decode cX5_standsAt 58 = .ok (.iadd, 1) := by decide +kernel
theorem dX5_standsAt_59 : decode cX5_standsAt 59 = .ok (.istore_n 3, 1) := by decide +kernel
theorem dX5_standsAt_60 : decode cX5_standsAt 60 = .ok (.iinc 4 1, 3) := by decide +kernel
theorem dX5_standsAt_63 : decode cX5_standsAt 63 = .ok (.goto (-54), 3) := by decide +kernel
theorem dX5_standsAt_66 : decode cX5_standsAt 66 = .ok (.iload_n 3, 1) := by decide +kernel
theorem dX5_standsAt_67 : decode cX5_standsAt 67 = .ok (.ireturn, 1) := by decide +kernel
theorem dX5_stood_0 : decode cX5_stood 0 = .ok (.aload_n 0, 1) := by decide +kernel
theorem dX5_stood_1 : decode cX5_stood 1 = .ok (.iload_n 1, 1) := by decide +kernel
theorem dX5_stood_2 : decode cX5_stood 2 = .ok (.invokevirtual 176, 3) := by decide +kernel
theorem dX5_stood_5 : decode cX5_stood 5 = .ok (.ifCond .eq 18, 3) := by decide +kernel
theorem dX5_stood_8 : decode cX5_stood 8 = .ok (.aload_n 0, 1) := by decide +kernel
theorem dX5_stood_9 : decode cX5_stood 9 = .ok (.aload_n 0, 1) := by decide +kernel
theorem dX5_stood_10 : decode cX5_stood 10 = .ok (.getfield 32, 3) := by decide +kernel
theorem dX5_stood_13 : decode cX5_stood 13 = .ok (.iload_n 1, 1) := by decide +kernel
theorem dX5_stood_14 : decode cX5_stood 14 = .ok (.iaload, 1) := by decide +kernel
theorem dX5_stood_15 : decode cX5_stood 15 = .ok (.bipush 60, 2) := by decide +kernel
theorem dX5_stood_17 : decode cX5_stood 17 = .ok (.invokevirtual 219, 3) := by decide +kernel
theorem dX5_stood_20 : decode cX5_stood 20 = .ok (.goto 4, 3) := by decide +kernel
theorem dX5_stood_23 : decode cX5_stood 23 = .ok (.iconst (-1), 1) := by decide +kernel
theorem dX5_stood_24 : decode cX5_stood 24 = .ok (.ireturn, 1) := by decide +kernel
theorem dX5_intime_0 : decode cX5_intime 0 = .ok (.aload_n 0, 1) := by decide +kernel
theorem dX5_intime_1 : decode cX5_intime 1 = .ok (.getfield 97, 3) := by decide +kernel
theorem dX5_intime_4 : decode cX5_intime 4 = .ok (.ifCond .ne 6, 3) := by decide +kernel
theorem dX5_intime_7 : decode cX5_intime 7 = .ok (.bipush (-4), 2) := by decide +kernel
theorem dX5_intime_9 : decode cX5_intime 9 = .ok (.ireturn, 1) := by decide +kernel
theorem dX5_intime_10 : decode cX5_intime 10 = .ok (.aload_n 0, 1) := by decide +kernel
theorem dX5_intime_11 : decode cX5_intime 11 = .ok (.getfield 158, 3) := by decide +kernel
theorem dX5_intime_14 : decode cX5_intime 14 = .ok (.aload_n 0, 1) := by decide +kernel
theorem dX5_intime_15 : decode cX5_intime 15 = .ok (.getfield 35, 3) := by decide +kernel
theorem dX5_intime_18 : decode cX5_intime 18 = .ok (.iconst 0, 1) := by decide +kernel
theorem dX5_intime_19 : decode cX5_intime 19 = .ok (.iaload, 1) := by decide +kernel
theorem dX5_intime_20 : decode cX5_intime 20 = .ok (.if_icmp .le 17, 3) := by decide +kernel
theorem dX5_intime_23 : decode cX5_intime 23 = .ok (.aload_n 0, 1) := by decide +kernel
theorem dX5_intime_24 : decode cX5_intime 24 = .ok (.getfield 158, 3) := by decide +kernel
theorem dX5_intime_27 : decode cX5_intime 27 = .ok (.aload_n 0, 1) := by decide +kernel
theorem dX5_intime_28 : decode cX5_intime 28 = .ok (.getfield 35, 3) := by decide +kernel
theorem dX5_intime_31 : decode cX5_intime 31 = .ok (.iconst 0, 1) := by decide +kernel
theorem dX5_intime_32 : decode cX5_intime 32 = .ok (.iaload, 1) := by decide +kernel
theorem dX5_intime_33 : decode cX5_intime 33 = .ok (.isub, 1) := by decide +kernel
theorem dX5_intime_34 : decode cX5_intime 34 = .ok (.goto 4, 3) := by decide +kernel
theorem dX5_intime_37 : decode cX5_intime 37 = .ok (.iconst 0, 1) := by decide +kernel
theorem dX5_intime_38 : decode cX5_intime 38 = .ok (.istore_n 1, 1) := by decide +kernel
theorem dX5_intime_39 : decode cX5_intime 39 = .ok (.bipush (-9), 2) := by decide +kernel
theorem dX5_intime_41 : decode cX5_intime 41 = .ok (.istore_n 2, 1) := by decide +kernel
theorem dX5_intime_42 : decode cX5_intime 42 = .ok (.iconst 0, 1) := by decide +kernel
theorem dX5_intime_43 : decode cX5_intime 43 = .ok (.istore_n 3, 1) := by decide +kernel
theorem dX5_intime_44 : decode cX5_intime 44 = .ok (.iload_n 3, 1) := by decide +kernel
theorem dX5_intime_45 : decode cX5_intime 45 = .ok (.iconst 1, 1) := by decide +kernel
theorem dX5_intime_46 : decode cX5_intime 46 = .ok (.aload_n 0, 1) := by decide +kernel
theorem dX5_intime_47 : decode cX5_intime 47 = .ok (.getfield 97, 3) := by decide +kernel
theorem dX5_intime_50 : decode cX5_intime 50 = .ok (.ishl, 1) := by decide +kernel
theorem dX5_intime_51 : decode cX5_intime 51 = .ok (.if_icmp .ge 71, 3) := by decide +kernel
theorem dX5_intime_54 : decode cX5_intime 54 = .ok (.iload_n 3, 1) := by decide +kernel
theorem dX5_intime_55 : decode cX5_intime 55 = .ok (.aload_n 0, 1) := by decide +kernel
theorem dX5_intime_56 : decode cX5_intime 56 = .ok (.getfield 35, 3) := by decide +kernel
theorem dX5_intime_59 : decode cX5_intime 59 = .ok (.iconst 2, 1) := by decide +kernel
theorem dX5_intime_60 : decode cX5_intime 60 = .ok (.iaload, 1) := by decide +kernel
theorem dX5_intime_61 : decode cX5_intime 61 = .ok (.iconst (-1), 1) := by decide +kernel
theorem dX5_intime_62 : decode cX5_intime 62 = .ok (.ixor, 1) := by decide +kernel
theorem dX5_intime_63 : decode cX5_intime 63 = .ok (.iand, 1) := by decide +kernel
theorem dX5_intime_64 : decode cX5_intime 64 = .ok (.ifCond .ne 52, 3) := by decide +kernel
theorem dX5_intime_67 : decode cX5_intime 67 = .ok (.iload_n 2, 1) := by decide +kernel
theorem dX5_intime_68 : decode cX5_intime 68 = .ok (.bipush (-9), 2) := by decide +kernel
theorem dX5_intime_70 : decode cX5_intime 70 = .ok (.if_icmp .eq 14, 3) := by decide +kernel
theorem dX5_intime_73 : decode cX5_intime 73 = .ok (.iload_n 3, 1) := by decide +kernel
theorem dX5_intime_74 : decode cX5_intime 74 = .ok (.invokestatic 222, 3) := by decide +kernel
theorem dX5_intime_77 : decode cX5_intime 77 = .ok (.iload_n 2, 1) := by decide +kernel
theorem dX5_intime_78 : decode cX5_intime 78 = .ok (.invokestatic 222, 3) := by decide +kernel
theorem dX5_intime_81 : decode cX5_intime 81 = .ok (.if_icmp .ge 35, 3) := by decide +kernel
theorem dX5_intime_84 : decode cX5_intime 84 = .ok (.aload_n 0, 1) := by decide +kernel
theorem dX5_intime_85 : decode cX5_intime 85 = .ok (.invokevirtual 213, 3) := by decide +kernel
theorem dX5_intime_88 : decode cX5_intime 88 = .ok (.aload_n 0, 1) := by decide +kernel
theorem dX5_intime_89 : decode cX5_intime 89 = .ok (.getfield 38, 3) := by decide +kernel
theorem dX5_intime_92 : decode cX5_intime 92 = .ok (.iconst 2, 1) := by decide +kernel
theorem dX5_intime_93 : decode cX5_intime 93 = .ok (.dup2, 1) := by decide +kernel
theorem dX5_intime_94 : decode cX5_intime 94 = .ok (.iaload, 1) := by decide +kernel
theorem dX5_intime_95 : decode cX5_intime 95 = .ok (.iload_n 3, 1) := by decide +kernel
theorem dX5_intime_96 : decode cX5_intime 96 = .ok (.ixor, 1) := by decide +kernel
theorem dX5_intime_97 : decode cX5_intime 97 = .ok (.iastore, 1) := by decide +kernel
theorem dX5_intime_98 : decode cX5_intime 98 = .ok (.aload_n 0, 1) := by decide +kernel
theorem dX5_intime_99 : decode cX5_intime 99 = .ok (.iload_n 1, 1) := by decide +kernel
theorem dX5_intime_100 : decode cX5_intime 100 = .ok (.invokevirtual 225, 3) := by decide +kernel
theorem dX5_intime_103 : decode cX5_intime 103 = .ok (.aload_n 0, 1) := by decide +kernel
theorem dX5_intime_104 : decode cX5_intime 104 = .ok (.getfield 155, 3) := by decide +kernel
theorem dX5_intime_107 : decode cX5_intime 107 = .ok (.if_icmp .ne 7, 3) := by decide +kernel
theorem dX5_intime_110 : decode cX5_intime 110 = .ok (.iload_n 3, 1) := by decide +kernel
theorem dX5_intime_111 : decode cX5_intime 111 = .ok (.goto 4, 3) := by decide +kernel
theorem dX5_intime_114 : decode cX5_intime 114 = .ok (.iload_n 2, 1) := by decide +kernel
theorem dX5_intime_115 : decode cX5_intime 115 = .ok (.istore_n 2, 1) := by decide +kernel
theorem dX5_intime_116 : decode cX5_intime 116 = .ok (.iinc 3 1, 3) := by decide +kernel
theorem dX5_intime_119 : decode cX5_intime 119 = .ok (.goto (-75), 3) := by decide +kernel
theorem dX5_intime_122 : decode cX5_intime 122 = .ok (.iload_n 2, 1) := by decide +kernel
theorem dX5_intime_123 : decode cX5_intime 123 = .ok (.bipush (-9), 2) := by decide +kernel
theorem dX5_intime_125 : decode cX5_intime 125 = .ok (.if_icmp .ne 8, 3) := by decide +kernel
theorem dX5_intime_128 : decode cX5_intime 128 = .ok (.bipush (-9), 2) := by decide +kernel
theorem dX5_intime_130 : decode cX5_intime 130 = .ok (.goto 12, 3) := by decide +kernel
theorem dX5_intime_133 : decode cX5_intime 133 = .ok (.aload_n 0, 1) := by decide +kernel
theorem dX5_intime_134 : decode cX5_intime 134 = .ok (.iload_n 2, 1) := by decide +kernel
theorem dX5_intime_135 : decode cX5_intime 135 = .ok (.invokestatic 222, 3) := by decide +kernel
theorem dX5_intime_138 : decode cX5_intime 138 = .ok (.iload_n 2, 1) := by decide +kernel
theorem dX5_intime_139 : decode cX5_intime 139 = .ok (.invokevirtual 216, 3) := by decide +kernel
theorem dX5_intime_142 : decode cX5_intime 142 = .ok (.ireturn, 1) := by decide +kernel
theorem dX5_standsThen_0 : decode cX5_standsThen 0 = .ok (.aload_n 0, 1) := by decide +kernel
theorem dX5_standsThen_1 : decode cX5_standsThen 1 = .ok (.iload_n 2, 1) := by decide +kernel
theorem dX5_standsThen_2 : decode cX5_standsThen 2 = .ok (.invokevirtual 225, 3) := by decide +kernel
theorem dX5_standsThen_5 : decode cX5_standsThen 5 = .ok (.iload_n 1, 1) := by decide +kernel
theorem dX5_standsThen_6 : decode cX5_standsThen 6 = .ok (.if_icmp .ne 18, 3) := by decide +kernel
theorem dX5_standsThen_9 : decode cX5_standsThen 9 = .ok (.aload_n 0, 1) := by decide +kernel
theorem dX5_standsThen_10 : decode cX5_standsThen 10 = .ok (.aload_n 0, 1) := by decide +kernel
theorem dX5_standsThen_11 : decode cX5_standsThen 11 = .ok (.getfield 38, 3) := by decide +kernel
theorem dX5_standsThen_14 : decode cX5_standsThen 14 = .ok (.invokevirtual 172, 3) := by decide +kernel
theorem dX5_standsThen_17 : decode cX5_standsThen 17 = .ok (.ifCond .eq 7, 3) := by decide +kernel
theorem dX5_standsThen_20 : decode cX5_standsThen 20 = .ok (.iconst 1, 1) := by decide +kernel
theorem dX5_standsThen_21 : decode cX5_standsThen 21 = .ok (.goto 4, 3) := by decide +kernel
theorem dX5_standsThen_24 : decode cX5_standsThen 24 = .ok (.iconst 0, 1) := by decide +kernel
theorem dX5_standsThen_25 : decode cX5_standsThen 25 = .ok (.ireturn, 1) := by decide +kernel
theorem dX5_isFeast_0 : decode cX5_isFeast 0 = .ok (.aload_n 0, 1) := by decide +kernel
theorem dX5_isFeast_1 : decode cX5_isFeast 1 = .ok (.invokevirtual 213, 3) := by decide +kernel
theorem dX5_isFeast_4 : decode cX5_isFeast 4 = .ok (.iload_n 3, 1) := by decide +kernel
theorem dX5_isFeast_5 : decode cX5_isFeast 5 = .ok (.bipush (-9), 2) := by decide +kernel
theorem dX5_isFeast_7 : decode cX5_isFeast 7 = .ok (.if_icmp .eq 18, 3) := by decide +kernel
theorem dX5_isFeast_10 : decode cX5_isFeast 10 = .ok (.aload_n 0, 1) := by decide +kernel
theorem dX5_isFeast_11 : decode cX5_isFeast 11 = .ok (.getfield 38, 3) := by decide +kernel
theorem dX5_isFeast_14 : decode cX5_isFeast 14 = .ok (.iconst 3, 1) := by decide +kernel
theorem dX5_isFeast_15 : decode cX5_isFeast 15 = .ok (.iload_n 3, 1) := by decide +kernel
theorem dX5_isFeast_16 : decode cX5_isFeast 16 = .ok (.bipush 10, 2) := by decide +kernel
theorem dX5_isFeast_18 : decode cX5_isFeast 18 = .ok (.idiv, 1) := by decide +kernel
theorem dX5_isFeast_19 : decode cX5_isFeast 19 = .ok (.iadd, 1) := by decide +kernel
theorem dX5_isFeast_20 : decode cX5_isFeast 20 = .ok (.iload_n 3, 1) := by decide +kernel
theorem dX5_isFeast_21 : decode cX5_isFeast 21 = .ok (.bipush 10, 2) := by decide +kernel
theorem dX5_isFeast_23 : decode cX5_isFeast 23 = .ok (.irem, 1) := by decide +kernel
theorem dX5_isFeast_24 : decode cX5_isFeast 24 = .ok (.iastore, 1) := by decide +kernel
theorem dX5_isFeast_25 : decode cX5_isFeast 25 = .ok (.iload 4, 2) := by decide +kernel
theorem dX5_isFeast_27 : decode cX5_isFeast 27 = .ok (.bipush (-9), 2) := by decide +kernel
theorem dX5_isFeast_29 : decode cX5_isFeast 29 = .ok (.if_icmp .eq 20, 3) := by decide +kernel
theorem dX5_isFeast_32 : decode cX5_isFeast 32 = .ok (.aload_n 0, 1) := by decide +kernel
theorem dX5_isFeast_33 : decode cX5_isFeast 33 = .ok (.getfield 38, 3) := by decide +kernel
theorem dX5_isFeast_36 : decode cX5_isFeast 36 = .ok (.iconst 3, 1) := by decide +kernel
theorem dX5_isFeast_37 : decode cX5_isFeast 37 = .ok (.iload 4, 2) := by decide +kernel
theorem dX5_isFeast_39 : decode cX5_isFeast 39 = .ok (.bipush 10, 2) := by decide +kernel
theorem dX5_isFeast_41 : decode cX5_isFeast 41 = .ok (.idiv, 1) := by decide +kernel
theorem dX5_isFeast_42 : decode cX5_isFeast 42 = .ok (.iadd, 1) := by decide +kernel
theorem dX5_isFeast_43 : decode cX5_isFeast 43 = .ok (.iload 4, 2) := by decide +kernel
theorem dX5_isFeast_45 : decode cX5_isFeast 45 = .ok (.bipush 10, 2) := by decide +kernel
theorem dX5_isFeast_47 : decode cX5_isFeast 47 = .ok (.irem, 1) := by decide +kernel
theorem dX5_isFeast_48 : decode cX5_isFeast 48 = .ok (.iastore, 1) := by decide +kernel
theorem dX5_isFeast_49 : decode cX5_isFeast 49 = .ok (.aload_n 0, 1) := by decide +kernel
theorem dX5_isFeast_50 : decode cX5_isFeast 50 = .ok (.iload_n 1, 1) := by decide +kernel
theorem dX5_isFeast_51 : decode cX5_isFeast 51 = .ok (.iload_n 2, 1) := by decide +kernel
theorem dX5_isFeast_52 : decode cX5_isFeast 52 = .ok (.invokevirtual 228, 3) := by decide +kernel
theorem dX5_isFeast_55 : decode cX5_isFeast 55 = .ok (.ireturn, 1) := by decide +kernel
theorem dX5_isOther_0 : decode cX5_isOther 0 = .ok (.aload_n 0, 1) := by decide +kernel
theorem dX5_isOther_1 : decode cX5_isOther 1 = .ok (.getfield 35, 3) := by decide +kernel
theorem dX5_isOther_4 : decode cX5_isOther 4 = .ok (.iconst 2, 1) := by decide +kernel
theorem dX5_isOther_5 : decode cX5_isOther 5 = .ok (.iaload, 1) := by decide +kernel
theorem dX5_isOther_6 : decode cX5_isOther 6 = .ok (.iload_n 1, 1) := by decide +kernel
theorem dX5_isOther_7 : decode cX5_isOther 7 = .ok (.bipush 10, 2) := by decide +kernel
theorem dX5_isOther_9 : decode cX5_isOther 9 = .ok (.idiv, 1) := by decide +kernel
theorem dX5_isOther_10 : decode cX5_isOther 10 = .ok (.invokestatic 165, 3) := by decide +kernel
theorem dX5_isOther_13 : decode cX5_isOther 13 = .ok (.ifCond .eq 25, 3) := by decide +kernel
theorem dX5_isOther_16 : decode cX5_isOther 16 = .ok (.aload_n 0, 1) := by decide +kernel
theorem dX5_isOther_17 : decode cX5_isOther 17 = .ok (.getfield 35, 3) := by decide +kernel
theorem dX5_isOther_20 : decode cX5_isOther 20 = .ok (.iconst 3, 1) := by decide +kernel
theorem dX5_isOther_21 : decode cX5_isOther 21 = .ok (.iload_n 1, 1) := by decide +kernel
theorem dX5_isOther_22 : decode cX5_isOther 22 = .ok (.bipush 10, 2) := by decide +kernel
theorem dX5_isOther_24 : decode cX5_isOther 24 = .ok (.idiv, 1) := by decide +kernel
theorem dX5_isOther_25 : decode cX5_isOther 25 = .ok (.iadd, 1) := by decide +kernel
theorem dX5_isOther_26 : decode cX5_isOther 26 = .ok (.iaload, 1) := by decide +kernel
theorem dX5_isOther_27 : decode cX5_isOther 27 = .ok (.iload_n 1, 1) := by decide +kernel
theorem dX5_isOther_28 : decode cX5_isOther 28 = .ok (.bipush 10, 2) := by decide +kernel
theorem dX5_isOther_30 : decode cX5_isOther 30 = .ok (.irem, 1) := by decide +kernel
theorem dX5_isOther_31 : decode cX5_isOther 31 = .ok (.if_icmp .eq 7, 3) := by decide +kernel
theorem dX5_isOther_34 : decode cX5_isOther 34 = .ok (.iconst 1, 1) := by decide +kernel
theorem dX5_isOther_35 : decode cX5_isOther 35 = .ok (.goto 4, 3) := by decide +kernel
theorem dX5_isOther_38 : decode cX5_isOther 38 = .ok (.iconst 0, 1) := by decide +kernel
theorem dX5_isOther_39 : decode cX5_isOther 39 = .ok (.ireturn, 1) := by decide +kernel
theorem dX5_feast_0 : decode cX5_feast 0 = .ok (.iload_n 1, 1) := by decide +kernel
theorem dX5_feast_1 : decode cX5_feast 1 = .ok (.i2l, 1) := by decide +kernel
theorem dX5_feast_2 : decode cX5_feast 2 = .ok (.lconst 0, 1) := by decide +kernel
theorem dX5_feast_3 : decode cX5_feast 3 = .ok (.ldc2_w 231, 3) := by decide +kernel
theorem dX5_feast_6 : decode cX5_feast 6 = .ok (.invokestatic 77, 3) := by decide +kernel
theorem dX5_feast_9 : decode cX5_feast 9 = .ok (.ifCond .eq 15, 3) := by decide +kernel
theorem dX5_feast_12 : decode cX5_feast 12 = .ok (.iload_n 2, 1) := by decide +kernel
theorem dX5_feast_13 : decode cX5_feast 13 = .ok (.i2l, 1) := by decide +kernel
theorem dX5_feast_14 : decode cX5_feast 14 = .ok (.lconst 0, 1) := by decide +kernel
theorem dX5_feast_15 : decode cX5_feast 15 = .ok (.ldc2_w 233, 3) := by decide +kernel
theorem dX5_feast_18 : decode cX5_feast 18 = .ok (.invokestatic 77, 3) := by decide +kernel
theorem dX5_feast_21 : decode cX5_feast 21 = .ok (.ifCond .ne 5, 3) := by decide +kernel
theorem dX5_feast_24 : decode cX5_feast 24 = .ok (.iconst (-1), 1) := by decide +kernel
theorem dX5_feast_25 : decode cX5_feast 25 = .ok (.ireturn, 1) := by decide +kernel
theorem dX5_feast_26 : decode cX5_feast 26 = .ok (.aload_n 0, 1) := by decide +kernel
theorem dX5_feast_27 : decode cX5_feast 27 = .ok (.getfield 97, 3) := by decide +kernel
theorem dX5_feast_30 : decode cX5_feast 30 = .ok (.ifCond .ne 6, 3) := by decide +kernel
theorem dX5_feast_33 : decode cX5_feast 33 = .ok (.bipush (-4), 2) := by decide +kernel
theorem dX5_feast_35 : decode cX5_feast 35 = .ok (.ireturn, 1) := by decide +kernel
theorem dX5_feast_36 : decode cX5_feast 36 = .ok (.aload_n 0, 1) := by decide +kernel
theorem dX5_feast_37 : decode cX5_feast 37 = .ok (.iload_n 1, 1) := by decide +kernel
theorem dX5_feast_38 : decode cX5_feast 38 = .ok (.iload_n 2, 1) := by decide +kernel
theorem dX5_feast_39 : decode cX5_feast 39 = .ok (.bipush (-9), 2) := by decide +kernel
theorem dX5_feast_41 : decode cX5_feast 41 = .ok (.bipush (-9), 2) := by decide +kernel
theorem dX5_feast_43 : decode cX5_feast 43 = .ok (.invokevirtual 235, 3) := by decide +kernel
theorem dX5_feast_46 : decode cX5_feast 46 = .ok (.ifCond .eq 10, 3) := by decide +kernel
theorem dX5_feast_49 : decode cX5_feast 49 = .ok (.aload_n 0, 1) := by decide +kernel
theorem dX5_feast_50 : decode cX5_feast 50 = .ok (.iconst 0, 1) := by decide +kernel
theorem dX5_feast_51 : decode cX5_feast 51 = .ok (.iconst 0, 1) := by decide +kernel
theorem dX5_feast_52 : decode cX5_feast 52 = .ok (.invokevirtual 216, 3) := by decide +kernel
theorem dX5_feast_55 : decode cX5_feast 55 = .ok (.ireturn, 1) := by decide +kernel
theorem dX5_feast_56 : decode cX5_feast 56 = .ok (.iconst 0, 1) := by decide +kernel
theorem dX5_feast_57 : decode cX5_feast 57 = .ok (.istore_n 3, 1) := by decide +kernel
theorem dX5_feast_58 : decode cX5_feast 58 = .ok (.iload_n 3, 1) := by decide +kernel
theorem dX5_feast_59 : decode cX5_feast 59 = .ok (.bipush 10, 2) := by decide +kernel
theorem dX5_feast_61 : decode cX5_feast 61 = .ok (.aload_n 0, 1) := by decide +kernel
theorem dX5_feast_62 : decode cX5_feast 62 = .ok (.getfield 97, 3) := by decide +kernel
theorem dX5_feast_65 : decode cX5_feast 65 = .ok (.imul, 1) := by decide +kernel
theorem dX5_feast_66 : decode cX5_feast 66 = .ok (.if_icmp .ge 36, 3) := by decide +kernel
theorem dX5_feast_69 : decode cX5_feast 69 = .ok (.aload_n 0, 1) := by decide +kernel
theorem dX5_feast_70 : decode cX5_feast 70 = .ok (.iload_n 3, 1) := by decide +kernel
theorem dX5_feast_71 : decode cX5_feast 71 = .ok (.invokevirtual 239, 3) := by decide +kernel
theorem dX5_feast_74 : decode cX5_feast 74 = .ok (.ifCond .eq 22, 3) := by decide +kernel
theorem dX5_feast_77 : decode cX5_feast 77 = .ok (.aload_n 0, 1) := by decide +kernel
theorem dX5_feast_78 : decode cX5_feast 78 = .ok (.iload_n 1, 1) := by decide +kernel
theorem dX5_feast_79 : decode cX5_feast 79 = .ok (.iload_n 2, 1) := by decide +kernel
theorem dX5_feast_80 : decode cX5_feast 80 = .ok (.iload_n 3, 1) := by decide +kernel
theorem dX5_feast_81 : decode cX5_feast 81 = .ok (.bipush (-9), 2) := by decide +kernel
theorem dX5_feast_83 : decode cX5_feast 83 = .ok (.invokevirtual 235, 3) := by decide +kernel
theorem dX5_feast_86 : decode cX5_feast 86 = .ok (.ifCond .eq 10, 3) := by decide +kernel
theorem dX5_feast_89 : decode cX5_feast 89 = .ok (.aload_n 0, 1) := by decide +kernel
theorem dX5_feast_90 : decode cX5_feast 90 = .ok (.iconst 1, 1) := by decide +kernel
theorem dX5_feast_91 : decode cX5_feast 91 = .ok (.iload_n 3, 1) := by decide +kernel
theorem dX5_feast_92 : decode cX5_feast 92 = .ok (.invokevirtual 216, 3) := by decide +kernel
theorem dX5_feast_95 : decode cX5_feast 95 = .ok (.ireturn, 1) := by decide +kernel
theorem dX5_feast_96 : decode cX5_feast 96 = .ok (.iinc 3 1, 3) := by decide +kernel
theorem dX5_feast_99 : decode cX5_feast 99 = .ok (.goto (-41), 3) := by decide +kernel
theorem dX5_feast_102 : decode cX5_feast 102 = .ok (.iconst 0, 1) := by decide +kernel
theorem dX5_feast_103 : decode cX5_feast 103 = .ok (.istore_n 3, 1) := by decide +kernel
theorem dX5_feast_104 : decode cX5_feast 104 = .ok (.iload_n 3, 1) := by decide +kernel
theorem dX5_feast_105 : decode cX5_feast 105 = .ok (.bipush 10, 2) := by decide +kernel
theorem dX5_feast_107 : decode cX5_feast 107 = .ok (.aload_n 0, 1) := by decide +kernel
theorem dX5_feast_108 : decode cX5_feast 108 = .ok (.getfield 97, 3) := by decide +kernel
theorem dX5_feast_111 : decode cX5_feast 111 = .ok (.imul, 1) := by decide +kernel
theorem dX5_feast_112 : decode cX5_feast 112 = .ok (.if_icmp .ge 81, 3) := by decide +kernel
theorem dX5_feast_115 : decode cX5_feast 115 = .ok (.bipush 10, 2) := by decide +kernel
theorem dX5_feast_117 : decode cX5_feast 117 = .ok (.iload_n 3, 1) := by decide +kernel
theorem dX5_feast_118 : decode cX5_feast 118 = .ok (.bipush 10, 2) := by decide +kernel
theorem dX5_feast_120 : decode cX5_feast 120 = .ok (.idiv, 1) := by decide +kernel
theorem dX5_feast_121 : decode cX5_feast 121 = .ok (.iconst 1, 1) := by decide +kernel
theorem dX5_feast_122 : decode cX5_feast 122 = .ok (.iadd, 1) := by decide +kernel
theorem dX5_feast_123 : decode cX5_feast 123 = .ok (.imul, 1) := by decide +kernel
theorem dX5_feast_124 : decode cX5_feast 124 = .ok (.istore 4, 2) := by decide +kernel
theorem dX5_feast_126 : decode cX5_feast 126 = .ok (.iload 4, 2) := by decide +kernel
theorem dX5_feast_128 : decode cX5_feast 128 = .ok (.bipush 10, 2) := by decide +kernel
theorem dX5_feast_130 : decode cX5_feast 130 = .ok (.aload_n 0, 1) := by decide +kernel
theorem dX5_feast_131 : decode cX5_feast 131 = .ok (.getfield 97, 3) := by decide +kernel
theorem dX5_feast_134 : decode cX5_feast 134 = .ok (.imul, 1) := by decide +kernel
theorem dX5_feast_135 : decode cX5_feast 135 = .ok (.if_icmp .ge 52, 3) := by decide +kernel
theorem dX5_feast_138 : decode cX5_feast 138 = .ok (.aload_n 0, 1) := by decide +kernel
theorem dX5_feast_139 : decode cX5_feast 139 = .ok (.iload_n 3, 1) := by decide +kernel
theorem dX5_feast_140 : decode cX5_feast 140 = .ok (.invokevirtual 239, 3) := by decide +kernel
theorem dX5_feast_143 : decode cX5_feast 143 = .ok (.ifCond .eq 38, 3) := by decide +kernel
theorem dX5_feast_146 : decode cX5_feast 146 = .ok (.aload_n 0, 1) := by decide +kernel
theorem dX5_feast_147 : decode cX5_feast 147 = .ok (.iload 4, 2) := by decide +kernel
theorem dX5_feast_149 : decode cX5_feast 149 = .ok (.invokevirtual 239, 3) := by decide +kernel
theorem dX5_feast_152 : decode cX5_feast 152 = .ok (.ifCond .eq 29, 3) := by decide +kernel
theorem dX5_feast_155 : decode cX5_feast 155 = .ok (.aload_n 0, 1) := by decide +kernel
theorem dX5_feast_156 : decode cX5_feast 156 = .ok (.iload_n 1, 1) := by decide +kernel
theorem dX5_feast_157 : decode cX5_feast 157 = .ok (.iload_n 2, 1) := by decide +kernel
theorem dX5_feast_158 : decode cX5_feast 158 = .ok (.iload_n 3, 1) := by decide +kernel
theorem dX5_feast_159 : decode cX5_feast 159 = .ok (.iload 4, 2) := by decide +kernel
theorem dX5_feast_161 : decode cX5_feast 161 = .ok (.invokevirtual 235, 3) := by decide +kernel
theorem dX5_feast_164 : decode cX5_feast 164 = .ok (.ifCond .eq 17, 3) := by decide +kernel
theorem dX5_feast_167 : decode cX5_feast 167 = .ok (.aload_n 0, 1) := by decide +kernel
theorem dX5_feast_168 : decode cX5_feast 168 = .ok (.iconst 2, 1) := by decide +kernel
theorem dX5_feast_169 : decode cX5_feast 169 = .ok (.sipush 1000, 3) := by decide +kernel
theorem dX5_feast_172 : decode cX5_feast 172 = .ok (.iload_n 3, 1) := by decide +kernel
theorem dX5_feast_173 : decode cX5_feast 173 = .ok (.imul, 1) := by decide +kernel
theorem dX5_feast_174 : decode cX5_feast 174 = .ok (.iload 4, 2) := by decide +kernel
theorem dX5_feast_176 : decode cX5_feast 176 = .ok (.iadd, 1) := by decide +kernel
theorem dX5_feast_177 : decode cX5_feast 177 = .ok (.invokevirtual 216, 3) := by decide +kernel
theorem dX5_feast_180 : decode cX5_feast 180 = .ok (.ireturn, 1) := by decide +kernel
theorem dX5_feast_181 : decode cX5_feast 181 = .ok (.iinc 4 1, 3) := by decide +kernel
theorem dX5_feast_184 : decode cX5_feast 184 = .ok (.goto (-58), 3) := by decide +kernel
theorem dX5_feast_187 : decode cX5_feast 187 = .ok (.iinc 3 1, 3) := by decide +kernel
theorem dX5_feast_190 : decode cX5_feast 190 = .ok (.goto (-86), 3) := by decide +kernel
theorem dX5_feast_193 : decode cX5_feast 193 = .ok (.bipush (-9), 2) := by decide +kernel
theorem dX5_feast_195 : decode cX5_feast 195 = .ok (.ireturn, 1) := by decide +kernel
theorem dX5_bed_0 : decode cX5_bed 0 = .ok (.aload_n 0, 1) := by decide +kernel
theorem dX5_bed_1 : decode cX5_bed 1 = .ok (.iload_n 1, 1) := by decide +kernel
theorem dX5_bed_2 : decode cX5_bed 2 = .ok (.invokevirtual 176, 3) := by decide +kernel
theorem dX5_bed_5 : decode cX5_bed 5 = .ok (.ifCond .ne 5, 3) := by decide +kernel
theorem dX5_bed_8 : decode cX5_bed 8 = .ok (.iconst (-1), 1) := by decide +kernel
theorem dX5_bed_9 : decode cX5_bed 9 = .ok (.ireturn, 1) := by decide +kernel
theorem dX5_bed_10 : decode cX5_bed 10 = .ok (.aload_n 0, 1) := by decide +kernel
theorem dX5_bed_11 : decode cX5_bed 11 = .ok (.getfield 32, 3) := by decide +kernel
theorem dX5_bed_14 : decode cX5_bed 14 = .ok (.iload_n 1, 1) := by decide +kernel
theorem dX5_bed_15 : decode cX5_bed 15 = .ok (.iaload, 1) := by decide +kernel
theorem dX5_bed_16 : decode cX5_bed 16 = .ok (.istore_n 2, 1) := by decide +kernel
theorem dX5_bed_17 : decode cX5_bed 17 = .ok (.iconst 0, 1) := by decide +kernel
theorem dX5_bed_18 : decode cX5_bed 18 = .ok (.istore_n 3, 1) := by decide +kernel
theorem dX5_bed_19 : decode cX5_bed 19 = .ok (.iconst (-1), 1) := by decide +kernel
theorem dX5_bed_20 : decode cX5_bed 20 = .ok (.istore 4, 2) := by decide +kernel
theorem dX5_bed_22 : decode cX5_bed 22 = .ok (.iconst 0, 1) := by decide +kernel
theorem dX5_bed_23 : decode cX5_bed 23 = .ok (.istore 5, 2) := by decide +kernel
theorem dX5_bed_25 : decode cX5_bed 25 = .ok (.iload 5, 2) := by decide +kernel
theorem dX5_bed_27 : decode cX5_bed 27 = .ok (.aload_n 0, 1) := by decide +kernel
theorem dX5_bed_28 : decode cX5_bed 28 = .ok (.getfield 155, 3) := by decide +kernel
theorem dX5_bed_31 : decode cX5_bed 31 = .ok (.if_icmp .gt 57, 3) := by decide +kernel
theorem dX5_bed_34 : decode cX5_bed 34 = .ok (.aload_n 0, 1) := by decide +kernel
theorem dX5_bed_35 : decode cX5_bed 35 = .ok (.getfield 32, 3) := by decide +kernel
theorem dX5_bed_38 : decode cX5_bed 38 = .ok (.iload_n 1, 1) := by decide +kernel
theorem dX5_bed_39 : decode cX5_bed 39 = .ok (.iload 5, 2) := by decide +kernel
theorem dX5_bed_41 : decode cX5_bed 41 = .ok (.iastore, 1) := by decide +kernel
theorem dX5_bed_42 : decode cX5_bed 42 = .ok (.aload_n 0, 1) := by decide +kernel
theorem dX5_bed_43 : decode cX5_bed 43 = .ok (.iload 5, 2) := by decide +kernel
theorem dX5_bed_45 : decode cX5_bed 45 = .ok (.bipush 40, 2) := by decide +kernel
theorem dX5_bed_47 : decode cX5_bed 47 = .ok (.invokevirtual 219, 3) := by decide +kernel
theorem dX5_bed_50 : decode cX5_bed 50 = .ok (.istore 6, 2) := by decide +kernel
theorem dX5_bed_52 : decode cX5_bed 52 = .ok (.iload 6, 2) := by decide +kernel
theorem dX5_bed_54 : decode cX5_bed 54 = .ok (.iload 4, 2) := by decide +kernel
theorem dX5_bed_56 : decode cX5_bed 56 = .ok (.if_icmp .le 8, 3) := by decide +kernel
theorem dX5_bed_59 : decode cX5_bed 59 = .ok (.iload 5, 2) := by decide +kernel
theorem dX5_bed_61 : decode cX5_bed 61 = .ok (.goto 4, 3) := by decide +kernel
theorem dX5_bed_64 : decode cX5_bed 64 = .ok (.iload_n 3, 1) := by decide +kernel
theorem dX5_bed_65 : decode cX5_bed 65 = .ok (.istore_n 3, 1) := by decide +kernel
theorem dX5_bed_66 : decode cX5_bed 66 = .ok (.iload 6, 2) := by decide +kernel
theorem dX5_bed_68 : decode cX5_bed 68 = .ok (.iload 4, 2) := by decide +kernel
theorem dX5_bed_70 : decode cX5_bed 70 = .ok (.if_icmp .le 8, 3) := by decide +kernel
theorem dX5_bed_73 : decode cX5_bed 73 = .ok (.iload 6, 2) := by decide +kernel
theorem dX5_bed_75 : decode cX5_bed 75 = .ok (.goto 5, 3) := by decide +kernel
theorem dX5_bed_78 : decode cX5_bed 78 = .ok (.iload 4, 2) := by decide +kernel
theorem dX5_bed_80 : decode cX5_bed 80 = .ok (.istore 4, 2) := by decide +kernel
theorem dX5_bed_82 : decode cX5_bed 82 = .ok (.iinc 5 1, 3) := by decide +kernel
theorem dX5_bed_85 : decode cX5_bed 85 = .ok (.goto (-60), 3) := by decide +kernel
theorem dX5_bed_88 : decode cX5_bed 88 = .ok (.aload_n 0, 1) := by decide +kernel
theorem dX5_bed_89 : decode cX5_bed 89 = .ok (.getfield 32, 3) := by decide +kernel
theorem dX5_bed_92 : decode cX5_bed 92 = .ok (.iload_n 1, 1) := by decide +kernel
theorem dX5_bed_93 : decode cX5_bed 93 = .ok (.iload_n 2, 1) := by decide +kernel
theorem dX5_bed_94 : decode cX5_bed 94 = .ok (.iastore, 1) := by decide +kernel
theorem dX5_bed_95 : decode cX5_bed 95 = .ok (.aload_n 0, 1) := by decide +kernel
theorem dX5_bed_96 : decode cX5_bed 96 = .ok (.iload_n 3, 1) := by decide +kernel
theorem dX5_bed_97 : decode cX5_bed 97 = .ok (.iload 4, 2) := by decide +kernel
theorem dX5_bed_99 : decode cX5_bed 99 = .ok (.invokevirtual 216, 3) := by decide +kernel
theorem dX5_bed_102 : decode cX5_bed 102 = .ok (.ireturn, 1) := by decide +kernel
theorem dX5_refusesRow_0 : decode cX5_refusesRow 0 = .ok (.aload_n 0, 1) := by decide +kernel
theorem dX5_refusesRow_1 : decode cX5_refusesRow 1 = .ok (.getfield 13, 3) := by decide +kernel
theorem dX5_refusesRow_4 : decode cX5_refusesRow 4 = .ok (.iload_n 1, 1) := by decide +kernel
theorem dX5_refusesRow_5 : decode cX5_refusesRow 5 = .ok (.iaload, 1) := by decide +kernel
theorem dX5_refusesRow_6 : decode cX5_refusesRow 6 = .ok (.ifCond .ge 9, 3) := by decide +kernel
theorem dX5_refusesRow_9 : decode cX5_refusesRow 9 = .ok (.aload_n 0, 1) := by decide +kernel
theorem dX5_refusesRow_10 : decode cX5_refusesRow 10 = .ok (.iconst 1, 1) := by decide +kernel
theorem dX5_refusesRow_11 : decode cX5_refusesRow 11 = .ok (.invokevirtual 87, 3) := by decide +kernel
theorem dX5_refusesRow_14 : decode cX5_refusesRow 14 = .ok (.ireturn, 1) := by decide +kernel
theorem dX5_refusesRow_15 : decode cX5_refusesRow 15 = .ok (.aload_n 0, 1) := by decide +kernel
theorem dX5_refusesRow_16 : decode cX5_refusesRow 16 = .ok (.getfield 13, 3) := by decide +kernel
theorem dX5_refusesRow_19 : decode cX5_refusesRow 19 = .ok (.iload_n 1, 1) := by decide +kernel
theorem dX5_refusesRow_20 : decode cX5_refusesRow 20 = .ok (.iaload, 1) := by decide +kernel
theorem dX5_refusesRow_21 : decode cX5_refusesRow 21 = .ok (.i2l, 1) := by decide +kernel
theorem dX5_refusesRow_22 : decode cX5_refusesRow 22 = .ok (.lconst 1, 1) := by decide +kernel
theorem dX5_refusesRow_23 : decode cX5_refusesRow 23 = .ok (.ldc2_w 231, 3) := by decide +kernel
theorem dX5_refusesRow_26 : decode cX5_refusesRow 26 = .ok (.invokestatic 77, 3) := by decide +kernel
theorem dX5_refusesRow_29 : decode cX5_refusesRow 29 = .ok (.ifCond .ne 9, 3) := by decide +kernel
theorem dX5_refusesRow_32 : decode cX5_refusesRow 32 = .ok (.aload_n 0, 1) := by decide +kernel
theorem dX5_refusesRow_33 : decode cX5_refusesRow 33 = .ok (.iconst 5, 1) := by decide +kernel
theorem dX5_refusesRow_34 : decode cX5_refusesRow 34 = .ok (.invokevirtual 87, 3) := by decide +kernel
theorem dX5_refusesRow_37 : decode cX5_refusesRow 37 = .ok (.ireturn, 1) := by decide +kernel
theorem dX5_refusesRow_38 : decode cX5_refusesRow 38 = .ok (.iconst 0, 1) := by decide +kernel
theorem dX5_refusesRow_39 : decode cX5_refusesRow 39 = .ok (.istore_n 2, 1) := by decide +kernel
theorem dX5_refusesRow_40 : decode cX5_refusesRow 40 = .ok (.iload_n 2, 1) := by decide +kernel
theorem dX5_refusesRow_41 : decode cX5_refusesRow 41 = .ok (.aload_n 0, 1) := by decide +kernel
theorem dX5_refusesRow_42 : decode cX5_refusesRow 42 = .ok (.getfield 13, 3) := by decide +kernel
theorem dX5_refusesRow_45 : decode cX5_refusesRow 45 = .ok (.iload_n 1, 1) := by decide +kernel
theorem dX5_refusesRow_46 : decode cX5_refusesRow 46 = .ok (.iaload, 1) := by decide +kernel
theorem dX5_refusesRow_47 : decode cX5_refusesRow 47 = .ok (.if_icmp .ge 39, 3) := by decide +kernel
theorem dX5_refusesRow_50 : decode cX5_refusesRow 50 = .ok (.aload_n 0, 1) := by decide +kernel
theorem dX5_refusesRow_51 : decode cX5_refusesRow 51 = .ok (.getfield 7, 3) := by decide +kernel
theorem dX5_refusesRow_54 : decode cX5_refusesRow 54 = .ok (.bipush 40, 2) := by decide +kernel
theorem dX5_refusesRow_56 : decode cX5_refusesRow 56 = .ok (.iload_n 1, 1) := by decide +kernel
theorem dX5_refusesRow_57 : decode cX5_refusesRow 57 = .ok (.imul, 1) := by decide +kernel
theorem dX5_refusesRow_58 : decode cX5_refusesRow 58 = .ok (.iload_n 2, 1) := by decide +kernel
theorem dX5_refusesRow_59 : decode cX5_refusesRow 59 = .ok (.iadd, 1) := by decide +kernel
theorem dX5_refusesRow_60 : decode cX5_refusesRow 60 = .ok (.iaload, 1) := by decide +kernel
theorem dX5_refusesRow_61 : decode cX5_refusesRow 61 = .ok (.i2l, 1) := by decide +kernel
theorem dX5_refusesRow_62 : decode cX5_refusesRow 62 = .ok (.lconst 0, 1) := by decide +kernel
theorem dX5_refusesRow_63 : decode cX5_refusesRow 63 = .ok (.aload_n 0, 1) := by decide +kernel
theorem dX5_refusesRow_64 : decode cX5_refusesRow 64 = .ok (.getfield 155, 3) := by decide +kernel
theorem dX5_refusesRow_67 : decode cX5_refusesRow 67 = .ok (.i2l, 1) := by decide +kernel
theorem dX5_refusesRow_68 : decode cX5_refusesRow 68 = .ok (.invokestatic 77, 3) := by decide +kernel
theorem dX5_refusesRow_71 : decode cX5_refusesRow 71 = .ok (.ifCond .ne 9, 3) := by decide +kernel
theorem dX5_refusesRow_74 : decode cX5_refusesRow 74 = .ok (.aload_n 0, 1) := by decide +kernel
theorem dX5_refusesRow_75 : decode cX5_refusesRow 75 = .ok (.iconst 3, 1) := by decide +kernel
theorem dX5_refusesRow_76 : decode cX5_refusesRow 76 = .ok (.invokevirtual 87, 3) := by decide +kernel
theorem dX5_refusesRow_79 : decode cX5_refusesRow 79 = .ok (.ireturn, 1) := by decide +kernel
theorem dX5_refusesRow_80 : decode cX5_refusesRow 80 = .ok (.iinc 2 1, 3) := by decide +kernel
theorem dX5_refusesRow_83 : decode cX5_refusesRow 83 = .ok (.goto (-43), 3) := by decide +kernel
theorem dX5_refusesRow_86 : decode cX5_refusesRow 86 = .ok (.iconst 0, 1) := by decide +kernel
theorem dX5_refusesRow_87 : decode cX5_refusesRow 87 = .ok (.ireturn, 1) := by decide +kernel
theorem dX5_goesAs_0 : decode cX5_goesAs 0 = .ok (.iconst 1, 1) := by decide +kernel
theorem dX5_goesAs_1 : decode cX5_goesAs 1 = .ok (.istore_n 2, 1) := by decide +kernel
theorem dX5_goesAs_2 : decode cX5_goesAs 2 = .ok (.iconst 0, 1) := by decide +kernel
theorem dX5_goesAs_3 : decode cX5_goesAs 3 = .ok (.istore_n 3, 1) := by decide +kernel
theorem dX5_goesAs_4 : decode cX5_goesAs 4 = .ok (.iload_n 3, 1) := by decide +kernel
theorem dX5_goesAs_5 : decode cX5_goesAs 5 = .ok (.aload_n 0, 1) := by decide +kernel
theorem dX5_goesAs_6 : decode cX5_goesAs 6 = .ok (.getfield 13, 3) := by decide +kernel
theorem dX5_goesAs_9 : decode cX5_goesAs 9 = .ok (.iload_n 1, 1) := by decide +kernel
theorem dX5_goesAs_10 : decode cX5_goesAs 10 = .ok (.iaload, 1) := by decide +kernel
theorem dX5_goesAs_11 : decode cX5_goesAs 11 = .ok (.if_icmp .ge 38, 3) := by decide +kernel
theorem dX5_goesAs_14 : decode cX5_goesAs 14 = .ok (.iload_n 2, 1) := by decide +kernel
theorem dX5_goesAs_15 : decode cX5_goesAs 15 = .ok (.ifCond .eq 26, 3) := by decide +kernel
theorem dX5_goesAs_18 : decode cX5_goesAs 18 = .ok (.aload_n 0, 1) := by decide +kernel
theorem dX5_goesAs_19 : decode cX5_goesAs 19 = .ok (.iconst 1, 1) := by decide +kernel
theorem dX5_goesAs_20 : decode cX5_goesAs 20 = .ok (.invokevirtual 225, 3) := by decide +kernel
theorem dX5_goesAs_23 : decode cX5_goesAs 23 = .ok (.aload_n 0, 1) := by decide +kernel
theorem dX5_goesAs_24 : decode cX5_goesAs 24 = .ok (.getfield 7, 3) := by decide +kernel
theorem dX5_goesAs_27 : decode cX5_goesAs 27 = .ok (.bipush 40, 2) := by decide +kernel
theorem dX5_goesAs_29 : decode cX5_goesAs 29 = .ok (.iload_n 1, 1) := by decide +kernel
theorem dX5_goesAs_30 : decode cX5_goesAs 30 = .ok (.imul, 1) := by decide +kernel
theorem dX5_goesAs_31 : decode cX5_goesAs 31 = .ok (.iload_n 3, 1) := by decide +kernel
theorem dX5_goesAs_32 : decode cX5_goesAs 32 = .ok (.iadd, 1) := by decide +kernel
theorem dX5_goesAs_33 : decode cX5_goesAs 33 = .ok (.iaload, 1) := by decide +kernel
theorem dX5_goesAs_34 : decode cX5_goesAs 34 = .ok (.if_icmp .ne 7, 3) := by decide +kernel
theorem dX5_goesAs_37 : decode cX5_goesAs 37 = .ok (.iconst 1, 1) := by decide +kernel
theorem dX5_goesAs_38 : decode cX5_goesAs 38 = .ok (.goto 4, 3) := by decide +kernel
theorem dX5_goesAs_41 : decode cX5_goesAs 41 = .ok (.iconst 0, 1) := by decide +kernel
theorem dX5_goesAs_42 : decode cX5_goesAs 42 = .ok (.istore_n 2, 1) := by decide +kernel
theorem dX5_goesAs_43 : decode cX5_goesAs 43 = .ok (.iinc 3 1, 3) := by decide +kernel
theorem dX5_goesAs_46 : decode cX5_goesAs 46 = .ok (.goto (-42), 3) := by decide +kernel
theorem dX5_goesAs_49 : decode cX5_goesAs 49 = .ok (.iload_n 2, 1) := by decide +kernel
theorem dX5_goesAs_50 : decode cX5_goesAs 50 = .ok (.ireturn, 1) := by decide +kernel
theorem dX5_account_0 : decode cX5_account 0 = .ok (.iload_n 1, 1) := by decide +kernel
theorem dX5_account_1 : decode cX5_account 1 = .ok (.invokestatic 83, 3) := by decide +kernel
theorem dX5_account_4 : decode cX5_account 4 = .ok (.ifCond .ne 5, 3) := by decide +kernel
theorem dX5_account_7 : decode cX5_account 7 = .ok (.iconst (-1), 1) := by decide +kernel
theorem dX5_account_8 : decode cX5_account 8 = .ok (.ireturn, 1) := by decide +kernel
theorem dX5_account_9 : decode cX5_account 9 = .ok (.aload_n 0, 1) := by decide +kernel
theorem dX5_account_10 : decode cX5_account 10 = .ok (.getfield 97, 3) := by decide +kernel
theorem dX5_account_13 : decode cX5_account 13 = .ok (.ifCond .ne 6, 3) := by decide +kernel
theorem dX5_account_16 : decode cX5_account 16 = .ok (.bipush (-4), 2) := by decide +kernel
theorem dX5_account_18 : decode cX5_account 18 = .ok (.ireturn, 1) := by decide +kernel
theorem dX5_account_19 : decode cX5_account 19 = .ok (.aload_n 0, 1) := by decide +kernel
theorem dX5_account_20 : decode cX5_account 20 = .ok (.iload_n 1, 1) := by decide +kernel
theorem dX5_account_21 : decode cX5_account 21 = .ok (.invokevirtual 242, 3) := by decide +kernel
theorem dX5_account_24 : decode cX5_account 24 = .ok (.istore_n 2, 1) := by decide +kernel
theorem dX5_account_25 : decode cX5_account 25 = .ok (.iload_n 2, 1) := by decide +kernel
theorem dX5_account_26 : decode cX5_account 26 = .ok (.ifCond .eq 5, 3) := by decide +kernel
theorem dX5_account_29 : decode cX5_account 29 = .ok (.iload_n 2, 1) := by decide +kernel
theorem dX5_account_30 : decode cX5_account 30 = .ok (.ireturn, 1) := by decide +kernel
theorem dX5_account_31 : decode cX5_account 31 = .ok (.iconst 0, 1) := by decide +kernel
theorem dX5_account_32 : decode cX5_account 32 = .ok (.istore_n 3, 1) := by decide +kernel
theorem dX5_account_33 : decode cX5_account 33 = .ok (.bipush 63, 2) := by decide +kernel
theorem dX5_account_35 : decode cX5_account 35 = .ok (.istore 4, 2) := by decide +kernel
theorem dX5_account_37 : decode cX5_account 37 = .ok (.iconst 0, 1) := by decide +kernel
theorem dX5_account_38 : decode cX5_account 38 = .ok (.istore 5, 2) := by decide +kernel
theorem dX5_account_40 : decode cX5_account 40 = .ok (.iload 5, 2) := by decide +kernel
theorem dX5_account_42 : decode cX5_account 42 = .ok (.iconst 1, 1) := by decide +kernel
theorem dX5_account_43 : decode cX5_account 43 = .ok (.aload_n 0, 1) := by decide +kernel
theorem dX5_account_44 : decode cX5_account 44 = .ok (.getfield 97, 3) := by decide +kernel
theorem dX5_account_47 : decode cX5_account 47 = .ok (.ishl, 1) := by decide +kernel
theorem dX5_account_48 : decode cX5_account 48 = .ok (.if_icmp .ge 39, 3) := by decide +kernel
theorem dX5_account_51 : decode cX5_account 51 = .ok (.aload_n 0, 1) := by decide +kernel
theorem dX5_account_52 : decode cX5_account 52 = .ok (.invokevirtual 213, 3) := by decide +kernel
theorem dX5_account_55 : decode cX5_account 55 = .ok (.aload_n 0, 1) := by decide +kernel
theorem dX5_account_56 : decode cX5_account 56 = .ok (.getfield 38, 3) := by decide +kernel
theorem dX5_account_59 : decode cX5_account 59 = .ok (.iconst 2, 1) := by decide +kernel
theorem dX5_account_60 : decode cX5_account 60 = .ok (.iload 5, 2) := by decide +kernel
theorem dX5_account_62 : decode cX5_account 62 = .ok (.iastore, 1) := by decide +kernel
theorem dX5_account_63 : decode cX5_account 63 = .ok (.aload_n 0, 1) := by decide +kernel
theorem dX5_account_64 : decode cX5_account 64 = .ok (.iload_n 1, 1) := by decide +kernel
theorem dX5_account_65 : decode cX5_account 65 = .ok (.invokevirtual 245, 3) := by decide +kernel
theorem dX5_account_68 : decode cX5_account 68 = .ok (.ifCond .eq 13, 3) := by decide +kernel
theorem dX5_account_71 : decode cX5_account 71 = .ok (.iinc 3 1, 3) := by decide +kernel
theorem dX5_account_74 : decode cX5_account 74 = .ok (.iload 4, 2) := by decide +kernel
theorem dX5_account_76 : decode cX5_account 76 = .ok (.iload 5, 2) := by decide +kernel
theorem dX5_account_78 : decode cX5_account 78 = .ok (.iand, 1) := by decide +kernel
theorem dX5_account_79 : decode cX5_account 79 = .ok (.istore 4, 2) := by decide +kernel
theorem dX5_account_81 : decode cX5_account 81 = .ok (.iinc 5 1, 3) := by decide +kernel
theorem dX5_account_84 : decode cX5_account 84 = .ok (.goto (-44), 3) := by decide +kernel
theorem dX5_account_87 : decode cX5_account 87 = .ok (.iload_n 3, 1) := by decide +kernel
theorem dX5_account_88 : decode cX5_account 88 = .ok (.ifCond .ne 8, 3) := by decide +kernel
theorem dX5_account_91 : decode cX5_account 91 = .ok (.bipush (-9), 2) := by decide +kernel
theorem dX5_account_93 : decode cX5_account 93 = .ok (.goto 10, 3) := by decide +kernel
theorem dX5_account_96 : decode cX5_account 96 = .ok (.aload_n 0, 1) := by decide +kernel
theorem dX5_account_97 : decode cX5_account 97 = .ok (.iload_n 3, 1) := by decide +kernel
theorem dX5_account_98 : decode cX5_account 98 = .ok (.iload 4, 2) := by decide +kernel
theorem dX5_account_100 : decode cX5_account 100 = .ok (.invokevirtual 216, 3) := by decide +kernel
theorem dX5_account_103 : decode cX5_account 103 = .ok (.ireturn, 1) := by decide +kernel
theorem dX5_kinds_0 : decode cX5_kinds 0 = .ok (.aload_n 0, 1) := by decide +kernel
theorem dX5_kinds_1 : decode cX5_kinds 1 = .ok (.iload_n 1, 1) := by decide +kernel
theorem dX5_kinds_2 : decode cX5_kinds 2 = .ok (.invokevirtual 176, 3) := by decide +kernel
theorem dX5_kinds_5 : decode cX5_kinds 5 = .ok (.ifCond .eq 10, 3) := by decide +kernel
theorem dX5_kinds_8 : decode cX5_kinds 8 = .ok (.iload_n 2, 1) := by decide +kernel
theorem dX5_kinds_9 : decode cX5_kinds 9 = .ok (.invokestatic 83, 3) := by decide +kernel
theorem dX5_kinds_12 : decode cX5_kinds 12 = .ok (.ifCond .ne 5, 3) := by decide +kernel
theorem dX5_kinds_15 : decode cX5_kinds 15 = .ok (.iconst (-1), 1) := by decide +kernel
theorem dX5_kinds_16 : decode cX5_kinds 16 = .ok (.ireturn, 1) := by decide +kernel
theorem dX5_kinds_17 : decode cX5_kinds 17 = .ok (.aload_n 0, 1) := by decide +kernel
theorem dX5_kinds_18 : decode cX5_kinds 18 = .ok (.iload_n 2, 1) := by decide +kernel
theorem dX5_kinds_19 : decode cX5_kinds 19 = .ok (.invokevirtual 242, 3) := by decide +kernel
theorem dX5_kinds_22 : decode cX5_kinds 22 = .ok (.istore_n 3, 1) := by decide +kernel
theorem dX5_kinds_23 : decode cX5_kinds 23 = .ok (.iload_n 3, 1) := by decide +kernel
theorem dX5_kinds_24 : decode cX5_kinds 24 = .ok (.ifCond .eq 5, 3) := by decide +kernel
theorem dX5_kinds_27 : decode cX5_kinds 27 = .ok (.iload_n 3, 1) := by decide +kernel
theorem dX5_kinds_28 : decode cX5_kinds 28 = .ok (.ireturn, 1) := by decide +kernel
theorem dX5_kinds_29 : decode cX5_kinds 29 = .ok (.aload_n 0, 1) := by decide +kernel
theorem dX5_kinds_30 : decode cX5_kinds 30 = .ok (.getfield 29, 3) := by decide +kernel
theorem dX5_kinds_33 : decode cX5_kinds 33 = .ok (.iload_n 1, 1) := by decide +kernel
theorem dX5_kinds_34 : decode cX5_kinds 34 = .ok (.iaload, 1) := by decide +kernel
theorem dX5_kinds_35 : decode cX5_kinds 35 = .ok (.istore 4, 2) := by decide +kernel
theorem dX5_kinds_37 : decode cX5_kinds 37 = .ok (.iconst 0, 1) := by decide +kernel
theorem dX5_kinds_38 : decode cX5_kinds 38 = .ok (.istore 5, 2) := by decide +kernel
theorem dX5_kinds_40 : decode cX5_kinds 40 = .ok (.iconst 0, 1) := by decide +kernel
theorem dX5_kinds_41 : decode cX5_kinds 41 = .ok (.istore 6, 2) := by decide +kernel
theorem dX5_kinds_43 : decode cX5_kinds 43 = .ok (.iload 6, 2) := by decide +kernel
theorem dX5_kinds_45 : decode cX5_kinds 45 = .ok (.bipush 6, 2) := by decide +kernel
theorem dX5_kinds_47 : decode cX5_kinds 47 = .ok (.if_icmp .ge 42, 3) := by decide +kernel
theorem dX5_kinds_50 : decode cX5_kinds 50 = .ok (.aload_n 0, 1) := by decide +kernel
theorem dX5_kinds_51 : decode cX5_kinds 51 = .ok (.getfield 29, 3) := by decide +kernel
theorem dX5_kinds_54 : decode cX5_kinds 54 = .ok (.iload_n 1, 1) := by decide +kernel
theorem dX5_kinds_55 : decode cX5_kinds 55 = .ok (.iload 6, 2) := by decide +kernel
theorem dX5_kinds_57 : decode cX5_kinds 57 = .ok (.iastore, 1) := by decide +kernel
theorem dX5_kinds_58 : decode cX5_kinds 58 = .ok (.aload_n 0, 1) := by decide +kernel
theorem dX5_kinds_59 : decode cX5_kinds 59 = .ok (.invokevirtual 213, 3) := by decide +kernel
theorem dX5_kinds_62 : decode cX5_kinds 62 = .ok (.iload 5, 2) := by decide +kernel
theorem dX5_kinds_64 : decode cX5_kinds 64 = .ok (.aload_n 0, 1) := by decide +kernel
theorem dX5_kinds_65 : decode cX5_kinds 65 = .ok (.iload_n 2, 1) := by decide +kernel
theorem dX5_kinds_66 : decode cX5_kinds 66 = .ok (.invokevirtual 245, 3) := by decide +kernel
theorem dX5_kinds_69 : decode cX5_kinds 69 = .ok (.ifCond .eq 10, 3) := by decide +kernel
theorem dX5_kinds_72 : decode cX5_kinds 72 = .ok (.iconst 1, 1) := by decide +kernel
theorem dX5_kinds_73 : decode cX5_kinds 73 = .ok (.iload 6, 2) := by decide +kernel
theorem dX5_kinds_75 : decode cX5_kinds 75 = .ok (.ishl, 1) := by decide +kernel
theorem dX5_kinds_76 : decode cX5_kinds 76 = .ok (.goto 4, 3) := by decide +kernel
theorem dX5_kinds_79 : decode cX5_kinds 79 = .ok (.iconst 0, 1) := by decide +kernel
theorem dX5_kinds_80 : decode cX5_kinds 80 = .ok (.ior, 1) := by decide +kernel
theorem dX5_kinds_81 : decode cX5_kinds 81 = .ok (.istore 5, 2) := by decide +kernel
theorem dX5_kinds_83 : decode cX5_kinds 83 = .ok (.iinc 6 1, 3) := by decide +kernel
theorem dX5_kinds_86 : decode cX5_kinds 86 = .ok (.goto (-43), 3) := by decide +kernel
theorem dX5_kinds_89 : decode cX5_kinds 89 = .ok (.aload_n 0, 1) := by decide +kernel
theorem dX5_kinds_90 : decode cX5_kinds 90 = .ok (.getfield 29, 3) := by decide +kernel
theorem dX5_kinds_93 : decode cX5_kinds 93 = .ok (.iload_n 1, 1) := by decide +kernel
theorem dX5_kinds_94 : decode cX5_kinds 94 = .ok (.iload 4, 2) := by decide +kernel
theorem dX5_kinds_96 : decode cX5_kinds 96 = .ok (.iastore, 1) := by decide +kernel
theorem dX5_kinds_97 : decode cX5_kinds 97 = .ok (.iload 5, 2) := by decide +kernel
theorem dX5_kinds_99 : decode cX5_kinds 99 = .ok (.ireturn, 1) := by decide +kernel
theorem dX5_look_0 : decode cX5_look 0 = .ok (.aload_n 0, 1) := by decide +kernel
theorem dX5_look_1 : decode cX5_look 1 = .ok (.iload_n 1, 1) := by decide +kernel
theorem dX5_look_2 : decode cX5_look 2 = .ok (.invokevirtual 176, 3) := by decide +kernel
theorem dX5_look_5 : decode cX5_look 5 = .ok (.ifCond .ne 5, 3) := by decide +kernel
theorem dX5_look_8 : decode cX5_look 8 = .ok (.iconst (-1), 1) := by decide +kernel
theorem dX5_look_9 : decode cX5_look 9 = .ok (.ireturn, 1) := by decide +kernel
theorem dX5_look_10 : decode cX5_look 10 = .ok (.aload_n 0, 1) := by decide +kernel
theorem dX5_look_11 : decode cX5_look 11 = .ok (.getfield 29, 3) := by decide +kernel
theorem dX5_look_14 : decode cX5_look 14 = .ok (.iload_n 1, 1) := by decide +kernel
theorem dX5_look_15 : decode cX5_look 15 = .ok (.iaload, 1) := by decide +kernel
theorem dX5_look_16 : decode cX5_look 16 = .ok (.istore_n 2, 1) := by decide +kernel
theorem dX5_look_17 : decode cX5_look 17 = .ok (.iconst 0, 1) := by decide +kernel
theorem dX5_look_18 : decode cX5_look 18 = .ok (.istore_n 3, 1) := by decide +kernel
theorem dX5_look_19 : decode cX5_look 19 = .ok (.iload_n 3, 1) := by decide +kernel
theorem dX5_look_20 : decode cX5_look 20 = .ok (.bipush 6, 2) := by decide +kernel
theorem dX5_look_22 : decode cX5_look 22 = .ok (.if_icmp .ge 53, 3) := by decide +kernel
theorem dX5_look_25 : decode cX5_look 25 = .ok (.aload_n 0, 1) := by decide +kernel
theorem dX5_look_26 : decode cX5_look 26 = .ok (.getfield 29, 3) := by decide +kernel
theorem dX5_look_29 : decode cX5_look 29 = .ok (.iload_n 1, 1) := by decide +kernel
theorem dX5_look_30 : decode cX5_look 30 = .ok (.iload_n 3, 1) := by decide +kernel
theorem dX5_look_31 : decode cX5_look 31 = .ok (.iastore, 1) := by decide +kernel
theorem dX5_look_32 : decode cX5_look 32 = .ok (.aload_n 0, 1) := by decide +kernel
theorem dX5_look_33 : decode cX5_look 33 = .ok (.invokevirtual 213, 3) := by decide +kernel
theorem dX5_look_36 : decode cX5_look 36 = .ok (.iconst 0, 1) := by decide +kernel
theorem dX5_look_37 : decode cX5_look 37 = .ok (.istore 4, 2) := by decide +kernel
theorem dX5_look_39 : decode cX5_look 39 = .ok (.iload 4, 2) := by decide +kernel
theorem dX5_look_41 : decode cX5_look 41 = .ok (.bipush 20, 2) := by decide +kernel
theorem dX5_look_43 : decode cX5_look 43 = .ok (.if_icmp .ge 26, 3) := by decide +kernel
theorem dX5_look_46 : decode cX5_look 46 = .ok (.aload_n 0, 1) := by decide +kernel
theorem dX5_look_47 : decode cX5_look 47 = .ok (.getfield 56, 3) := by decide +kernel
theorem dX5_look_50 : decode cX5_look 50 = .ok (.bipush 20, 2) := by decide +kernel
theorem dX5_look_52 : decode cX5_look 52 = .ok (.iload_n 3, 1) := by decide +kernel
theorem dX5_look_53 : decode cX5_look 53 = .ok (.imul, 1) := by decide +kernel
theorem dX5_look_54 : decode cX5_look 54 = .ok (.iload 4, 2) := by decide +kernel
theorem dX5_look_56 : decode cX5_look 56 = .ok (.iadd, 1) := by decide +kernel
theorem dX5_look_57 : decode cX5_look 57 = .ok (.aload_n 0, 1) := by decide +kernel
theorem dX5_look_58 : decode cX5_look 58 = .ok (.iconst 1, 1) := by decide +kernel
theorem dX5_look_59 : decode cX5_look 59 = .ok (.invokevirtual 225, 3) := by decide +kernel
theorem dX5_look_62 : decode cX5_look 62 = .ok (.iastore, 1) := by decide +kernel
theorem dX5_look_63 : decode cX5_look 63 = .ok (.iinc 4 1, 3) := by decide +kernel
theorem dX5_look_66 : decode cX5_look 66 = .ok (.goto (-27), 3) := by decide +kernel
theorem dX5_look_69 : decode cX5_look 69 = .ok (.iinc 3 1, 3) := by decide +kernel
theorem dX5_look_72 : decode cX5_look 72 = .ok (.goto (-53), 3) := by decide +kernel
theorem dX5_look_75 : decode cX5_look 75 = .ok (.aload_n 0, 1) := by decide +kernel
theorem dX5_look_76 : decode cX5_look 76 = .ok (.getfield 29, 3) := by decide +kernel
theorem dX5_look_79 : decode cX5_look 79 = .ok (.iload_n 1, 1) := by decide +kernel
theorem dX5_look_80 : decode cX5_look 80 = .ok (.iload_n 2, 1) := by decide +kernel
theorem dX5_look_81 : decode cX5_look 81 = .ok (.iastore, 1) := by decide +kernel
theorem dX5_look_82 : decode cX5_look 82 = .ok (.iconst 0, 1) := by decide +kernel
theorem dX5_look_83 : decode cX5_look 83 = .ok (.istore_n 3, 1) := by decide +kernel
theorem dX5_look_84 : decode cX5_look 84 = .ok (.bipush 7, 2) := by decide +kernel
theorem dX5_look_86 : decode cX5_look 86 = .ok (.istore 4, 2) := by decide +kernel
theorem dX5_look_88 : decode cX5_look 88 = .ok (.iconst 0, 1) := by decide +kernel
theorem dX5_look_89 : decode cX5_look 89 = .ok (.istore 5, 2) := by decide +kernel
theorem dX5_look_91 : decode cX5_look 91 = .ok (.iload 5, 2) := by decide +kernel
theorem dX5_look_93 : decode cX5_look 93 = .ok (.bipush 20, 2) := by decide +kernel
theorem dX5_look_95 : decode cX5_look 95 = .ok (.if_icmp .ge 134, 3) := by decide +kernel
theorem dX5_look_98 : decode cX5_look 98 = .ok (.iconst 0, 1) := by decide +kernel
theorem dX5_look_99 : decode cX5_look 99 = .ok (.istore 6, 2) := by decide +kernel
theorem dX5_look_101 : decode cX5_look 101 = .ok (.iconst 0, 1) := by decide +kernel
theorem dX5_look_102 : decode cX5_look 102 = .ok (.istore 7, 2) := by decide +kernel
theorem dX5_look_104 : decode cX5_look 104 = .ok (.iload 7, 2) := by decide +kernel
theorem dX5_look_106 : decode cX5_look 106 = .ok (.bipush 6, 2) := by decide +kernel
theorem dX5_look_108 : decode cX5_look 108 = .ok (.if_icmp .ge 83, 3) := by decide +kernel
theorem dX5_look_111 : decode cX5_look 111 = .ok (.iconst 0, 1) := by decide +kernel
theorem dX5_look_112 : decode cX5_look 112 = .ok (.istore 8, 2) := by decide +kernel
theorem dX5_look_114 : decode cX5_look 114 = .ok (.iconst 0, 1) := by decide +kernel
theorem dX5_look_115 : decode cX5_look 115 = .ok (.istore 9, 2) := by decide +kernel
theorem dX5_look_117 : decode cX5_look 117 = .ok (.iload 9, 2) := by decide +kernel
theorem dX5_look_119 : decode cX5_look 119 = .ok (.bipush 6, 2) := by decide +kernel
theorem dX5_look_121 : decode cX5_look 121 = .ok (.if_icmp .ge 48, 3) := by decide +kernel
theorem dX5_look_124 : decode cX5_look 124 = .ok (.iload 8, 2) := by decide +kernel
theorem dX5_look_126 : decode cX5_look 126 = .ok (.aload_n 0, 1) := by decide +kernel
theorem dX5_look_127 : decode cX5_look 127 = .ok (.getfield 56, 3) := by decide +kernel
theorem dX5_look_130 : decode cX5_look 130 = .ok (.bipush 20, 2) := by decide +kernel
theorem dX5_look_132 : decode cX5_look 132 = .ok (.iload 7, 2) := by decide +kernel
theorem dX5_look_134 : decode cX5_look 134 = .ok (.imul, 1) := by decide +kernel
theorem dX5_look_135 : decode cX5_look 135 = .ok (.iload 5, 2) := by decide +kernel
theorem dX5_look_137 : decode cX5_look 137 = .ok (.iadd, 1) := by decide +kernel
theorem dX5_look_138 : decode cX5_look 138 = .ok (.iaload, 1) := by decide +kernel
theorem dX5_look_139 : decode cX5_look 139 = .ok (.aload_n 0, 1) := by decide +kernel
theorem dX5_look_140 : decode cX5_look 140 = .ok (.getfield 56, 3) := by decide +kernel
theorem dX5_look_143 : decode cX5_look 143 = .ok (.bipush 20, 2) := by decide +kernel
theorem dX5_look_145 : decode cX5_look 145 = .ok (.iload 9, 2) := by decide +kernel
theorem dX5_look_147 : decode cX5_look 147 = .ok (.imul, 1) := by decide +kernel
theorem dX5_look_148 : decode cX5_look 148 = .ok (.iload 5, 2) := by decide +kernel
theorem dX5_look_150 : decode cX5_look 150 = .ok (.iadd, 1) := by decide +kernel
theorem dX5_look_151 : decode cX5_look 151 = .ok (.iaload, 1) := by decide +kernel
theorem dX5_look_152 : decode cX5_look 152 = .ok (.if_icmp .ne 7, 3) := by decide +kernel
theorem dX5_look_155 : decode cX5_look 155 = .ok (.iconst 1, 1) := by decide +kernel
theorem dX5_look_156 : decode cX5_look 156 = .ok (.goto 4, 3) := by decide +kernel
theorem dX5_look_159 : decode cX5_look 159 = .ok (.iconst 0, 1) := by decide +kernel
theorem dX5_look_160 : decode cX5_look 160 = .ok (.iadd, 1) := by decide +kernel
theorem dX5_look_161 : decode cX5_look 161 = .ok (.istore 8, 2) := by decide +kernel
theorem dX5_look_163 : decode cX5_look 163 = .ok (.iinc 9 1, 3) := by decide +kernel
theorem dX5_look_166 : decode cX5_look 166 = .ok (.goto (-49), 3) := by decide +kernel
theorem dX5_look_169 : decode cX5_look 169 = .ok (.iload 8, 2) := by decide +kernel
theorem dX5_look_171 : decode cX5_look 171 = .ok (.iload 6, 2) := by decide +kernel
theorem dX5_look_173 : decode cX5_look 173 = .ok (.if_icmp .le 8, 3) := by decide +kernel
theorem dX5_look_176 : decode cX5_look 176 = .ok (.iload 8, 2) := by decide +kernel
theorem dX5_look_178 : decode cX5_look 178 = .ok (.goto 5, 3) := by decide +kernel
theorem dX5_look_181 : decode cX5_look 181 = .ok (.iload 6, 2) := by decide +kernel
theorem dX5_look_183 : decode cX5_look 183 = .ok (.istore 6, 2) := by decide +kernel
theorem dX5_look_185 : decode cX5_look 185 = .ok (.iinc 7 1, 3) := by decide +kernel
theorem dX5_look_188 : decode cX5_look 188 = .ok (.goto (-84), 3) := by decide +kernel
theorem dX5_look_191 : decode cX5_look 191 = .ok (.iload 6, 2) := by decide +kernel
theorem dX5_look_193 : decode cX5_look 193 = .ok (.iload 4, 2) := by decide +kernel
theorem dX5_look_195 : decode cX5_look 195 = .ok (.if_icmp .ge 10, 3) := by decide +kernel
theorem dX5_look_198 : decode cX5_look 198 = .ok (.iload 5, 2) := by decide +kernel
theorem dX5_look_200 : decode cX5_look 200 = .ok (.iconst 1, 1) := by decide +kernel
theorem dX5_look_201 : decode cX5_look 201 = .ok (.iadd, 1) := by decide +kernel
theorem dX5_look_202 : decode cX5_look 202 = .ok (.goto 4, 3) := by decide +kernel
theorem dX5_look_205 : decode cX5_look 205 = .ok (.iload_n 3, 1) := by decide +kernel
theorem dX5_look_206 : decode cX5_look 206 = .ok (.istore_n 3, 1) := by decide +kernel
theorem dX5_look_207 : decode cX5_look 207 = .ok (.iload 6, 2) := by decide +kernel
theorem dX5_look_209 : decode cX5_look 209 = .ok (.iload 4, 2) := by decide +kernel
theorem dX5_look_211 : decode cX5_look 211 = .ok (.if_icmp .ge 8, 3) := by decide +kernel
theorem dX5_look_214 : decode cX5_look 214 = .ok (.iload 6, 2) := by decide +kernel
theorem dX5_look_216 : decode cX5_look 216 = .ok (.goto 5, 3) := by decide +kernel
theorem dX5_look_219 : decode cX5_look 219 = .ok (.iload 4, 2) := by decide +kernel
theorem dX5_look_221 : decode cX5_look 221 = .ok (.istore 4, 2) := by decide +kernel
theorem dX5_look_223 : decode cX5_look 223 = .ok (.iinc 5 1, 3) := by decide +kernel
theorem dX5_look_226 : decode cX5_look 226 = .ok (.goto (-135), 3) := by decide +kernel
theorem dX5_look_229 : decode cX5_look 229 = .ok (.aload_n 0, 1) := by decide +kernel
theorem dX5_look_230 : decode cX5_look 230 = .ok (.iload_n 3, 1) := by decide +kernel
theorem dX5_look_231 : decode cX5_look 231 = .ok (.iload 4, 2) := by decide +kernel
theorem dX5_look_233 : decode cX5_look 233 = .ok (.invokevirtual 216, 3) := by decide +kernel
theorem dX5_look_236 : decode cX5_look 236 = .ok (.ireturn, 1) := by decide +kernel
theorem dX5_weighs_0 : decode cX5_weighs 0 = .ok (.aload_n 0, 1) := by decide +kernel
theorem dX5_weighs_1 : decode cX5_weighs 1 = .ok (.getfield 59, 3) := by decide +kernel
theorem dX5_weighs_4 : decode cX5_weighs 4 = .ok (.iload_n 1, 1) := by decide +kernel
theorem dX5_weighs_5 : decode cX5_weighs 5 = .ok (.iaload, 1) := by decide +kernel
theorem dX5_weighs_6 : decode cX5_weighs 6 = .ok (.istore_n 3, 1) := by decide +kernel
theorem dX5_weighs_7 : decode cX5_weighs 7 = .ok (.iconst 0, 1) := by decide +kernel
theorem dX5_weighs_8 : decode cX5_weighs 8 = .ok (.istore 4, 2) := by decide +kernel
theorem dX5_weighs_10 : decode cX5_weighs 10 = .ok (.iload 4, 2) := by decide +kernel
theorem dX5_weighs_12 : decode cX5_weighs 12 = .ok (.aload_n 0, 1) := by decide +kernel
theorem dX5_weighs_13 : decode cX5_weighs 13 = .ok (.getfield 97, 3) := by decide +kernel
theorem dX5_weighs_16 : decode cX5_weighs 16 = .ok (.if_icmp .ge 68, 3) := by decide +kernel
theorem dX5_weighs_19 : decode cX5_weighs 19 = .ok (.iload_n 1, 1) := by decide +kernel
theorem dX5_weighs_20 : decode cX5_weighs 20 = .ok (.iload 4, 2) := by decide +kernel
theorem dX5_weighs_22 : decode cX5_weighs 22 = .ok (.invokestatic 165, 3) := by decide +kernel
theorem dX5_weighs_25 : decode cX5_weighs 25 = .ok (.iload_n 2, 1) := by decide +kernel
theorem dX5_weighs_26 : decode cX5_weighs 26 = .ok (.if_icmp .ne 17, 3) := by decide +kernel
theorem dX5_weighs_29 : decode cX5_weighs 29 = .ok (.aload_n 0, 1) := by decide +kernel
theorem dX5_weighs_30 : decode cX5_weighs 30 = .ok (.getfield 59, 3) := by decide +kernel
theorem dX5_weighs_33 : decode cX5_weighs 33 = .ok (.iload_n 1, 1) := by decide +kernel
theorem dX5_weighs_34 : decode cX5_weighs 34 = .ok (.iconst 1, 1) := by decide +kernel
theorem dX5_weighs_35 : decode cX5_weighs 35 = .ok (.iload 4, 2) := by decide +kernel
theorem dX5_weighs_37 : decode cX5_weighs 37 = .ok (.ishl, 1) := by decide +kernel
theorem dX5_weighs_38 : decode cX5_weighs 38 = .ok (.ixor, 1) := by decide +kernel
theorem dX5_weighs_39 : decode cX5_weighs 39 = .ok (.iaload, 1) := by decide +kernel
theorem dX5_weighs_40 : decode cX5_weighs 40 = .ok (.goto 4, 3) := by decide +kernel
theorem dX5_weighs_43 : decode cX5_weighs 43 = .ok (.iload_n 3, 1) := by decide +kernel
theorem dX5_weighs_44 : decode cX5_weighs 44 = .ok (.istore 5, 2) := by decide +kernel
theorem dX5_weighs_46 : decode cX5_weighs 46 = .ok (.iload_n 2, 1) := by decide +kernel
theorem dX5_weighs_47 : decode cX5_weighs 47 = .ok (.ifCond .eq 18, 3) := by decide +kernel
theorem dX5_weighs_50 : decode cX5_weighs 50 = .ok (.iload 5, 2) := by decide +kernel
theorem dX5_weighs_52 : decode cX5_weighs 52 = .ok (.iload_n 3, 1) := by decide +kernel
theorem dX5_weighs_53 : decode cX5_weighs 53 = .ok (.if_icmp .le 8, 3) := by decide +kernel
theorem dX5_weighs_56 : decode cX5_weighs 56 = .ok (.iload 5, 2) := by decide +kernel
theorem dX5_weighs_58 : decode cX5_weighs 58 = .ok (.goto 19, 3) := by decide +kernel
theorem dX5_weighs_61 : decode cX5_weighs 61 = .ok (.iload_n 3, 1) := by decide +kernel
theorem dX5_weighs_62 : decode cX5_weighs 62 = .ok (.goto 15, 3) := by decide +kernel
theorem dX5_weighs_65 : decode cX5_weighs 65 = .ok (.iload 5, 2) := by decide +kernel
theorem dX5_weighs_67 : decode cX5_weighs 67 = .ok (.iload_n 3, 1) := by decide +kernel
theorem dX5_weighs_68 : decode cX5_weighs 68 = .ok (.if_icmp .ge 8, 3) := by decide +kernel
theorem dX5_weighs_71 : decode cX5_weighs 71 = .ok (.iload 5, 2) := by decide +kernel
theorem dX5_weighs_73 : decode cX5_weighs 73 = .ok (.goto 4, 3) := by decide +kernel
theorem dX5_weighs_76 : decode cX5_weighs 76 = .ok (.iload_n 3, 1) := by decide +kernel
theorem dX5_weighs_77 : decode cX5_weighs 77 = .ok (.istore_n 3, 1) := by decide +kernel
theorem dX5_weighs_78 : decode cX5_weighs 78 = .ok (.iinc 4 1, 3) := by decide +kernel
theorem dX5_weighs_81 : decode cX5_weighs 81 = .ok (.goto (-71), 3) := by decide +kernel
theorem dX5_weighs_84 : decode cX5_weighs 84 = .ok (.iload_n 3, 1) := by decide +kernel
theorem dX5_weighs_85 : decode cX5_weighs 85 = .ok (.ireturn, 1) := by decide +kernel
theorem dX5_duel_0 : decode cX5_duel 0 = .ok (.iload_n 1, 1) := by decide +kernel
theorem dX5_duel_1 : decode cX5_duel 1 = .ok (.i2l, 1) := by decide +kernel
theorem dX5_duel_2 : decode cX5_duel 2 = .ok (.lconst 0, 1) := by decide +kernel
theorem dX5_duel_3 : decode cX5_duel 3 = .ok (.ldc2_w 179, 3) := by decide +kernel
theorem dX5_duel_6 : decode cX5_duel 6 = .ok (.invokestatic 77, 3) := by decide +kernel
theorem dX5_duel_9 : decode cX5_duel 9 = .ok (.ifCond .ne 5, 3) := by decide +kernel
theorem dX5_duel_12 : decode cX5_duel 12 = .ok (.iconst (-1), 1) := by decide +kernel
theorem dX5_duel_13 : decode cX5_duel 13 = .ok (.ireturn, 1) := by decide +kernel
theorem dX5_duel_14 : decode cX5_duel 14 = .ok (.aload_n 0, 1) := by decide +kernel
theorem dX5_duel_15 : decode cX5_duel 15 = .ok (.getfield 97, 3) := by decide +kernel
theorem dX5_duel_18 : decode cX5_duel 18 = .ok (.ifCond .ne 6, 3) := by decide +kernel
theorem dX5_duel_21 : decode cX5_duel 21 = .ok (.bipush (-4), 2) := by decide +kernel
theorem dX5_duel_23 : decode cX5_duel 23 = .ok (.ireturn, 1) := by decide +kernel
theorem dX5_duel_24 : decode cX5_duel 24 = .ok (.iconst 1, 1) := by decide +kernel
theorem dX5_duel_25 : decode cX5_duel 25 = .ok (.aload_n 0, 1) := by decide +kernel
theorem dX5_duel_26 : decode cX5_duel 26 = .ok (.getfield 97, 3) := by decide +kernel
theorem dX5_duel_29 : decode cX5_duel 29 = .ok (.ishl, 1) := by decide +kernel
theorem dX5_duel_30 : decode cX5_duel 30 = .ok (.istore_n 2, 1) := by decide +kernel
theorem dX5_duel_31 : decode cX5_duel 31 = .ok (.iconst 0, 1) := by decide +kernel
theorem dX5_duel_32 : decode cX5_duel 32 = .ok (.istore_n 3, 1) := by decide +kernel
theorem dX5_duel_33 : decode cX5_duel 33 = .ok (.iload_n 3, 1) := by decide +kernel
theorem dX5_duel_34 : decode cX5_duel 34 = .ok (.iload_n 2, 1) := by decide +kernel
theorem dX5_duel_35 : decode cX5_duel 35 = .ok (.if_icmp .ge 32, 3) := by decide +kernel
theorem dX5_duel_38 : decode cX5_duel 38 = .ok (.aload_n 0, 1) := by decide +kernel
theorem dX5_duel_39 : decode cX5_duel 39 = .ok (.invokevirtual 213, 3) := by decide +kernel
theorem dX5_duel_42 : decode cX5_duel 42 = .ok (.aload_n 0, 1) := by decide +kernel
theorem dX5_duel_43 : decode cX5_duel 43 = .ok (.getfield 38, 3) := by decide +kernel
theorem dX5_duel_46 : decode cX5_duel 46 = .ok (.iconst 2, 1) := by decide +kernel
theorem dX5_duel_47 : decode cX5_duel 47 = .ok (.iload_n 3, 1) := by decide +kernel
theorem dX5_duel_48 : decode cX5_duel 48 = .ok (.iastore, 1) := by decide +kernel
theorem dX5_duel_49 : decode cX5_duel 49 = .ok (.aload_n 0, 1) := by decide +kernel
theorem dX5_duel_50 : decode cX5_duel 50 = .ok (.getfield 59, 3) := by decide +kernel
theorem dX5_duel_53 : decode cX5_duel 53 = .ok (.iload_n 3, 1) := by decide +kernel
theorem dX5_duel_54 : decode cX5_duel 54 = .ok (.aload_n 0, 1) := by decide +kernel
theorem dX5_duel_55 : decode cX5_duel 55 = .ok (.bipush 20, 2) := by decide +kernel
theorem dX5_duel_57 : decode cX5_duel 57 = .ok (.invokevirtual 225, 3) := by decide +kernel
theorem dX5_duel_60 : decode cX5_duel 60 = .ok (.iastore, 1) := by decide +kernel
theorem dX5_duel_61 : decode cX5_duel 61 = .ok (.iinc 3 1, 3) := by decide +kernel
theorem dX5_duel_64 : decode cX5_duel 64 = .ok (.goto (-31), 3) := by decide +kernel
theorem dX5_duel_67 : decode cX5_duel 67 = .ok (.iload_n 1, 1) := by decide +kernel
theorem dX5_duel_68 : decode cX5_duel 68 = .ok (.istore_n 3, 1) := by decide +kernel
theorem dX5_duel_69 : decode cX5_duel 69 = .ok (.iload_n 3, 1) := by decide +kernel
theorem dX5_duel_70 : decode cX5_duel 70 = .ok (.ifCond .le 63, 3) := by decide +kernel
theorem dX5_duel_73 : decode cX5_duel 73 = .ok (.iconst 0, 1) := by decide +kernel
theorem dX5_duel_74 : decode cX5_duel 74 = .ok (.istore 4, 2) := by decide +kernel
theorem dX5_duel_76 : decode cX5_duel 76 = .ok (.iload 4, 2) := by decide +kernel
theorem dX5_duel_78 : decode cX5_duel 78 = .ok (.iload_n 2, 1) := by decide +kernel
theorem dX5_duel_79 : decode cX5_duel 79 = .ok (.if_icmp .ge 34, 3) := by decide +kernel
theorem dX5_duel_82 : decode cX5_duel 82 = .ok (.aload_n 0, 1) := by decide +kernel
theorem dX5_duel_83 : decode cX5_duel 83 = .ok (.getfield 62, 3) := by decide +kernel
theorem dX5_duel_86 : decode cX5_duel 86 = .ok (.iload 4, 2) := by decide +kernel
theorem dX5_duel_88 : decode cX5_duel 88 = .ok (.aload_n 0, 1) := by decide +kernel
theorem dX5_duel_89 : decode cX5_duel 89 = .ok (.iload 4, 2) := by decide +kernel
theorem dX5_duel_91 : decode cX5_duel 91 = .ok (.iload_n 3, 1) := by decide +kernel
theorem dX5_duel_92 : decode cX5_duel 92 = .ok (.iconst 2, 1) := by decide +kernel
theorem dX5_duel_93 : decode cX5_duel 93 = .ok (.irem, 1) := by decide +kernel
theorem dX5_duel_94 : decode cX5_duel 94 = .ok (.iconst 1, 1) := by decide +kernel
theorem dX5_duel_95 : decode cX5_duel 95 = .ok (.if_icmp .ne 7, 3) := by decide +kernel
theorem dX5_duel_98 : decode cX5_duel 98 = .ok (.iconst 1, 1) := by decide +kernel
theorem dX5_duel_99 : decode cX5_duel 99 = .ok (.goto 4, 3) := by decide +kernel
theorem dX5_duel_102 : decode cX5_duel 102 = .ok (.iconst 0, 1) := by decide +kernel
theorem dX5_duel_103 : decode cX5_duel 103 = .ok (.invokevirtual 248, 3) := by decide +kernel
theorem dX5_duel_106 : decode cX5_duel 106 = .ok (.iastore, 1) := by decide +kernel
theorem dX5_duel_107 : decode cX5_duel 107 = .ok (.iinc 4 1, 3) := by decide +kernel
theorem dX5_duel_110 : decode cX5_duel 110 = .ok (.goto (-34), 3) := by decide +kernel
theorem dX5_duel_113 : decode cX5_duel 113 = .ok (.aload_n 0, 1) := by decide +kernel
theorem dX5_duel_114 : decode cX5_duel 114 = .ok (.getfield 62, 3) := by decide +kernel
theorem dX5_duel_117 : decode cX5_duel 117 = .ok (.iconst 0, 1) := by decide +kernel
theorem dX5_duel_118 : decode cX5_duel 118 = .ok (.aload_n 0, 1) := by decide +kernel
theorem dX5_duel_119 : decode cX5_duel 119 = .ok (.getfield 59, 3) := by decide +kernel
theorem dX5_duel_122 : decode cX5_duel 122 = .ok (.iconst 0, 1) := by decide +kernel
theorem dX5_duel_123 : decode cX5_duel 123 = .ok (.iload_n 2, 1) := by decide +kernel
theorem dX5_duel_124 : decode cX5_duel 124 = .ok (.invokestatic 197, 3) := by decide +kernel
theorem dX5_duel_127 : decode cX5_duel 127 = .ok (.iinc 3 (-1), 3) := by decide +kernel
theorem dX5_duel_130 : decode cX5_duel 130 = .ok (.goto (-61), 3) := by decide +kernel
theorem dX5_duel_133 : decode cX5_duel 133 = .ok (.aload_n 0, 1) := by decide +kernel
theorem dX5_duel_134 : decode cX5_duel 134 = .ok (.getfield 59, 3) := by decide +kernel
theorem dX5_duel_137 : decode cX5_duel 137 = .ok (.aload_n 0, 1) := by decide +kernel
theorem dX5_duel_138 : decode cX5_duel 138 = .ok (.getfield 35, 3) := by decide +kernel
theorem dX5_duel_141 : decode cX5_duel 141 = .ok (.iconst 2, 1) := by decide +kernel
theorem dX5_duel_142 : decode cX5_duel 142 = .ok (.iaload, 1) := by decide +kernel
theorem dX5_duel_143 : decode cX5_duel 143 = .ok (.iaload, 1) := by decide +kernel
theorem dX5_duel_144 : decode cX5_duel 144 = .ok (.ireturn, 1) := by decide +kernel
theorem dX5_fraction_0 : decode cX5_fraction 0 = .ok (.lload_n 1, 1) := by decide +kernel
theorem dX5_fraction_1 : decode cX5_fraction 1 = .ok (.lstore 5, 2) := by decide +kernel
theorem dX5_fraction_3 : decode cX5_fraction 3 = .ok (.lload_n 3, 1) := by decide +kernel
theorem dX5_fraction_4 : decode cX5_fraction 4 = .ok (.lstore 7, 2) := by decide +kernel
theorem dX5_fraction_6 : decode cX5_fraction 6 = .ok (.lload 7, 2) := by decide +kernel
theorem dX5_fraction_8 : decode cX5_fraction 8 = .ok (.lconst 0, 1) := by decide +kernel
theorem dX5_fraction_9 : decode cX5_fraction 9 = .ok (.lcmp, 1) := by decide +kernel
theorem dX5_fraction_10 : decode cX5_fraction 10 = .ok (.ifCond .eq 21, 3) := by decide +kernel
theorem dX5_fraction_13 : decode cX5_fraction 13 = .ok (.lload 5, 2) := by decide +kernel
theorem dX5_fraction_15 : decode cX5_fraction 15 = .ok (.lload 7, 2) := by decide +kernel
theorem dX5_fraction_17 : decode cX5_fraction 17 = .ok (.lrem, 1) := by decide +kernel
theorem dX5_fraction_18 : decode cX5_fraction 18 = .ok (.lstore 9, 2) := by decide +kernel
theorem dX5_fraction_20 : decode cX5_fraction 20 = .ok (.lload 7, 2) := by decide +kernel
theorem dX5_fraction_22 : decode cX5_fraction 22 = .ok (.lstore 5, 2) := by decide +kernel
theorem dX5_fraction_24 : decode cX5_fraction 24 = .ok (.lload 9, 2) := by decide +kernel
theorem dX5_fraction_26 : decode cX5_fraction 26 = .ok (.lstore 7, 2) := by decide +kernel
theorem dX5_fraction_28 : decode cX5_fraction 28 = .ok (.goto (-22), 3) := by decide +kernel
theorem dX5_fraction_31 : decode cX5_fraction 31 = .ok (.aload_n 0, 1) := by decide +kernel
theorem dX5_fraction_32 : decode cX5_fraction 32 = .ok (.lload_n 1, 1) := by decide +kernel
theorem dX5_fraction_33 : decode cX5_fraction 33 = .ok (.lload 5, 2) := by decide +kernel
theorem dX5_fraction_35 : decode cX5_fraction 35 = .ok (.ldiv, 1) := by decide +kernel
theorem dX5_fraction_36 : decode cX5_fraction 36 = .ok (.putfield 252, 3) := by decide +kernel
theorem dX5_fraction_39 : decode cX5_fraction 39 = .ok (.aload_n 0, 1) := by decide +kernel
theorem dX5_fraction_40 : decode cX5_fraction 40 = .ok (.lload_n 3, 1) := by decide +kernel
theorem dX5_fraction_41 : decode cX5_fraction 41 = .ok (.lload 5, 2) := by decide +kernel
theorem dX5_fraction_43 : decode cX5_fraction 43 = .ok (.ldiv, 1) := by decide +kernel
theorem dX5_fraction_44 : decode cX5_fraction 44 = .ok (.putfield 22, 3) := by decide +kernel
theorem dX5_fraction_47 : decode cX5_fraction 47 = .ok (.iconst 1, 1) := by decide +kernel
theorem dX5_fraction_48 : decode cX5_fraction 48 = .ok (.ireturn, 1) := by decide +kernel
theorem dX5_ways_0 : decode cX5_ways 0 = .ok (.lconst 0, 1) := by decide +kernel
theorem dX5_ways_1 : decode cX5_ways 1 = .ok (.lstore 4, 2) := by decide +kernel
theorem dX5_ways_3 : decode cX5_ways 3 = .ok (.iconst 0, 1) := by decide +kernel
theorem dX5_ways_4 : decode cX5_ways 4 = .ok (.istore 6, 2) := by decide +kernel
theorem dX5_ways_6 : decode cX5_ways 6 = .ok (.iload 6, 2) := by decide +kernel
theorem dX5_ways_8 : decode cX5_ways 8 = .ok (.iconst 1, 1) := by decide +kernel
theorem dX5_ways_9 : decode cX5_ways 9 = .ok (.aload_n 0, 1) := by decide +kernel
theorem dX5_ways_10 : decode cX5_ways 10 = .ok (.getfield 97, 3) := by decide +kernel
theorem dX5_ways_13 : decode cX5_ways 13 = .ok (.ishl, 1) := by decide +kernel
theorem dX5_ways_14 : decode cX5_ways 14 = .ok (.if_icmp .ge 141, 3) := by decide +kernel
theorem dX5_ways_17 : decode cX5_ways 17 = .ok (.iload 6, 2) := by decide +kernel
theorem dX5_ways_19 : decode cX5_ways 19 = .ok (.aload_n 0, 1) := by decide +kernel
theorem dX5_ways_20 : decode cX5_ways 20 = .ok (.getfield 35, 3) := by decide +kernel
theorem dX5_ways_23 : decode cX5_ways 23 = .ok (.iconst 2, 1) := by decide +kernel
theorem dX5_ways_24 : decode cX5_ways 24 = .ok (.iaload, 1) := by decide +kernel
theorem dX5_ways_25 : decode cX5_ways 25 = .ok (.iconst (-1), 1) := by decide +kernel
theorem dX5_ways_26 : decode cX5_ways 26 = .ok (.ixor, 1) := by decide +kernel
theorem dX5_ways_27 : decode cX5_ways 27 = .ok (.iand, 1) := by decide +kernel
theorem dX5_ways_28 : decode cX5_ways 28 = .ok (.ifCond .ne 121, 3) := by decide +kernel
theorem dX5_ways_31 : decode cX5_ways 31 = .ok (.lconst 1, 1) := by decide +kernel
theorem dX5_ways_32 : decode cX5_ways 32 = .ok (.lstore 7, 2) := by decide +kernel
theorem dX5_ways_34 : decode cX5_ways 34 = .ok (.iconst 0, 1) := by decide +kernel
theorem dX5_ways_35 : decode cX5_ways 35 = .ok (.istore 9, 2) := by decide +kernel
theorem dX5_ways_37 : decode cX5_ways 37 = .ok (.iload 9, 2) := by decide +kernel
theorem dX5_ways_39 : decode cX5_ways 39 = .ok (.aload_n 0, 1) := by decide +kernel
theorem dX5_ways_40 : decode cX5_ways 40 = .ok (.getfield 97, 3) := by decide +kernel
theorem dX5_ways_43 : decode cX5_ways 43 = .ok (.if_icmp .ge 53, 3) := by decide +kernel
theorem dX5_ways_46 : decode cX5_ways 46 = .ok (.lload 7, 2) := by decide +kernel
theorem dX5_ways_48 : decode cX5_ways 48 = .ok (.aload_n 0, 1) := by decide +kernel
theorem dX5_ways_49 : decode cX5_ways 49 = .ok (.getfield 35, 3) := by decide +kernel
theorem dX5_ways_52 : decode cX5_ways 52 = .ok (.iconst 2, 1) := by decide +kernel
theorem dX5_ways_53 : decode cX5_ways 53 = .ok (.iaload, 1) := by decide +kernel
theorem dX5_ways_54 : decode cX5_ways 54 = .ok (.iload 9, 2) := by decide +kernel
theorem dX5_ways_56 : decode cX5_ways 56 = .ok (.invokestatic 165, 3) := by decide +kernel
theorem dX5_ways_59 : decode cX5_ways 59 = .ok (.ifCond .ne 7, 3) := by decide +kernel
theorem dX5_ways_62 : decode cX5_ways 62 = .ok (.lconst 1, 1) := by decide +kernel
theorem dX5_ways_63 : decode cX5_ways 63 = .ok (.goto 24, 3) := by decide +kernel
theorem dX5_ways_66 : decode cX5_ways 66 = .ok (.iload 6, 2) := by decide +kernel
theorem dX5_ways_68 : decode cX5_ways 68 = .ok (.iload 9, 2) := by decide +kernel
theorem dX5_ways_70 : decode cX5_ways 70 = .ok (.invokestatic 165, 3) := by decide +kernel
theorem dX5_ways_73 : decode cX5_ways 73 = .ok (.ifCond .eq 8, 3) := by decide +kernel
theorem dX5_ways_76 : decode cX5_ways 76 = .ok (.iload_n 3, 1) := by decide +kernel
theorem dX5_ways_77 : decode cX5_ways 77 = .ok (.i2l, 1) := by decide +kernel
theorem dX5_ways_78 : decode cX5_ways 78 = .ok (.goto 9, 3) := by decide +kernel
theorem dX5_ways_81 : decode cX5_ways 81 = .ok (.ldc2_w 255, 3) := by decide +kernel
theorem dX5_ways_84 : decode cX5_ways 84 = .ok (.iload_n 3, 1) := by decide +kernel
theorem dX5_ways_85 : decode cX5_ways 85 = .ok (.i2l, 1) := by decide +kernel
theorem dX5_ways_86 : decode cX5_ways 86 = .ok (.lsub, 1) := by decide +kernel
theorem dX5_ways_87 : decode cX5_ways 87 = .ok (.lmul, 1) := by decide +kernel
theorem dX5_ways_88 : decode cX5_ways 88 = .ok (.lstore 7, 2) := by decide +kernel
theorem dX5_ways_90 : decode cX5_ways 90 = .ok (.iinc 9 1, 3) := by decide +kernel
theorem dX5_ways_93 : decode cX5_ways 93 = .ok (.goto (-56), 3) := by decide +kernel
theorem dX5_ways_96 : decode cX5_ways 96 = .ok (.aload_n 0, 1) := by decide +kernel
theorem dX5_ways_97 : decode cX5_ways 97 = .ok (.invokevirtual 213, 3) := by decide +kernel
theorem dX5_ways_100 : decode cX5_ways 100 = .ok (.aload_n 0, 1) := by decide +kernel
theorem dX5_ways_101 : decode cX5_ways 101 = .ok (.getfield 38, 3) := by decide +kernel
theorem dX5_ways_104 : decode cX5_ways 104 = .ok (.iconst 2, 1) := by decide +kernel
theorem dX5_ways_105 : decode cX5_ways 105 = .ok (.dup2, 1) := by decide +kernel
theorem dX5_ways_106 : decode cX5_ways 106 = .ok (.iaload, 1) := by decide +kernel
theorem dX5_ways_107 : decode cX5_ways 107 = .ok (.iload 6, 2) := by decide +kernel
theorem dX5_ways_109 : decode cX5_ways 109 = .ok (.ixor, 1) := by decide +kernel
theorem dX5_ways_110 : decode cX5_ways 110 = .ok (.iastore, 1) := by decide +kernel
theorem dX5_ways_111 : decode cX5_ways 111 = .ok (.aload_n 0, 1) := by decide +kernel
theorem dX5_ways_112 : decode cX5_ways 112 = .ok (.iload_n 1, 1) := by decide +kernel
theorem dX5_ways_113 : decode cX5_ways 113 = .ok (.invokevirtual 225, 3) := by decide +kernel
theorem dX5_ways_116 : decode cX5_ways 116 = .ok (.istore 9, 2) := by decide +kernel
theorem dX5_ways_118 : decode cX5_ways 118 = .ok (.lload 4, 2) := by decide +kernel
theorem dX5_ways_120 : decode cX5_ways 120 = .ok (.lload 7, 2) := by decide +kernel
theorem dX5_ways_122 : decode cX5_ways 122 = .ok (.iload_n 2, 1) := by decide +kernel
theorem dX5_ways_123 : decode cX5_ways 123 = .ok (.bipush (-9), 2) := by decide +kernel
theorem dX5_ways_125 : decode cX5_ways 125 = .ok (.if_icmp .ne 9, 3) := by decide +kernel
theorem dX5_ways_128 : decode cX5_ways 128 = .ok (.iload 9, 2) := by decide +kernel
theorem dX5_ways_130 : decode cX5_ways 130 = .ok (.i2l, 1) := by decide +kernel
theorem dX5_ways_131 : decode cX5_ways 131 = .ok (.goto 14, 3) := by decide +kernel
theorem dX5_ways_134 : decode cX5_ways 134 = .ok (.iload 9, 2) := by decide +kernel
theorem dX5_ways_136 : decode cX5_ways 136 = .ok (.iload_n 2, 1) := by decide +kernel
theorem dX5_ways_137 : decode cX5_ways 137 = .ok (.if_icmp .lt 7, 3) := by decide +kernel
theorem dX5_ways_140 : decode cX5_ways 140 = .ok (.lconst 1, 1) := by decide +kernel
theorem dX5_ways_141 : decode cX5_ways 141 = .ok (.goto 4, 3) := by decide +kernel
theorem dX5_ways_144 : decode cX5_ways 144 = .ok (.lconst 0, 1) := by decide +kernel
theorem dX5_ways_145 : decode cX5_ways 145 = .ok (.lmul, 1) := by decide +kernel
theorem dX5_ways_146 : decode cX5_ways 146 = .ok (.ladd, 1) := by decide +kernel
theorem dX5_ways_147 : decode cX5_ways 147 = .ok (.lstore 4, 2) := by decide +kernel
theorem dX5_ways_149 : decode cX5_ways 149 = .ok (.iinc 6 1, 3) := by decide +kernel
theorem dX5_ways_152 : decode cX5_ways 152 = .ok (.goto (-146), 3) := by decide +kernel
theorem dX5_ways_155 : decode cX5_ways 155 = .ok (.lload 4, 2) := by decide +kernel
theorem dX5_ways_157 : decode cX5_ways 157 = .ok (.lreturn, 1) := by decide +kernel
theorem dX5_allWays_0 : decode cX5_allWays 0 = .ok (.lconst 1, 1) := by decide +kernel
theorem dX5_allWays_1 : decode cX5_allWays 1 = .ok (.lstore_n 1, 1) := by decide +kernel
theorem dX5_allWays_2 : decode cX5_allWays 2 = .ok (.aload_n 0, 1) := by decide +kernel
theorem dX5_allWays_3 : decode cX5_allWays 3 = .ok (.getfield 35, 3) := by decide +kernel
theorem dX5_allWays_6 : decode cX5_allWays 6 = .ok (.iconst 2, 1) := by decide +kernel
theorem dX5_allWays_7 : decode cX5_allWays 7 = .ok (.iaload, 1) := by decide +kernel
theorem dX5_allWays_8 : decode cX5_allWays 8 = .ok (.istore_n 3, 1) := by decide +kernel
theorem dX5_allWays_9 : decode cX5_allWays 9 = .ok (.iload_n 3, 1) := by decide +kernel
theorem dX5_allWays_10 : decode cX5_allWays 10 = .ok (.ifCond .eq 18, 3) := by decide +kernel
theorem dX5_allWays_13 : decode cX5_allWays 13 = .ok (.lload_n 1, 1) := by decide +kernel
theorem dX5_allWays_14 : decode cX5_allWays 14 = .ok (.ldc2_w 255, 3) := by decide +kernel
theorem dX5_allWays_17 : decode cX5_allWays 17 = .ok (.lmul, 1) := by decide +kernel
theorem dX5_allWays_18 : decode cX5_allWays 18 = .ok (.lstore_n 1, 1) := by decide +kernel
theorem dX5_allWays_19 : decode cX5_allWays 19 = .ok (.iload_n 3, 1) := by decide +kernel
theorem dX5_allWays_20 : decode cX5_allWays 20 = .ok (.iload_n 3, 1) := by decide +kernel
theorem dX5_allWays_21 : decode cX5_allWays 21 = .ok (.iconst 1, 1) := by decide +kernel
theorem dX5_allWays_22 : decode cX5_allWays 22 = .ok (.isub, 1) := by decide +kernel
theorem dX5_allWays_23 : decode cX5_allWays 23 = .ok (.iand, 1) := by decide +kernel
theorem dX5_allWays_24 : decode cX5_allWays 24 = .ok (.istore_n 3, 1) := by decide +kernel
theorem dX5_allWays_25 : decode cX5_allWays 25 = .ok (.goto (-16), 3) := by decide +kernel
theorem dX5_allWays_28 : decode cX5_allWays 28 = .ok (.lload_n 1, 1) := by decide +kernel
theorem dX5_allWays_29 : decode cX5_allWays 29 = .ok (.lreturn, 1) := by decide +kernel
theorem dX5_odds_0 : decode cX5_odds 0 = .ok (.iload_n 1, 1) := by decide +kernel
theorem dX5_odds_1 : decode cX5_odds 1 = .ok (.i2l, 1) := by decide +kernel
theorem dX5_odds_2 : decode cX5_odds 2 = .ok (.lconst 0, 1) := by decide +kernel
theorem dX5_odds_3 : decode cX5_odds 3 = .ok (.ldc2_w 257, 3) := by decide +kernel
theorem dX5_odds_6 : decode cX5_odds 6 = .ok (.invokestatic 77, 3) := by decide +kernel
theorem dX5_odds_9 : decode cX5_odds 9 = .ok (.ifCond .eq 27, 3) := by decide +kernel
theorem dX5_odds_12 : decode cX5_odds 12 = .ok (.iload_n 2, 1) := by decide +kernel
theorem dX5_odds_13 : decode cX5_odds 13 = .ok (.i2l, 1) := by decide +kernel
theorem dX5_odds_14 : decode cX5_odds 14 = .ok (.lconst 0, 1) := by decide +kernel
theorem dX5_odds_15 : decode cX5_odds 15 = .ok (.ldc2_w 231, 3) := by decide +kernel
theorem dX5_odds_18 : decode cX5_odds 18 = .ok (.invokestatic 77, 3) := by decide +kernel
theorem dX5_odds_21 : decode cX5_odds 21 = .ok (.ifCond .eq 15, 3) := by decide +kernel
theorem dX5_odds_24 : decode cX5_odds 24 = .ok (.iload_n 3, 1) := by decide +kernel
theorem dX5_odds_25 : decode cX5_odds 25 = .ok (.i2l, 1) := by decide +kernel
theorem dX5_odds_26 : decode cX5_odds 26 = .ok (.lconst 0, 1) := by decide +kernel
theorem dX5_odds_27 : decode cX5_odds 27 = .ok (.ldc2_w 255, 3) := by decide +kernel
theorem dX5_odds_30 : decode cX5_odds 30 = .ok (.invokestatic 77, 3) := by decide +kernel
theorem dX5_odds_33 : decode cX5_odds 33 = .ok (.ifCond .ne 5, 3) := by decide +kernel
theorem dX5_odds_36 : decode cX5_odds 36 = .ok (.iconst (-1), 1) := by decide +kernel
theorem dX5_odds_37 : decode cX5_odds 37 = .ok (.ireturn, 1) := by decide +kernel
theorem dX5_odds_38 : decode cX5_odds 38 = .ok (.aload_n 0, 1) := by decide +kernel
theorem dX5_odds_39 : decode cX5_odds 39 = .ok (.getfield 97, 3) := by decide +kernel
theorem dX5_odds_42 : decode cX5_odds 42 = .ok (.ifCond .ne 8, 3) := by decide +kernel
theorem dX5_odds_45 : decode cX5_odds 45 = .ok (.bipush (-4), 2) := by decide +kernel
theorem dX5_odds_47 : decode cX5_odds 47 = .ok (.goto 18, 3) := by decide +kernel
theorem dX5_odds_50 : decode cX5_odds 50 = .ok (.aload_n 0, 1) := by decide +kernel
theorem dX5_odds_51 : decode cX5_odds 51 = .ok (.aload_n 0, 1) := by decide +kernel
theorem dX5_odds_52 : decode cX5_odds 52 = .ok (.iload_n 1, 1) := by decide +kernel
theorem dX5_odds_53 : decode cX5_odds 53 = .ok (.iload_n 2, 1) := by decide +kernel
theorem dX5_odds_54 : decode cX5_odds 54 = .ok (.iload_n 3, 1) := by decide +kernel
theorem dX5_odds_55 : decode cX5_odds 55 = .ok (.invokevirtual 259, 3) := by decide +kernel
theorem dX5_odds_58 : decode cX5_odds 58 = .ok (.aload_n 0, 1) := by decide +kernel
theorem dX5_odds_59 : decode cX5_odds 59 = .ok (.invokevirtual 263, 3) := by decide +kernel
theorem dX5_odds_62 : decode cX5_odds 62 = .ok (.invokevirtual 267, 3) := by decide +kernel
theorem dX5_odds_65 : decode cX5_odds 65 = .ok (.ireturn, 1) := by decide +kernel
theorem dX5_mid_0 : decode cX5_mid 0 = .ok (.iload_n 1, 1) := by decide +kernel
theorem dX5_mid_1 : decode cX5_mid 1 = .ok (.i2l, 1) := by decide +kernel
theorem dX5_mid_2 : decode cX5_mid 2 = .ok (.lconst 0, 1) := by decide +kernel
theorem dX5_mid_3 : decode cX5_mid 3 = .ok (.ldc2_w 257, 3) := by decide +kernel
theorem dX5_mid_6 : decode cX5_mid 6 = .ok (.invokestatic 77, 3) := by decide +kernel
theorem dX5_mid_9 : decode cX5_mid 9 = .ok (.ifCond .eq 15, 3) := by decide +kernel
theorem dX5_mid_12 : decode cX5_mid 12 = .ok (.iload_n 2, 1) := by decide +kernel
theorem dX5_mid_13 : decode cX5_mid 13 = .ok (.i2l, 1) := by decide +kernel
theorem dX5_mid_14 : decode cX5_mid 14 = .ok (.lconst 0, 1) := by decide +kernel
theorem dX5_mid_15 : decode cX5_mid 15 = .ok (.ldc2_w 255, 3) := by decide +kernel
theorem dX5_mid_18 : decode cX5_mid 18 = .ok (.invokestatic 77, 3) := by decide +kernel
theorem dX5_mid_21 : decode cX5_mid 21 = .ok (.ifCond .ne 5, 3) := by decide +kernel
theorem dX5_mid_24 : decode cX5_mid 24 = .ok (.iconst (-1), 1) := by decide +kernel
theorem dX5_mid_25 : decode cX5_mid 25 = .ok (.ireturn, 1) := by decide +kernel
theorem dX5_mid_26 : decode cX5_mid 26 = .ok (.aload_n 0, 1) := by decide +kernel
theorem dX5_mid_27 : decode cX5_mid 27 = .ok (.getfield 97, 3) := by decide +kernel
theorem dX5_mid_30 : decode cX5_mid 30 = .ok (.ifCond .ne 8, 3) := by decide +kernel
theorem dX5_mid_33 : decode cX5_mid 33 = .ok (.bipush (-4), 2) := by decide +kernel
theorem dX5_mid_35 : decode cX5_mid 35 = .ok (.goto 19, 3) := by decide +kernel
theorem dX5_mid_38 : decode cX5_mid 38 = .ok (.aload_n 0, 1) := by decide +kernel
theorem dX5_mid_39 : decode cX5_mid 39 = .ok (.aload_n 0, 1) := by decide +kernel
theorem dX5_mid_40 : decode cX5_mid 40 = .ok (.iload_n 1, 1) := by decide +kernel
theorem dX5_mid_41 : decode cX5_mid 41 = .ok (.bipush (-9), 2) := by decide +kernel
theorem dX5_mid_43 : decode cX5_mid 43 = .ok (.iload_n 2, 1) := by decide +kernel
theorem dX5_mid_44 : decode cX5_mid 44 = .ok (.invokevirtual 259, 3) := by decide +kernel
theorem dX5_mid_47 : decode cX5_mid 47 = .ok (.aload_n 0, 1) := by decide +kernel
theorem dX5_mid_48 : decode cX5_mid 48 = .ok (.invokevirtual 263, 3) := by decide +kernel
theorem dX5_mid_51 : decode cX5_mid 51 = .ok (.invokevirtual 267, 3) := by decide +kernel
theorem dX5_mid_54 : decode cX5_mid 54 = .ok (.ireturn, 1) := by decide +kernel
theorem dX5_lot_0 : decode cX5_lot 0 = .ok (.iload_n 1, 1) := by decide +kernel
theorem dX5_lot_1 : decode cX5_lot 1 = .ok (.bipush 8, 2) := by decide +kernel
theorem dX5_lot_3 : decode cX5_lot 3 = .ok (.idiv, 1) := by decide +kernel
theorem dX5_lot_4 : decode cX5_lot 4 = .ok (.aload_n 0, 1) := by decide +kernel
theorem dX5_lot_5 : decode cX5_lot 5 = .ok (.getfield 97, 3) := by decide +kernel
theorem dX5_lot_8 : decode cX5_lot 8 = .ok (.irem, 1) := by decide +kernel
theorem dX5_lot_9 : decode cX5_lot 9 = .ok (.istore_n 2, 1) := by decide +kernel
theorem dX5_lot_10 : decode cX5_lot 10 = .ok (.aload_n 0, 1) := by decide +kernel
theorem dX5_lot_11 : decode cX5_lot 11 = .ok (.invokevirtual 201, 3) := by decide +kernel
theorem dX5_lot_14 : decode cX5_lot 14 = .ok (.iload_n 1, 1) := by decide +kernel
theorem dX5_lot_15 : decode cX5_lot 15 = .ok (.iconst 4, 1) := by decide +kernel
theorem dX5_lot_16 : decode cX5_lot 16 = .ok (.irem, 1) := by decide +kernel
theorem dX5_lot_17 : decode cX5_lot 17 = .ok (.ifCond .ne 18, 3) := by decide +kernel
theorem dX5_lot_20 : decode cX5_lot 20 = .ok (.aload_n 0, 1) := by decide +kernel
theorem dX5_lot_21 : decode cX5_lot 21 = .ok (.getfield 35, 3) := by decide +kernel
theorem dX5_lot_24 : decode cX5_lot 24 = .ok (.iconst 2, 1) := by decide +kernel
theorem dX5_lot_25 : decode cX5_lot 25 = .ok (.dup2, 1) := by decide +kernel
theorem dX5_lot_26 : decode cX5_lot 26 = .ok (.iaload, 1) := by decide +kernel
theorem dX5_lot_27 : decode cX5_lot 27 = .ok (.iconst 1, 1) := by decide +kernel
theorem dX5_lot_28 : decode cX5_lot 28 = .ok (.iload_n 2, 1) := by decide +kernel
theorem dX5_lot_29 : decode cX5_lot 29 = .ok (.ishl, 1) := by decide +kernel
theorem dX5_lot_30 : decode cX5_lot 30 = .ok (.ixor, 1) := by decide +kernel
theorem dX5_lot_31 : decode cX5_lot 31 = .ok (.iastore, 1) := by decide +kernel
theorem dX5_lot_32 : decode cX5_lot 32 = .ok (.goto 48, 3) := by decide +kernel
theorem dX5_lot_35 : decode cX5_lot 35 = .ok (.iload_n 1, 1) := by decide +kernel
theorem dX5_lot_36 : decode cX5_lot 36 = .ok (.iconst 4, 1) := by decide +kernel
theorem dX5_lot_37 : decode cX5_lot 37 = .ok (.irem, 1) := by decide +kernel
theorem dX5_lot_38 : decode cX5_lot 38 = .ok (.iconst 1, 1) := by decide +kernel
theorem dX5_lot_39 : decode cX5_lot 39 = .ok (.if_icmp .ne 21, 3) := by decide +kernel
theorem dX5_lot_42 : decode cX5_lot 42 = .ok (.aload_n 0, 1) := by decide +kernel
theorem dX5_lot_43 : decode cX5_lot 43 = .ok (.getfield 35, 3) := by decide +kernel
theorem dX5_lot_46 : decode cX5_lot 46 = .ok (.iconst 3, 1) := by decide +kernel
theorem dX5_lot_47 : decode cX5_lot 47 = .ok (.iload_n 2, 1) := by decide +kernel
theorem dX5_lot_48 : decode cX5_lot 48 = .ok (.iadd, 1) := by decide +kernel
theorem dX5_lot_49 : decode cX5_lot 49 = .ok (.iload_n 1, 1) := by decide +kernel
theorem dX5_lot_50 : decode cX5_lot 50 = .ok (.bipush 64, 2) := by decide +kernel
theorem dX5_lot_52 : decode cX5_lot 52 = .ok (.idiv, 1) := by decide +kernel
theorem dX5_lot_53 : decode cX5_lot 53 = .ok (.bipush 10, 2) := by decide +kernel
theorem dX5_lot_55 : decode cX5_lot 55 = .ok (.irem, 1) := by decide +kernel
theorem dX5_lot_56 : decode cX5_lot 56 = .ok (.iastore, 1) := by decide +kernel
theorem dX5_lot_57 : decode cX5_lot 57 = .ok (.goto 23, 3) := by decide +kernel
theorem dX5_lot_60 : decode cX5_lot 60 = .ok (.aload_n 0, 1) := by decide +kernel
theorem dX5_lot_61 : decode cX5_lot 61 = .ok (.getfield 35, 3) := by decide +kernel
theorem dX5_lot_64 : decode cX5_lot 64 = .ok (.iconst 0, 1) := by decide +kernel
theorem dX5_lot_65 : decode cX5_lot 65 = .ok (.iaload, 1) := by decide +kernel
theorem dX5_lot_66 : decode cX5_lot 66 = .ok (.bipush 99, 2) := by decide +kernel
theorem dX5_lot_68 : decode cX5_lot 68 = .ok (.if_icmp .ge 12, 3) := by decide +kernel
theorem dX5_lot_71 : decode cX5_lot 71 = .ok (.aload_n 0, 1) := by decide +kernel
theorem dX5_lot_72 : decode cX5_lot 72 = .ok (.aload_n 0, 1) := by decide +kernel
theorem dX5_lot_73 : decode cX5_lot 73 = .ok (.getfield 35, 3) := by decide +kernel
theorem dX5_lot_76 : decode cX5_lot 76 = .ok (.invokevirtual 204, 3) := by decide +kernel
theorem dX5_lot_79 : decode cX5_lot 79 = .ok (.istore_n 3, 1) := by decide +kernel
theorem dX5_lot_80 : decode cX5_lot 80 = .ok (.return_, 1) := by decide +kernel
theorem dX5_lots_0 : decode cX5_lots 0 = .ok (.iload_n 1, 1) := by decide +kernel
theorem dX5_lots_1 : decode cX5_lots 1 = .ok (.i2l, 1) := by decide +kernel
theorem dX5_lots_2 : decode cX5_lots 2 = .ok (.lconst 1, 1) := by decide +kernel
theorem dX5_lots_3 : decode cX5_lots 3 = .ok (.ldc2_w 231, 3) := by decide +kernel
theorem dX5_lots_6 : decode cX5_lots 6 = .ok (.invokestatic 77, 3) := by decide +kernel
theorem dX5_lots_9 : decode cX5_lots 9 = .ok (.ifCond .eq 15, 3) := by decide +kernel
theorem dX5_lots_12 : decode cX5_lots 12 = .ok (.iload_n 2, 1) := by decide +kernel
theorem dX5_lots_13 : decode cX5_lots 13 = .ok (.i2l, 1) := by decide +kernel
theorem dX5_lots_14 : decode cX5_lots 14 = .ok (.lconst 1, 1) := by decide +kernel
theorem dX5_lots_15 : decode cX5_lots 15 = .ok (.ldc2_w 271, 3) := by decide +kernel
theorem dX5_lots_18 : decode cX5_lots 18 = .ok (.invokestatic 77, 3) := by decide +kernel
theorem dX5_lots_21 : decode cX5_lots 21 = .ok (.ifCond .ne 5, 3) := by decide +kernel
theorem dX5_lots_24 : decode cX5_lots 24 = .ok (.iconst (-1), 1) := by decide +kernel
theorem dX5_lots_25 : decode cX5_lots 25 = .ok (.ireturn, 1) := by decide +kernel
theorem dX5_lots_26 : decode cX5_lots 26 = .ok (.aload_n 0, 1) := by decide +kernel
theorem dX5_lots_27 : decode cX5_lots 27 = .ok (.iload_n 1, 1) := by decide +kernel
theorem dX5_lots_28 : decode cX5_lots 28 = .ok (.invokevirtual 273, 3) := by decide +kernel
theorem dX5_lots_31 : decode cX5_lots 31 = .ok (.istore_n 3, 1) := by decide +kernel
theorem dX5_lots_32 : decode cX5_lots 32 = .ok (.iload_n 3, 1) := by decide +kernel
theorem dX5_lots_33 : decode cX5_lots 33 = .ok (.ifCond .eq 5, 3) := by decide +kernel
theorem dX5_lots_36 : decode cX5_lots 36 = .ok (.iload_n 3, 1) := by decide +kernel
theorem dX5_lots_37 : decode cX5_lots 37 = .ok (.ireturn, 1) := by decide +kernel
theorem dX5_lots_38 : decode cX5_lots 38 = .ok (.iload_n 2, 1) := by decide +kernel
theorem dX5_lots_39 : decode cX5_lots 39 = .ok (.i2l, 1) := by decide +kernel
theorem dX5_lots_40 : decode cX5_lots 40 = .ok (.lstore 4, 2) := by decide +kernel
theorem dX5_lots_42 : decode cX5_lots 42 = .ok (.iconst 0, 1) := by decide +kernel
theorem dX5_lots_43 : decode cX5_lots 43 = .ok (.istore 6, 2) := by decide +kernel
theorem dX5_lots_45 : decode cX5_lots 45 = .ok (.iload 6, 2) := by decide +kernel
theorem dX5_lots_47 : decode cX5_lots 47 = .ok (.iload_n 1, 1) := by decide +kernel
theorem dX5_lots_48 : decode cX5_lots 48 = .ok (.if_icmp .ge 28, 3) := by decide +kernel
theorem dX5_lots_51 : decode cX5_lots 51 = .ok (.lload 4, 2) := by decide +kernel
theorem dX5_lots_53 : decode cX5_lots 53 = .ok (.ldc2_w 276, 3) := by decide +kernel
theorem dX5_lots_56 : decode cX5_lots 56 = .ok (.lmul, 1) := by decide +kernel
theorem dX5_lots_57 : decode cX5_lots 57 = .ok (.ldc2_w 278, 3) := by decide +kernel
theorem dX5_lots_60 : decode cX5_lots 60 = .ok (.lrem, 1) := by decide +kernel
theorem dX5_lots_61 : decode cX5_lots 61 = .ok (.lstore 4, 2) := by decide +kernel
theorem dX5_lots_63 : decode cX5_lots 63 = .ok (.aload_n 0, 1) := by decide +kernel
theorem dX5_lots_64 : decode cX5_lots 64 = .ok (.lload 4, 2) := by decide +kernel
theorem dX5_lots_66 : decode cX5_lots 66 = .ok (.l2i, 1) := by decide +kernel
theorem dX5_lots_67 : decode cX5_lots 67 = .ok (.invokevirtual 280, 3) := by decide +kernel
theorem dX5_lots_70 : decode cX5_lots 70 = .ok (.iinc 6 1, 3) := by decide +kernel
theorem dX5_lots_73 : decode cX5_lots 73 = .ok (.goto (-28), 3) := by decide +kernel
theorem dX5_lots_76 : decode cX5_lots 76 = .ok (.aload_n 0, 1) := by decide +kernel
theorem dX5_lots_77 : decode cX5_lots 77 = .ok (.getfield 35, 3) := by decide +kernel
theorem dX5_lots_80 : decode cX5_lots 80 = .ok (.iconst 1, 1) := by decide +kernel
theorem dX5_lots_81 : decode cX5_lots 81 = .ok (.iaload, 1) := by decide +kernel
theorem dX5_lots_82 : decode cX5_lots 82 = .ok (.ireturn, 1) := by decide +kernel
theorem dX5_asked_0 : decode cX5_asked 0 = .ok (.aload_n 0, 1) := by decide +kernel
theorem dX5_asked_1 : decode cX5_asked 1 = .ok (.getfield 72, 3) := by decide +kernel
theorem dX5_asked_4 : decode cX5_asked 4 = .ok (.ireturn, 1) := by decide +kernel
theorem dX5_upper_0 : decode cX5_upper 0 = .ok (.aload_n 0, 1) := by decide +kernel
theorem dX5_upper_1 : decode cX5_upper 1 = .ok (.getfield 252, 3) := by decide +kernel
theorem dX5_upper_4 : decode cX5_upper 4 = .ok (.lreturn, 1) := by decide +kernel
theorem dX5_lower_0 : decode cX5_lower 0 = .ok (.aload_n 0, 1) := by decide +kernel
theorem dX5_lower_1 : decode cX5_lower 1 = .ok (.getfield 22, 3) := by decide +kernel
theorem dX5_lower_4 : decode cX5_lower 4 = .ok (.lreturn, 1) := by decide +kernel
theorem dX5_there_0 : decode cX5_there 0 = .ok (.iconst 0, 1) := by decide +kernel
theorem dX5_there_1 : decode cX5_there 1 = .ok (.istore_n 3, 1) := by decide +kernel
theorem dX5_there_2 : decode cX5_there 2 = .ok (.iconst 0, 1) := by decide +kernel
theorem dX5_there_3 : decode cX5_there 3 = .ok (.istore 4, 2) := by decide +kernel
theorem dX5_there_5 : decode cX5_there 5 = .ok (.iload 4, 2) := by decide +kernel
theorem dX5_there_7 : decode cX5_there 7 = .ok (.iload_n 1, 1) := by decide +kernel
theorem dX5_there_8 : decode cX5_there 8 = .ok (.if_icmp .ge 26, 3) := by decide +kernel
theorem dX5_there_11 : decode cX5_there 11 = .ok (.iload_n 3, 1) := by decide +kernel
theorem dX5_there_12 : decode cX5_there 12 = .ok (.aload_n 0, 1) := by decide +kernel
theorem dX5_there_13 : decode cX5_there 13 = .ok (.iload_n 2, 1) := by decide +kernel
theorem dX5_there_14 : decode cX5_there 14 = .ok (.iload 4, 2) := by decide +kernel
theorem dX5_there_16 : decode cX5_there 16 = .ok (.imul, 1) := by decide +kernel
theorem dX5_there_17 : decode cX5_there 17 = .ok (.iaload, 1) := by decide +kernel
theorem dX5_there_18 : decode cX5_there 18 = .ok (.ifCond .ge 7, 3) := by decide +kernel
theorem dX5_there_21 : decode cX5_there 21 = .ok (.iconst 0, 1) := by decide +kernel
theorem dX5_there_22 : decode cX5_there 22 = .ok (.goto 4, 3) := by decide +kernel
theorem dX5_there_25 : decode cX5_there 25 = .ok (.iconst 1, 1) := by decide +kernel
theorem dX5_there_26 : decode cX5_there 26 = .ok (.iadd, 1) := by decide +kernel
theorem dX5_there_27 : decode cX5_there 27 = .ok (.istore_n 3, 1) := by decide +kernel
theorem dX5_there_28 : decode cX5_there 28 = .ok (.iinc 4 1, 3) := by decide +kernel
theorem dX5_there_31 : decode cX5_there 31 = .ok (.goto (-26), 3) := by decide +kernel
theorem dX5_there_34 : decode cX5_there 34 = .ok (.iload_n 3, 1) := by decide +kernel
theorem dX5_there_35 : decode cX5_there 35 = .ok (.ireturn, 1) := by decide +kernel
theorem dX5_whoDream_0 : decode cX5_whoDream 0 = .ok (.iconst 0, 1) := by decide +kernel
theorem dX5_whoDream_1 : decode cX5_whoDream 1 = .ok (.istore_n 1, 1) := by decide +kernel
theorem dX5_whoDream_2 : decode cX5_whoDream 2 = .ok (.iconst 0, 1) := by decide +kernel
theorem dX5_whoDream_3 : decode cX5_whoDream 3 = .ok (.istore_n 2, 1) := by decide +kernel
theorem dX5_whoDream_4 : decode cX5_whoDream 4 = .ok (.iload_n 2, 1) := by decide +kernel
theorem dX5_whoDream_5 : decode cX5_whoDream 5 = .ok (.aload_n 0, 1) := by decide +kernel
theorem dX5_whoDream_6 : decode cX5_whoDream 6 = .ok (.getfield 97, 3) := by decide +kernel
theorem dX5_whoDream_9 : decode cX5_whoDream 9 = .ok (.if_icmp .ge 27, 3) := by decide +kernel
theorem dX5_whoDream_12 : decode cX5_whoDream 12 = .ok (.iload_n 1, 1) := by decide +kernel
theorem dX5_whoDream_13 : decode cX5_whoDream 13 = .ok (.aload_n 0, 1) := by decide +kernel
theorem dX5_whoDream_14 : decode cX5_whoDream 14 = .ok (.iload_n 2, 1) := by decide +kernel
theorem dX5_whoDream_15 : decode cX5_whoDream 15 = .ok (.invokevirtual 181, 3) := by decide +kernel
theorem dX5_whoDream_18 : decode cX5_whoDream 18 = .ok (.ifCond .eq 9, 3) := by decide +kernel
theorem dX5_whoDream_21 : decode cX5_whoDream 21 = .ok (.iconst 1, 1) := by decide +kernel
theorem dX5_whoDream_22 : decode cX5_whoDream 22 = .ok (.iload_n 2, 1) := by decide +kernel
theorem dX5_whoDream_23 : decode cX5_whoDream 23 = .ok (.ishl, 1) := by decide +kernel
theorem dX5_whoDream_24 : decode cX5_whoDream 24 = .ok (.goto 4, 3) := by decide +kernel
theorem dX5_whoDream_27 : decode cX5_whoDream 27 = .ok (.iconst 0, 1) := by decide +kernel
theorem dX5_whoDream_28 : decode cX5_whoDream 28 = .ok (.ior, 1) := by decide +kernel
theorem dX5_whoDream_29 : decode cX5_whoDream 29 = .ok (.istore_n 1, 1) := by decide +kernel
theorem dX5_whoDream_30 : decode cX5_whoDream 30 = .ok (.iinc 2 1, 3) := by decide +kernel
theorem dX5_whoDream_33 : decode cX5_whoDream 33 = .ok (.goto (-29), 3) := by decide +kernel
theorem dX5_whoDream_36 : decode cX5_whoDream 36 = .ok (.iload_n 1, 1) := by decide +kernel
theorem dX5_whoDream_37 : decode cX5_whoDream 37 = .ok (.ireturn, 1) := by decide +kernel
theorem dX5_ofCheese_0 : decode cX5_ofCheese 0 = .ok (.iconst 0, 1) := by decide +kernel
theorem dX5_ofCheese_1 : decode cX5_ofCheese 1 = .ok (.istore_n 1, 1) := by decide +kernel
theorem dX5_ofCheese_2 : decode cX5_ofCheese 2 = .ok (.iconst 0, 1) := by decide +kernel
theorem dX5_ofCheese_3 : decode cX5_ofCheese 3 = .ok (.istore_n 2, 1) := by decide +kernel
theorem dX5_ofCheese_4 : decode cX5_ofCheese 4 = .ok (.iload_n 2, 1) := by decide +kernel
theorem dX5_ofCheese_5 : decode cX5_ofCheese 5 = .ok (.aload_n 0, 1) := by decide +kernel
theorem dX5_ofCheese_6 : decode cX5_ofCheese 6 = .ok (.getfield 97, 3) := by decide +kernel
theorem dX5_ofCheese_9 : decode cX5_ofCheese 9 = .ok (.if_icmp .ge 30, 3) := by decide +kernel
theorem dX5_ofCheese_12 : decode cX5_ofCheese 12 = .ok (.iload_n 1, 1) := by decide +kernel
theorem dX5_ofCheese_13 : decode cX5_ofCheese 13 = .ok (.aload_n 0, 1) := by decide +kernel
theorem dX5_ofCheese_14 : decode cX5_ofCheese 14 = .ok (.getfield 29, 3) := by decide +kernel
theorem dX5_ofCheese_17 : decode cX5_ofCheese 17 = .ok (.iload_n 2, 1) := by decide +kernel
theorem dX5_ofCheese_18 : decode cX5_ofCheese 18 = .ok (.iaload, 1) := by decide +kernel
theorem dX5_ofCheese_19 : decode cX5_ofCheese 19 = .ok (.iconst 1, 1) := by decide +kernel
theorem dX5_ofCheese_20 : decode cX5_ofCheese 20 = .ok (.invokestatic 184, 3) := by decide +kernel
theorem dX5_ofCheese_23 : decode cX5_ofCheese 23 = .ok (.ifCond .eq 7, 3) := by decide +kernel
theorem dX5_ofCheese_26 : decode cX5_ofCheese 26 = .ok (.iconst 1, 1) := by decide +kernel
theorem dX5_ofCheese_27 : decode cX5_ofCheese 27 = .ok (.goto 4, 3) := by decide +kernel
theorem dX5_ofCheese_30 : decode cX5_ofCheese 30 = .ok (.iconst 0, 1) := by decide +kernel
theorem dX5_ofCheese_31 : decode cX5_ofCheese 31 = .ok (.iadd, 1) := by decide +kernel
theorem dX5_ofCheese_32 : decode cX5_ofCheese 32 = .ok (.istore_n 1, 1) := by decide +kernel
theorem dX5_ofCheese_33 : decode cX5_ofCheese 33 = .ok (.iinc 2 1, 3) := by decide +kernel
theorem dX5_ofCheese_36 : decode cX5_ofCheese 36 = .ok (.goto (-32), 3) := by decide +kernel
theorem dX5_ofCheese_39 : decode cX5_ofCheese 39 = .ok (.iload_n 1, 1) := by decide +kernel
theorem dX5_ofCheese_40 : decode cX5_ofCheese 40 = .ok (.ireturn, 1) := by decide +kernel
theorem dX5_count_0 : decode cX5_count 0 = .ok (.iload_n 1, 1) := by decide +kernel
theorem dX5_count_1 : decode cX5_count 1 = .ok (.tableswitch 147 0 11 #[63, 68, 73, 78, 85, 92, 99, 104, 109, 120, 130, 142], 63) := by decide +kernel
theorem dX5_count_64 : decode cX5_count 64 = .ok (.aload_n 0, 1) := by decide +kernel
theorem dX5_count_65 : decode cX5_count 65 = .ok (.getfield 97, 3) := by decide +kernel
theorem dX5_count_68 : decode cX5_count 68 = .ok (.ireturn, 1) := by decide +kernel
theorem dX5_count_69 : decode cX5_count 69 = .ok (.aload_n 0, 1) := by decide +kernel
theorem dX5_count_70 : decode cX5_count 70 = .ok (.getfield 155, 3) := by decide +kernel
theorem dX5_count_73 : decode cX5_count 73 = .ok (.ireturn, 1) := by decide +kernel
theorem dX5_count_74 : decode cX5_count 74 = .ok (.aload_n 0, 1) := by decide +kernel
theorem dX5_count_75 : decode cX5_count 75 = .ok (.getfield 100, 3) := by decide +kernel
theorem dX5_count_78 : decode cX5_count 78 = .ok (.ireturn, 1) := by decide +kernel
theorem dX5_count_79 : decode cX5_count 79 = .ok (.aload_n 0, 1) := by decide +kernel
theorem dX5_count_80 : decode cX5_count 80 = .ok (.getfield 35, 3) := by decide +kernel
theorem dX5_count_83 : decode cX5_count 83 = .ok (.iconst 0, 1) := by decide +kernel
theorem dX5_count_84 : decode cX5_count 84 = .ok (.iaload, 1) := by decide +kernel
theorem dX5_count_85 : decode cX5_count 85 = .ok (.ireturn, 1) := by decide +kernel
theorem dX5_count_86 : decode cX5_count 86 = .ok (.aload_n 0, 1) := by decide +kernel
theorem dX5_count_87 : decode cX5_count 87 = .ok (.getfield 35, 3) := by decide +kernel
theorem dX5_count_90 : decode cX5_count 90 = .ok (.iconst 1, 1) := by decide +kernel
theorem dX5_count_91 : decode cX5_count 91 = .ok (.iaload, 1) := by decide +kernel
theorem dX5_count_92 : decode cX5_count 92 = .ok (.ireturn, 1) := by decide +kernel
theorem dX5_count_93 : decode cX5_count 93 = .ok (.aload_n 0, 1) := by decide +kernel
theorem dX5_count_94 : decode cX5_count 94 = .ok (.getfield 35, 3) := by decide +kernel
theorem dX5_count_97 : decode cX5_count 97 = .ok (.iconst 2, 1) := by decide +kernel
theorem dX5_count_98 : decode cX5_count 98 = .ok (.iaload, 1) := by decide +kernel
theorem dX5_count_99 : decode cX5_count 99 = .ok (.ireturn, 1) := by decide +kernel
theorem dX5_count_100 : decode cX5_count 100 = .ok (.aload_n 0, 1) := by decide +kernel
theorem dX5_count_101 : decode cX5_count 101 = .ok (.invokevirtual 284, 3) := by decide +kernel
theorem dX5_count_104 : decode cX5_count 104 = .ok (.ireturn, 1) := by decide +kernel
theorem dX5_count_105 : decode cX5_count 105 = .ok (.aload_n 0, 1) := by decide +kernel
theorem dX5_count_106 : decode cX5_count 106 = .ok (.getfield 158, 3) := by decide +kernel
theorem dX5_count_109 : decode cX5_count 109 = .ok (.ireturn, 1) := by decide +kernel
theorem dX5_count_110 : decode cX5_count 110 = .ok (.aload_n 0, 1) := by decide +kernel
theorem dX5_count_111 : decode cX5_count 111 = .ok (.getfield 13, 3) := by decide +kernel
theorem dX5_count_114 : decode cX5_count 114 = .ok (.bipush 6, 2) := by decide +kernel
theorem dX5_count_116 : decode cX5_count 116 = .ok (.iconst 1, 1) := by decide +kernel
theorem dX5_count_117 : decode cX5_count 117 = .ok (.invokestatic 287, 3) := by decide +kernel
theorem dX5_count_120 : decode cX5_count 120 = .ok (.ireturn, 1) := by decide +kernel
theorem dX5_count_121 : decode cX5_count 121 = .ok (.aload_n 0, 1) := by decide +kernel
theorem dX5_count_122 : decode cX5_count 122 = .ok (.getfield 19, 3) := by decide +kernel
theorem dX5_count_125 : decode cX5_count 125 = .ok (.iconst 4, 1) := by decide +kernel
theorem dX5_count_126 : decode cX5_count 126 = .ok (.iconst 1, 1) := by decide +kernel
theorem dX5_count_127 : decode cX5_count 127 = .ok (.invokestatic 287, 3) := by decide +kernel
theorem dX5_count_130 : decode cX5_count 130 = .ok (.ireturn, 1) := by decide +kernel
theorem dX5_count_131 : decode cX5_count 131 = .ok (.aload_n 0, 1) := by decide +kernel
theorem dX5_count_132 : decode cX5_count 132 = .ok (.getfield 44, 3) := by decide +kernel
theorem dX5_count_135 : decode cX5_count 135 = .ok (.iconst 3, 1) := by decide +kernel
theorem dX5_count_136 : decode cX5_count 136 = .ok (.sipush 370, 3) := by decide +kernel
theorem dX5_count_139 : decode cX5_count 139 = .ok (.invokestatic 287, 3) := by decide +kernel
theorem dX5_count_142 : decode cX5_count 142 = .ok (.ireturn, 1) := by decide +kernel
theorem dX5_count_143 : decode cX5_count 143 = .ok (.aload_n 0, 1) := by decide +kernel
theorem dX5_count_144 : decode cX5_count 144 = .ok (.invokevirtual 290, 3) := by decide +kernel
theorem dX5_count_147 : decode cX5_count 147 = .ok (.ireturn, 1) := by decide +kernel
theorem dX5_count_148 : decode cX5_count 148 = .ok (.iconst (-1), 1) := by decide +kernel
theorem dX5_count_149 : decode cX5_count 149 = .ok (.ireturn, 1) := by decide +kernel
theorem dX5_finding_0 : decode cX5_finding 0 = .ok (.aload_n 0, 1) := by decide +kernel
theorem dX5_finding_1 : decode cX5_finding 1 = .ok (.getfield 68, 3) := by decide +kernel
theorem dX5_finding_4 : decode cX5_finding 4 = .ok (.ireturn, 1) := by decide +kernel
theorem dX5_findings_0 : decode cX5_findings 0 = .ok (.iload_n 1, 1) := by decide +kernel
theorem dX5_findings_1 : decode cX5_findings 1 = .ok (.i2l, 1) := by decide +kernel
theorem dX5_findings_2 : decode cX5_findings 2 = .ok (.lconst 1, 1) := by decide +kernel
theorem dX5_findings_3 : decode cX5_findings 3 = .ok (.ldc2_w 75, 3) := by decide +kernel
theorem dX5_findings_6 : decode cX5_findings 6 = .ok (.invokestatic 77, 3) := by decide +kernel
theorem dX5_findings_9 : decode cX5_findings 9 = .ok (.ifCond .eq 12, 3) := by decide +kernel
theorem dX5_findings_12 : decode cX5_findings 12 = .ok (.aload_n 0, 1) := by decide +kernel
theorem dX5_findings_13 : decode cX5_findings 13 = .ok (.getfield 26, 3) := by decide +kernel
theorem dX5_findings_16 : decode cX5_findings 16 = .ok (.iload_n 1, 1) := by decide +kernel
theorem dX5_findings_17 : decode cX5_findings 17 = .ok (.iaload, 1) := by decide +kernel
theorem dX5_findings_18 : decode cX5_findings 18 = .ok (.goto 4, 3) := by decide +kernel
theorem dX5_findings_21 : decode cX5_findings 21 = .ok (.iconst (-1), 1) := by decide +kernel
theorem dX5_findings_22 : decode cX5_findings 22 = .ok (.ireturn, 1) := by decide +kernel
theorem dX5_digest_0 : decode cX5_digest 0 = .ok (.ldc2_w 293, 3) := by decide +kernel
theorem dX5_digest_3 : decode cX5_digest 3 = .ok (.lstore_n 1, 1) := by decide +kernel
theorem dX5_digest_4 : decode cX5_digest 4 = .ok (.iconst 0, 1) := by decide +kernel
theorem dX5_digest_5 : decode cX5_digest 5 = .ok (.istore_n 3, 1) := by decide +kernel
theorem dX5_digest_6 : decode cX5_digest 6 = .ok (.iload_n 3, 1) := by decide +kernel
theorem dX5_digest_7 : decode cX5_digest 7 = .ok (.bipush 12, 2) := by decide +kernel
theorem dX5_digest_9 : decode cX5_digest 9 = .ok (.if_icmp .ge 22, 3) := by decide +kernel
theorem dX5_digest_12 : decode cX5_digest 12 = .ok (.ldc2_w 295, 3) := by decide +kernel
theorem dX5_digest_15 : decode cX5_digest 15 = .ok (.lload_n 1, 1) := by decide +kernel
theorem dX5_digest_16 : decode cX5_digest 16 = .ok (.lmul, 1) := by decide +kernel
theorem dX5_digest_17 : decode cX5_digest 17 = .ok (.aload_n 0, 1) := by decide +kernel
theorem dX5_digest_18 : decode cX5_digest 18 = .ok (.iload_n 3, 1) := by decide +kernel
theorem dX5_digest_19 : decode cX5_digest 19 = .ok (.invokevirtual 297, 3) := by decide +kernel
theorem dX5_digest_22 : decode cX5_digest 22 = .ok (.i2l, 1) := by decide +kernel
theorem dX5_digest_23 : decode cX5_digest 23 = .ok (.ladd, 1) := by decide +kernel
theorem dX5_digest_24 : decode cX5_digest 24 = .ok (.lstore_n 1, 1) := by decide +kernel
theorem dX5_digest_25 : decode cX5_digest 25 = .ok (.iinc 3 1, 3) := by decide +kernel
theorem dX5_digest_28 : decode cX5_digest 28 = .ok (.goto (-22), 3) := by decide +kernel
theorem dX5_digest_31 : decode cX5_digest 31 = .ok (.iconst 0, 1) := by decide +kernel
theorem dX5_digest_32 : decode cX5_digest 32 = .ok (.istore_n 3, 1) := by decide +kernel
theorem dX5_digest_33 : decode cX5_digest 33 = .ok (.iload_n 3, 1) := by decide +kernel
theorem dX5_digest_34 : decode cX5_digest 34 = .ok (.aload_n 0, 1) := by decide +kernel
theorem dX5_digest_35 : decode cX5_digest 35 = .ok (.getfield 97, 3) := by decide +kernel
theorem dX5_digest_38 : decode cX5_digest 38 = .ok (.if_icmp .ge 86, 3) := by decide +kernel
theorem dX5_digest_41 : decode cX5_digest 41 = .ok (.ldc2_w 295, 3) := by decide +kernel
theorem dX5_digest_44 : decode cX5_digest 44 = .ok (.ldc2_w 295, 3) := by decide +kernel
theorem dX5_digest_47 : decode cX5_digest 47 = .ok (.ldc2_w 295, 3) := by decide +kernel
theorem dX5_digest_50 : decode cX5_digest 50 = .ok (.lload_n 1, 1) := by decide +kernel
theorem dX5_digest_51 : decode cX5_digest 51 = .ok (.lmul, 1) := by decide +kernel
theorem dX5_digest_52 : decode cX5_digest 52 = .ok (.aload_n 0, 1) := by decide +kernel
theorem dX5_digest_53 : decode cX5_digest 53 = .ok (.getfield 29, 3) := by decide +kernel
theorem dX5_digest_56 : decode cX5_digest 56 = .ok (.iload_n 3, 1) := by decide +kernel
theorem dX5_digest_57 : decode cX5_digest 57 = .ok (.iaload, 1) := by decide +kernel
theorem dX5_digest_58 : decode cX5_digest 58 = .ok (.i2l, 1) := by decide +kernel
theorem dX5_digest_59 : decode cX5_digest 59 = .ok (.ladd, 1) := by decide +kernel
theorem dX5_digest_60 : decode cX5_digest 60 = .ok (.lmul, 1) := by decide +kernel
theorem dX5_digest_61 : decode cX5_digest 61 = .ok (.aload_n 0, 1) := by decide +kernel
theorem dX5_digest_62 : decode cX5_digest 62 = .ok (.getfield 32, 3) := by decide +kernel
theorem dX5_digest_65 : decode cX5_digest 65 = .ok (.iload_n 3, 1) := by decide +kernel
theorem dX5_digest_66 : decode cX5_digest 66 = .ok (.iaload, 1) := by decide +kernel
theorem dX5_digest_67 : decode cX5_digest 67 = .ok (.i2l, 1) := by decide +kernel
theorem dX5_digest_68 : decode cX5_digest 68 = .ok (.ladd, 1) := by decide +kernel
theorem dX5_digest_69 : decode cX5_digest 69 = .ok (.lmul, 1) := by decide +kernel
theorem dX5_digest_70 : decode cX5_digest 70 = .ok (.aload_n 0, 1) := by decide +kernel
theorem dX5_digest_71 : decode cX5_digest 71 = .ok (.getfield 35, 3) := by decide +kernel
theorem dX5_digest_74 : decode cX5_digest 74 = .ok (.iconst 3, 1) := by decide +kernel
theorem dX5_digest_75 : decode cX5_digest 75 = .ok (.iload_n 3, 1) := by decide +kernel
theorem dX5_digest_76 : decode cX5_digest 76 = .ok (.iadd, 1) := by decide +kernel
theorem dX5_digest_77 : decode cX5_digest 77 = .ok (.iaload, 1) := by decide +kernel
theorem dX5_digest_78 : decode cX5_digest 78 = .ok (.i2l, 1) := by decide +kernel
theorem dX5_digest_79 : decode cX5_digest 79 = .ok (.ladd, 1) := by decide +kernel
theorem dX5_digest_80 : decode cX5_digest 80 = .ok (.lstore_n 1, 1) := by decide +kernel
theorem dX5_digest_81 : decode cX5_digest 81 = .ok (.ldc2_w 295, 3) := by decide +kernel
theorem dX5_digest_84 : decode cX5_digest 84 = .ok (.ldc2_w 295, 3) := by decide +kernel
theorem dX5_digest_87 : decode cX5_digest 87 = .ok (.lload_n 1, 1) := by decide +kernel
theorem dX5_digest_88 : decode cX5_digest 88 = .ok (.lmul, 1) := by decide +kernel
theorem dX5_digest_89 : decode cX5_digest 89 = .ok (.aload_n 0, 1) := by decide +kernel
theorem dX5_digest_90 : decode cX5_digest 90 = .ok (.getfield 35, 3) := by decide +kernel
theorem dX5_digest_93 : decode cX5_digest 93 = .ok (.iconst 2, 1) := by decide +kernel
theorem dX5_digest_94 : decode cX5_digest 94 = .ok (.iaload, 1) := by decide +kernel
theorem dX5_digest_95 : decode cX5_digest 95 = .ok (.iload_n 3, 1) := by decide +kernel
theorem dX5_digest_96 : decode cX5_digest 96 = .ok (.ishr, 1) := by decide +kernel
theorem dX5_digest_97 : decode cX5_digest 97 = .ok (.iconst 1, 1) := by decide +kernel
theorem dX5_digest_98 : decode cX5_digest 98 = .ok (.iand, 1) := by decide +kernel
theorem dX5_digest_99 : decode cX5_digest 99 = .ok (.i2l, 1) := by decide +kernel
theorem dX5_digest_100 : decode cX5_digest 100 = .ok (.ladd, 1) := by decide +kernel
theorem dX5_digest_101 : decode cX5_digest 101 = .ok (.lmul, 1) := by decide +kernel
theorem dX5_digest_102 : decode cX5_digest 102 = .ok (.aload_n 0, 1) := by decide +kernel
theorem dX5_digest_103 : decode cX5_digest 103 = .ok (.iload_n 3, 1) := by decide +kernel
theorem dX5_digest_104 : decode cX5_digest 104 = .ok (.invokevirtual 181, 3) := by decide +kernel
theorem dX5_digest_107 : decode cX5_digest 107 = .ok (.ifCond .eq 7, 3) := by decide +kernel
theorem dX5_digest_110 : decode cX5_digest 110 = .ok (.iconst 1, 1) := by decide +kernel
theorem dX5_digest_111 : decode cX5_digest 111 = .ok (.goto 4, 3) := by decide +kernel
theorem dX5_digest_114 : decode cX5_digest 114 = .ok (.iconst 0, 1) := by decide +kernel
theorem dX5_digest_115 : decode cX5_digest 115 = .ok (.i2l, 1) := by decide +kernel
theorem dX5_digest_116 : decode cX5_digest 116 = .ok (.ladd, 1) := by decide +kernel
theorem dX5_digest_117 : decode cX5_digest 117 = .ok (.lstore_n 1, 1) := by decide +kernel
theorem dX5_digest_118 : decode cX5_digest 118 = .ok (.iinc 3 1, 3) := by decide +kernel
theorem dX5_digest_121 : decode cX5_digest 121 = .ok (.goto (-88), 3) := by decide +kernel
theorem dX5_digest_124 : decode cX5_digest 124 = .ok (.iconst 0, 1) := by decide +kernel
theorem dX5_digest_125 : decode cX5_digest 125 = .ok (.istore_n 3, 1) := by decide +kernel
theorem dX5_digest_126 : decode cX5_digest 126 = .ok (.iload_n 3, 1) := by decide +kernel
theorem dX5_digest_127 : decode cX5_digest 127 = .ok (.iconst 3, 1) := by decide +kernel
theorem dX5_digest_128 : decode cX5_digest 128 = .ok (.if_icmp .ge 27, 3) := by decide +kernel
theorem dX5_digest_131 : decode cX5_digest 131 = .ok (.ldc2_w 295, 3) := by decide +kernel
theorem dX5_digest_134 : decode cX5_digest 134 = .ok (.lload_n 1, 1) := by decide +kernel
theorem dX5_digest_135 : decode cX5_digest 135 = .ok (.lmul, 1) := by decide +kernel
theorem dX5_digest_136 : decode cX5_digest 136 = .ok (.aload_n 0, 1) := by decide +kernel
theorem dX5_digest_137 : decode cX5_digest 137 = .ok (.getfield 44, 3) := by decide +kernel
theorem dX5_digest_140 : decode cX5_digest 140 = .ok (.sipush 370, 3) := by decide +kernel
theorem dX5_digest_143 : decode cX5_digest 143 = .ok (.iload_n 3, 1) := by decide +kernel
theorem dX5_digest_144 : decode cX5_digest 144 = .ok (.imul, 1) := by decide +kernel
theorem dX5_digest_145 : decode cX5_digest 145 = .ok (.iaload, 1) := by decide +kernel
theorem dX5_digest_146 : decode cX5_digest 146 = .ok (.i2l, 1) := by decide +kernel
theorem dX5_digest_147 : decode cX5_digest 147 = .ok (.ladd, 1) := by decide +kernel
theorem dX5_digest_148 : decode cX5_digest 148 = .ok (.lstore_n 1, 1) := by decide +kernel
theorem dX5_digest_149 : decode cX5_digest 149 = .ok (.iinc 3 1, 3) := by decide +kernel
theorem dX5_digest_152 : decode cX5_digest 152 = .ok (.goto (-26), 3) := by decide +kernel
theorem dX5_digest_155 : decode cX5_digest 155 = .ok (.iconst 0, 1) := by decide +kernel
theorem dX5_digest_156 : decode cX5_digest 156 = .ok (.istore_n 3, 1) := by decide +kernel
theorem dX5_digest_157 : decode cX5_digest 157 = .ok (.iload_n 3, 1) := by decide +kernel
theorem dX5_digest_158 : decode cX5_digest 158 = .ok (.bipush 6, 2) := by decide +kernel
theorem dX5_digest_160 : decode cX5_digest 160 = .ok (.if_icmp .ge 63, 3) := by decide +kernel
theorem dX5_digest_163 : decode cX5_digest 163 = .ok (.ldc2_w 295, 3) := by decide +kernel
theorem dX5_digest_166 : decode cX5_digest 166 = .ok (.lload_n 1, 1) := by decide +kernel
theorem dX5_digest_167 : decode cX5_digest 167 = .ok (.lmul, 1) := by decide +kernel
theorem dX5_digest_168 : decode cX5_digest 168 = .ok (.aload_n 0, 1) := by decide +kernel
theorem dX5_digest_169 : decode cX5_digest 169 = .ok (.getfield 13, 3) := by decide +kernel
theorem dX5_digest_172 : decode cX5_digest 172 = .ok (.iload_n 3, 1) := by decide +kernel
theorem dX5_digest_173 : decode cX5_digest 173 = .ok (.iaload, 1) := by decide +kernel
theorem dX5_digest_174 : decode cX5_digest 174 = .ok (.i2l, 1) := by decide +kernel
theorem dX5_digest_175 : decode cX5_digest 175 = .ok (.ladd, 1) := by decide +kernel
theorem dX5_digest_176 : decode cX5_digest 176 = .ok (.lstore_n 1, 1) := by decide +kernel
theorem dX5_digest_177 : decode cX5_digest 177 = .ok (.iconst 0, 1) := by decide +kernel
theorem dX5_digest_178 : decode cX5_digest 178 = .ok (.istore 4, 2) := by decide +kernel
theorem dX5_digest_180 : decode cX5_digest 180 = .ok (.iload 4, 2) := by decide +kernel
theorem dX5_digest_182 : decode cX5_digest 182 = .ok (.aload_n 0, 1) := by decide +kernel
theorem dX5_digest_183 : decode cX5_digest 183 = .ok (.getfield 13, 3) := by decide +kernel
theorem dX5_digest_186 : decode cX5_digest 186 = .ok (.iload_n 3, 1) := by decide +kernel
theorem dX5_digest_187 : decode cX5_digest 187 = .ok (.iaload, 1) := by decide +kernel
theorem dX5_digest_188 : decode cX5_digest 188 = .ok (.if_icmp .ge 29, 3) := by decide +kernel
theorem dX5_digest_191 : decode cX5_digest 191 = .ok (.ldc2_w 295, 3) := by decide +kernel
theorem dX5_digest_194 : decode cX5_digest 194 = .ok (.lload_n 1, 1) := by decide +kernel
theorem dX5_digest_195 : decode cX5_digest 195 = .ok (.lmul, 1) := by decide +kernel
theorem dX5_digest_196 : decode cX5_digest 196 = .ok (.aload_n 0, 1) := by decide +kernel
theorem dX5_digest_197 : decode cX5_digest 197 = .ok (.getfield 7, 3) := by decide +kernel
theorem dX5_digest_200 : decode cX5_digest 200 = .ok (.bipush 40, 2) := by decide +kernel
theorem dX5_digest_202 : decode cX5_digest 202 = .ok (.iload_n 3, 1) := by decide +kernel
theorem dX5_digest_203 : decode cX5_digest 203 = .ok (.imul, 1) := by decide +kernel
theorem dX5_digest_204 : decode cX5_digest 204 = .ok (.iload 4, 2) := by decide +kernel
theorem dX5_digest_206 : decode cX5_digest 206 = .ok (.iadd, 1) := by decide +kernel
theorem dX5_digest_207 : decode cX5_digest 207 = .ok (.iaload, 1) := by decide +kernel
theorem dX5_digest_208 : decode cX5_digest 208 = .ok (.i2l, 1) := by decide +kernel
theorem dX5_digest_209 : decode cX5_digest 209 = .ok (.ladd, 1) := by decide +kernel
theorem dX5_digest_210 : decode cX5_digest 210 = .ok (.lstore_n 1, 1) := by decide +kernel
theorem dX5_digest_211 : decode cX5_digest 211 = .ok (.iinc 4 1, 3) := by decide +kernel
theorem dX5_digest_214 : decode cX5_digest 214 = .ok (.goto (-34), 3) := by decide +kernel
theorem dX5_digest_217 : decode cX5_digest 217 = .ok (.iinc 3 1, 3) := by decide +kernel
theorem dX5_digest_220 : decode cX5_digest 220 = .ok (.goto (-63), 3) := by decide +kernel
theorem dX5_digest_223 : decode cX5_digest 223 = .ok (.iconst 0, 1) := by decide +kernel
theorem dX5_digest_224 : decode cX5_digest 224 = .ok (.istore_n 3, 1) := by decide +kernel
theorem dX5_digest_225 : decode cX5_digest 225 = .ok (.iload_n 3, 1) := by decide +kernel
theorem dX5_digest_226 : decode cX5_digest 226 = .ok (.iconst 4, 1) := by decide +kernel
theorem dX5_digest_227 : decode cX5_digest 227 = .ok (.if_icmp .ge 63, 3) := by decide +kernel
theorem dX5_digest_230 : decode cX5_digest 230 = .ok (.ldc2_w 295, 3) := by decide +kernel
theorem dX5_digest_233 : decode cX5_digest 233 = .ok (.lload_n 1, 1) := by decide +kernel
theorem dX5_digest_234 : decode cX5_digest 234 = .ok (.lmul, 1) := by decide +kernel
theorem dX5_digest_235 : decode cX5_digest 235 = .ok (.aload_n 0, 1) := by decide +kernel
theorem dX5_digest_236 : decode cX5_digest 236 = .ok (.getfield 19, 3) := by decide +kernel
theorem dX5_digest_239 : decode cX5_digest 239 = .ok (.iload_n 3, 1) := by decide +kernel
theorem dX5_digest_240 : decode cX5_digest 240 = .ok (.iaload, 1) := by decide +kernel
theorem dX5_digest_241 : decode cX5_digest 241 = .ok (.i2l, 1) := by decide +kernel
theorem dX5_digest_242 : decode cX5_digest 242 = .ok (.ladd, 1) := by decide +kernel
theorem dX5_digest_243 : decode cX5_digest 243 = .ok (.lstore_n 1, 1) := by decide +kernel
theorem dX5_digest_244 : decode cX5_digest 244 = .ok (.iconst 0, 1) := by decide +kernel
theorem dX5_digest_245 : decode cX5_digest 245 = .ok (.istore 4, 2) := by decide +kernel
theorem dX5_digest_247 : decode cX5_digest 247 = .ok (.iload 4, 2) := by decide +kernel
theorem dX5_digest_249 : decode cX5_digest 249 = .ok (.aload_n 0, 1) := by decide +kernel
theorem dX5_digest_250 : decode cX5_digest 250 = .ok (.getfield 19, 3) := by decide +kernel
theorem dX5_digest_253 : decode cX5_digest 253 = .ok (.iload_n 3, 1) := by decide +kernel
theorem dX5_digest_254 : decode cX5_digest 254 = .ok (.iaload, 1) := by decide +kernel
theorem dX5_digest_255 : decode cX5_digest 255 = .ok (.if_icmp .ge 29, 3) := by decide +kernel
theorem dX5_digest_258 : decode cX5_digest 258 = .ok (.ldc2_w 295, 3) := by decide +kernel
theorem dX5_digest_261 : decode cX5_digest 261 = .ok (.lload_n 1, 1) := by decide +kernel
theorem dX5_digest_262 : decode cX5_digest 262 = .ok (.lmul, 1) := by decide +kernel
theorem dX5_digest_263 : decode cX5_digest 263 = .ok (.aload_n 0, 1) := by decide +kernel
theorem dX5_digest_264 : decode cX5_digest 264 = .ok (.getfield 16, 3) := by decide +kernel
theorem dX5_digest_267 : decode cX5_digest 267 = .ok (.bipush 60, 2) := by decide +kernel
theorem dX5_digest_269 : decode cX5_digest 269 = .ok (.iload_n 3, 1) := by decide +kernel
theorem dX5_digest_270 : decode cX5_digest 270 = .ok (.imul, 1) := by decide +kernel
theorem dX5_digest_271 : decode cX5_digest 271 = .ok (.iload 4, 2) := by decide +kernel
theorem dX5_digest_273 : decode cX5_digest 273 = .ok (.iadd, 1) := by decide +kernel
theorem dX5_digest_274 : decode cX5_digest 274 = .ok (.iaload, 1) := by decide +kernel
theorem dX5_digest_275 : decode cX5_digest 275 = .ok (.i2l, 1) := by decide +kernel
theorem dX5_digest_276 : decode cX5_digest 276 = .ok (.ladd, 1) := by decide +kernel
theorem dX5_digest_277 : decode cX5_digest 277 = .ok (.lstore_n 1, 1) := by decide +kernel
theorem dX5_digest_278 : decode cX5_digest 278 = .ok (.iinc 4 1, 3) := by decide +kernel
theorem dX5_digest_281 : decode cX5_digest 281 = .ok (.goto (-34), 3) := by decide +kernel
theorem dX5_digest_284 : decode cX5_digest 284 = .ok (.iinc 3 1, 3) := by decide +kernel
theorem dX5_digest_287 : decode cX5_digest 287 = .ok (.goto (-62), 3) := by decide +kernel
theorem dX5_digest_290 : decode cX5_digest 290 = .ok (.lload_n 1, 1) := by decide +kernel
theorem dX5_digest_291 : decode cX5_digest 291 = .ok (.lreturn, 1) := by decide +kernel
theorem dJ6_bitCount_0f7a4_0 : decode cJ6_bitCount_0f7a4 0 = .ok (.iload_n 0, 1) := by decide +kernel
theorem dJ6_bitCount_0f7a4_1 : decode cJ6_bitCount_0f7a4 1 = .ok (.iload_n 0, 1) := by decide +kernel
theorem dJ6_bitCount_0f7a4_2 : decode cJ6_bitCount_0f7a4 2 = .ok (.iconst 1, 1) := by decide +kernel
theorem dJ6_bitCount_0f7a4_3 : decode cJ6_bitCount_0f7a4 3 = .ok (.iushr, 1) := by decide +kernel
theorem dJ6_bitCount_0f7a4_4 : decode cJ6_bitCount_0f7a4 4 = .ok (.ldc_w 265, 3) := by decide +kernel
theorem dJ6_bitCount_0f7a4_7 : decode cJ6_bitCount_0f7a4 7 = .ok (.iand, 1) := by decide +kernel
theorem dJ6_bitCount_0f7a4_8 : decode cJ6_bitCount_0f7a4 8 = .ok (.isub, 1) := by decide +kernel
theorem dJ6_bitCount_0f7a4_9 : decode cJ6_bitCount_0f7a4 9 = .ok (.istore_n 0, 1) := by decide +kernel
theorem dJ6_bitCount_0f7a4_10 : decode cJ6_bitCount_0f7a4 10 = .ok (.iload_n 0, 1) := by decide +kernel
theorem dJ6_bitCount_0f7a4_11 : decode cJ6_bitCount_0f7a4 11 = .ok (.ldc_w 266, 3) := by decide +kernel
theorem dJ6_bitCount_0f7a4_14 : decode cJ6_bitCount_0f7a4 14 = .ok (.iand, 1) := by decide +kernel
theorem dJ6_bitCount_0f7a4_15 : decode cJ6_bitCount_0f7a4 15 = .ok (.iload_n 0, 1) := by decide +kernel
theorem dJ6_bitCount_0f7a4_16 : decode cJ6_bitCount_0f7a4 16 = .ok (.iconst 2, 1) := by decide +kernel
theorem dJ6_bitCount_0f7a4_17 : decode cJ6_bitCount_0f7a4 17 = .ok (.iushr, 1) := by decide +kernel
theorem dJ6_bitCount_0f7a4_18 : decode cJ6_bitCount_0f7a4 18 = .ok (.ldc_w 266, 3) := by decide +kernel
theorem dJ6_bitCount_0f7a4_21 : decode cJ6_bitCount_0f7a4 21 = .ok (.iand, 1) := by decide +kernel
theorem dJ6_bitCount_0f7a4_22 : decode cJ6_bitCount_0f7a4 22 = .ok (.iadd, 1) := by decide +kernel
theorem dJ6_bitCount_0f7a4_23 : decode cJ6_bitCount_0f7a4 23 = .ok (.istore_n 0, 1) := by decide +kernel
theorem dJ6_bitCount_0f7a4_24 : decode cJ6_bitCount_0f7a4 24 = .ok (.iload_n 0, 1) := by decide +kernel
theorem dJ6_bitCount_0f7a4_25 : decode cJ6_bitCount_0f7a4 25 = .ok (.iload_n 0, 1) := by decide +kernel
theorem dJ6_bitCount_0f7a4_26 : decode cJ6_bitCount_0f7a4 26 = .ok (.iconst 4, 1) := by decide +kernel
theorem dJ6_bitCount_0f7a4_27 : decode cJ6_bitCount_0f7a4 27 = .ok (.iushr, 1) := by decide +kernel
theorem dJ6_bitCount_0f7a4_28 : decode cJ6_bitCount_0f7a4 28 = .ok (.iadd, 1) := by decide +kernel
theorem dJ6_bitCount_0f7a4_29 : decode cJ6_bitCount_0f7a4 29 = .ok (.ldc_w 267, 3) := by decide +kernel
theorem dJ6_bitCount_0f7a4_32 : decode cJ6_bitCount_0f7a4 32 = .ok (.iand, 1) := by decide +kernel
theorem dJ6_bitCount_0f7a4_33 : decode cJ6_bitCount_0f7a4 33 = .ok (.istore_n 0, 1) := by decide +kernel
theorem dJ6_bitCount_0f7a4_34 : decode cJ6_bitCount_0f7a4 34 = .ok (.iload_n 0, 1) := by decide +kernel
theorem dJ6_bitCount_0f7a4_35 : decode cJ6_bitCount_0f7a4 35 = .ok (.iload_n 0, 1) := by decide +kernel
theorem dJ6_bitCount_0f7a4_36 : decode cJ6_bitCount_0f7a4 36 = .ok (.bipush 8, 2) := by decide +kernel
theorem dJ6_bitCount_0f7a4_38 : decode cJ6_bitCount_0f7a4 38 = .ok (.iushr, 1) := by decide +kernel
theorem dJ6_bitCount_0f7a4_39 : decode cJ6_bitCount_0f7a4 39 = .ok (.iadd, 1) := by decide +kernel
theorem dJ6_bitCount_0f7a4_40 : decode cJ6_bitCount_0f7a4 40 = .ok (.istore_n 0, 1) := by decide +kernel
theorem dJ6_bitCount_0f7a4_41 : decode cJ6_bitCount_0f7a4 41 = .ok (.iload_n 0, 1) := by decide +kernel
theorem dJ6_bitCount_0f7a4_42 : decode cJ6_bitCount_0f7a4 42 = .ok (.iload_n 0, 1) := by decide +kernel
theorem dJ6_bitCount_0f7a4_43 : decode cJ6_bitCount_0f7a4 43 = .ok (.bipush 16, 2) := by decide +kernel
theorem dJ6_bitCount_0f7a4_45 : decode cJ6_bitCount_0f7a4 45 = .ok (.iushr, 1) := by decide +kernel
theorem dJ6_bitCount_0f7a4_46 : decode cJ6_bitCount_0f7a4 46 = .ok (.iadd, 1) := by decide +kernel
theorem dJ6_bitCount_0f7a4_47 : decode cJ6_bitCount_0f7a4 47 = .ok (.istore_n 0, 1) := by decide +kernel
theorem dJ6_bitCount_0f7a4_48 : decode cJ6_bitCount_0f7a4 48 = .ok (.iload_n 0, 1) := by decide +kernel
theorem dJ6_bitCount_0f7a4_49 : decode cJ6_bitCount_0f7a4 49 = .ok (.bipush 63, 2) := by decide +kernel
theorem dJ6_bitCount_0f7a4_51 : decode cJ6_bitCount_0f7a4 51 = .ok (.iand, 1) := by decide +kernel
theorem dJ6_bitCount_0f7a4_52 : decode cJ6_bitCount_0f7a4 52 = .ok (.ireturn, 1) := by decide +kernel
theorem dJ9_max_7cf53_0 : decode cJ9_max_7cf53 0 = .ok (.iload_n 0, 1) := by decide +kernel
theorem dJ9_max_7cf53_1 : decode cJ9_max_7cf53 1 = .ok (.iload_n 1, 1) := by decide +kernel
theorem dJ9_max_7cf53_2 : decode cJ9_max_7cf53 2 = .ok (.if_icmp .lt 7, 3) := by decide +kernel
theorem dJ9_max_7cf53_5 : decode cJ9_max_7cf53 5 = .ok (.iload_n 0, 1) := by decide +kernel
theorem dJ9_max_7cf53_6 : decode cJ9_max_7cf53 6 = .ok (.goto 4, 3) := by decide +kernel
theorem dJ9_max_7cf53_9 : decode cJ9_max_7cf53 9 = .ok (.iload_n 1, 1) := by decide +kernel
theorem dJ9_max_7cf53_10 : decode cJ9_max_7cf53 10 = .ok (.ireturn, 1) := by decide +kernel
theorem dJ9_max_f86c9_0 : decode cJ9_max_f86c9 0 = .ok (.lload_n 0, 1) := by decide +kernel
theorem dJ9_max_f86c9_1 : decode cJ9_max_f86c9 1 = .ok (.lload_n 2, 1) := by decide +kernel
theorem dJ9_max_f86c9_2 : decode cJ9_max_f86c9 2 = .ok (.lcmp, 1) := by decide +kernel
theorem dJ9_max_f86c9_3 : decode cJ9_max_f86c9 3 = .ok (.ifCond .lt 7, 3) := by decide +kernel
theorem dJ9_max_f86c9_6 : decode cJ9_max_f86c9 6 = .ok (.lload_n 0, 1) := by decide +kernel
theorem dJ9_max_f86c9_7 : decode cJ9_max_f86c9 7 = .ok (.goto 4, 3) := by decide +kernel
theorem dJ9_max_f86c9_10 : decode cJ9_max_f86c9 10 = .ok (.lload_n 2, 1) := by decide +kernel
theorem dJ9_max_f86c9_11 : decode cJ9_max_f86c9 11 = .ok (.lreturn, 1) := by decide +kernel
theorem dJ9_min_7cf53_0 : decode cJ9_min_7cf53 0 = .ok (.iload_n 0, 1) := by decide +kernel
theorem dJ9_min_7cf53_1 : decode cJ9_min_7cf53 1 = .ok (.iload_n 1, 1) := by decide +kernel
theorem dJ9_min_7cf53_2 : decode cJ9_min_7cf53 2 = .ok (.if_icmp .gt 7, 3) := by decide +kernel
theorem dJ9_min_7cf53_5 : decode cJ9_min_7cf53 5 = .ok (.iload_n 0, 1) := by decide +kernel
theorem dJ9_min_7cf53_6 : decode cJ9_min_7cf53 6 = .ok (.goto 4, 3) := by decide +kernel
theorem dJ9_min_7cf53_9 : decode cJ9_min_7cf53 9 = .ok (.iload_n 1, 1) := by decide +kernel
theorem dJ9_min_7cf53_10 : decode cJ9_min_7cf53 10 = .ok (.ireturn, 1) := by decide +kernel
theorem dJ7_fill_d0a16_0 : decode cJ7_fill_d0a16 0 = .ok (.iconst 0, 1) := by decide +kernel
theorem dJ7_fill_d0a16_1 : decode cJ7_fill_d0a16 1 = .ok (.istore_n 3, 1) := by decide +kernel
theorem dJ7_fill_d0a16_2 : decode cJ7_fill_d0a16 2 = .ok (.aload_n 0, 1) := by decide +kernel
theorem dJ7_fill_d0a16_3 : decode cJ7_fill_d0a16 3 = .ok (.arraylength, 1) := by decide +kernel
theorem dJ7_fill_d0a16_4 : decode cJ7_fill_d0a16 4 = .ok (.istore 4, 2) := by decide +kernel
theorem dJ7_fill_d0a16_6 : decode cJ7_fill_d0a16 6 = .ok (.iload_n 3, 1) := by decide +kernel
theorem dJ7_fill_d0a16_7 : decode cJ7_fill_d0a16 7 = .ok (.iload 4, 2) := by decide +kernel
theorem dJ7_fill_d0a16_9 : decode cJ7_fill_d0a16 9 = .ok (.if_icmp .ge 13, 3) := by decide +kernel
theorem dJ7_fill_d0a16_12 : decode cJ7_fill_d0a16 12 = .ok (.aload_n 0, 1) := by decide +kernel
theorem dJ7_fill_d0a16_13 : decode cJ7_fill_d0a16 13 = .ok (.iload_n 3, 1) := by decide +kernel
theorem dJ7_fill_d0a16_14 : decode cJ7_fill_d0a16 14 = .ok (.lload_n 1, 1) := by decide +kernel
theorem dJ7_fill_d0a16_15 : decode cJ7_fill_d0a16 15 = .ok (.lastore, 1) := by decide +kernel
theorem dJ7_fill_d0a16_16 : decode cJ7_fill_d0a16 16 = .ok (.iinc 3 1, 3) := by decide +kernel
theorem dJ7_fill_d0a16_19 : decode cJ7_fill_d0a16 19 = .ok (.goto (-13), 3) := by decide +kernel
theorem dJ7_fill_d0a16_22 : decode cJ7_fill_d0a16 22 = .ok (.return_, 1) := by decide +kernel
theorem dJ7_fill_53178_0 : decode cJ7_fill_53178 0 = .ok (.iconst 0, 1) := by decide +kernel
theorem dJ7_fill_53178_1 : decode cJ7_fill_53178 1 = .ok (.istore_n 2, 1) := by decide +kernel
theorem dJ7_fill_53178_2 : decode cJ7_fill_53178 2 = .ok (.aload_n 0, 1) := by decide +kernel
theorem dJ7_fill_53178_3 : decode cJ7_fill_53178 3 = .ok (.arraylength, 1) := by decide +kernel
theorem dJ7_fill_53178_4 : decode cJ7_fill_53178 4 = .ok (.istore_n 3, 1) := by decide +kernel
theorem dJ7_fill_53178_5 : decode cJ7_fill_53178 5 = .ok (.iload_n 2, 1) := by decide +kernel
theorem dJ7_fill_53178_6 : decode cJ7_fill_53178 6 = .ok (.iload_n 3, 1) := by decide +kernel
theorem dJ7_fill_53178_7 : decode cJ7_fill_53178 7 = .ok (.if_icmp .ge 13, 3) := by decide +kernel
theorem dJ7_fill_53178_10 : decode cJ7_fill_53178 10 = .ok (.aload_n 0, 1) := by decide +kernel
theorem dJ7_fill_53178_11 : decode cJ7_fill_53178 11 = .ok (.iload_n 2, 1) := by decide +kernel
theorem dJ7_fill_53178_12 : decode cJ7_fill_53178 12 = .ok (.iload_n 1, 1) := by decide +kernel
theorem dJ7_fill_53178_13 : decode cJ7_fill_53178 13 = .ok (.iastore, 1) := by decide +kernel
theorem dJ7_fill_53178_14 : decode cJ7_fill_53178 14 = .ok (.iinc 2 1, 3) := by decide +kernel
theorem dJ7_fill_53178_17 : decode cJ7_fill_53178 17 = .ok (.goto (-12), 3) := by decide +kernel
theorem dJ7_fill_53178_20 : decode cJ7_fill_53178 20 = .ok (.return_, 1) := by decide +kernel
theorem dL_law_0 : decode cL_law 0 = .ok (.new 7, 3) := by decide +kernel
theorem dL_law_3 : decode cL_law 3 = .ok (.dup, 1) := by decide +kernel
theorem dL_law_4 : decode cL_law 4 = .ok (.invokespecial 9, 3) := by decide +kernel
theorem dL_law_7 : decode cL_law 7 = .ok (.astore_n 1, 1) := by decide +kernel
theorem dL_law_8 : decode cL_law 8 = .ok (.new 10, 3) := by decide +kernel
theorem dL_law_11 : decode cL_law 11 = .ok (.dup, 1) := by decide +kernel
theorem dL_law_12 : decode cL_law 12 = .ok (.invokespecial 12, 3) := by decide +kernel
theorem dL_law_15 : decode cL_law 15 = .ok (.astore_n 2, 1) := by decide +kernel
theorem dL_law_16 : decode cL_law 16 = .ok (.iconst 0, 1) := by decide +kernel
theorem dL_law_17 : decode cL_law 17 = .ok (.istore_n 3, 1) := by decide +kernel
theorem dL_law_18 : decode cL_law 18 = .ok (.iload_n 3, 1) := by decide +kernel
theorem dL_law_19 : decode cL_law 19 = .ok (.aload_n 0, 1) := by decide +kernel
theorem dL_law_20 : decode cL_law 20 = .ok (.arraylength, 1) := by decide +kernel
theorem dL_law_21 : decode cL_law 21 = .ok (.bipush 6, 2) := by decide +kernel
theorem dL_law_23 : decode cL_law 23 = .ok (.isub, 1) := by decide +kernel
theorem dL_law_24 : decode cL_law 24 = .ok (.if_icmp .gt 1243, 3) := by decide +kernel
theorem dL_law_27 : decode cL_law 27 = .ok (.aload_n 0, 1) := by decide +kernel
theorem dL_law_28 : decode cL_law 28 = .ok (.iload_n 3, 1) := by decide +kernel
theorem dL_law_29 : decode cL_law 29 = .ok (.iaload, 1) := by decide +kernel
theorem dL_law_30 : decode cL_law 30 = .ok (.bipush 63, 2) := by decide +kernel
theorem dL_law_32 : decode cL_law 32 = .ok (.iand, 1) := by decide +kernel
theorem dL_law_33 : decode cL_law 33 = .ok (.tableswitch 1228 0 39 #[175, 208, 251, 284, 307, 370, 393, 426, 469, 492, 515, 548, 581, 614, 627, 660, 683, 706, 729, 752, 775, 798, 811, 834, 847, 880, 903, 926, 959, 982, 1005, 1048, 1081, 1114, 1127, 1141, 1155, 1178, 1191, 1214], 175) := by decide +kernel
theorem dL_law_208 : decode cL_law 208 = .ok (.aload_n 1, 1) := by decide +kernel
theorem dL_law_209 : decode cL_law 209 = .ok (.aload_n 0, 1) := by decide +kernel
theorem dL_law_210 : decode cL_law 210 = .ok (.iload_n 3, 1) := by decide +kernel
theorem dL_law_211 : decode cL_law 211 = .ok (.iconst 1, 1) := by decide +kernel
theorem dL_law_212 : decode cL_law 212 = .ok (.iadd, 1) := by decide +kernel
theorem dL_law_213 : decode cL_law 213 = .ok (.iaload, 1) := by decide +kernel
theorem dL_law_214 : decode cL_law 214 = .ok (.aload_n 0, 1) := by decide +kernel
theorem dL_law_215 : decode cL_law 215 = .ok (.iload_n 3, 1) := by decide +kernel
theorem dL_law_216 : decode cL_law 216 = .ok (.iconst 2, 1) := by decide +kernel
theorem dL_law_217 : decode cL_law 217 = .ok (.iadd, 1) := by decide +kernel
theorem dL_law_218 : decode cL_law 218 = .ok (.iaload, 1) := by decide +kernel
theorem dL_law_219 : decode cL_law 219 = .ok (.invokevirtual 13, 3) := by decide +kernel
theorem dL_law_222 : decode cL_law 222 = .ok (.aload_n 2, 1) := by decide +kernel
theorem dL_law_223 : decode cL_law 223 = .ok (.aload_n 0, 1) := by decide +kernel
theorem dL_law_224 : decode cL_law 224 = .ok (.iload_n 3, 1) := by decide +kernel
theorem dL_law_225 : decode cL_law 225 = .ok (.iconst 1, 1) := by decide +kernel
theorem dL_law_226 : decode cL_law 226 = .ok (.iadd, 1) := by decide +kernel
theorem dL_law_227 : decode cL_law 227 = .ok (.iaload, 1) := by decide +kernel
theorem dL_law_228 : decode cL_law 228 = .ok (.aload_n 0, 1) := by decide +kernel
theorem dL_law_229 : decode cL_law 229 = .ok (.iload_n 3, 1) := by decide +kernel
theorem dL_law_230 : decode cL_law 230 = .ok (.iconst 2, 1) := by decide +kernel
theorem dL_law_231 : decode cL_law 231 = .ok (.iadd, 1) := by decide +kernel
theorem dL_law_232 : decode cL_law 232 = .ok (.iaload, 1) := by decide +kernel
theorem dL_law_233 : decode cL_law 233 = .ok (.invokevirtual 17, 3) := by decide +kernel
theorem dL_law_236 : decode cL_law 236 = .ok (.if_icmp .eq 1025, 3) := by decide +kernel
theorem dL_law_239 : decode cL_law 239 = .ok (.iconst 0, 1) := by decide +kernel
theorem dL_law_240 : decode cL_law 240 = .ok (.ireturn, 1) := by decide +kernel
theorem dL_law_241 : decode cL_law 241 = .ok (.aload_n 1, 1) := by decide +kernel
theorem dL_law_242 : decode cL_law 242 = .ok (.aload_n 0, 1) := by decide +kernel
theorem dL_law_243 : decode cL_law 243 = .ok (.iload_n 3, 1) := by decide +kernel
theorem dL_law_244 : decode cL_law 244 = .ok (.iconst 1, 1) := by decide +kernel
theorem dL_law_245 : decode cL_law 245 = .ok (.iadd, 1) := by decide +kernel
theorem dL_law_246 : decode cL_law 246 = .ok (.iaload, 1) := by decide +kernel
theorem dL_law_247 : decode cL_law 247 = .ok (.aload_n 0, 1) := by decide +kernel
theorem dL_law_248 : decode cL_law 248 = .ok (.iload_n 3, 1) := by decide +kernel
theorem dL_law_249 : decode cL_law 249 = .ok (.iconst 2, 1) := by decide +kernel
theorem dL_law_250 : decode cL_law 250 = .ok (.iadd, 1) := by decide +kernel
theorem dL_law_251 : decode cL_law 251 = .ok (.iaload, 1) := by decide +kernel
theorem dL_law_252 : decode cL_law 252 = .ok (.aload_n 0, 1) := by decide +kernel
theorem dL_law_253 : decode cL_law 253 = .ok (.iload_n 3, 1) := by decide +kernel
theorem dL_law_254 : decode cL_law 254 = .ok (.iconst 3, 1) := by decide +kernel
theorem dL_law_255 : decode cL_law 255 = .ok (.iadd, 1) := by decide +kernel
theorem dL_law_256 : decode cL_law 256 = .ok (.iaload, 1) := by decide +kernel
theorem dL_law_257 : decode cL_law 257 = .ok (.invokevirtual 18, 3) := by decide +kernel
theorem dL_law_260 : decode cL_law 260 = .ok (.aload_n 2, 1) := by decide +kernel
theorem dL_law_261 : decode cL_law 261 = .ok (.aload_n 0, 1) := by decide +kernel
theorem dL_law_262 : decode cL_law 262 = .ok (.iload_n 3, 1) := by decide +kernel
theorem dL_law_263 : decode cL_law 263 = .ok (.iconst 1, 1) := by decide +kernel
theorem dL_law_264 : decode cL_law 264 = .ok (.iadd, 1) := by decide +kernel
theorem dL_law_265 : decode cL_law 265 = .ok (.iaload, 1) := by decide +kernel
theorem dL_law_266 : decode cL_law 266 = .ok (.aload_n 0, 1) := by decide +kernel
theorem dL_law_267 : decode cL_law 267 = .ok (.iload_n 3, 1) := by decide +kernel
theorem dL_law_268 : decode cL_law 268 = .ok (.iconst 2, 1) := by decide +kernel
theorem dL_law_269 : decode cL_law 269 = .ok (.iadd, 1) := by decide +kernel
theorem dL_law_270 : decode cL_law 270 = .ok (.iaload, 1) := by decide +kernel
theorem dL_law_271 : decode cL_law 271 = .ok (.aload_n 0, 1) := by decide +kernel
theorem dL_law_272 : decode cL_law 272 = .ok (.iload_n 3, 1) := by decide +kernel
theorem dL_law_273 : decode cL_law 273 = .ok (.iconst 3, 1) := by decide +kernel
theorem dL_law_274 : decode cL_law 274 = .ok (.iadd, 1) := by decide +kernel
theorem dL_law_275 : decode cL_law 275 = .ok (.iaload, 1) := by decide +kernel
theorem dL_law_276 : decode cL_law 276 = .ok (.invokevirtual 22, 3) := by decide +kernel
theorem dL_law_279 : decode cL_law 279 = .ok (.if_icmp .eq 982, 3) := by decide +kernel
theorem dL_law_282 : decode cL_law 282 = .ok (.iconst 0, 1) := by decide +kernel
theorem dL_law_283 : decode cL_law 283 = .ok (.ireturn, 1) := by decide +kernel
theorem dL_law_284 : decode cL_law 284 = .ok (.aload_n 1, 1) := by decide +kernel
theorem dL_law_285 : decode cL_law 285 = .ok (.aload_n 0, 1) := by decide +kernel
theorem dL_law_286 : decode cL_law 286 = .ok (.iload_n 3, 1) := by decide +kernel
theorem dL_law_287 : decode cL_law 287 = .ok (.iconst 1, 1) := by decide +kernel
theorem dL_law_288 : decode cL_law 288 = .ok (.iadd, 1) := by decide +kernel
theorem dL_law_289 : decode cL_law 289 = .ok (.iaload, 1) := by decide +kernel
theorem dL_law_290 : decode cL_law 290 = .ok (.aload_n 0, 1) := by decide +kernel
theorem dL_law_291 : decode cL_law 291 = .ok (.iload_n 3, 1) := by decide +kernel
theorem dL_law_292 : decode cL_law 292 = .ok (.iconst 2, 1) := by decide +kernel
theorem dL_law_293 : decode cL_law 293 = .ok (.iadd, 1) := by decide +kernel
theorem dL_law_294 : decode cL_law 294 = .ok (.iaload, 1) := by decide +kernel
theorem dL_law_295 : decode cL_law 295 = .ok (.invokevirtual 23, 3) := by decide +kernel
theorem dL_law_298 : decode cL_law 298 = .ok (.aload_n 2, 1) := by decide +kernel
theorem dL_law_299 : decode cL_law 299 = .ok (.aload_n 0, 1) := by decide +kernel
theorem dL_law_300 : decode cL_law 300 = .ok (.iload_n 3, 1) := by decide +kernel
theorem dL_law_301 : decode cL_law 301 = .ok (.iconst 1, 1) := by decide +kernel
theorem dL_law_302 : decode cL_law 302 = .ok (.iadd, 1) := by decide +kernel
theorem dL_law_303 : decode cL_law 303 = .ok (.iaload, 1) := by decide +kernel
theorem dL_law_304 : decode cL_law 304 = .ok (.aload_n 0, 1) := by decide +kernel
theorem dL_law_305 : decode cL_law 305 = .ok (.iload_n 3, 1) := by decide +kernel
theorem dL_law_306 : decode cL_law 306 = .ok (.iconst 2, 1) := by decide +kernel
theorem dL_law_307 : decode cL_law 307 = .ok (.iadd, 1) := by decide +kernel
theorem dL_law_308 : decode cL_law 308 = .ok (.iaload, 1) := by decide +kernel
theorem dL_law_309 : decode cL_law 309 = .ok (.invokevirtual 26, 3) := by decide +kernel
theorem dL_law_312 : decode cL_law 312 = .ok (.if_icmp .eq 949, 3) := by decide +kernel
theorem dL_law_315 : decode cL_law 315 = .ok (.iconst 0, 1) := by decide +kernel
theorem dL_law_316 : decode cL_law 316 = .ok (.ireturn, 1) := by decide +kernel
theorem dL_law_317 : decode cL_law 317 = .ok (.aload_n 1, 1) := by decide +kernel
theorem dL_law_318 : decode cL_law 318 = .ok (.aload_n 0, 1) := by decide +kernel
theorem dL_law_319 : decode cL_law 319 = .ok (.iload_n 3, 1) := by decide +kernel
theorem dL_law_320 : decode cL_law 320 = .ok (.iconst 1, 1) := by decide +kernel
theorem dL_law_321 : decode cL_law 321 = .ok (.iadd, 1) := by decide +kernel
theorem dL_law_322 : decode cL_law 322 = .ok (.iaload, 1) := by decide +kernel
theorem dL_law_323 : decode cL_law 323 = .ok (.invokevirtual 27, 3) := by decide +kernel
theorem dL_law_326 : decode cL_law 326 = .ok (.aload_n 2, 1) := by decide +kernel
theorem dL_law_327 : decode cL_law 327 = .ok (.aload_n 0, 1) := by decide +kernel
theorem dL_law_328 : decode cL_law 328 = .ok (.iload_n 3, 1) := by decide +kernel
theorem dL_law_329 : decode cL_law 329 = .ok (.iconst 1, 1) := by decide +kernel
theorem dL_law_330 : decode cL_law 330 = .ok (.iadd, 1) := by decide +kernel
theorem dL_law_331 : decode cL_law 331 = .ok (.iaload, 1) := by decide +kernel
theorem dL_law_332 : decode cL_law 332 = .ok (.invokevirtual 31, 3) := by decide +kernel
theorem dL_law_335 : decode cL_law 335 = .ok (.if_icmp .eq 926, 3) := by decide +kernel
theorem dL_law_338 : decode cL_law 338 = .ok (.iconst 0, 1) := by decide +kernel
theorem dL_law_339 : decode cL_law 339 = .ok (.ireturn, 1) := by decide +kernel
theorem dL_law_340 : decode cL_law 340 = .ok (.aload_n 1, 1) := by decide +kernel
theorem dL_law_341 : decode cL_law 341 = .ok (.aload_n 0, 1) := by decide +kernel
theorem dL_law_342 : decode cL_law 342 = .ok (.iload_n 3, 1) := by decide +kernel
theorem dL_law_343 : decode cL_law 343 = .ok (.iconst 1, 1) := by decide +kernel
theorem dL_law_344 : decode cL_law 344 = .ok (.iadd, 1) := by decide +kernel
theorem dL_law_345 : decode cL_law 345 = .ok (.iaload, 1) := by decide +kernel
theorem dL_law_346 : decode cL_law 346 = .ok (.aload_n 0, 1) := by decide +kernel
theorem dL_law_347 : decode cL_law 347 = .ok (.iload_n 3, 1) := by decide +kernel
theorem dL_law_348 : decode cL_law 348 = .ok (.iconst 2, 1) := by decide +kernel
theorem dL_law_349 : decode cL_law 349 = .ok (.iadd, 1) := by decide +kernel
theorem dL_law_350 : decode cL_law 350 = .ok (.iaload, 1) := by decide +kernel
theorem dL_law_351 : decode cL_law 351 = .ok (.aload_n 0, 1) := by decide +kernel
theorem dL_law_352 : decode cL_law 352 = .ok (.iload_n 3, 1) := by decide +kernel
theorem dL_law_353 : decode cL_law 353 = .ok (.iconst 3, 1) := by decide +kernel
theorem dL_law_354 : decode cL_law 354 = .ok (.iadd, 1) := by decide +kernel
theorem dL_law_355 : decode cL_law 355 = .ok (.iaload, 1) := by decide +kernel
theorem dL_law_356 : decode cL_law 356 = .ok (.aload_n 0, 1) := by decide +kernel
theorem dL_law_357 : decode cL_law 357 = .ok (.iload_n 3, 1) := by decide +kernel
theorem dL_law_358 : decode cL_law 358 = .ok (.iconst 4, 1) := by decide +kernel
theorem dL_law_359 : decode cL_law 359 = .ok (.iadd, 1) := by decide +kernel
theorem dL_law_360 : decode cL_law 360 = .ok (.iaload, 1) := by decide +kernel
theorem dL_law_361 : decode cL_law 361 = .ok (.aload_n 0, 1) := by decide +kernel
theorem dL_law_362 : decode cL_law 362 = .ok (.iload_n 3, 1) := by decide +kernel
theorem dL_law_363 : decode cL_law 363 = .ok (.iconst 5, 1) := by decide +kernel
theorem dL_law_364 : decode cL_law 364 = .ok (.iadd, 1) := by decide +kernel
theorem dL_law_365 : decode cL_law 365 = .ok (.iaload, 1) := by decide +kernel
theorem dL_law_366 : decode cL_law 366 = .ok (.invokevirtual 32, 3) := by decide +kernel
theorem dL_law_369 : decode cL_law 369 = .ok (.aload_n 2, 1) := by decide +kernel
theorem dL_law_370 : decode cL_law 370 = .ok (.aload_n 0, 1) := by decide +kernel
theorem dL_law_371 : decode cL_law 371 = .ok (.iload_n 3, 1) := by decide +kernel
theorem dL_law_372 : decode cL_law 372 = .ok (.iconst 1, 1) := by decide +kernel
theorem dL_law_373 : decode cL_law 373 = .ok (.iadd, 1) := by decide +kernel
theorem dL_law_374 : decode cL_law 374 = .ok (.iaload, 1) := by decide +kernel
theorem dL_law_375 : decode cL_law 375 = .ok (.aload_n 0, 1) := by decide +kernel
theorem dL_law_376 : decode cL_law 376 = .ok (.iload_n 3, 1) := by decide +kernel
theorem dL_law_377 : decode cL_law 377 = .ok (.iconst 2, 1) := by decide +kernel
theorem dL_law_378 : decode cL_law 378 = .ok (.iadd, 1) := by decide +kernel
theorem dL_law_379 : decode cL_law 379 = .ok (.iaload, 1) := by decide +kernel
theorem dL_law_380 : decode cL_law 380 = .ok (.aload_n 0, 1) := by decide +kernel
theorem dL_law_381 : decode cL_law 381 = .ok (.iload_n 3, 1) := by decide +kernel
theorem dL_law_382 : decode cL_law 382 = .ok (.iconst 3, 1) := by decide +kernel
theorem dL_law_383 : decode cL_law 383 = .ok (.iadd, 1) := by decide +kernel
theorem dL_law_384 : decode cL_law 384 = .ok (.iaload, 1) := by decide +kernel
theorem dL_law_385 : decode cL_law 385 = .ok (.aload_n 0, 1) := by decide +kernel
theorem dL_law_386 : decode cL_law 386 = .ok (.iload_n 3, 1) := by decide +kernel
theorem dL_law_387 : decode cL_law 387 = .ok (.iconst 4, 1) := by decide +kernel
theorem dL_law_388 : decode cL_law 388 = .ok (.iadd, 1) := by decide +kernel
theorem dL_law_389 : decode cL_law 389 = .ok (.iaload, 1) := by decide +kernel
theorem dL_law_390 : decode cL_law 390 = .ok (.aload_n 0, 1) := by decide +kernel
theorem dL_law_391 : decode cL_law 391 = .ok (.iload_n 3, 1) := by decide +kernel
theorem dL_law_392 : decode cL_law 392 = .ok (.iconst 5, 1) := by decide +kernel
theorem dL_law_393 : decode cL_law 393 = .ok (.iadd, 1) := by decide +kernel
theorem dL_law_394 : decode cL_law 394 = .ok (.iaload, 1) := by decide +kernel
theorem dL_law_395 : decode cL_law 395 = .ok (.invokevirtual 36, 3) := by decide +kernel
theorem dL_law_398 : decode cL_law 398 = .ok (.if_icmp .eq 863, 3) := by decide +kernel
theorem dL_law_401 : decode cL_law 401 = .ok (.iconst 0, 1) := by decide +kernel
theorem dL_law_402 : decode cL_law 402 = .ok (.ireturn, 1) := by decide +kernel
theorem dL_law_403 : decode cL_law 403 = .ok (.aload_n 1, 1) := by decide +kernel
theorem dL_law_404 : decode cL_law 404 = .ok (.aload_n 0, 1) := by decide +kernel
theorem dL_law_405 : decode cL_law 405 = .ok (.iload_n 3, 1) := by decide +kernel
theorem dL_law_406 : decode cL_law 406 = .ok (.iconst 1, 1) := by decide +kernel
theorem dL_law_407 : decode cL_law 407 = .ok (.iadd, 1) := by decide +kernel
theorem dL_law_408 : decode cL_law 408 = .ok (.iaload, 1) := by decide +kernel
theorem dL_law_409 : decode cL_law 409 = .ok (.invokevirtual 37, 3) := by decide +kernel
theorem dL_law_412 : decode cL_law 412 = .ok (.aload_n 2, 1) := by decide +kernel
theorem dL_law_413 : decode cL_law 413 = .ok (.aload_n 0, 1) := by decide +kernel
theorem dL_law_414 : decode cL_law 414 = .ok (.iload_n 3, 1) := by decide +kernel
theorem dL_law_415 : decode cL_law 415 = .ok (.iconst 1, 1) := by decide +kernel
theorem dL_law_416 : decode cL_law 416 = .ok (.iadd, 1) := by decide +kernel
theorem dL_law_417 : decode cL_law 417 = .ok (.iaload, 1) := by decide +kernel
theorem dL_law_418 : decode cL_law 418 = .ok (.invokevirtual 40, 3) := by decide +kernel
theorem dL_law_421 : decode cL_law 421 = .ok (.if_icmp .eq 840, 3) := by decide +kernel
theorem dL_law_424 : decode cL_law 424 = .ok (.iconst 0, 1) := by decide +kernel
theorem dL_law_425 : decode cL_law 425 = .ok (.ireturn, 1) := by decide +kernel
theorem dL_law_426 : decode cL_law 426 = .ok (.aload_n 1, 1) := by decide +kernel
theorem dL_law_427 : decode cL_law 427 = .ok (.aload_n 0, 1) := by decide +kernel
theorem dL_law_428 : decode cL_law 428 = .ok (.iload_n 3, 1) := by decide +kernel
theorem dL_law_429 : decode cL_law 429 = .ok (.iconst 1, 1) := by decide +kernel
theorem dL_law_430 : decode cL_law 430 = .ok (.iadd, 1) := by decide +kernel
theorem dL_law_431 : decode cL_law 431 = .ok (.iaload, 1) := by decide +kernel
theorem dL_law_432 : decode cL_law 432 = .ok (.aload_n 0, 1) := by decide +kernel
theorem dL_law_433 : decode cL_law 433 = .ok (.iload_n 3, 1) := by decide +kernel
theorem dL_law_434 : decode cL_law 434 = .ok (.iconst 2, 1) := by decide +kernel
theorem dL_law_435 : decode cL_law 435 = .ok (.iadd, 1) := by decide +kernel
theorem dL_law_436 : decode cL_law 436 = .ok (.iaload, 1) := by decide +kernel
theorem dL_law_437 : decode cL_law 437 = .ok (.invokevirtual 41, 3) := by decide +kernel
theorem dL_law_440 : decode cL_law 440 = .ok (.aload_n 2, 1) := by decide +kernel
theorem dL_law_441 : decode cL_law 441 = .ok (.aload_n 0, 1) := by decide +kernel
theorem dL_law_442 : decode cL_law 442 = .ok (.iload_n 3, 1) := by decide +kernel
theorem dL_law_443 : decode cL_law 443 = .ok (.iconst 1, 1) := by decide +kernel
theorem dL_law_444 : decode cL_law 444 = .ok (.iadd, 1) := by decide +kernel
theorem dL_law_445 : decode cL_law 445 = .ok (.iaload, 1) := by decide +kernel
theorem dL_law_446 : decode cL_law 446 = .ok (.aload_n 0, 1) := by decide +kernel
theorem dL_law_447 : decode cL_law 447 = .ok (.iload_n 3, 1) := by decide +kernel
theorem dL_law_448 : decode cL_law 448 = .ok (.iconst 2, 1) := by decide +kernel
theorem dL_law_449 : decode cL_law 449 = .ok (.iadd, 1) := by decide +kernel
theorem dL_law_450 : decode cL_law 450 = .ok (.iaload, 1) := by decide +kernel
theorem dL_law_451 : decode cL_law 451 = .ok (.invokevirtual 44, 3) := by decide +kernel
theorem dL_law_454 : decode cL_law 454 = .ok (.if_icmp .eq 807, 3) := by decide +kernel
theorem dL_law_457 : decode cL_law 457 = .ok (.iconst 0, 1) := by decide +kernel
theorem dL_law_458 : decode cL_law 458 = .ok (.ireturn, 1) := by decide +kernel
theorem dL_law_459 : decode cL_law 459 = .ok (.aload_n 1, 1) := by decide +kernel
theorem dL_law_460 : decode cL_law 460 = .ok (.aload_n 0, 1) := by decide +kernel
theorem dL_law_461 : decode cL_law 461 = .ok (.iload_n 3, 1) := by decide +kernel
theorem dL_law_462 : decode cL_law 462 = .ok (.iconst 1, 1) := by decide +kernel
theorem dL_law_463 : decode cL_law 463 = .ok (.iadd, 1) := by decide +kernel
theorem dL_law_464 : decode cL_law 464 = .ok (.iaload, 1) := by decide +kernel
theorem dL_law_465 : decode cL_law 465 = .ok (.aload_n 0, 1) := by decide +kernel
theorem dL_law_466 : decode cL_law 466 = .ok (.iload_n 3, 1) := by decide +kernel
theorem dL_law_467 : decode cL_law 467 = .ok (.iconst 2, 1) := by decide +kernel
theorem dL_law_468 : decode cL_law 468 = .ok (.iadd, 1) := by decide +kernel
theorem dL_law_469 : decode cL_law 469 = .ok (.iaload, 1) := by decide +kernel
theorem dL_law_470 : decode cL_law 470 = .ok (.aload_n 0, 1) := by decide +kernel
theorem dL_law_471 : decode cL_law 471 = .ok (.iload_n 3, 1) := by decide +kernel
theorem dL_law_472 : decode cL_law 472 = .ok (.iconst 3, 1) := by decide +kernel
theorem dL_law_473 : decode cL_law 473 = .ok (.iadd, 1) := by decide +kernel
theorem dL_law_474 : decode cL_law 474 = .ok (.iaload, 1) := by decide +kernel
theorem dL_law_475 : decode cL_law 475 = .ok (.invokevirtual 45, 3) := by decide +kernel
theorem dL_law_478 : decode cL_law 478 = .ok (.aload_n 2, 1) := by decide +kernel
theorem dL_law_479 : decode cL_law 479 = .ok (.aload_n 0, 1) := by decide +kernel
theorem dL_law_480 : decode cL_law 480 = .ok (.iload_n 3, 1) := by decide +kernel
theorem dL_law_481 : decode cL_law 481 = .ok (.iconst 1, 1) := by decide +kernel
theorem dL_law_482 : decode cL_law 482 = .ok (.iadd, 1) := by decide +kernel
theorem dL_law_483 : decode cL_law 483 = .ok (.iaload, 1) := by decide +kernel
theorem dL_law_484 : decode cL_law 484 = .ok (.aload_n 0, 1) := by decide +kernel
theorem dL_law_485 : decode cL_law 485 = .ok (.iload_n 3, 1) := by decide +kernel
theorem dL_law_486 : decode cL_law 486 = .ok (.iconst 2, 1) := by decide +kernel
theorem dL_law_487 : decode cL_law 487 = .ok (.iadd, 1) := by decide +kernel
theorem dL_law_488 : decode cL_law 488 = .ok (.iaload, 1) := by decide +kernel
theorem dL_law_489 : decode cL_law 489 = .ok (.aload_n 0, 1) := by decide +kernel
theorem dL_law_490 : decode cL_law 490 = .ok (.iload_n 3, 1) := by decide +kernel
theorem dL_law_491 : decode cL_law 491 = .ok (.iconst 3, 1) := by decide +kernel
theorem dL_law_492 : decode cL_law 492 = .ok (.iadd, 1) := by decide +kernel
theorem dL_law_493 : decode cL_law 493 = .ok (.iaload, 1) := by decide +kernel
theorem dL_law_494 : decode cL_law 494 = .ok (.invokevirtual 48, 3) := by decide +kernel
theorem dL_law_497 : decode cL_law 497 = .ok (.if_icmp .eq 764, 3) := by decide +kernel
theorem dL_law_500 : decode cL_law 500 = .ok (.iconst 0, 1) := by decide +kernel
theorem dL_law_501 : decode cL_law 501 = .ok (.ireturn, 1) := by decide +kernel
theorem dL_law_502 : decode cL_law 502 = .ok (.aload_n 1, 1) := by decide +kernel
theorem dL_law_503 : decode cL_law 503 = .ok (.aload_n 0, 1) := by decide +kernel
theorem dL_law_504 : decode cL_law 504 = .ok (.iload_n 3, 1) := by decide +kernel
theorem dL_law_505 : decode cL_law 505 = .ok (.iconst 1, 1) := by decide +kernel
theorem dL_law_506 : decode cL_law 506 = .ok (.iadd, 1) := by decide +kernel
theorem dL_law_507 : decode cL_law 507 = .ok (.iaload, 1) := by decide +kernel
theorem dL_law_508 : decode cL_law 508 = .ok (.invokevirtual 49, 3) := by decide +kernel
theorem dL_law_511 : decode cL_law 511 = .ok (.aload_n 2, 1) := by decide +kernel
theorem dL_law_512 : decode cL_law 512 = .ok (.aload_n 0, 1) := by decide +kernel
theorem dL_law_513 : decode cL_law 513 = .ok (.iload_n 3, 1) := by decide +kernel
theorem dL_law_514 : decode cL_law 514 = .ok (.iconst 1, 1) := by decide +kernel
theorem dL_law_515 : decode cL_law 515 = .ok (.iadd, 1) := by decide +kernel
theorem dL_law_516 : decode cL_law 516 = .ok (.iaload, 1) := by decide +kernel
theorem dL_law_517 : decode cL_law 517 = .ok (.invokevirtual 52, 3) := by decide +kernel
theorem dL_law_520 : decode cL_law 520 = .ok (.if_icmp .eq 741, 3) := by decide +kernel
theorem dL_law_523 : decode cL_law 523 = .ok (.iconst 0, 1) := by decide +kernel
theorem dL_law_524 : decode cL_law 524 = .ok (.ireturn, 1) := by decide +kernel
theorem dL_law_525 : decode cL_law 525 = .ok (.aload_n 1, 1) := by decide +kernel
theorem dL_law_526 : decode cL_law 526 = .ok (.aload_n 0, 1) := by decide +kernel
theorem dL_law_527 : decode cL_law 527 = .ok (.iload_n 3, 1) := by decide +kernel
theorem dL_law_528 : decode cL_law 528 = .ok (.iconst 1, 1) := by decide +kernel
theorem dL_law_529 : decode cL_law 529 = .ok (.iadd, 1) := by decide +kernel
theorem dL_law_530 : decode cL_law 530 = .ok (.iaload, 1) := by decide +kernel
theorem dL_law_531 : decode cL_law 531 = .ok (.invokevirtual 53, 3) := by decide +kernel
theorem dL_law_534 : decode cL_law 534 = .ok (.aload_n 2, 1) := by decide +kernel
theorem dL_law_535 : decode cL_law 535 = .ok (.aload_n 0, 1) := by decide +kernel
theorem dL_law_536 : decode cL_law 536 = .ok (.iload_n 3, 1) := by decide +kernel
theorem dL_law_537 : decode cL_law 537 = .ok (.iconst 1, 1) := by decide +kernel
theorem dL_law_538 : decode cL_law 538 = .ok (.iadd, 1) := by decide +kernel
theorem dL_law_539 : decode cL_law 539 = .ok (.iaload, 1) := by decide +kernel
theorem dL_law_540 : decode cL_law 540 = .ok (.invokevirtual 56, 3) := by decide +kernel
theorem dL_law_543 : decode cL_law 543 = .ok (.if_icmp .eq 718, 3) := by decide +kernel
theorem dL_law_546 : decode cL_law 546 = .ok (.iconst 0, 1) := by decide +kernel
theorem dL_law_547 : decode cL_law 547 = .ok (.ireturn, 1) := by decide +kernel
theorem dL_law_548 : decode cL_law 548 = .ok (.aload_n 1, 1) := by decide +kernel
theorem dL_law_549 : decode cL_law 549 = .ok (.aload_n 0, 1) := by decide +kernel
theorem dL_law_550 : decode cL_law 550 = .ok (.iload_n 3, 1) := by decide +kernel
theorem dL_law_551 : decode cL_law 551 = .ok (.iconst 1, 1) := by decide +kernel
theorem dL_law_552 : decode cL_law 552 = .ok (.iadd, 1) := by decide +kernel
theorem dL_law_553 : decode cL_law 553 = .ok (.iaload, 1) := by decide +kernel
theorem dL_law_554 : decode cL_law 554 = .ok (.aload_n 0, 1) := by decide +kernel
theorem dL_law_555 : decode cL_law 555 = .ok (.iload_n 3, 1) := by decide +kernel
theorem dL_law_556 : decode cL_law 556 = .ok (.iconst 2, 1) := by decide +kernel
theorem dL_law_557 : decode cL_law 557 = .ok (.iadd, 1) := by decide +kernel
theorem dL_law_558 : decode cL_law 558 = .ok (.iaload, 1) := by decide +kernel
theorem dL_law_559 : decode cL_law 559 = .ok (.invokevirtual 57, 3) := by decide +kernel
theorem dL_law_562 : decode cL_law 562 = .ok (.aload_n 2, 1) := by decide +kernel
theorem dL_law_563 : decode cL_law 563 = .ok (.aload_n 0, 1) := by decide +kernel
theorem dL_law_564 : decode cL_law 564 = .ok (.iload_n 3, 1) := by decide +kernel
theorem dL_law_565 : decode cL_law 565 = .ok (.iconst 1, 1) := by decide +kernel
theorem dL_law_566 : decode cL_law 566 = .ok (.iadd, 1) := by decide +kernel
theorem dL_law_567 : decode cL_law 567 = .ok (.iaload, 1) := by decide +kernel
theorem dL_law_568 : decode cL_law 568 = .ok (.aload_n 0, 1) := by decide +kernel
theorem dL_law_569 : decode cL_law 569 = .ok (.iload_n 3, 1) := by decide +kernel
theorem dL_law_570 : decode cL_law 570 = .ok (.iconst 2, 1) := by decide +kernel
theorem dL_law_571 : decode cL_law 571 = .ok (.iadd, 1) := by decide +kernel
theorem dL_law_572 : decode cL_law 572 = .ok (.iaload, 1) := by decide +kernel
theorem dL_law_573 : decode cL_law 573 = .ok (.invokevirtual 60, 3) := by decide +kernel
theorem dL_law_576 : decode cL_law 576 = .ok (.if_icmp .eq 685, 3) := by decide +kernel
theorem dL_law_579 : decode cL_law 579 = .ok (.iconst 0, 1) := by decide +kernel
theorem dL_law_580 : decode cL_law 580 = .ok (.ireturn, 1) := by decide +kernel
theorem dL_law_581 : decode cL_law 581 = .ok (.aload_n 1, 1) := by decide +kernel
theorem dL_law_582 : decode cL_law 582 = .ok (.aload_n 0, 1) := by decide +kernel
theorem dL_law_583 : decode cL_law 583 = .ok (.iload_n 3, 1) := by decide +kernel
theorem dL_law_584 : decode cL_law 584 = .ok (.iconst 1, 1) := by decide +kernel
theorem dL_law_585 : decode cL_law 585 = .ok (.iadd, 1) := by decide +kernel
theorem dL_law_586 : decode cL_law 586 = .ok (.iaload, 1) := by decide +kernel
theorem dL_law_587 : decode cL_law 587 = .ok (.aload_n 0, 1) := by decide +kernel
theorem dL_law_588 : decode cL_law 588 = .ok (.iload_n 3, 1) := by decide +kernel
theorem dL_law_589 : decode cL_law 589 = .ok (.iconst 2, 1) := by decide +kernel
theorem dL_law_590 : decode cL_law 590 = .ok (.iadd, 1) := by decide +kernel
theorem dL_law_591 : decode cL_law 591 = .ok (.iaload, 1) := by decide +kernel
theorem dL_law_592 : decode cL_law 592 = .ok (.invokevirtual 61, 3) := by decide +kernel
theorem dL_law_595 : decode cL_law 595 = .ok (.aload_n 2, 1) := by decide +kernel
theorem dL_law_596 : decode cL_law 596 = .ok (.aload_n 0, 1) := by decide +kernel
theorem dL_law_597 : decode cL_law 597 = .ok (.iload_n 3, 1) := by decide +kernel
theorem dL_law_598 : decode cL_law 598 = .ok (.iconst 1, 1) := by decide +kernel
theorem dL_law_599 : decode cL_law 599 = .ok (.iadd, 1) := by decide +kernel
theorem dL_law_600 : decode cL_law 600 = .ok (.iaload, 1) := by decide +kernel
theorem dL_law_601 : decode cL_law 601 = .ok (.aload_n 0, 1) := by decide +kernel
theorem dL_law_602 : decode cL_law 602 = .ok (.iload_n 3, 1) := by decide +kernel
theorem dL_law_603 : decode cL_law 603 = .ok (.iconst 2, 1) := by decide +kernel
theorem dL_law_604 : decode cL_law 604 = .ok (.iadd, 1) := by decide +kernel
theorem dL_law_605 : decode cL_law 605 = .ok (.iaload, 1) := by decide +kernel
theorem dL_law_606 : decode cL_law 606 = .ok (.invokevirtual 64, 3) := by decide +kernel
theorem dL_law_609 : decode cL_law 609 = .ok (.if_icmp .eq 652, 3) := by decide +kernel
theorem dL_law_612 : decode cL_law 612 = .ok (.iconst 0, 1) := by decide +kernel
theorem dL_law_613 : decode cL_law 613 = .ok (.ireturn, 1) := by decide +kernel
theorem dL_law_614 : decode cL_law 614 = .ok (.aload_n 1, 1) := by decide +kernel
theorem dL_law_615 : decode cL_law 615 = .ok (.aload_n 0, 1) := by decide +kernel
theorem dL_law_616 : decode cL_law 616 = .ok (.iload_n 3, 1) := by decide +kernel
theorem dL_law_617 : decode cL_law 617 = .ok (.iconst 1, 1) := by decide +kernel
theorem dL_law_618 : decode cL_law 618 = .ok (.iadd, 1) := by decide +kernel
theorem dL_law_619 : decode cL_law 619 = .ok (.iaload, 1) := by decide +kernel
theorem dL_law_620 : decode cL_law 620 = .ok (.aload_n 0, 1) := by decide +kernel
theorem dL_law_621 : decode cL_law 621 = .ok (.iload_n 3, 1) := by decide +kernel
theorem dL_law_622 : decode cL_law 622 = .ok (.iconst 2, 1) := by decide +kernel
theorem dL_law_623 : decode cL_law 623 = .ok (.iadd, 1) := by decide +kernel
theorem dL_law_624 : decode cL_law 624 = .ok (.iaload, 1) := by decide +kernel
theorem dL_law_625 : decode cL_law 625 = .ok (.invokevirtual 65, 3) := by decide +kernel
theorem dL_law_628 : decode cL_law 628 = .ok (.aload_n 2, 1) := by decide +kernel
theorem dL_law_629 : decode cL_law 629 = .ok (.aload_n 0, 1) := by decide +kernel
theorem dL_law_630 : decode cL_law 630 = .ok (.iload_n 3, 1) := by decide +kernel
theorem dL_law_631 : decode cL_law 631 = .ok (.iconst 1, 1) := by decide +kernel
theorem dL_law_632 : decode cL_law 632 = .ok (.iadd, 1) := by decide +kernel
theorem dL_law_633 : decode cL_law 633 = .ok (.iaload, 1) := by decide +kernel
theorem dL_law_634 : decode cL_law 634 = .ok (.aload_n 0, 1) := by decide +kernel
theorem dL_law_635 : decode cL_law 635 = .ok (.iload_n 3, 1) := by decide +kernel
theorem dL_law_636 : decode cL_law 636 = .ok (.iconst 2, 1) := by decide +kernel
theorem dL_law_637 : decode cL_law 637 = .ok (.iadd, 1) := by decide +kernel
theorem dL_law_638 : decode cL_law 638 = .ok (.iaload, 1) := by decide +kernel
theorem dL_law_639 : decode cL_law 639 = .ok (.invokevirtual 68, 3) := by decide +kernel
theorem dL_law_642 : decode cL_law 642 = .ok (.if_icmp .eq 619, 3) := by decide +kernel
theorem dL_law_645 : decode cL_law 645 = .ok (.iconst 0, 1) := by decide +kernel
theorem dL_law_646 : decode cL_law 646 = .ok (.ireturn, 1) := by decide +kernel
theorem dL_law_647 : decode cL_law 647 = .ok (.aload_n 1, 1) := by decide +kernel
theorem dL_law_648 : decode cL_law 648 = .ok (.invokevirtual 69, 3) := by decide +kernel
theorem dL_law_651 : decode cL_law 651 = .ok (.aload_n 2, 1) := by decide +kernel
theorem dL_law_652 : decode cL_law 652 = .ok (.invokevirtual 73, 3) := by decide +kernel
theorem dL_law_655 : decode cL_law 655 = .ok (.if_icmp .eq 606, 3) := by decide +kernel
theorem dL_law_658 : decode cL_law 658 = .ok (.iconst 0, 1) := by decide +kernel
theorem dL_law_659 : decode cL_law 659 = .ok (.ireturn, 1) := by decide +kernel
theorem dL_law_660 : decode cL_law 660 = .ok (.aload_n 1, 1) := by decide +kernel
theorem dL_law_661 : decode cL_law 661 = .ok (.aload_n 0, 1) := by decide +kernel
theorem dL_law_662 : decode cL_law 662 = .ok (.iload_n 3, 1) := by decide +kernel
theorem dL_law_663 : decode cL_law 663 = .ok (.iconst 1, 1) := by decide +kernel
theorem dL_law_664 : decode cL_law 664 = .ok (.iadd, 1) := by decide +kernel
theorem dL_law_665 : decode cL_law 665 = .ok (.iaload, 1) := by decide +kernel
theorem dL_law_666 : decode cL_law 666 = .ok (.aload_n 0, 1) := by decide +kernel
theorem dL_law_667 : decode cL_law 667 = .ok (.iload_n 3, 1) := by decide +kernel
theorem dL_law_668 : decode cL_law 668 = .ok (.iconst 2, 1) := by decide +kernel
theorem dL_law_669 : decode cL_law 669 = .ok (.iadd, 1) := by decide +kernel
theorem dL_law_670 : decode cL_law 670 = .ok (.iaload, 1) := by decide +kernel
theorem dL_law_671 : decode cL_law 671 = .ok (.invokevirtual 74, 3) := by decide +kernel
theorem dL_law_674 : decode cL_law 674 = .ok (.aload_n 2, 1) := by decide +kernel
theorem dL_law_675 : decode cL_law 675 = .ok (.aload_n 0, 1) := by decide +kernel
theorem dL_law_676 : decode cL_law 676 = .ok (.iload_n 3, 1) := by decide +kernel
theorem dL_law_677 : decode cL_law 677 = .ok (.iconst 1, 1) := by decide +kernel
theorem dL_law_678 : decode cL_law 678 = .ok (.iadd, 1) := by decide +kernel
theorem dL_law_679 : decode cL_law 679 = .ok (.iaload, 1) := by decide +kernel
theorem dL_law_680 : decode cL_law 680 = .ok (.aload_n 0, 1) := by decide +kernel
theorem dL_law_681 : decode cL_law 681 = .ok (.iload_n 3, 1) := by decide +kernel
theorem dL_law_682 : decode cL_law 682 = .ok (.iconst 2, 1) := by decide +kernel
theorem dL_law_683 : decode cL_law 683 = .ok (.iadd, 1) := by decide +kernel
theorem dL_law_684 : decode cL_law 684 = .ok (.iaload, 1) := by decide +kernel
theorem dL_law_685 : decode cL_law 685 = .ok (.invokevirtual 77, 3) := by decide +kernel
theorem dL_law_688 : decode cL_law 688 = .ok (.if_icmp .eq 573, 3) := by decide +kernel
theorem dL_law_691 : decode cL_law 691 = .ok (.iconst 0, 1) := by decide +kernel
theorem dL_law_692 : decode cL_law 692 = .ok (.ireturn, 1) := by decide +kernel
theorem dL_law_693 : decode cL_law 693 = .ok (.aload_n 1, 1) := by decide +kernel
theorem dL_law_694 : decode cL_law 694 = .ok (.aload_n 0, 1) := by decide +kernel
theorem dL_law_695 : decode cL_law 695 = .ok (.iload_n 3, 1) := by decide +kernel
theorem dL_law_696 : decode cL_law 696 = .ok (.iconst 1, 1) := by decide +kernel
theorem dL_law_697 : decode cL_law 697 = .ok (.iadd, 1) := by decide +kernel
theorem dL_law_698 : decode cL_law 698 = .ok (.iaload, 1) := by decide +kernel
theorem dL_law_699 : decode cL_law 699 = .ok (.invokevirtual 78, 3) := by decide +kernel
theorem dL_law_702 : decode cL_law 702 = .ok (.aload_n 2, 1) := by decide +kernel
theorem dL_law_703 : decode cL_law 703 = .ok (.aload_n 0, 1) := by decide +kernel
theorem dL_law_704 : decode cL_law 704 = .ok (.iload_n 3, 1) := by decide +kernel
theorem dL_law_705 : decode cL_law 705 = .ok (.iconst 1, 1) := by decide +kernel
theorem dL_law_706 : decode cL_law 706 = .ok (.iadd, 1) := by decide +kernel
theorem dL_law_707 : decode cL_law 707 = .ok (.iaload, 1) := by decide +kernel
theorem dL_law_708 : decode cL_law 708 = .ok (.invokevirtual 81, 3) := by decide +kernel
theorem dL_law_711 : decode cL_law 711 = .ok (.if_icmp .eq 550, 3) := by decide +kernel
theorem dL_law_714 : decode cL_law 714 = .ok (.iconst 0, 1) := by decide +kernel
theorem dL_law_715 : decode cL_law 715 = .ok (.ireturn, 1) := by decide +kernel
theorem dL_law_716 : decode cL_law 716 = .ok (.aload_n 1, 1) := by decide +kernel
theorem dL_law_717 : decode cL_law 717 = .ok (.aload_n 0, 1) := by decide +kernel
theorem dL_law_718 : decode cL_law 718 = .ok (.iload_n 3, 1) := by decide +kernel
theorem dL_law_719 : decode cL_law 719 = .ok (.iconst 1, 1) := by decide +kernel
theorem dL_law_720 : decode cL_law 720 = .ok (.iadd, 1) := by decide +kernel
theorem dL_law_721 : decode cL_law 721 = .ok (.iaload, 1) := by decide +kernel
theorem dL_law_722 : decode cL_law 722 = .ok (.invokevirtual 82, 3) := by decide +kernel
theorem dL_law_725 : decode cL_law 725 = .ok (.aload_n 2, 1) := by decide +kernel
theorem dL_law_726 : decode cL_law 726 = .ok (.aload_n 0, 1) := by decide +kernel
theorem dL_law_727 : decode cL_law 727 = .ok (.iload_n 3, 1) := by decide +kernel
theorem dL_law_728 : decode cL_law 728 = .ok (.iconst 1, 1) := by decide +kernel
theorem dL_law_729 : decode cL_law 729 = .ok (.iadd, 1) := by decide +kernel
theorem dL_law_730 : decode cL_law 730 = .ok (.iaload, 1) := by decide +kernel
theorem dL_law_731 : decode cL_law 731 = .ok (.invokevirtual 85, 3) := by decide +kernel
theorem dL_law_734 : decode cL_law 734 = .ok (.if_icmp .eq 527, 3) := by decide +kernel
theorem dL_law_737 : decode cL_law 737 = .ok (.iconst 0, 1) := by decide +kernel
theorem dL_law_738 : decode cL_law 738 = .ok (.ireturn, 1) := by decide +kernel
theorem dL_law_739 : decode cL_law 739 = .ok (.aload_n 1, 1) := by decide +kernel
theorem dL_law_740 : decode cL_law 740 = .ok (.aload_n 0, 1) := by decide +kernel
theorem dL_law_741 : decode cL_law 741 = .ok (.iload_n 3, 1) := by decide +kernel
theorem dL_law_742 : decode cL_law 742 = .ok (.iconst 1, 1) := by decide +kernel
theorem dL_law_743 : decode cL_law 743 = .ok (.iadd, 1) := by decide +kernel
theorem dL_law_744 : decode cL_law 744 = .ok (.iaload, 1) := by decide +kernel
theorem dL_law_745 : decode cL_law 745 = .ok (.invokevirtual 86, 3) := by decide +kernel
theorem dL_law_748 : decode cL_law 748 = .ok (.aload_n 2, 1) := by decide +kernel
theorem dL_law_749 : decode cL_law 749 = .ok (.aload_n 0, 1) := by decide +kernel
theorem dL_law_750 : decode cL_law 750 = .ok (.iload_n 3, 1) := by decide +kernel
theorem dL_law_751 : decode cL_law 751 = .ok (.iconst 1, 1) := by decide +kernel
theorem dL_law_752 : decode cL_law 752 = .ok (.iadd, 1) := by decide +kernel
theorem dL_law_753 : decode cL_law 753 = .ok (.iaload, 1) := by decide +kernel
theorem dL_law_754 : decode cL_law 754 = .ok (.invokevirtual 89, 3) := by decide +kernel
theorem dL_law_757 : decode cL_law 757 = .ok (.if_icmp .eq 504, 3) := by decide +kernel
theorem dL_law_760 : decode cL_law 760 = .ok (.iconst 0, 1) := by decide +kernel
theorem dL_law_761 : decode cL_law 761 = .ok (.ireturn, 1) := by decide +kernel
theorem dL_law_762 : decode cL_law 762 = .ok (.aload_n 1, 1) := by decide +kernel
theorem dL_law_763 : decode cL_law 763 = .ok (.aload_n 0, 1) := by decide +kernel
theorem dL_law_764 : decode cL_law 764 = .ok (.iload_n 3, 1) := by decide +kernel
theorem dL_law_765 : decode cL_law 765 = .ok (.iconst 1, 1) := by decide +kernel
theorem dL_law_766 : decode cL_law 766 = .ok (.iadd, 1) := by decide +kernel
theorem dL_law_767 : decode cL_law 767 = .ok (.iaload, 1) := by decide +kernel
theorem dL_law_768 : decode cL_law 768 = .ok (.invokevirtual 90, 3) := by decide +kernel
theorem dL_law_771 : decode cL_law 771 = .ok (.aload_n 2, 1) := by decide +kernel
theorem dL_law_772 : decode cL_law 772 = .ok (.aload_n 0, 1) := by decide +kernel
theorem dL_law_773 : decode cL_law 773 = .ok (.iload_n 3, 1) := by decide +kernel
theorem dL_law_774 : decode cL_law 774 = .ok (.iconst 1, 1) := by decide +kernel
theorem dL_law_775 : decode cL_law 775 = .ok (.iadd, 1) := by decide +kernel
theorem dL_law_776 : decode cL_law 776 = .ok (.iaload, 1) := by decide +kernel
theorem dL_law_777 : decode cL_law 777 = .ok (.invokevirtual 93, 3) := by decide +kernel
theorem dL_law_780 : decode cL_law 780 = .ok (.if_icmp .eq 481, 3) := by decide +kernel
theorem dL_law_783 : decode cL_law 783 = .ok (.iconst 0, 1) := by decide +kernel
theorem dL_law_784 : decode cL_law 784 = .ok (.ireturn, 1) := by decide +kernel
theorem dL_law_785 : decode cL_law 785 = .ok (.aload_n 1, 1) := by decide +kernel
theorem dL_law_786 : decode cL_law 786 = .ok (.aload_n 0, 1) := by decide +kernel
theorem dL_law_787 : decode cL_law 787 = .ok (.iload_n 3, 1) := by decide +kernel
theorem dL_law_788 : decode cL_law 788 = .ok (.iconst 1, 1) := by decide +kernel
theorem dL_law_789 : decode cL_law 789 = .ok (.iadd, 1) := by decide +kernel
theorem dL_law_790 : decode cL_law 790 = .ok (.iaload, 1) := by decide +kernel
theorem dL_law_791 : decode cL_law 791 = .ok (.invokevirtual 94, 3) := by decide +kernel
theorem dL_law_794 : decode cL_law 794 = .ok (.aload_n 2, 1) := by decide +kernel
theorem dL_law_795 : decode cL_law 795 = .ok (.aload_n 0, 1) := by decide +kernel
theorem dL_law_796 : decode cL_law 796 = .ok (.iload_n 3, 1) := by decide +kernel
theorem dL_law_797 : decode cL_law 797 = .ok (.iconst 1, 1) := by decide +kernel
theorem dL_law_798 : decode cL_law 798 = .ok (.iadd, 1) := by decide +kernel
theorem dL_law_799 : decode cL_law 799 = .ok (.iaload, 1) := by decide +kernel
theorem dL_law_800 : decode cL_law 800 = .ok (.invokevirtual 97, 3) := by decide +kernel
theorem dL_law_803 : decode cL_law 803 = .ok (.if_icmp .eq 458, 3) := by decide +kernel
theorem dL_law_806 : decode cL_law 806 = .ok (.iconst 0, 1) := by decide +kernel
theorem dL_law_807 : decode cL_law 807 = .ok (.ireturn, 1) := by decide +kernel
theorem dL_law_808 : decode cL_law 808 = .ok (.aload_n 1, 1) := by decide +kernel
theorem dL_law_809 : decode cL_law 809 = .ok (.aload_n 0, 1) := by decide +kernel
theorem dL_law_810 : decode cL_law 810 = .ok (.iload_n 3, 1) := by decide +kernel
theorem dL_law_811 : decode cL_law 811 = .ok (.iconst 1, 1) := by decide +kernel
theorem dL_law_812 : decode cL_law 812 = .ok (.iadd, 1) := by decide +kernel
theorem dL_law_813 : decode cL_law 813 = .ok (.iaload, 1) := by decide +kernel
theorem dL_law_814 : decode cL_law 814 = .ok (.invokevirtual 98, 3) := by decide +kernel
theorem dL_law_817 : decode cL_law 817 = .ok (.aload_n 2, 1) := by decide +kernel
theorem dL_law_818 : decode cL_law 818 = .ok (.aload_n 0, 1) := by decide +kernel
theorem dL_law_819 : decode cL_law 819 = .ok (.iload_n 3, 1) := by decide +kernel
theorem dL_law_820 : decode cL_law 820 = .ok (.iconst 1, 1) := by decide +kernel
theorem dL_law_821 : decode cL_law 821 = .ok (.iadd, 1) := by decide +kernel
theorem dL_law_822 : decode cL_law 822 = .ok (.iaload, 1) := by decide +kernel
theorem dL_law_823 : decode cL_law 823 = .ok (.invokevirtual 101, 3) := by decide +kernel
theorem dL_law_826 : decode cL_law 826 = .ok (.if_icmp .eq 435, 3) := by decide +kernel
theorem dL_law_829 : decode cL_law 829 = .ok (.iconst 0, 1) := by decide +kernel
theorem dL_law_830 : decode cL_law 830 = .ok (.ireturn, 1) := by decide +kernel
theorem dL_law_831 : decode cL_law 831 = .ok (.aload_n 1, 1) := by decide +kernel
theorem dL_law_832 : decode cL_law 832 = .ok (.invokevirtual 102, 3) := by decide +kernel
theorem dL_law_835 : decode cL_law 835 = .ok (.aload_n 2, 1) := by decide +kernel
theorem dL_law_836 : decode cL_law 836 = .ok (.invokevirtual 105, 3) := by decide +kernel
theorem dL_law_839 : decode cL_law 839 = .ok (.if_icmp .eq 422, 3) := by decide +kernel
theorem dL_law_842 : decode cL_law 842 = .ok (.iconst 0, 1) := by decide +kernel
theorem dL_law_843 : decode cL_law 843 = .ok (.ireturn, 1) := by decide +kernel
theorem dL_law_844 : decode cL_law 844 = .ok (.aload_n 1, 1) := by decide +kernel
theorem dL_law_845 : decode cL_law 845 = .ok (.aload_n 0, 1) := by decide +kernel
theorem dL_law_846 : decode cL_law 846 = .ok (.iload_n 3, 1) := by decide +kernel
theorem dL_law_847 : decode cL_law 847 = .ok (.iconst 1, 1) := by decide +kernel
theorem dL_law_848 : decode cL_law 848 = .ok (.iadd, 1) := by decide +kernel
theorem dL_law_849 : decode cL_law 849 = .ok (.iaload, 1) := by decide +kernel
theorem dL_law_850 : decode cL_law 850 = .ok (.invokevirtual 106, 3) := by decide +kernel
theorem dL_law_853 : decode cL_law 853 = .ok (.aload_n 2, 1) := by decide +kernel
theorem dL_law_854 : decode cL_law 854 = .ok (.aload_n 0, 1) := by decide +kernel
theorem dL_law_855 : decode cL_law 855 = .ok (.iload_n 3, 1) := by decide +kernel
theorem dL_law_856 : decode cL_law 856 = .ok (.iconst 1, 1) := by decide +kernel
theorem dL_law_857 : decode cL_law 857 = .ok (.iadd, 1) := by decide +kernel
theorem dL_law_858 : decode cL_law 858 = .ok (.iaload, 1) := by decide +kernel
theorem dL_law_859 : decode cL_law 859 = .ok (.invokevirtual 109, 3) := by decide +kernel
theorem dL_law_862 : decode cL_law 862 = .ok (.if_icmp .eq 399, 3) := by decide +kernel
theorem dL_law_865 : decode cL_law 865 = .ok (.iconst 0, 1) := by decide +kernel
theorem dL_law_866 : decode cL_law 866 = .ok (.ireturn, 1) := by decide +kernel
theorem dL_law_867 : decode cL_law 867 = .ok (.aload_n 1, 1) := by decide +kernel
theorem dL_law_868 : decode cL_law 868 = .ok (.invokevirtual 110, 3) := by decide +kernel
theorem dL_law_871 : decode cL_law 871 = .ok (.aload_n 2, 1) := by decide +kernel
theorem dL_law_872 : decode cL_law 872 = .ok (.invokevirtual 113, 3) := by decide +kernel
theorem dL_law_875 : decode cL_law 875 = .ok (.if_icmp .eq 386, 3) := by decide +kernel
theorem dL_law_878 : decode cL_law 878 = .ok (.iconst 0, 1) := by decide +kernel
theorem dL_law_879 : decode cL_law 879 = .ok (.ireturn, 1) := by decide +kernel
theorem dL_law_880 : decode cL_law 880 = .ok (.aload_n 1, 1) := by decide +kernel
theorem dL_law_881 : decode cL_law 881 = .ok (.aload_n 0, 1) := by decide +kernel
theorem dL_law_882 : decode cL_law 882 = .ok (.iload_n 3, 1) := by decide +kernel
theorem dL_law_883 : decode cL_law 883 = .ok (.iconst 1, 1) := by decide +kernel
theorem dL_law_884 : decode cL_law 884 = .ok (.iadd, 1) := by decide +kernel
theorem dL_law_885 : decode cL_law 885 = .ok (.iaload, 1) := by decide +kernel
theorem dL_law_886 : decode cL_law 886 = .ok (.aload_n 0, 1) := by decide +kernel
theorem dL_law_887 : decode cL_law 887 = .ok (.iload_n 3, 1) := by decide +kernel
theorem dL_law_888 : decode cL_law 888 = .ok (.iconst 2, 1) := by decide +kernel
theorem dL_law_889 : decode cL_law 889 = .ok (.iadd, 1) := by decide +kernel
theorem dL_law_890 : decode cL_law 890 = .ok (.iaload, 1) := by decide +kernel
theorem dL_law_891 : decode cL_law 891 = .ok (.invokevirtual 114, 3) := by decide +kernel
theorem dL_law_894 : decode cL_law 894 = .ok (.aload_n 2, 1) := by decide +kernel
theorem dL_law_895 : decode cL_law 895 = .ok (.aload_n 0, 1) := by decide +kernel
theorem dL_law_896 : decode cL_law 896 = .ok (.iload_n 3, 1) := by decide +kernel
theorem dL_law_897 : decode cL_law 897 = .ok (.iconst 1, 1) := by decide +kernel
theorem dL_law_898 : decode cL_law 898 = .ok (.iadd, 1) := by decide +kernel
theorem dL_law_899 : decode cL_law 899 = .ok (.iaload, 1) := by decide +kernel
theorem dL_law_900 : decode cL_law 900 = .ok (.aload_n 0, 1) := by decide +kernel
theorem dL_law_901 : decode cL_law 901 = .ok (.iload_n 3, 1) := by decide +kernel
theorem dL_law_902 : decode cL_law 902 = .ok (.iconst 2, 1) := by decide +kernel
theorem dL_law_903 : decode cL_law 903 = .ok (.iadd, 1) := by decide +kernel
theorem dL_law_904 : decode cL_law 904 = .ok (.iaload, 1) := by decide +kernel
theorem dL_law_905 : decode cL_law 905 = .ok (.invokevirtual 117, 3) := by decide +kernel
theorem dL_law_908 : decode cL_law 908 = .ok (.if_icmp .eq 353, 3) := by decide +kernel
theorem dL_law_911 : decode cL_law 911 = .ok (.iconst 0, 1) := by decide +kernel
theorem dL_law_912 : decode cL_law 912 = .ok (.ireturn, 1) := by decide +kernel
theorem dL_law_913 : decode cL_law 913 = .ok (.aload_n 1, 1) := by decide +kernel
theorem dL_law_914 : decode cL_law 914 = .ok (.aload_n 0, 1) := by decide +kernel
theorem dL_law_915 : decode cL_law 915 = .ok (.iload_n 3, 1) := by decide +kernel
theorem dL_law_916 : decode cL_law 916 = .ok (.iconst 1, 1) := by decide +kernel
theorem dL_law_917 : decode cL_law 917 = .ok (.iadd, 1) := by decide +kernel
theorem dL_law_918 : decode cL_law 918 = .ok (.iaload, 1) := by decide +kernel
theorem dL_law_919 : decode cL_law 919 = .ok (.invokevirtual 118, 3) := by decide +kernel
theorem dL_law_922 : decode cL_law 922 = .ok (.aload_n 2, 1) := by decide +kernel
theorem dL_law_923 : decode cL_law 923 = .ok (.aload_n 0, 1) := by decide +kernel
theorem dL_law_924 : decode cL_law 924 = .ok (.iload_n 3, 1) := by decide +kernel
theorem dL_law_925 : decode cL_law 925 = .ok (.iconst 1, 1) := by decide +kernel
theorem dL_law_926 : decode cL_law 926 = .ok (.iadd, 1) := by decide +kernel
theorem dL_law_927 : decode cL_law 927 = .ok (.iaload, 1) := by decide +kernel
theorem dL_law_928 : decode cL_law 928 = .ok (.invokevirtual 121, 3) := by decide +kernel
theorem dL_law_931 : decode cL_law 931 = .ok (.if_icmp .eq 330, 3) := by decide +kernel
theorem dL_law_934 : decode cL_law 934 = .ok (.iconst 0, 1) := by decide +kernel
theorem dL_law_935 : decode cL_law 935 = .ok (.ireturn, 1) := by decide +kernel
theorem dL_law_936 : decode cL_law 936 = .ok (.aload_n 1, 1) := by decide +kernel
theorem dL_law_937 : decode cL_law 937 = .ok (.aload_n 0, 1) := by decide +kernel
theorem dL_law_938 : decode cL_law 938 = .ok (.iload_n 3, 1) := by decide +kernel
theorem dL_law_939 : decode cL_law 939 = .ok (.iconst 1, 1) := by decide +kernel
theorem dL_law_940 : decode cL_law 940 = .ok (.iadd, 1) := by decide +kernel
theorem dL_law_941 : decode cL_law 941 = .ok (.iaload, 1) := by decide +kernel
theorem dL_law_942 : decode cL_law 942 = .ok (.invokevirtual 122, 3) := by decide +kernel
theorem dL_law_945 : decode cL_law 945 = .ok (.aload_n 2, 1) := by decide +kernel
theorem dL_law_946 : decode cL_law 946 = .ok (.aload_n 0, 1) := by decide +kernel
theorem dL_law_947 : decode cL_law 947 = .ok (.iload_n 3, 1) := by decide +kernel
theorem dL_law_948 : decode cL_law 948 = .ok (.iconst 1, 1) := by decide +kernel
theorem dL_law_949 : decode cL_law 949 = .ok (.iadd, 1) := by decide +kernel
theorem dL_law_950 : decode cL_law 950 = .ok (.iaload, 1) := by decide +kernel
theorem dL_law_951 : decode cL_law 951 = .ok (.invokevirtual 125, 3) := by decide +kernel
theorem dL_law_954 : decode cL_law 954 = .ok (.if_icmp .eq 307, 3) := by decide +kernel
theorem dL_law_957 : decode cL_law 957 = .ok (.iconst 0, 1) := by decide +kernel
theorem dL_law_958 : decode cL_law 958 = .ok (.ireturn, 1) := by decide +kernel
theorem dL_law_959 : decode cL_law 959 = .ok (.aload_n 1, 1) := by decide +kernel
theorem dL_law_960 : decode cL_law 960 = .ok (.aload_n 0, 1) := by decide +kernel
theorem dL_law_961 : decode cL_law 961 = .ok (.iload_n 3, 1) := by decide +kernel
theorem dL_law_962 : decode cL_law 962 = .ok (.iconst 1, 1) := by decide +kernel
theorem dL_law_963 : decode cL_law 963 = .ok (.iadd, 1) := by decide +kernel
theorem dL_law_964 : decode cL_law 964 = .ok (.iaload, 1) := by decide +kernel
theorem dL_law_965 : decode cL_law 965 = .ok (.aload_n 0, 1) := by decide +kernel
theorem dL_law_966 : decode cL_law 966 = .ok (.iload_n 3, 1) := by decide +kernel
theorem dL_law_967 : decode cL_law 967 = .ok (.iconst 2, 1) := by decide +kernel
theorem dL_law_968 : decode cL_law 968 = .ok (.iadd, 1) := by decide +kernel
theorem dL_law_969 : decode cL_law 969 = .ok (.iaload, 1) := by decide +kernel
theorem dL_law_970 : decode cL_law 970 = .ok (.invokevirtual 126, 3) := by decide +kernel
theorem dL_law_973 : decode cL_law 973 = .ok (.aload_n 2, 1) := by decide +kernel
theorem dL_law_974 : decode cL_law 974 = .ok (.aload_n 0, 1) := by decide +kernel
theorem dL_law_975 : decode cL_law 975 = .ok (.iload_n 3, 1) := by decide +kernel
theorem dL_law_976 : decode cL_law 976 = .ok (.iconst 1, 1) := by decide +kernel
theorem dL_law_977 : decode cL_law 977 = .ok (.iadd, 1) := by decide +kernel
theorem dL_law_978 : decode cL_law 978 = .ok (.iaload, 1) := by decide +kernel
theorem dL_law_979 : decode cL_law 979 = .ok (.aload_n 0, 1) := by decide +kernel
theorem dL_law_980 : decode cL_law 980 = .ok (.iload_n 3, 1) := by decide +kernel
theorem dL_law_981 : decode cL_law 981 = .ok (.iconst 2, 1) := by decide +kernel
theorem dL_law_982 : decode cL_law 982 = .ok (.iadd, 1) := by decide +kernel
theorem dL_law_983 : decode cL_law 983 = .ok (.iaload, 1) := by decide +kernel
theorem dL_law_984 : decode cL_law 984 = .ok (.invokevirtual 129, 3) := by decide +kernel
theorem dL_law_987 : decode cL_law 987 = .ok (.if_icmp .eq 274, 3) := by decide +kernel
theorem dL_law_990 : decode cL_law 990 = .ok (.iconst 0, 1) := by decide +kernel
theorem dL_law_991 : decode cL_law 991 = .ok (.ireturn, 1) := by decide +kernel
theorem dL_law_992 : decode cL_law 992 = .ok (.aload_n 1, 1) := by decide +kernel
theorem dL_law_993 : decode cL_law 993 = .ok (.aload_n 0, 1) := by decide +kernel
theorem dL_law_994 : decode cL_law 994 = .ok (.iload_n 3, 1) := by decide +kernel
theorem dL_law_995 : decode cL_law 995 = .ok (.iconst 1, 1) := by decide +kernel
theorem dL_law_996 : decode cL_law 996 = .ok (.iadd, 1) := by decide +kernel
theorem dL_law_997 : decode cL_law 997 = .ok (.iaload, 1) := by decide +kernel
theorem dL_law_998 : decode cL_law 998 = .ok (.invokevirtual 130, 3) := by decide +kernel
theorem dL_law_1001 : decode cL_law 1001 = .ok (.aload_n 2, 1) := by decide +kernel
theorem dL_law_1002 : decode cL_law 1002 = .ok (.aload_n 0, 1) := by decide +kernel
theorem dL_law_1003 : decode cL_law 1003 = .ok (.iload_n 3, 1) := by decide +kernel
theorem dL_law_1004 : decode cL_law 1004 = .ok (.iconst 1, 1) := by decide +kernel
theorem dL_law_1005 : decode cL_law 1005 = .ok (.iadd, 1) := by decide +kernel
theorem dL_law_1006 : decode cL_law 1006 = .ok (.iaload, 1) := by decide +kernel
theorem dL_law_1007 : decode cL_law 1007 = .ok (.invokevirtual 133, 3) := by decide +kernel
theorem dL_law_1010 : decode cL_law 1010 = .ok (.if_icmp .eq 251, 3) := by decide +kernel
theorem dL_law_1013 : decode cL_law 1013 = .ok (.iconst 0, 1) := by decide +kernel
theorem dL_law_1014 : decode cL_law 1014 = .ok (.ireturn, 1) := by decide +kernel
theorem dL_law_1015 : decode cL_law 1015 = .ok (.aload_n 1, 1) := by decide +kernel
theorem dL_law_1016 : decode cL_law 1016 = .ok (.aload_n 0, 1) := by decide +kernel
theorem dL_law_1017 : decode cL_law 1017 = .ok (.iload_n 3, 1) := by decide +kernel
theorem dL_law_1018 : decode cL_law 1018 = .ok (.iconst 1, 1) := by decide +kernel
theorem dL_law_1019 : decode cL_law 1019 = .ok (.iadd, 1) := by decide +kernel
theorem dL_law_1020 : decode cL_law 1020 = .ok (.iaload, 1) := by decide +kernel
theorem dL_law_1021 : decode cL_law 1021 = .ok (.invokevirtual 134, 3) := by decide +kernel
theorem dL_law_1024 : decode cL_law 1024 = .ok (.aload_n 2, 1) := by decide +kernel
theorem dL_law_1025 : decode cL_law 1025 = .ok (.aload_n 0, 1) := by decide +kernel
theorem dL_law_1026 : decode cL_law 1026 = .ok (.iload_n 3, 1) := by decide +kernel
theorem dL_law_1027 : decode cL_law 1027 = .ok (.iconst 1, 1) := by decide +kernel
theorem dL_law_1028 : decode cL_law 1028 = .ok (.iadd, 1) := by decide +kernel
theorem dL_law_1029 : decode cL_law 1029 = .ok (.iaload, 1) := by decide +kernel
theorem dL_law_1030 : decode cL_law 1030 = .ok (.invokevirtual 137, 3) := by decide +kernel
theorem dL_law_1033 : decode cL_law 1033 = .ok (.if_icmp .eq 228, 3) := by decide +kernel
theorem dL_law_1036 : decode cL_law 1036 = .ok (.iconst 0, 1) := by decide +kernel
theorem dL_law_1037 : decode cL_law 1037 = .ok (.ireturn, 1) := by decide +kernel
theorem dL_law_1038 : decode cL_law 1038 = .ok (.aload_n 1, 1) := by decide +kernel
theorem dL_law_1039 : decode cL_law 1039 = .ok (.aload_n 0, 1) := by decide +kernel
theorem dL_law_1040 : decode cL_law 1040 = .ok (.iload_n 3, 1) := by decide +kernel
theorem dL_law_1041 : decode cL_law 1041 = .ok (.iconst 1, 1) := by decide +kernel
theorem dL_law_1042 : decode cL_law 1042 = .ok (.iadd, 1) := by decide +kernel
theorem dL_law_1043 : decode cL_law 1043 = .ok (.iaload, 1) := by decide +kernel
theorem dL_law_1044 : decode cL_law 1044 = .ok (.aload_n 0, 1) := by decide +kernel
theorem dL_law_1045 : decode cL_law 1045 = .ok (.iload_n 3, 1) := by decide +kernel
theorem dL_law_1046 : decode cL_law 1046 = .ok (.iconst 2, 1) := by decide +kernel
theorem dL_law_1047 : decode cL_law 1047 = .ok (.iadd, 1) := by decide +kernel
theorem dL_law_1048 : decode cL_law 1048 = .ok (.iaload, 1) := by decide +kernel
theorem dL_law_1049 : decode cL_law 1049 = .ok (.aload_n 0, 1) := by decide +kernel
theorem dL_law_1050 : decode cL_law 1050 = .ok (.iload_n 3, 1) := by decide +kernel
theorem dL_law_1051 : decode cL_law 1051 = .ok (.iconst 3, 1) := by decide +kernel
theorem dL_law_1052 : decode cL_law 1052 = .ok (.iadd, 1) := by decide +kernel
theorem dL_law_1053 : decode cL_law 1053 = .ok (.iaload, 1) := by decide +kernel
theorem dL_law_1054 : decode cL_law 1054 = .ok (.invokevirtual 138, 3) := by decide +kernel
theorem dL_law_1057 : decode cL_law 1057 = .ok (.aload_n 2, 1) := by decide +kernel
theorem dL_law_1058 : decode cL_law 1058 = .ok (.aload_n 0, 1) := by decide +kernel
theorem dL_law_1059 : decode cL_law 1059 = .ok (.iload_n 3, 1) := by decide +kernel
theorem dL_law_1060 : decode cL_law 1060 = .ok (.iconst 1, 1) := by decide +kernel
theorem dL_law_1061 : decode cL_law 1061 = .ok (.iadd, 1) := by decide +kernel
theorem dL_law_1062 : decode cL_law 1062 = .ok (.iaload, 1) := by decide +kernel
theorem dL_law_1063 : decode cL_law 1063 = .ok (.aload_n 0, 1) := by decide +kernel
theorem dL_law_1064 : decode cL_law 1064 = .ok (.iload_n 3, 1) := by decide +kernel
theorem dL_law_1065 : decode cL_law 1065 = .ok (.iconst 2, 1) := by decide +kernel
theorem dL_law_1066 : decode cL_law 1066 = .ok (.iadd, 1) := by decide +kernel
theorem dL_law_1067 : decode cL_law 1067 = .ok (.iaload, 1) := by decide +kernel
theorem dL_law_1068 : decode cL_law 1068 = .ok (.aload_n 0, 1) := by decide +kernel
theorem dL_law_1069 : decode cL_law 1069 = .ok (.iload_n 3, 1) := by decide +kernel
theorem dL_law_1070 : decode cL_law 1070 = .ok (.iconst 3, 1) := by decide +kernel
theorem dL_law_1071 : decode cL_law 1071 = .ok (.iadd, 1) := by decide +kernel
theorem dL_law_1072 : decode cL_law 1072 = .ok (.iaload, 1) := by decide +kernel
theorem dL_law_1073 : decode cL_law 1073 = .ok (.invokevirtual 141, 3) := by decide +kernel
theorem dL_law_1076 : decode cL_law 1076 = .ok (.if_icmp .eq 185, 3) := by decide +kernel
theorem dL_law_1079 : decode cL_law 1079 = .ok (.iconst 0, 1) := by decide +kernel
theorem dL_law_1080 : decode cL_law 1080 = .ok (.ireturn, 1) := by decide +kernel
theorem dL_law_1081 : decode cL_law 1081 = .ok (.aload_n 1, 1) := by decide +kernel
theorem dL_law_1082 : decode cL_law 1082 = .ok (.aload_n 0, 1) := by decide +kernel
theorem dL_law_1083 : decode cL_law 1083 = .ok (.iload_n 3, 1) := by decide +kernel
theorem dL_law_1084 : decode cL_law 1084 = .ok (.iconst 1, 1) := by decide +kernel
theorem dL_law_1085 : decode cL_law 1085 = .ok (.iadd, 1) := by decide +kernel
theorem dL_law_1086 : decode cL_law 1086 = .ok (.iaload, 1) := by decide +kernel
theorem dL_law_1087 : decode cL_law 1087 = .ok (.aload_n 0, 1) := by decide +kernel
theorem dL_law_1088 : decode cL_law 1088 = .ok (.iload_n 3, 1) := by decide +kernel
theorem dL_law_1089 : decode cL_law 1089 = .ok (.iconst 2, 1) := by decide +kernel
theorem dL_law_1090 : decode cL_law 1090 = .ok (.iadd, 1) := by decide +kernel
theorem dL_law_1091 : decode cL_law 1091 = .ok (.iaload, 1) := by decide +kernel
theorem dL_law_1092 : decode cL_law 1092 = .ok (.invokevirtual 142, 3) := by decide +kernel
theorem dL_law_1095 : decode cL_law 1095 = .ok (.aload_n 2, 1) := by decide +kernel
theorem dL_law_1096 : decode cL_law 1096 = .ok (.aload_n 0, 1) := by decide +kernel
theorem dL_law_1097 : decode cL_law 1097 = .ok (.iload_n 3, 1) := by decide +kernel
theorem dL_law_1098 : decode cL_law 1098 = .ok (.iconst 1, 1) := by decide +kernel
theorem dL_law_1099 : decode cL_law 1099 = .ok (.iadd, 1) := by decide +kernel
theorem dL_law_1100 : decode cL_law 1100 = .ok (.iaload, 1) := by decide +kernel
theorem dL_law_1101 : decode cL_law 1101 = .ok (.aload_n 0, 1) := by decide +kernel
theorem dL_law_1102 : decode cL_law 1102 = .ok (.iload_n 3, 1) := by decide +kernel
theorem dL_law_1103 : decode cL_law 1103 = .ok (.iconst 2, 1) := by decide +kernel
theorem dL_law_1104 : decode cL_law 1104 = .ok (.iadd, 1) := by decide +kernel
theorem dL_law_1105 : decode cL_law 1105 = .ok (.iaload, 1) := by decide +kernel
theorem dL_law_1106 : decode cL_law 1106 = .ok (.invokevirtual 145, 3) := by decide +kernel
theorem dL_law_1109 : decode cL_law 1109 = .ok (.if_icmp .eq 152, 3) := by decide +kernel
theorem dL_law_1112 : decode cL_law 1112 = .ok (.iconst 0, 1) := by decide +kernel
theorem dL_law_1113 : decode cL_law 1113 = .ok (.ireturn, 1) := by decide +kernel
theorem dL_law_1114 : decode cL_law 1114 = .ok (.aload_n 1, 1) := by decide +kernel
theorem dL_law_1115 : decode cL_law 1115 = .ok (.aload_n 0, 1) := by decide +kernel
theorem dL_law_1116 : decode cL_law 1116 = .ok (.iload_n 3, 1) := by decide +kernel
theorem dL_law_1117 : decode cL_law 1117 = .ok (.iconst 1, 1) := by decide +kernel
theorem dL_law_1118 : decode cL_law 1118 = .ok (.iadd, 1) := by decide +kernel
theorem dL_law_1119 : decode cL_law 1119 = .ok (.iaload, 1) := by decide +kernel
theorem dL_law_1120 : decode cL_law 1120 = .ok (.aload_n 0, 1) := by decide +kernel
theorem dL_law_1121 : decode cL_law 1121 = .ok (.iload_n 3, 1) := by decide +kernel
theorem dL_law_1122 : decode cL_law 1122 = .ok (.iconst 2, 1) := by decide +kernel
theorem dL_law_1123 : decode cL_law 1123 = .ok (.iadd, 1) := by decide +kernel
theorem dL_law_1124 : decode cL_law 1124 = .ok (.iaload, 1) := by decide +kernel
theorem dL_law_1125 : decode cL_law 1125 = .ok (.invokevirtual 146, 3) := by decide +kernel
theorem dL_law_1128 : decode cL_law 1128 = .ok (.aload_n 2, 1) := by decide +kernel
theorem dL_law_1129 : decode cL_law 1129 = .ok (.aload_n 0, 1) := by decide +kernel
theorem dL_law_1130 : decode cL_law 1130 = .ok (.iload_n 3, 1) := by decide +kernel
theorem dL_law_1131 : decode cL_law 1131 = .ok (.iconst 1, 1) := by decide +kernel
theorem dL_law_1132 : decode cL_law 1132 = .ok (.iadd, 1) := by decide +kernel
theorem dL_law_1133 : decode cL_law 1133 = .ok (.iaload, 1) := by decide +kernel
theorem dL_law_1134 : decode cL_law 1134 = .ok (.aload_n 0, 1) := by decide +kernel
theorem dL_law_1135 : decode cL_law 1135 = .ok (.iload_n 3, 1) := by decide +kernel
theorem dL_law_1136 : decode cL_law 1136 = .ok (.iconst 2, 1) := by decide +kernel
theorem dL_law_1137 : decode cL_law 1137 = .ok (.iadd, 1) := by decide +kernel
theorem dL_law_1138 : decode cL_law 1138 = .ok (.iaload, 1) := by decide +kernel
theorem dL_law_1139 : decode cL_law 1139 = .ok (.invokevirtual 149, 3) := by decide +kernel
theorem dL_law_1142 : decode cL_law 1142 = .ok (.if_icmp .eq 119, 3) := by decide +kernel
theorem dL_law_1145 : decode cL_law 1145 = .ok (.iconst 0, 1) := by decide +kernel
theorem dL_law_1146 : decode cL_law 1146 = .ok (.ireturn, 1) := by decide +kernel
theorem dL_law_1147 : decode cL_law 1147 = .ok (.aload_n 1, 1) := by decide +kernel
theorem dL_law_1148 : decode cL_law 1148 = .ok (.invokevirtual 150, 3) := by decide +kernel
theorem dL_law_1151 : decode cL_law 1151 = .ok (.aload_n 2, 1) := by decide +kernel
theorem dL_law_1152 : decode cL_law 1152 = .ok (.invokevirtual 153, 3) := by decide +kernel
theorem dL_law_1155 : decode cL_law 1155 = .ok (.if_icmp .eq 106, 3) := by decide +kernel
theorem dL_law_1158 : decode cL_law 1158 = .ok (.iconst 0, 1) := by decide +kernel
theorem dL_law_1159 : decode cL_law 1159 = .ok (.ireturn, 1) := by decide +kernel
theorem dL_law_1160 : decode cL_law 1160 = .ok (.aload_n 1, 1) := by decide +kernel
theorem dL_law_1161 : decode cL_law 1161 = .ok (.invokevirtual 154, 3) := by decide +kernel
theorem dL_law_1164 : decode cL_law 1164 = .ok (.aload_n 2, 1) := by decide +kernel
theorem dL_law_1165 : decode cL_law 1165 = .ok (.invokevirtual 158, 3) := by decide +kernel
theorem dL_law_1168 : decode cL_law 1168 = .ok (.lcmp, 1) := by decide +kernel
theorem dL_law_1169 : decode cL_law 1169 = .ok (.ifCond .eq 92, 3) := by decide +kernel
theorem dL_law_1172 : decode cL_law 1172 = .ok (.iconst 0, 1) := by decide +kernel
theorem dL_law_1173 : decode cL_law 1173 = .ok (.ireturn, 1) := by decide +kernel
theorem dL_law_1174 : decode cL_law 1174 = .ok (.aload_n 1, 1) := by decide +kernel
theorem dL_law_1175 : decode cL_law 1175 = .ok (.invokevirtual 159, 3) := by decide +kernel
theorem dL_law_1178 : decode cL_law 1178 = .ok (.aload_n 2, 1) := by decide +kernel
theorem dL_law_1179 : decode cL_law 1179 = .ok (.invokevirtual 162, 3) := by decide +kernel
theorem dL_law_1182 : decode cL_law 1182 = .ok (.lcmp, 1) := by decide +kernel
theorem dL_law_1183 : decode cL_law 1183 = .ok (.ifCond .eq 78, 3) := by decide +kernel
theorem dL_law_1186 : decode cL_law 1186 = .ok (.iconst 0, 1) := by decide +kernel
theorem dL_law_1187 : decode cL_law 1187 = .ok (.ireturn, 1) := by decide +kernel
theorem dL_law_1188 : decode cL_law 1188 = .ok (.aload_n 1, 1) := by decide +kernel
theorem dL_law_1189 : decode cL_law 1189 = .ok (.aload_n 0, 1) := by decide +kernel
theorem dL_law_1190 : decode cL_law 1190 = .ok (.iload_n 3, 1) := by decide +kernel
theorem dL_law_1191 : decode cL_law 1191 = .ok (.iconst 1, 1) := by decide +kernel
theorem dL_law_1192 : decode cL_law 1192 = .ok (.iadd, 1) := by decide +kernel
theorem dL_law_1193 : decode cL_law 1193 = .ok (.iaload, 1) := by decide +kernel
theorem dL_law_1194 : decode cL_law 1194 = .ok (.invokevirtual 163, 3) := by decide +kernel
theorem dL_law_1197 : decode cL_law 1197 = .ok (.aload_n 2, 1) := by decide +kernel
theorem dL_law_1198 : decode cL_law 1198 = .ok (.aload_n 0, 1) := by decide +kernel
theorem dL_law_1199 : decode cL_law 1199 = .ok (.iload_n 3, 1) := by decide +kernel
theorem dL_law_1200 : decode cL_law 1200 = .ok (.iconst 1, 1) := by decide +kernel
theorem dL_law_1201 : decode cL_law 1201 = .ok (.iadd, 1) := by decide +kernel
theorem dL_law_1202 : decode cL_law 1202 = .ok (.iaload, 1) := by decide +kernel
theorem dL_law_1203 : decode cL_law 1203 = .ok (.invokevirtual 166, 3) := by decide +kernel
theorem dL_law_1206 : decode cL_law 1206 = .ok (.if_icmp .eq 55, 3) := by decide +kernel
theorem dL_law_1209 : decode cL_law 1209 = .ok (.iconst 0, 1) := by decide +kernel
theorem dL_law_1210 : decode cL_law 1210 = .ok (.ireturn, 1) := by decide +kernel
theorem dL_law_1211 : decode cL_law 1211 = .ok (.aload_n 1, 1) := by decide +kernel
theorem dL_law_1212 : decode cL_law 1212 = .ok (.invokevirtual 167, 3) := by decide +kernel
theorem dL_law_1215 : decode cL_law 1215 = .ok (.aload_n 2, 1) := by decide +kernel
theorem dL_law_1216 : decode cL_law 1216 = .ok (.invokevirtual 170, 3) := by decide +kernel
theorem dL_law_1219 : decode cL_law 1219 = .ok (.if_icmp .eq 42, 3) := by decide +kernel
theorem dL_law_1222 : decode cL_law 1222 = .ok (.iconst 0, 1) := by decide +kernel
theorem dL_law_1223 : decode cL_law 1223 = .ok (.ireturn, 1) := by decide +kernel
theorem dL_law_1224 : decode cL_law 1224 = .ok (.aload_n 1, 1) := by decide +kernel
theorem dL_law_1225 : decode cL_law 1225 = .ok (.aload_n 0, 1) := by decide +kernel
theorem dL_law_1226 : decode cL_law 1226 = .ok (.iload_n 3, 1) := by decide +kernel
theorem dL_law_1227 : decode cL_law 1227 = .ok (.iconst 1, 1) := by decide +kernel
theorem dL_law_1228 : decode cL_law 1228 = .ok (.iadd, 1) := by decide +kernel
theorem dL_law_1229 : decode cL_law 1229 = .ok (.iaload, 1) := by decide +kernel
theorem dL_law_1230 : decode cL_law 1230 = .ok (.invokevirtual 171, 3) := by decide +kernel
theorem dL_law_1233 : decode cL_law 1233 = .ok (.aload_n 2, 1) := by decide +kernel
theorem dL_law_1234 : decode cL_law 1234 = .ok (.aload_n 0, 1) := by decide +kernel
theorem dL_law_1235 : decode cL_law 1235 = .ok (.iload_n 3, 1) := by decide +kernel
theorem dL_law_1236 : decode cL_law 1236 = .ok (.iconst 1, 1) := by decide +kernel
theorem dL_law_1237 : decode cL_law 1237 = .ok (.iadd, 1) := by decide +kernel
theorem dL_law_1238 : decode cL_law 1238 = .ok (.iaload, 1) := by decide +kernel
theorem dL_law_1239 : decode cL_law 1239 = .ok (.invokevirtual 174, 3) := by decide +kernel
theorem dL_law_1242 : decode cL_law 1242 = .ok (.if_icmp .eq 19, 3) := by decide +kernel
theorem dL_law_1245 : decode cL_law 1245 = .ok (.iconst 0, 1) := by decide +kernel
theorem dL_law_1246 : decode cL_law 1246 = .ok (.ireturn, 1) := by decide +kernel
theorem dL_law_1247 : decode cL_law 1247 = .ok (.aload_n 1, 1) := by decide +kernel
theorem dL_law_1248 : decode cL_law 1248 = .ok (.invokevirtual 175, 3) := by decide +kernel
theorem dL_law_1251 : decode cL_law 1251 = .ok (.aload_n 2, 1) := by decide +kernel
theorem dL_law_1252 : decode cL_law 1252 = .ok (.invokevirtual 178, 3) := by decide +kernel
theorem dL_law_1255 : decode cL_law 1255 = .ok (.lcmp, 1) := by decide +kernel
theorem dL_law_1256 : decode cL_law 1256 = .ok (.ifCond .eq 5, 3) := by decide +kernel
theorem dL_law_1259 : decode cL_law 1259 = .ok (.iconst 0, 1) := by decide +kernel
theorem dL_law_1260 : decode cL_law 1260 = .ok (.ireturn, 1) := by decide +kernel
theorem dL_law_1261 : decode cL_law 1261 = .ok (.iinc 3 6, 3) := by decide +kernel
theorem dL_law_1264 : decode cL_law 1264 = .ok (.goto (-1246), 3) := by decide +kernel
theorem dL_law_1267 : decode cL_law 1267 = .ok (.iconst 1, 1) := by decide +kernel
theorem dL_law_1268 : decode cL_law 1268 = .ok (.ireturn, 1) := by decide +kernel
end
section
theorem zz_end : True := trivial
end
