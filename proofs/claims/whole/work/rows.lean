section
-- ===== PART A: goes FIRST, ahead of the names: the tables' words, and 'selects' of the private methods out of them =====
/-- a private method of a class that the tables say can be made, by its rows of tables_1 -/
def lw_okq (q : MethodName × Nat) : Prop := (q.1.cls ≠ "java/lang/invoke/MethodHandle" ∧ q.1.cls ≠ "java/lang/invoke/VarHandle") ∧ Cond.instantiable q.1.cls q.2 ∈ tables_1 ∧ Cond.privateMethod q.1 ∈ tables_1 ∧ Cond.instanceMethod q.1 ∈ tables_1
theorem lw_p0 : lw_okq (⟨"GhostTrain", "found", "(I)I"⟩, 10) := ⟨⟨by decide +kernel, by decide +kernel⟩, List.mem_of_getElem? (i := 14) (by decide +kernel), List.mem_of_getElem? (i := 283) (by decide +kernel), List.mem_of_getElem? (i := 284) (by decide +kernel)⟩
theorem lw_p1 : lw_okq (⟨"GhostTrain$Row", "begin", "(II)V"⟩, 4) := ⟨⟨by decide +kernel, by decide +kernel⟩, List.mem_of_getElem? (i := 217) (by decide +kernel), List.mem_of_getElem? (i := 288) (by decide +kernel), List.mem_of_getElem? (i := 289) (by decide +kernel)⟩
theorem lw_p2 : lw_okq (⟨"GhostTrain", "fine", "(I)I"⟩, 10) := ⟨⟨by decide +kernel, by decide +kernel⟩, List.mem_of_getElem? (i := 14) (by decide +kernel), List.mem_of_getElem? (i := 295) (by decide +kernel), List.mem_of_getElem? (i := 296) (by decide +kernel)⟩
theorem lw_p3 : lw_okq (⟨"GhostTrain$Row", "cut", "(I)I"⟩, 4) := ⟨⟨by decide +kernel, by decide +kernel⟩, List.mem_of_getElem? (i := 217) (by decide +kernel), List.mem_of_getElem? (i := 303) (by decide +kernel), List.mem_of_getElem? (i := 304) (by decide +kernel)⟩
theorem lw_p4 : lw_okq (⟨"GhostTrain$Row", "holds", "(II)Z"⟩, 4) := ⟨⟨by decide +kernel, by decide +kernel⟩, List.mem_of_getElem? (i := 217) (by decide +kernel), List.mem_of_getElem? (i := 311) (by decide +kernel), List.mem_of_getElem? (i := 312) (by decide +kernel)⟩
theorem lw_p5 : lw_okq (⟨"GhostTrain$Tape", "readInto", "(LGhostTrain$Train;)Z"⟩, 4) := ⟨⟨by decide +kernel, by decide +kernel⟩, List.mem_of_getElem? (i := 24) (by decide +kernel), List.mem_of_getElem? (i := 331) (by decide +kernel), List.mem_of_getElem? (i := 332) (by decide +kernel)⟩
theorem lw_p6 : lw_okq (⟨"GhostTrain$Train", "clear", "()V"⟩, 19) := ⟨⟨by decide +kernel, by decide +kernel⟩, List.mem_of_getElem? (i := 48) (by decide +kernel), List.mem_of_getElem? (i := 335) (by decide +kernel), List.mem_of_getElem? (i := 336) (by decide +kernel)⟩
theorem lw_p7 : lw_okq (⟨"GhostTrain$Tape", "readLaw", "(LGhostTrain$Train;)Z"⟩, 4) := ⟨⟨by decide +kernel, by decide +kernel⟩, List.mem_of_getElem? (i := 24) (by decide +kernel), List.mem_of_getElem? (i := 340) (by decide +kernel), List.mem_of_getElem? (i := 341) (by decide +kernel)⟩
theorem lw_p8 : lw_okq (⟨"GhostTrain$Tape", "readSign", "(I)Z"⟩, 4) := ⟨⟨by decide +kernel, by decide +kernel⟩, List.mem_of_getElem? (i := 24) (by decide +kernel), List.mem_of_getElem? (i := 344) (by decide +kernel), List.mem_of_getElem? (i := 345) (by decide +kernel)⟩
theorem lw_p9 : lw_okq (⟨"GhostTrain$Tape", "next", "()I"⟩, 4) := ⟨⟨by decide +kernel, by decide +kernel⟩, List.mem_of_getElem? (i := 24) (by decide +kernel), List.mem_of_getElem? (i := 348) (by decide +kernel), List.mem_of_getElem? (i := 349) (by decide +kernel)⟩
theorem lw_p10 : lw_okq (⟨"GhostTrain$Tape", "faulty", "(I)Z"⟩, 4) := ⟨⟨by decide +kernel, by decide +kernel⟩, List.mem_of_getElem? (i := 24) (by decide +kernel), List.mem_of_getElem? (i := 353) (by decide +kernel), List.mem_of_getElem? (i := 354) (by decide +kernel)⟩
theorem lw_p11 : lw_okq (⟨"GhostTrain$Tape", "readNumber", "(II)I"⟩, 4) := ⟨⟨by decide +kernel, by decide +kernel⟩, List.mem_of_getElem? (i := 24) (by decide +kernel), List.mem_of_getElem? (i := 357) (by decide +kernel), List.mem_of_getElem? (i := 358) (by decide +kernel)⟩
theorem lw_p12 : lw_okq (⟨"GhostTrain$Tape", "readTricks", "(LGhostTrain$Train;)Z"⟩, 4) := ⟨⟨by decide +kernel, by decide +kernel⟩, List.mem_of_getElem? (i := 24) (by decide +kernel), List.mem_of_getElem? (i := 362) (by decide +kernel), List.mem_of_getElem? (i := 363) (by decide +kernel)⟩
theorem lw_p13 : lw_okq (⟨"GhostTrain$Train", "addTrick", "(III)V"⟩, 19) := ⟨⟨by decide +kernel, by decide +kernel⟩, List.mem_of_getElem? (i := 48) (by decide +kernel), List.mem_of_getElem? (i := 369) (by decide +kernel), List.mem_of_getElem? (i := 370) (by decide +kernel)⟩
theorem lw_p14 : lw_okq (⟨"GhostTrain$Tape", "readCars", "(LGhostTrain$Train;)Z"⟩, 4) := ⟨⟨by decide +kernel, by decide +kernel⟩, List.mem_of_getElem? (i := 24) (by decide +kernel), List.mem_of_getElem? (i := 373) (by decide +kernel), List.mem_of_getElem? (i := 374) (by decide +kernel)⟩
theorem lw_p15 : lw_okq (⟨"GhostTrain$Train", "addCar", "(III)V"⟩, 19) := ⟨⟨by decide +kernel, by decide +kernel⟩, List.mem_of_getElem? (i := 48) (by decide +kernel), List.mem_of_getElem? (i := 377) (by decide +kernel), List.mem_of_getElem? (i := 378) (by decide +kernel)⟩
def lw_privs_1 : List (MethodName × Nat) := [(⟨"GhostTrain", "found", "(I)I"⟩, 10), (⟨"GhostTrain$Row", "begin", "(II)V"⟩, 4), (⟨"GhostTrain", "fine", "(I)I"⟩, 10), (⟨"GhostTrain$Row", "cut", "(I)I"⟩, 4), (⟨"GhostTrain$Row", "holds", "(II)Z"⟩, 4), (⟨"GhostTrain$Tape", "readInto", "(LGhostTrain$Train;)Z"⟩, 4), (⟨"GhostTrain$Train", "clear", "()V"⟩, 19), (⟨"GhostTrain$Tape", "readLaw", "(LGhostTrain$Train;)Z"⟩, 4), (⟨"GhostTrain$Tape", "readSign", "(I)Z"⟩, 4), (⟨"GhostTrain$Tape", "next", "()I"⟩, 4), (⟨"GhostTrain$Tape", "faulty", "(I)Z"⟩, 4), (⟨"GhostTrain$Tape", "readNumber", "(II)I"⟩, 4), (⟨"GhostTrain$Tape", "readTricks", "(LGhostTrain$Train;)Z"⟩, 4), (⟨"GhostTrain$Train", "addTrick", "(III)V"⟩, 19), (⟨"GhostTrain$Tape", "readCars", "(LGhostTrain$Train;)Z"⟩, 4), (⟨"GhostTrain$Train", "addCar", "(III)V"⟩, 19)]
theorem lw_r1 : ∀ q ∈ lw_privs_1, lw_okq q := List.forall_mem_cons.mpr ⟨lw_p0, List.forall_mem_cons.mpr ⟨lw_p1, List.forall_mem_cons.mpr ⟨lw_p2, List.forall_mem_cons.mpr ⟨lw_p3, List.forall_mem_cons.mpr ⟨lw_p4, List.forall_mem_cons.mpr ⟨lw_p5, List.forall_mem_cons.mpr ⟨lw_p6, List.forall_mem_cons.mpr ⟨lw_p7, List.forall_mem_cons.mpr ⟨lw_p8, List.forall_mem_cons.mpr ⟨lw_p9, List.forall_mem_cons.mpr ⟨lw_p10, List.forall_mem_cons.mpr ⟨lw_p11, List.forall_mem_cons.mpr ⟨lw_p12, List.forall_mem_cons.mpr ⟨lw_p13, List.forall_mem_cons.mpr ⟨lw_p14, List.forall_mem_cons.mpr ⟨lw_p15, fun _ h => absurd h List.not_mem_nil⟩⟩⟩⟩⟩⟩⟩⟩⟩⟩⟩⟩⟩⟩⟩⟩
theorem lw_p16 : lw_okq (⟨"GhostTrain", "becomes", "(LGhostTrain$Train;)V"⟩, 10) := ⟨⟨by decide +kernel, by decide +kernel⟩, List.mem_of_getElem? (i := 14) (by decide +kernel), List.mem_of_getElem? (i := 382) (by decide +kernel), List.mem_of_getElem? (i := 383) (by decide +kernel)⟩
theorem lw_p17 : lw_okq (⟨"GhostTrain$Train", "copyFrom", "(LGhostTrain$Train;)V"⟩, 19) := ⟨⟨by decide +kernel, by decide +kernel⟩, List.mem_of_getElem? (i := 48) (by decide +kernel), List.mem_of_getElem? (i := 386) (by decide +kernel), List.mem_of_getElem? (i := 387) (by decide +kernel)⟩
theorem lw_p18 : lw_okq (⟨"GhostTrain$Foresight", "forget", "()V"⟩, 9) := ⟨⟨by decide +kernel, by decide +kernel⟩, List.mem_of_getElem? (i := 165) (by decide +kernel), List.mem_of_getElem? (i := 391) (by decide +kernel), List.mem_of_getElem? (i := 392) (by decide +kernel)⟩
theorem lw_p19 : lw_okq (⟨"GhostTrain$Acts", "takeBack", "(LGhostTrain$Train;)V"⟩, 3) := ⟨⟨by decide +kernel, by decide +kernel⟩, List.mem_of_getElem? (i := 145) (by decide +kernel), List.mem_of_getElem? (i := 404) (by decide +kernel), List.mem_of_getElem? (i := 405) (by decide +kernel)⟩
theorem lw_p20 : lw_okq (⟨"GhostTrain", "hasTrain", "()Z"⟩, 10) := ⟨⟨by decide +kernel, by decide +kernel⟩, List.mem_of_getElem? (i := 14) (by decide +kernel), List.mem_of_getElem? (i := 413) (by decide +kernel), List.mem_of_getElem? (i := 414) (by decide +kernel)⟩
theorem lw_p21 : lw_okq (⟨"GhostTrain", "beginAct", "()V"⟩, 10) := ⟨⟨by decide +kernel, by decide +kernel⟩, List.mem_of_getElem? (i := 14) (by decide +kernel), List.mem_of_getElem? (i := 417) (by decide +kernel), List.mem_of_getElem? (i := 418) (by decide +kernel)⟩
theorem lw_p22 : lw_okq (⟨"GhostTrain$Acts", "keep", "(LGhostTrain$Train;)V"⟩, 3) := ⟨⟨by decide +kernel, by decide +kernel⟩, List.mem_of_getElem? (i := 145) (by decide +kernel), List.mem_of_getElem? (i := 421) (by decide +kernel), List.mem_of_getElem? (i := 422) (by decide +kernel)⟩
theorem lw_p23 : lw_okq (⟨"GhostTrain$Train", "tickOn", "()V"⟩, 19) := ⟨⟨by decide +kernel, by decide +kernel⟩, List.mem_of_getElem? (i := 48) (by decide +kernel), List.mem_of_getElem? (i := 428) (by decide +kernel), List.mem_of_getElem? (i := 429) (by decide +kernel)⟩
theorem lw_p24 : lw_okq (⟨"GhostTrain$Train", "goOn", "(I)V"⟩, 19) := ⟨⟨by decide +kernel, by decide +kernel⟩, List.mem_of_getElem? (i := 48) (by decide +kernel), List.mem_of_getElem? (i := 432) (by decide +kernel), List.mem_of_getElem? (i := 433) (by decide +kernel)⟩
theorem lw_p25 : lw_okq (⟨"GhostTrain$Train", "comeInto", "(II)V"⟩, 19) := ⟨⟨by decide +kernel, by decide +kernel⟩, List.mem_of_getElem? (i := 48) (by decide +kernel), List.mem_of_getElem? (i := 436) (by decide +kernel), List.mem_of_getElem? (i := 437) (by decide +kernel)⟩
theorem lw_p26 : lw_okq (⟨"GhostTrain$Train", "fright", "(II)I"⟩, 19) := ⟨⟨by decide +kernel, by decide +kernel⟩, List.mem_of_getElem? (i := 48) (by decide +kernel), List.mem_of_getElem? (i := 441) (by decide +kernel), List.mem_of_getElem? (i := 442) (by decide +kernel)⟩
theorem lw_p27 : lw_okq (⟨"GhostTrain$Train", "letIn", "()V"⟩, 19) := ⟨⟨by decide +kernel, by decide +kernel⟩, List.mem_of_getElem? (i := 48) (by decide +kernel), List.mem_of_getElem? (i := 445) (by decide +kernel), List.mem_of_getElem? (i := 446) (by decide +kernel)⟩
theorem lw_p28 : lw_okq (⟨"GhostTrain$Train", "bitsOut", "()I"⟩, 19) := ⟨⟨by decide +kernel, by decide +kernel⟩, List.mem_of_getElem? (i := 48) (by decide +kernel), List.mem_of_getElem? (i := 449) (by decide +kernel), List.mem_of_getElem? (i := 450) (by decide +kernel)⟩
theorem lw_p29 : lw_okq (⟨"GhostTrain$Train", "bitsBetween", "(II)I"⟩, 19) := ⟨⟨by decide +kernel, by decide +kernel⟩, List.mem_of_getElem? (i := 48) (by decide +kernel), List.mem_of_getElem? (i := 453) (by decide +kernel), List.mem_of_getElem? (i := 454) (by decide +kernel)⟩
theorem lw_p30 : lw_okq (⟨"GhostTrain", "isTrick", "(I)Z"⟩, 10) := ⟨⟨by decide +kernel, by decide +kernel⟩, List.mem_of_getElem? (i := 14) (by decide +kernel), List.mem_of_getElem? (i := 462) (by decide +kernel), List.mem_of_getElem? (i := 463) (by decide +kernel)⟩
theorem lw_p31 : lw_okq (⟨"GhostTrain", "isCell", "(I)Z"⟩, 10) := ⟨⟨by decide +kernel, by decide +kernel⟩, List.mem_of_getElem? (i := 14) (by decide +kernel), List.mem_of_getElem? (i := 466) (by decide +kernel), List.mem_of_getElem? (i := 467) (by decide +kernel)⟩
def lw_privs_2 : List (MethodName × Nat) := [(⟨"GhostTrain", "becomes", "(LGhostTrain$Train;)V"⟩, 10), (⟨"GhostTrain$Train", "copyFrom", "(LGhostTrain$Train;)V"⟩, 19), (⟨"GhostTrain$Foresight", "forget", "()V"⟩, 9), (⟨"GhostTrain$Acts", "takeBack", "(LGhostTrain$Train;)V"⟩, 3), (⟨"GhostTrain", "hasTrain", "()Z"⟩, 10), (⟨"GhostTrain", "beginAct", "()V"⟩, 10), (⟨"GhostTrain$Acts", "keep", "(LGhostTrain$Train;)V"⟩, 3), (⟨"GhostTrain$Train", "tickOn", "()V"⟩, 19), (⟨"GhostTrain$Train", "goOn", "(I)V"⟩, 19), (⟨"GhostTrain$Train", "comeInto", "(II)V"⟩, 19), (⟨"GhostTrain$Train", "fright", "(II)I"⟩, 19), (⟨"GhostTrain$Train", "letIn", "()V"⟩, 19), (⟨"GhostTrain$Train", "bitsOut", "()I"⟩, 19), (⟨"GhostTrain$Train", "bitsBetween", "(II)I"⟩, 19), (⟨"GhostTrain", "isTrick", "(I)Z"⟩, 10), (⟨"GhostTrain", "isCell", "(I)Z"⟩, 10)]
theorem lw_r2 : ∀ q ∈ lw_privs_2, lw_okq q := List.forall_mem_cons.mpr ⟨lw_p16, List.forall_mem_cons.mpr ⟨lw_p17, List.forall_mem_cons.mpr ⟨lw_p18, List.forall_mem_cons.mpr ⟨lw_p19, List.forall_mem_cons.mpr ⟨lw_p20, List.forall_mem_cons.mpr ⟨lw_p21, List.forall_mem_cons.mpr ⟨lw_p22, List.forall_mem_cons.mpr ⟨lw_p23, List.forall_mem_cons.mpr ⟨lw_p24, List.forall_mem_cons.mpr ⟨lw_p25, List.forall_mem_cons.mpr ⟨lw_p26, List.forall_mem_cons.mpr ⟨lw_p27, List.forall_mem_cons.mpr ⟨lw_p28, List.forall_mem_cons.mpr ⟨lw_p29, List.forall_mem_cons.mpr ⟨lw_p30, List.forall_mem_cons.mpr ⟨lw_p31, fun _ h => absurd h List.not_mem_nil⟩⟩⟩⟩⟩⟩⟩⟩⟩⟩⟩⟩⟩⟩⟩⟩
theorem lw_p32 : lw_okq (⟨"GhostTrain", "isCar", "(I)Z"⟩, 10) := ⟨⟨by decide +kernel, by decide +kernel⟩, List.mem_of_getElem? (i := 14) (by decide +kernel), List.mem_of_getElem? (i := 481) (by decide +kernel), List.mem_of_getElem? (i := 482) (by decide +kernel)⟩
theorem lw_p33 : lw_okq (⟨"GhostTrain$Train", "goAgain", "(I)V"⟩, 19) := ⟨⟨by decide +kernel, by decide +kernel⟩, List.mem_of_getElem? (i := 48) (by decide +kernel), List.mem_of_getElem? (i := 489) (by decide +kernel), List.mem_of_getElem? (i := 490) (by decide +kernel)⟩
theorem lw_p34 : lw_okq (⟨"GhostTrain$Train", "bitsWaiting", "()I"⟩, 19) := ⟨⟨by decide +kernel, by decide +kernel⟩, List.mem_of_getElem? (i := 48) (by decide +kernel), List.mem_of_getElem? (i := 493) (by decide +kernel), List.mem_of_getElem? (i := 494) (by decide +kernel)⟩
theorem lw_p35 : lw_okq (⟨"GhostTrain$Train", "tricksIn", "(I)I"⟩, 19) := ⟨⟨by decide +kernel, by decide +kernel⟩, List.mem_of_getElem? (i := 48) (by decide +kernel), List.mem_of_getElem? (i := 510) (by decide +kernel), List.mem_of_getElem? (i := 511) (by decide +kernel)⟩
theorem lw_p36 : lw_okq (⟨"GhostTrain$Train", "bitsRunning", "()I"⟩, 19) := ⟨⟨by decide +kernel, by decide +kernel⟩, List.mem_of_getElem? (i := 48) (by decide +kernel), List.mem_of_getElem? (i := 519) (by decide +kernel), List.mem_of_getElem? (i := 520) (by decide +kernel)⟩
theorem lw_p37 : lw_okq (⟨"GhostTrain$Train", "bitsOn", "()I"⟩, 19) := ⟨⟨by decide +kernel, by decide +kernel⟩, List.mem_of_getElem? (i := 48) (by decide +kernel), List.mem_of_getElem? (i := 523) (by decide +kernel), List.mem_of_getElem? (i := 524) (by decide +kernel)⟩
theorem lw_p38 : lw_okq (⟨"GhostTrain$Foresight", "behind", "(LGhostTrain$Train;I)LGhostTrain$Train;"⟩, 9) := ⟨⟨by decide +kernel, by decide +kernel⟩, List.mem_of_getElem? (i := 165) (by decide +kernel), List.mem_of_getElem? (i := 531) (by decide +kernel), List.mem_of_getElem? (i := 532) (by decide +kernel)⟩
theorem lw_p39 : lw_okq (⟨"GhostTrain$Train", "tickOnFor", "(I)V"⟩, 19) := ⟨⟨by decide +kernel, by decide +kernel⟩, List.mem_of_getElem? (i := 48) (by decide +kernel), List.mem_of_getElem? (i := 536) (by decide +kernel), List.mem_of_getElem? (i := 537) (by decide +kernel)⟩
theorem lw_p40 : lw_okq (⟨"GhostTrain$Train", "allOut", "()Z"⟩, 19) := ⟨⟨by decide +kernel, by decide +kernel⟩, List.mem_of_getElem? (i := 48) (by decide +kernel), List.mem_of_getElem? (i := 540) (by decide +kernel), List.mem_of_getElem? (i := 541) (by decide +kernel)⟩
theorem lw_p41 : lw_okq (⟨"GhostTrain$Train", "allScreams", "()I"⟩, 19) := ⟨⟨by decide +kernel, by decide +kernel⟩, List.mem_of_getElem? (i := 48) (by decide +kernel), List.mem_of_getElem? (i := 549) (by decide +kernel), List.mem_of_getElem? (i := 550) (by decide +kernel)⟩
theorem lw_p42 : lw_okq (⟨"GhostTrain$Train", "allMet", "()I"⟩, 19) := ⟨⟨by decide +kernel, by decide +kernel⟩, List.mem_of_getElem? (i := 48) (by decide +kernel), List.mem_of_getElem? (i := 556) (by decide +kernel), List.mem_of_getElem? (i := 557) (by decide +kernel)⟩
theorem lw_p43 : lw_okq (⟨"GhostTrain$Foresight", "firstTime", "(LGhostTrain$Train;II)I"⟩, 9) := ⟨⟨by decide +kernel, by decide +kernel⟩, List.mem_of_getElem? (i := 165) (by decide +kernel), List.mem_of_getElem? (i := 564) (by decide +kernel), List.mem_of_getElem? (i := 565) (by decide +kernel)⟩
theorem lw_p44 : lw_okq (⟨"GhostTrain$Foresight", "hasCome", "(III)Z"⟩, 9) := ⟨⟨by decide +kernel, by decide +kernel⟩, List.mem_of_getElem? (i := 165) (by decide +kernel), List.mem_of_getElem? (i := 568) (by decide +kernel), List.mem_of_getElem? (i := 569) (by decide +kernel)⟩
theorem lw_p45 : lw_okq (⟨"GhostTrain$Foresight", "firstAllOut", "(LGhostTrain$Train;)I"⟩, 9) := ⟨⟨by decide +kernel, by decide +kernel⟩, List.mem_of_getElem? (i := 165) (by decide +kernel), List.mem_of_getElem? (i := 578) (by decide +kernel), List.mem_of_getElem? (i := 579) (by decide +kernel)⟩
theorem lw_p46 : lw_okq (⟨"GhostTrain$Foresight", "findOrder", "(LGhostTrain$Train;I)V"⟩, 9) := ⟨⟨by decide +kernel, by decide +kernel⟩, List.mem_of_getElem? (i := 165) (by decide +kernel), List.mem_of_getElem? (i := 587) (by decide +kernel), List.mem_of_getElem? (i := 588) (by decide +kernel)⟩
theorem lw_p47 : lw_okq (⟨"GhostTrain$Foresight", "listWaitingFirst", "(LGhostTrain$Train;)I"⟩, 9) := ⟨⟨by decide +kernel, by decide +kernel⟩, List.mem_of_getElem? (i := 165) (by decide +kernel), List.mem_of_getElem? (i := 591) (by decide +kernel), List.mem_of_getElem? (i := 592) (by decide +kernel)⟩
def lw_privs_3 : List (MethodName × Nat) := [(⟨"GhostTrain", "isCar", "(I)Z"⟩, 10), (⟨"GhostTrain$Train", "goAgain", "(I)V"⟩, 19), (⟨"GhostTrain$Train", "bitsWaiting", "()I"⟩, 19), (⟨"GhostTrain$Train", "tricksIn", "(I)I"⟩, 19), (⟨"GhostTrain$Train", "bitsRunning", "()I"⟩, 19), (⟨"GhostTrain$Train", "bitsOn", "()I"⟩, 19), (⟨"GhostTrain$Foresight", "behind", "(LGhostTrain$Train;I)LGhostTrain$Train;"⟩, 9), (⟨"GhostTrain$Train", "tickOnFor", "(I)V"⟩, 19), (⟨"GhostTrain$Train", "allOut", "()Z"⟩, 19), (⟨"GhostTrain$Train", "allScreams", "()I"⟩, 19), (⟨"GhostTrain$Train", "allMet", "()I"⟩, 19), (⟨"GhostTrain$Foresight", "firstTime", "(LGhostTrain$Train;II)I"⟩, 9), (⟨"GhostTrain$Foresight", "hasCome", "(III)Z"⟩, 9), (⟨"GhostTrain$Foresight", "firstAllOut", "(LGhostTrain$Train;)I"⟩, 9), (⟨"GhostTrain$Foresight", "findOrder", "(LGhostTrain$Train;I)V"⟩, 9), (⟨"GhostTrain$Foresight", "listWaitingFirst", "(LGhostTrain$Train;)I"⟩, 9)]
theorem lw_r3 : ∀ q ∈ lw_privs_3, lw_okq q := List.forall_mem_cons.mpr ⟨lw_p32, List.forall_mem_cons.mpr ⟨lw_p33, List.forall_mem_cons.mpr ⟨lw_p34, List.forall_mem_cons.mpr ⟨lw_p35, List.forall_mem_cons.mpr ⟨lw_p36, List.forall_mem_cons.mpr ⟨lw_p37, List.forall_mem_cons.mpr ⟨lw_p38, List.forall_mem_cons.mpr ⟨lw_p39, List.forall_mem_cons.mpr ⟨lw_p40, List.forall_mem_cons.mpr ⟨lw_p41, List.forall_mem_cons.mpr ⟨lw_p42, List.forall_mem_cons.mpr ⟨lw_p43, List.forall_mem_cons.mpr ⟨lw_p44, List.forall_mem_cons.mpr ⟨lw_p45, List.forall_mem_cons.mpr ⟨lw_p46, List.forall_mem_cons.mpr ⟨lw_p47, fun _ h => absurd h List.not_mem_nil⟩⟩⟩⟩⟩⟩⟩⟩⟩⟩⟩⟩⟩⟩⟩⟩
theorem lw_p48 : lw_okq (⟨"GhostTrain$Foresight", "nextOrder", "(I)Z"⟩, 9) := ⟨⟨by decide +kernel, by decide +kernel⟩, List.mem_of_getElem? (i := 165) (by decide +kernel), List.mem_of_getElem? (i := 604) (by decide +kernel), List.mem_of_getElem? (i := 605) (by decide +kernel)⟩
theorem lw_p49 : lw_okq (⟨"GhostTrain$Foresight", "swapTried", "(II)V"⟩, 9) := ⟨⟨by decide +kernel, by decide +kernel⟩, List.mem_of_getElem? (i := 165) (by decide +kernel), List.mem_of_getElem? (i := 608) (by decide +kernel), List.mem_of_getElem? (i := 609) (by decide +kernel)⟩
theorem lw_p50 : lw_okq (⟨"GhostTrain$Foresight", "mergeBest", "(II)V"⟩, 9) := ⟨⟨by decide +kernel, by decide +kernel⟩, List.mem_of_getElem? (i := 165) (by decide +kernel), List.mem_of_getElem? (i := 612) (by decide +kernel), List.mem_of_getElem? (i := 613) (by decide +kernel)⟩
theorem lw_p51 : lw_okq (⟨"GhostTrain$Foresight", "mostAt", "(LGhostTrain$Train;III)I"⟩, 9) := ⟨⟨by decide +kernel, by decide +kernel⟩, List.mem_of_getElem? (i := 165) (by decide +kernel), List.mem_of_getElem? (i := 620) (by decide +kernel), List.mem_of_getElem? (i := 621) (by decide +kernel)⟩
theorem lw_p52 : lw_okq (⟨"GhostTrain$Foresight", "fewestOff", "(LGhostTrain$Train;I)I"⟩, 9) := ⟨⟨by decide +kernel, by decide +kernel⟩, List.mem_of_getElem? (i := 165) (by decide +kernel), List.mem_of_getElem? (i := 628) (by decide +kernel), List.mem_of_getElem? (i := 629) (by decide +kernel)⟩
theorem lw_p53 : lw_okq (⟨"GhostTrain$Foresight", "isCalm", "(LGhostTrain$Train;II)Z"⟩, 9) := ⟨⟨by decide +kernel, by decide +kernel⟩, List.mem_of_getElem? (i := 165) (by decide +kernel), List.mem_of_getElem? (i := 632) (by decide +kernel), List.mem_of_getElem? (i := 633) (by decide +kernel)⟩
theorem lw_p54 : lw_okq (⟨"GhostTrain$Train", "switchTo", "(I)V"⟩, 19) := ⟨⟨by decide +kernel, by decide +kernel⟩, List.mem_of_getElem? (i := 48) (by decide +kernel), List.mem_of_getElem? (i := 636) (by decide +kernel), List.mem_of_getElem? (i := 637) (by decide +kernel)⟩
theorem lw_p55 : lw_okq (⟨"GhostTrain$Foresight", "leastNerve", "(LGhostTrain$Train;II)I"⟩, 9) := ⟨⟨by decide +kernel, by decide +kernel⟩, List.mem_of_getElem? (i := 165) (by decide +kernel), List.mem_of_getElem? (i := 645) (by decide +kernel), List.mem_of_getElem? (i := 646) (by decide +kernel)⟩
theorem lw_p56 : lw_okq (⟨"GhostTrain$Train", "setsWith", "(II)I"⟩, 19) := ⟨⟨by decide +kernel, by decide +kernel⟩, List.mem_of_getElem? (i := 48) (by decide +kernel), List.mem_of_getElem? (i := 653) (by decide +kernel), List.mem_of_getElem? (i := 654) (by decide +kernel)⟩
theorem lw_p57 : lw_okq (⟨"GhostTrain$Train", "ridersOf", "(I)I"⟩, 19) := ⟨⟨by decide +kernel, by decide +kernel⟩, List.mem_of_getElem? (i := 48) (by decide +kernel), List.mem_of_getElem? (i := 658) (by decide +kernel), List.mem_of_getElem? (i := 659) (by decide +kernel)⟩
theorem lw_p58 : lw_okq (⟨"GhostTrain$Train", "takings", "(II)I"⟩, 19) := ⟨⟨by decide +kernel, by decide +kernel⟩, List.mem_of_getElem? (i := 48) (by decide +kernel), List.mem_of_getElem? (i := 666) (by decide +kernel), List.mem_of_getElem? (i := 667) (by decide +kernel)⟩
theorem lw_p59 : lw_okq (⟨"GhostTrain$Foresight", "switchingByTurns", "(LGhostTrain$Train;II)I"⟩, 9) := ⟨⟨by decide +kernel, by decide +kernel⟩, List.mem_of_getElem? (i := 165) (by decide +kernel), List.mem_of_getElem? (i := 675) (by decide +kernel), List.mem_of_getElem? (i := 676) (by decide +kernel)⟩
theorem lw_p60 : lw_okq (⟨"GhostTrain$Foresight", "switchOnForMost", "(I)V"⟩, 9) := ⟨⟨by decide +kernel, by decide +kernel⟩, List.mem_of_getElem? (i := 165) (by decide +kernel), List.mem_of_getElem? (i := 679) (by decide +kernel), List.mem_of_getElem? (i := 680) (by decide +kernel)⟩
theorem lw_p61 : lw_okq (⟨"GhostTrain$Foresight", "switchOffForFewest", "(I)V"⟩, 9) := ⟨⟨by decide +kernel, by decide +kernel⟩, List.mem_of_getElem? (i := 165) (by decide +kernel), List.mem_of_getElem? (i := 686) (by decide +kernel), List.mem_of_getElem? (i := 687) (by decide +kernel)⟩
theorem lw_p62 : lw_okq (⟨"GhostTrain$Foresight", "hear", "(LGhostTrain$Row;II)V"⟩, 9) := ⟨⟨by decide +kernel, by decide +kernel⟩, List.mem_of_getElem? (i := 165) (by decide +kernel), List.mem_of_getElem? (i := 699) (by decide +kernel), List.mem_of_getElem? (i := 700) (by decide +kernel)⟩
theorem lw_p63 : lw_okq (⟨"GhostTrain$Foresight", "fittingTricks", "(LGhostTrain$Train;III)I"⟩, 9) := ⟨⟨by decide +kernel, by decide +kernel⟩, List.mem_of_getElem? (i := 165) (by decide +kernel), List.mem_of_getElem? (i := 704) (by decide +kernel), List.mem_of_getElem? (i := 705) (by decide +kernel)⟩
def lw_privs_4 : List (MethodName × Nat) := [(⟨"GhostTrain$Foresight", "nextOrder", "(I)Z"⟩, 9), (⟨"GhostTrain$Foresight", "swapTried", "(II)V"⟩, 9), (⟨"GhostTrain$Foresight", "mergeBest", "(II)V"⟩, 9), (⟨"GhostTrain$Foresight", "mostAt", "(LGhostTrain$Train;III)I"⟩, 9), (⟨"GhostTrain$Foresight", "fewestOff", "(LGhostTrain$Train;I)I"⟩, 9), (⟨"GhostTrain$Foresight", "isCalm", "(LGhostTrain$Train;II)Z"⟩, 9), (⟨"GhostTrain$Train", "switchTo", "(I)V"⟩, 19), (⟨"GhostTrain$Foresight", "leastNerve", "(LGhostTrain$Train;II)I"⟩, 9), (⟨"GhostTrain$Train", "setsWith", "(II)I"⟩, 19), (⟨"GhostTrain$Train", "ridersOf", "(I)I"⟩, 19), (⟨"GhostTrain$Train", "takings", "(II)I"⟩, 19), (⟨"GhostTrain$Foresight", "switchingByTurns", "(LGhostTrain$Train;II)I"⟩, 9), (⟨"GhostTrain$Foresight", "switchOnForMost", "(I)V"⟩, 9), (⟨"GhostTrain$Foresight", "switchOffForFewest", "(I)V"⟩, 9), (⟨"GhostTrain$Foresight", "hear", "(LGhostTrain$Row;II)V"⟩, 9), (⟨"GhostTrain$Foresight", "fittingTricks", "(LGhostTrain$Train;III)I"⟩, 9)]
theorem lw_r4 : ∀ q ∈ lw_privs_4, lw_okq q := List.forall_mem_cons.mpr ⟨lw_p48, List.forall_mem_cons.mpr ⟨lw_p49, List.forall_mem_cons.mpr ⟨lw_p50, List.forall_mem_cons.mpr ⟨lw_p51, List.forall_mem_cons.mpr ⟨lw_p52, List.forall_mem_cons.mpr ⟨lw_p53, List.forall_mem_cons.mpr ⟨lw_p54, List.forall_mem_cons.mpr ⟨lw_p55, List.forall_mem_cons.mpr ⟨lw_p56, List.forall_mem_cons.mpr ⟨lw_p57, List.forall_mem_cons.mpr ⟨lw_p58, List.forall_mem_cons.mpr ⟨lw_p59, List.forall_mem_cons.mpr ⟨lw_p60, List.forall_mem_cons.mpr ⟨lw_p61, List.forall_mem_cons.mpr ⟨lw_p62, List.forall_mem_cons.mpr ⟨lw_p63, fun _ h => absurd h List.not_mem_nil⟩⟩⟩⟩⟩⟩⟩⟩⟩⟩⟩⟩⟩⟩⟩⟩
theorem lw_p64 : lw_okq (⟨"GhostTrain$Foresight", "isAsTold", "(I)Z"⟩, 9) := ⟨⟨by decide +kernel, by decide +kernel⟩, List.mem_of_getElem? (i := 165) (by decide +kernel), List.mem_of_getElem? (i := 708) (by decide +kernel), List.mem_of_getElem? (i := 709) (by decide +kernel)⟩
theorem lw_p65 : lw_okq (⟨"GhostTrain$Foresight", "fittingNerves", "(LGhostTrain$Train;II)I"⟩, 9) := ⟨⟨by decide +kernel, by decide +kernel⟩, List.mem_of_getElem? (i := 165) (by decide +kernel), List.mem_of_getElem? (i := 717) (by decide +kernel), List.mem_of_getElem? (i := 718) (by decide +kernel)⟩
theorem lw_p66 : lw_okq (⟨"GhostTrain$Foresight", "screamsIfFailing", "(LGhostTrain$Train;IIII)J"⟩, 9) := ⟨⟨by decide +kernel, by decide +kernel⟩, List.mem_of_getElem? (i := 165) (by decide +kernel), List.mem_of_getElem? (i := 726) (by decide +kernel), List.mem_of_getElem? (i := 727) (by decide +kernel)⟩
theorem lw_p67 : lw_okq (⟨"GhostTrain$Foresight", "nightsByDraws", "(LGhostTrain$Train;III)I"⟩, 9) := ⟨⟨by decide +kernel, by decide +kernel⟩, List.mem_of_getElem? (i := 165) (by decide +kernel), List.mem_of_getElem? (i := 741) (by decide +kernel), List.mem_of_getElem? (i := 742) (by decide +kernel)⟩
theorem lw_p68 : lw_okq (⟨"GhostTrain$Foresight", "draw", "(J)V"⟩, 9) := ⟨⟨by decide +kernel, by decide +kernel⟩, List.mem_of_getElem? (i := 165) (by decide +kernel), List.mem_of_getElem? (i := 747) (by decide +kernel), List.mem_of_getElem? (i := 748) (by decide +kernel)⟩
theorem lw_p69 : lw_okq (⟨"GhostTrain$Train", "allFear", "()I"⟩, 19) := ⟨⟨by decide +kernel, by decide +kernel⟩, List.mem_of_getElem? (i := 48) (by decide +kernel), List.mem_of_getElem? (i := 753) (by decide +kernel), List.mem_of_getElem? (i := 754) (by decide +kernel)⟩
theorem lw_p70 : lw_okq (⟨"GhostTrain$Asker", "answer", "(LGhostTrain$Train;II)I"⟩, 2) := ⟨⟨by decide +kernel, by decide +kernel⟩, List.mem_of_getElem? (i := 203) (by decide +kernel), List.mem_of_getElem? (i := 782) (by decide +kernel), List.mem_of_getElem? (i := 783) (by decide +kernel)⟩
theorem lw_p71 : lw_okq (⟨"GhostTrain$Asker", "begins", "(I)V"⟩, 2) := ⟨⟨by decide +kernel, by decide +kernel⟩, List.mem_of_getElem? (i := 203) (by decide +kernel), List.mem_of_getElem? (i := 795) (by decide +kernel), List.mem_of_getElem? (i := 796) (by decide +kernel)⟩
theorem lw_p72 : lw_okq (⟨"GhostTrain", "rowsThere", "()I"⟩, 10) := ⟨⟨by decide +kernel, by decide +kernel⟩, List.mem_of_getElem? (i := 14) (by decide +kernel), List.mem_of_getElem? (i := 807) (by decide +kernel), List.mem_of_getElem? (i := 808) (by decide +kernel)⟩
theorem lw_p73 : lw_okq (⟨"GhostTrainModel", "found", "(I)I"⟩, 22) := ⟨⟨by decide +kernel, by decide +kernel⟩, List.mem_of_getElem? (i := 816) (by decide +kernel), List.mem_of_getElem? (i := 900) (by decide +kernel), List.mem_of_getElem? (i := 901) (by decide +kernel)⟩
theorem lw_p74 : lw_okq (⟨"GhostTrainModel", "well", "(I)I"⟩, 22) := ⟨⟨by decide +kernel, by decide +kernel⟩, List.mem_of_getElem? (i := 816) (by decide +kernel), List.mem_of_getElem? (i := 905) (by decide +kernel), List.mem_of_getElem? (i := 906) (by decide +kernel)⟩
theorem lw_p75 : lw_okq (⟨"GhostTrainModel", "isPart", "(III)Z"⟩, 22) := ⟨⟨by decide +kernel, by decide +kernel⟩, List.mem_of_getElem? (i := 816) (by decide +kernel), List.mem_of_getElem? (i := 917) (by decide +kernel), List.mem_of_getElem? (i := 918) (by decide +kernel)⟩
theorem lw_p76 : lw_okq (⟨"GhostTrainModel", "readAll", "()V"⟩, 22) := ⟨⟨by decide +kernel, by decide +kernel⟩, List.mem_of_getElem? (i := 816) (by decide +kernel), List.mem_of_getElem? (i := 934) (by decide +kernel), List.mem_of_getElem? (i := 935) (by decide +kernel)⟩
theorem lw_p77 : lw_okq (⟨"GhostTrainModel", "sign", "(I)V"⟩, 22) := ⟨⟨by decide +kernel, by decide +kernel⟩, List.mem_of_getElem? (i := 816) (by decide +kernel), List.mem_of_getElem? (i := 938) (by decide +kernel), List.mem_of_getElem? (i := 939) (by decide +kernel)⟩
theorem lw_p78 : lw_okq (⟨"GhostTrainModel", "fine", "()Z"⟩, 22) := ⟨⟨by decide +kernel, by decide +kernel⟩, List.mem_of_getElem? (i := 816) (by decide +kernel), List.mem_of_getElem? (i := 942) (by decide +kernel), List.mem_of_getElem? (i := 943) (by decide +kernel)⟩
theorem lw_p79 : lw_okq (⟨"GhostTrainModel", "here", "()I"⟩, 22) := ⟨⟨by decide +kernel, by decide +kernel⟩, List.mem_of_getElem? (i := 816) (by decide +kernel), List.mem_of_getElem? (i := 946) (by decide +kernel), List.mem_of_getElem? (i := 947) (by decide +kernel)⟩
def lw_privs_5 : List (MethodName × Nat) := [(⟨"GhostTrain$Foresight", "isAsTold", "(I)Z"⟩, 9), (⟨"GhostTrain$Foresight", "fittingNerves", "(LGhostTrain$Train;II)I"⟩, 9), (⟨"GhostTrain$Foresight", "screamsIfFailing", "(LGhostTrain$Train;IIII)J"⟩, 9), (⟨"GhostTrain$Foresight", "nightsByDraws", "(LGhostTrain$Train;III)I"⟩, 9), (⟨"GhostTrain$Foresight", "draw", "(J)V"⟩, 9), (⟨"GhostTrain$Train", "allFear", "()I"⟩, 19), (⟨"GhostTrain$Asker", "answer", "(LGhostTrain$Train;II)I"⟩, 2), (⟨"GhostTrain$Asker", "begins", "(I)V"⟩, 2), (⟨"GhostTrain", "rowsThere", "()I"⟩, 10), (⟨"GhostTrainModel", "found", "(I)I"⟩, 22), (⟨"GhostTrainModel", "well", "(I)I"⟩, 22), (⟨"GhostTrainModel", "isPart", "(III)Z"⟩, 22), (⟨"GhostTrainModel", "readAll", "()V"⟩, 22), (⟨"GhostTrainModel", "sign", "(I)V"⟩, 22), (⟨"GhostTrainModel", "fine", "()Z"⟩, 22), (⟨"GhostTrainModel", "here", "()I"⟩, 22)]
theorem lw_r5 : ∀ q ∈ lw_privs_5, lw_okq q := List.forall_mem_cons.mpr ⟨lw_p64, List.forall_mem_cons.mpr ⟨lw_p65, List.forall_mem_cons.mpr ⟨lw_p66, List.forall_mem_cons.mpr ⟨lw_p67, List.forall_mem_cons.mpr ⟨lw_p68, List.forall_mem_cons.mpr ⟨lw_p69, List.forall_mem_cons.mpr ⟨lw_p70, List.forall_mem_cons.mpr ⟨lw_p71, List.forall_mem_cons.mpr ⟨lw_p72, List.forall_mem_cons.mpr ⟨lw_p73, List.forall_mem_cons.mpr ⟨lw_p74, List.forall_mem_cons.mpr ⟨lw_p75, List.forall_mem_cons.mpr ⟨lw_p76, List.forall_mem_cons.mpr ⟨lw_p77, List.forall_mem_cons.mpr ⟨lw_p78, List.forall_mem_cons.mpr ⟨lw_p79, fun _ h => absurd h List.not_mem_nil⟩⟩⟩⟩⟩⟩⟩⟩⟩⟩⟩⟩⟩⟩⟩⟩
theorem lw_p80 : lw_okq (⟨"GhostTrainModel", "fail", "(II)V"⟩, 22) := ⟨⟨by decide +kernel, by decide +kernel⟩, List.mem_of_getElem? (i := 816) (by decide +kernel), List.mem_of_getElem? (i := 950) (by decide +kernel), List.mem_of_getElem? (i := 951) (by decide +kernel)⟩
theorem lw_p81 : lw_okq (⟨"GhostTrainModel", "number", "(II)I"⟩, 22) := ⟨⟨by decide +kernel, by decide +kernel⟩, List.mem_of_getElem? (i := 816) (by decide +kernel), List.mem_of_getElem? (i := 954) (by decide +kernel), List.mem_of_getElem? (i := 955) (by decide +kernel)⟩
theorem lw_p82 : lw_okq (⟨"GhostTrainModel", "isFigure", "(I)Z"⟩, 22) := ⟨⟨by decide +kernel, by decide +kernel⟩, List.mem_of_getElem? (i := 816) (by decide +kernel), List.mem_of_getElem? (i := 958) (by decide +kernel), List.mem_of_getElem? (i := 959) (by decide +kernel)⟩
theorem lw_p83 : lw_okq (⟨"GhostTrainModel", "readTrick", "()V"⟩, 22) := ⟨⟨by decide +kernel, by decide +kernel⟩, List.mem_of_getElem? (i := 816) (by decide +kernel), List.mem_of_getElem? (i := 965) (by decide +kernel), List.mem_of_getElem? (i := 966) (by decide +kernel)⟩
theorem lw_p84 : lw_okq (⟨"GhostTrainModel", "readCar", "()V"⟩, 22) := ⟨⟨by decide +kernel, by decide +kernel⟩, List.mem_of_getElem? (i := 816) (by decide +kernel), List.mem_of_getElem? (i := 972) (by decide +kernel), List.mem_of_getElem? (i := 973) (by decide +kernel)⟩
theorem lw_p85 : lw_okq (⟨"GhostTrainModel", "copyRow", "(II)V"⟩, 22) := ⟨⟨by decide +kernel, by decide +kernel⟩, List.mem_of_getElem? (i := 816) (by decide +kernel), List.mem_of_getElem? (i := 980) (by decide +kernel), List.mem_of_getElem? (i := 981) (by decide +kernel)⟩
theorem lw_p86 : lw_okq (⟨"GhostTrainModel", "isTrain", "()Z"⟩, 22) := ⟨⟨by decide +kernel, by decide +kernel⟩, List.mem_of_getElem? (i := 816) (by decide +kernel), List.mem_of_getElem? (i := 997) (by decide +kernel), List.mem_of_getElem? (i := 998) (by decide +kernel)⟩
theorem lw_p87 : lw_okq (⟨"GhostTrainModel", "rankByNumbers", "()V"⟩, 22) := ⟨⟨by decide +kernel, by decide +kernel⟩, List.mem_of_getElem? (i := 816) (by decide +kernel), List.mem_of_getElem? (i := 1001) (by decide +kernel), List.mem_of_getElem? (i := 1002) (by decide +kernel)⟩
theorem lw_p88 : lw_okq (⟨"GhostTrainModel", "remember", "()V"⟩, 22) := ⟨⟨by decide +kernel, by decide +kernel⟩, List.mem_of_getElem? (i := 816) (by decide +kernel), List.mem_of_getElem? (i := 1005) (by decide +kernel), List.mem_of_getElem? (i := 1006) (by decide +kernel)⟩
theorem lw_p89 : lw_okq (⟨"GhostTrainModel", "tickAt", "(I)V"⟩, 22) := ⟨⟨by decide +kernel, by decide +kernel⟩, List.mem_of_getElem? (i := 816) (by decide +kernel), List.mem_of_getElem? (i := 1009) (by decide +kernel), List.mem_of_getElem? (i := 1010) (by decide +kernel)⟩
theorem lw_p90 : lw_okq (⟨"GhostTrainModel", "carIn", "(II)I"⟩, 22) := ⟨⟨by decide +kernel, by decide +kernel⟩, List.mem_of_getElem? (i := 816) (by decide +kernel), List.mem_of_getElem? (i := 1013) (by decide +kernel), List.mem_of_getElem? (i := 1014) (by decide +kernel)⟩
theorem lw_p91 : lw_okq (⟨"GhostTrainModel", "goes", "(II)V"⟩, 22) := ⟨⟨by decide +kernel, by decide +kernel⟩, List.mem_of_getElem? (i := 816) (by decide +kernel), List.mem_of_getElem? (i := 1018) (by decide +kernel), List.mem_of_getElem? (i := 1019) (by decide +kernel)⟩
theorem lw_p92 : lw_okq (⟨"GhostTrainModel", "comes", "(III)Z"⟩, 22) := ⟨⟨by decide +kernel, by decide +kernel⟩, List.mem_of_getElem? (i := 816) (by decide +kernel), List.mem_of_getElem? (i := 1022) (by decide +kernel), List.mem_of_getElem? (i := 1023) (by decide +kernel)⟩
theorem lw_p93 : lw_okq (⟨"GhostTrainModel", "fright", "(III)I"⟩, 22) := ⟨⟨by decide +kernel, by decide +kernel⟩, List.mem_of_getElem? (i := 816) (by decide +kernel), List.mem_of_getElem? (i := 1026) (by decide +kernel), List.mem_of_getElem? (i := 1027) (by decide +kernel)⟩
theorem lw_p94 : lw_okq (⟨"GhostTrainModel", "runsAlone", "(II)Z"⟩, 22) := ⟨⟨by decide +kernel, by decide +kernel⟩, List.mem_of_getElem? (i := 816) (by decide +kernel), List.mem_of_getElem? (i := 1030) (by decide +kernel), List.mem_of_getElem? (i := 1031) (by decide +kernel)⟩
theorem lw_p95 : lw_okq (⟨"GhostTrainModel", "carsThat", "(II)I"⟩, 22) := ⟨⟨by decide +kernel, by decide +kernel⟩, List.mem_of_getElem? (i := 816) (by decide +kernel), List.mem_of_getElem? (i := 1034) (by decide +kernel), List.mem_of_getElem? (i := 1035) (by decide +kernel)⟩
def lw_privs_6 : List (MethodName × Nat) := [(⟨"GhostTrainModel", "fail", "(II)V"⟩, 22), (⟨"GhostTrainModel", "number", "(II)I"⟩, 22), (⟨"GhostTrainModel", "isFigure", "(I)Z"⟩, 22), (⟨"GhostTrainModel", "readTrick", "()V"⟩, 22), (⟨"GhostTrainModel", "readCar", "()V"⟩, 22), (⟨"GhostTrainModel", "copyRow", "(II)V"⟩, 22), (⟨"GhostTrainModel", "isTrain", "()Z"⟩, 22), (⟨"GhostTrainModel", "rankByNumbers", "()V"⟩, 22), (⟨"GhostTrainModel", "remember", "()V"⟩, 22), (⟨"GhostTrainModel", "tickAt", "(I)V"⟩, 22), (⟨"GhostTrainModel", "carIn", "(II)I"⟩, 22), (⟨"GhostTrainModel", "goes", "(II)V"⟩, 22), (⟨"GhostTrainModel", "comes", "(III)Z"⟩, 22), (⟨"GhostTrainModel", "fright", "(III)I"⟩, 22), (⟨"GhostTrainModel", "runsAlone", "(II)Z"⟩, 22), (⟨"GhostTrainModel", "carsThat", "(II)I"⟩, 22)]
theorem lw_r6 : ∀ q ∈ lw_privs_6, lw_okq q := List.forall_mem_cons.mpr ⟨lw_p80, List.forall_mem_cons.mpr ⟨lw_p81, List.forall_mem_cons.mpr ⟨lw_p82, List.forall_mem_cons.mpr ⟨lw_p83, List.forall_mem_cons.mpr ⟨lw_p84, List.forall_mem_cons.mpr ⟨lw_p85, List.forall_mem_cons.mpr ⟨lw_p86, List.forall_mem_cons.mpr ⟨lw_p87, List.forall_mem_cons.mpr ⟨lw_p88, List.forall_mem_cons.mpr ⟨lw_p89, List.forall_mem_cons.mpr ⟨lw_p90, List.forall_mem_cons.mpr ⟨lw_p91, List.forall_mem_cons.mpr ⟨lw_p92, List.forall_mem_cons.mpr ⟨lw_p93, List.forall_mem_cons.mpr ⟨lw_p94, List.forall_mem_cons.mpr ⟨lw_p95, fun _ h => absurd h List.not_mem_nil⟩⟩⟩⟩⟩⟩⟩⟩⟩⟩⟩⟩⟩⟩⟩⟩
theorem lw_p96 : lw_okq (⟨"GhostTrainModel", "isTrick", "(I)Z"⟩, 22) := ⟨⟨by decide +kernel, by decide +kernel⟩, List.mem_of_getElem? (i := 816) (by decide +kernel), List.mem_of_getElem? (i := 1042) (by decide +kernel), List.mem_of_getElem? (i := 1043) (by decide +kernel)⟩
theorem lw_p97 : lw_okq (⟨"GhostTrainModel", "isCell", "(I)Z"⟩, 22) := ⟨⟨by decide +kernel, by decide +kernel⟩, List.mem_of_getElem? (i := 816) (by decide +kernel), List.mem_of_getElem? (i := 1046) (by decide +kernel), List.mem_of_getElem? (i := 1047) (by decide +kernel)⟩
theorem lw_p98 : lw_okq (⟨"GhostTrainModel", "isCar", "(I)Z"⟩, 22) := ⟨⟨by decide +kernel, by decide +kernel⟩, List.mem_of_getElem? (i := 816) (by decide +kernel), List.mem_of_getElem? (i := 1058) (by decide +kernel), List.mem_of_getElem? (i := 1059) (by decide +kernel)⟩
theorem lw_p99 : lw_okq (⟨"GhostTrainModel", "goesAgain", "(II)V"⟩, 22) := ⟨⟨by decide +kernel, by decide +kernel⟩, List.mem_of_getElem? (i := 816) (by decide +kernel), List.mem_of_getElem? (i := 1066) (by decide +kernel), List.mem_of_getElem? (i := 1067) (by decide +kernel)⟩
theorem lw_p100 : lw_okq (⟨"GhostTrainModel", "tricksIn", "(I)I"⟩, 22) := ⟨⟨by decide +kernel, by decide +kernel⟩, List.mem_of_getElem? (i := 816) (by decide +kernel), List.mem_of_getElem? (i := 1082) (by decide +kernel), List.mem_of_getElem? (i := 1083) (by decide +kernel)⟩
theorem lw_p101 : lw_okq (⟨"GhostTrainModel", "onSet", "(I)I"⟩, 22) := ⟨⟨by decide +kernel, by decide +kernel⟩, List.mem_of_getElem? (i := 816) (by decide +kernel), List.mem_of_getElem? (i := 1090) (by decide +kernel), List.mem_of_getElem? (i := 1091) (by decide +kernel)⟩
theorem lw_p102 : lw_okq (⟨"GhostTrainModel", "beginTry", "()V"⟩, 22) := ⟨⟨by decide +kernel, by decide +kernel⟩, List.mem_of_getElem? (i := 816) (by decide +kernel), List.mem_of_getElem? (i := 1098) (by decide +kernel), List.mem_of_getElem? (i := 1099) (by decide +kernel)⟩
theorem lw_p103 : lw_okq (⟨"GhostTrainModel", "noHowls", "()V"⟩, 22) := ⟨⟨by decide +kernel, by decide +kernel⟩, List.mem_of_getElem? (i := 816) (by decide +kernel), List.mem_of_getElem? (i := 1102) (by decide +kernel), List.mem_of_getElem? (i := 1103) (by decide +kernel)⟩
theorem lw_p104 : lw_okq (⟨"GhostTrainModel", "goOn", "(I)V"⟩, 22) := ⟨⟨by decide +kernel, by decide +kernel⟩, List.mem_of_getElem? (i := 816) (by decide +kernel), List.mem_of_getElem? (i := 1106) (by decide +kernel), List.mem_of_getElem? (i := 1107) (by decide +kernel)⟩
theorem lw_p105 : lw_okq (⟨"GhostTrainModel", "sumOf", "(II)I"⟩, 22) := ⟨⟨by decide +kernel, by decide +kernel⟩, List.mem_of_getElem? (i := 816) (by decide +kernel), List.mem_of_getElem? (i := 1114) (by decide +kernel), List.mem_of_getElem? (i := 1115) (by decide +kernel)⟩
theorem lw_p106 : lw_okq (⟨"GhostTrainModel", "allMet", "(I)I"⟩, 22) := ⟨⟨by decide +kernel, by decide +kernel⟩, List.mem_of_getElem? (i := 816) (by decide +kernel), List.mem_of_getElem? (i := 1118) (by decide +kernel), List.mem_of_getElem? (i := 1119) (by decide +kernel)⟩
theorem lw_p107 : lw_okq (⟨"GhostTrainModel", "allOut", "()Z"⟩, 22) := ⟨⟨by decide +kernel, by decide +kernel⟩, List.mem_of_getElem? (i := 816) (by decide +kernel), List.mem_of_getElem? (i := 1130) (by decide +kernel), List.mem_of_getElem? (i := 1131) (by decide +kernel)⟩
theorem lw_p108 : lw_okq (⟨"GhostTrainModel", "valueOfOrder", "(I)I"⟩, 22) := ⟨⟨by decide +kernel, by decide +kernel⟩, List.mem_of_getElem? (i := 816) (by decide +kernel), List.mem_of_getElem? (i := 1138) (by decide +kernel), List.mem_of_getElem? (i := 1139) (by decide +kernel)⟩
theorem lw_p109 : lw_okq (⟨"GhostTrainModel", "nextOrder", "(I)Z"⟩, 22) := ⟨⟨by decide +kernel, by decide +kernel⟩, List.mem_of_getElem? (i := 816) (by decide +kernel), List.mem_of_getElem? (i := 1145) (by decide +kernel), List.mem_of_getElem? (i := 1146) (by decide +kernel)⟩
theorem lw_p110 : lw_okq (⟨"GhostTrainModel", "allTricks", "()I"⟩, 22) := ⟨⟨by decide +kernel, by decide +kernel⟩, List.mem_of_getElem? (i := 816) (by decide +kernel), List.mem_of_getElem? (i := 1157) (by decide +kernel), List.mem_of_getElem? (i := 1158) (by decide +kernel)⟩
theorem lw_p111 : lw_okq (⟨"GhostTrainModel", "switchAll", "(I)V"⟩, 22) := ⟨⟨by decide +kernel, by decide +kernel⟩, List.mem_of_getElem? (i := 816) (by decide +kernel), List.mem_of_getElem? (i := 1161) (by decide +kernel), List.mem_of_getElem? (i := 1162) (by decide +kernel)⟩
def lw_privs_7 : List (MethodName × Nat) := [(⟨"GhostTrainModel", "isTrick", "(I)Z"⟩, 22), (⟨"GhostTrainModel", "isCell", "(I)Z"⟩, 22), (⟨"GhostTrainModel", "isCar", "(I)Z"⟩, 22), (⟨"GhostTrainModel", "goesAgain", "(II)V"⟩, 22), (⟨"GhostTrainModel", "tricksIn", "(I)I"⟩, 22), (⟨"GhostTrainModel", "onSet", "(I)I"⟩, 22), (⟨"GhostTrainModel", "beginTry", "()V"⟩, 22), (⟨"GhostTrainModel", "noHowls", "()V"⟩, 22), (⟨"GhostTrainModel", "goOn", "(I)V"⟩, 22), (⟨"GhostTrainModel", "sumOf", "(II)I"⟩, 22), (⟨"GhostTrainModel", "allMet", "(I)I"⟩, 22), (⟨"GhostTrainModel", "allOut", "()Z"⟩, 22), (⟨"GhostTrainModel", "valueOfOrder", "(I)I"⟩, 22), (⟨"GhostTrainModel", "nextOrder", "(I)Z"⟩, 22), (⟨"GhostTrainModel", "allTricks", "()I"⟩, 22), (⟨"GhostTrainModel", "switchAll", "(I)V"⟩, 22)]
theorem lw_r7 : ∀ q ∈ lw_privs_7, lw_okq q := List.forall_mem_cons.mpr ⟨lw_p96, List.forall_mem_cons.mpr ⟨lw_p97, List.forall_mem_cons.mpr ⟨lw_p98, List.forall_mem_cons.mpr ⟨lw_p99, List.forall_mem_cons.mpr ⟨lw_p100, List.forall_mem_cons.mpr ⟨lw_p101, List.forall_mem_cons.mpr ⟨lw_p102, List.forall_mem_cons.mpr ⟨lw_p103, List.forall_mem_cons.mpr ⟨lw_p104, List.forall_mem_cons.mpr ⟨lw_p105, List.forall_mem_cons.mpr ⟨lw_p106, List.forall_mem_cons.mpr ⟨lw_p107, List.forall_mem_cons.mpr ⟨lw_p108, List.forall_mem_cons.mpr ⟨lw_p109, List.forall_mem_cons.mpr ⟨lw_p110, List.forall_mem_cons.mpr ⟨lw_p111, fun _ h => absurd h List.not_mem_nil⟩⟩⟩⟩⟩⟩⟩⟩⟩⟩⟩⟩⟩⟩⟩⟩
theorem lw_p112 : lw_okq (⟨"GhostTrainModel", "ridersOf", "(I)I"⟩, 22) := ⟨⟨by decide +kernel, by decide +kernel⟩, List.mem_of_getElem? (i := 816) (by decide +kernel), List.mem_of_getElem? (i := 1176) (by decide +kernel), List.mem_of_getElem? (i := 1177) (by decide +kernel)⟩
theorem lw_p113 : lw_okq (⟨"GhostTrainModel", "metOf", "(I)I"⟩, 22) := ⟨⟨by decide +kernel, by decide +kernel⟩, List.mem_of_getElem? (i := 816) (by decide +kernel), List.mem_of_getElem? (i := 1184) (by decide +kernel), List.mem_of_getElem? (i := 1185) (by decide +kernel)⟩
theorem lw_p114 : lw_okq (⟨"GhostTrainModel", "chosen", "(IZ)I"⟩, 22) := ⟨⟨by decide +kernel, by decide +kernel⟩, List.mem_of_getElem? (i := 816) (by decide +kernel), List.mem_of_getElem? (i := 1192) (by decide +kernel), List.mem_of_getElem? (i := 1193) (by decide +kernel)⟩
theorem lw_p115 : lw_okq (⟨"GhostTrainModel", "wrongRow", "(III)I"⟩, 22) := ⟨⟨by decide +kernel, by decide +kernel⟩, List.mem_of_getElem? (i := 816) (by decide +kernel), List.mem_of_getElem? (i := 1200) (by decide +kernel), List.mem_of_getElem? (i := 1201) (by decide +kernel)⟩
theorem lw_p116 : lw_okq (⟨"GhostTrainModel", "isTold", "(IIII)Z"⟩, 22) := ⟨⟨by decide +kernel, by decide +kernel⟩, List.mem_of_getElem? (i := 816) (by decide +kernel), List.mem_of_getElem? (i := 1204) (by decide +kernel), List.mem_of_getElem? (i := 1205) (by decide +kernel)⟩
theorem lw_p117 : lw_okq (⟨"GhostTrainModel", "kindAt", "(I)I"⟩, 22) := ⟨⟨by decide +kernel, by decide +kernel⟩, List.mem_of_getElem? (i := 816) (by decide +kernel), List.mem_of_getElem? (i := 1238) (by decide +kernel), List.mem_of_getElem? (i := 1239) (by decide +kernel)⟩
theorem lw_p118 : lw_okq (⟨"GhostTrainModel", "sizeOf", "(I)I"⟩, 22) := ⟨⟨by decide +kernel, by decide +kernel⟩, List.mem_of_getElem? (i := 816) (by decide +kernel), List.mem_of_getElem? (i := 1250) (by decide +kernel), List.mem_of_getElem? (i := 1251) (by decide +kernel)⟩
theorem lw_p119 : lw_okq (⟨"GhostTrainModel", "begins", "(I)V"⟩, 22) := ⟨⟨by decide +kernel, by decide +kernel⟩, List.mem_of_getElem? (i := 816) (by decide +kernel), List.mem_of_getElem? (i := 1254) (by decide +kernel), List.mem_of_getElem? (i := 1255) (by decide +kernel)⟩
theorem lw_p120 : lw_okq (⟨"GhostTrainModel", "body11", "(I)I"⟩, 22) := ⟨⟨by decide +kernel, by decide +kernel⟩, List.mem_of_getElem? (i := 816) (by decide +kernel), List.mem_of_getElem? (i := 1258) (by decide +kernel), List.mem_of_getElem? (i := 1259) (by decide +kernel)⟩
theorem lw_p121 : lw_okq (⟨"GhostTrainModel", "body10", "(I)I"⟩, 22) := ⟨⟨by decide +kernel, by decide +kernel⟩, List.mem_of_getElem? (i := 816) (by decide +kernel), List.mem_of_getElem? (i := 1262) (by decide +kernel), List.mem_of_getElem? (i := 1263) (by decide +kernel)⟩
theorem lw_p122 : lw_okq (⟨"GhostTrainModel", "markOfBones", "(I)I"⟩, 22) := ⟨⟨by decide +kernel, by decide +kernel⟩, List.mem_of_getElem? (i := 816) (by decide +kernel), List.mem_of_getElem? (i := 1266) (by decide +kernel), List.mem_of_getElem? (i := 1267) (by decide +kernel)⟩
theorem lw_p123 : lw_okq (⟨"GhostTrainModel", "body21", "(I)I"⟩, 22) := ⟨⟨by decide +kernel, by decide +kernel⟩, List.mem_of_getElem? (i := 816) (by decide +kernel), List.mem_of_getElem? (i := 1270) (by decide +kernel), List.mem_of_getElem? (i := 1271) (by decide +kernel)⟩
theorem lw_p124 : lw_okq (⟨"GhostTrainModel", "body20", "(I)I"⟩, 22) := ⟨⟨by decide +kernel, by decide +kernel⟩, List.mem_of_getElem? (i := 816) (by decide +kernel), List.mem_of_getElem? (i := 1274) (by decide +kernel), List.mem_of_getElem? (i := 1275) (by decide +kernel)⟩
theorem lw_p125 : lw_okq (⟨"GhostTrainModel", "body13", "(I)I"⟩, 22) := ⟨⟨by decide +kernel, by decide +kernel⟩, List.mem_of_getElem? (i := 816) (by decide +kernel), List.mem_of_getElem? (i := 1278) (by decide +kernel), List.mem_of_getElem? (i := 1279) (by decide +kernel)⟩
theorem lw_p126 : lw_okq (⟨"GhostTrainModel", "markOf", "(I)I"⟩, 22) := ⟨⟨by decide +kernel, by decide +kernel⟩, List.mem_of_getElem? (i := 816) (by decide +kernel), List.mem_of_getElem? (i := 1282) (by decide +kernel), List.mem_of_getElem? (i := 1283) (by decide +kernel)⟩
theorem lw_p127 : lw_okq (⟨"GhostTrainModel", "rowMany", "()I"⟩, 22) := ⟨⟨by decide +kernel, by decide +kernel⟩, List.mem_of_getElem? (i := 816) (by decide +kernel), List.mem_of_getElem? (i := 1294) (by decide +kernel), List.mem_of_getElem? (i := 1295) (by decide +kernel)⟩
def lw_privs_8 : List (MethodName × Nat) := [(⟨"GhostTrainModel", "ridersOf", "(I)I"⟩, 22), (⟨"GhostTrainModel", "metOf", "(I)I"⟩, 22), (⟨"GhostTrainModel", "chosen", "(IZ)I"⟩, 22), (⟨"GhostTrainModel", "wrongRow", "(III)I"⟩, 22), (⟨"GhostTrainModel", "isTold", "(IIII)Z"⟩, 22), (⟨"GhostTrainModel", "kindAt", "(I)I"⟩, 22), (⟨"GhostTrainModel", "sizeOf", "(I)I"⟩, 22), (⟨"GhostTrainModel", "begins", "(I)V"⟩, 22), (⟨"GhostTrainModel", "body11", "(I)I"⟩, 22), (⟨"GhostTrainModel", "body10", "(I)I"⟩, 22), (⟨"GhostTrainModel", "markOfBones", "(I)I"⟩, 22), (⟨"GhostTrainModel", "body21", "(I)I"⟩, 22), (⟨"GhostTrainModel", "body20", "(I)I"⟩, 22), (⟨"GhostTrainModel", "body13", "(I)I"⟩, 22), (⟨"GhostTrainModel", "markOf", "(I)I"⟩, 22), (⟨"GhostTrainModel", "rowMany", "()I"⟩, 22)]
theorem lw_r8 : ∀ q ∈ lw_privs_8, lw_okq q := List.forall_mem_cons.mpr ⟨lw_p112, List.forall_mem_cons.mpr ⟨lw_p113, List.forall_mem_cons.mpr ⟨lw_p114, List.forall_mem_cons.mpr ⟨lw_p115, List.forall_mem_cons.mpr ⟨lw_p116, List.forall_mem_cons.mpr ⟨lw_p117, List.forall_mem_cons.mpr ⟨lw_p118, List.forall_mem_cons.mpr ⟨lw_p119, List.forall_mem_cons.mpr ⟨lw_p120, List.forall_mem_cons.mpr ⟨lw_p121, List.forall_mem_cons.mpr ⟨lw_p122, List.forall_mem_cons.mpr ⟨lw_p123, List.forall_mem_cons.mpr ⟨lw_p124, List.forall_mem_cons.mpr ⟨lw_p125, List.forall_mem_cons.mpr ⟨lw_p126, List.forall_mem_cons.mpr ⟨lw_p127, fun _ h => absurd h List.not_mem_nil⟩⟩⟩⟩⟩⟩⟩⟩⟩⟩⟩⟩⟩⟩⟩⟩
def lw_privs : List (MethodName × Nat) := lw_privs_1 ++ (lw_privs_2 ++ (lw_privs_3 ++ (lw_privs_4 ++ (lw_privs_5 ++ (lw_privs_6 ++ (lw_privs_7 ++ (lw_privs_8)))))))
def lw_tbl : List Cond := k2_sels lw_privs ++ tables_1
theorem lw_privs_ok : ∀ q ∈ lw_privs, lw_okq q := by
  show ∀ q ∈ lw_privs_1 ++ (lw_privs_2 ++ (lw_privs_3 ++ (lw_privs_4 ++ (lw_privs_5 ++ (lw_privs_6 ++ (lw_privs_7 ++ (lw_privs_8))))))), lw_okq q
  exact List.forall_mem_append.mpr ⟨lw_r1, List.forall_mem_append.mpr ⟨lw_r2, List.forall_mem_append.mpr ⟨lw_r3, List.forall_mem_append.mpr ⟨lw_r4, List.forall_mem_append.mpr ⟨lw_r5, List.forall_mem_append.mpr ⟨lw_r6, List.forall_mem_append.mpr ⟨lw_r7, lw_r8⟩⟩⟩⟩⟩⟩⟩
-- ===== end of PART A; then your names; then what follows =====
end
section
theorem goodIn_r {big : List Cond} (ws : List Cond) (ps : List Nat) (hp : ws = ps.filterMap (fun i => big[i]?)) (h : ws.all goodWord = true) : GoodIn big ws := by
  intro w hw
  have h1 := List.all_eq_true.mp h w hw
  rw [hp] at hw
  obtain ⟨i, -, hi⟩ := List.mem_filterMap.mp hw
  have hm : w ∈ big := by first | exact List.mem_of_getElem? hi | exact List.getElem?_mem hi
  exact ⟨hm, good_of_word h1⟩
theorem goodIn_app {big a b : List Cond} (ha : GoodIn big a) (hb : GoodIn big b) : GoodIn big (a ++ b) := fun w h => (List.mem_append.mp h).elim (ha w) (hb w)
theorem goodIn_ca {big a b : List Cond} {c : Cond} (ha : GoodIn big (c :: a)) (hb : GoodIn big b) : GoodIn big (c :: (a ++ b)) := fun w h => (List.mem_cons.mp h).elim (fun e => ha w (List.mem_cons.mpr (Or.inl e))) (fun h => (List.mem_append.mp h).elim (fun h => ha w (List.mem_cons.mpr (Or.inr h))) (hb w))
theorem goodIn_sub {big ws : List Cond} (hm : ∀ w ∈ ws, w ∈ big) (h : ws.all goodWord = true) : GoodIn big ws := fun w hw => ⟨hm w hw, good_of_word (List.all_eq_true.mp h w hw)⟩

def RX0 : String := "GhostTrain$Acts"
def TX0 : u_T := fun k => match k with
  | 0 => ("GhostTrain$Acts", "before", "[LGhostTrain$Train;", true)
  | 1 => ("GhostTrain$Acts", "next", "I", false)
  | _ => ("GhostTrain$Acts", "kept", "I", false)
def tyX0 : Nat → FieldType := fun k => match k with
  | 0 => .array (.object "GhostTrain$Train")
  | 1 => .int
  | _ => .int
abbrev wsX00 : List Cond := u_ws RX0 TX0 3
theorem nmX0 : ∀ a, a < 3 → ∀ b, b < 3 → a ≠ b → (TX0 a).2.1 ≠ (TX0 b).2.1 := by decide +kernel
theorem tyX0_ok : ∀ k, k < 3 → parseFieldDescriptor (TX0 k).2.2.1 = some (tyX0 k) := by decide +kernel
abbrev cX0_init : ByteArray := prog_2_method_1_code
def yX0_init : MethodName := ⟨RX0, "<init>", "()V"⟩
abbrev cX0_keep : ByteArray := prog_2_method_2_code
def yX0_keep : MethodName := ⟨RX0, "keep", "(LGhostTrain$Train;)V"⟩
abbrev cX0_takeBack : ByteArray := prog_2_method_3_code
def yX0_takeBack : MethodName := ⟨RX0, "takeBack", "(LGhostTrain$Train;)V"⟩
def RX1 : String := "GhostTrain$Asker"
def TX1 : u_T := fun k => match k with
  | 0 => ("GhostTrain$Asker", "bodies", "[I", true)
  | _ => ("GhostTrain$Asker", "traced", "I", false)
def tyX1 : Nat → FieldType := fun k => match k with
  | 0 => .array .int
  | _ => .int
abbrev wsX10 : List Cond := u_ws RX1 TX1 2
theorem nmX1 : ∀ a, a < 2 → ∀ b, b < 2 → a ≠ b → (TX1 a).2.1 ≠ (TX1 b).2.1 := by decide +kernel
theorem tyX1_ok : ∀ k, k < 2 → parseFieldDescriptor (TX1 k).2.2.1 = some (tyX1 k) := by decide +kernel
abbrev cX1_init : ByteArray := prog_3_method_1_code
def yX1_init : MethodName := ⟨RX1, "<init>", "()V"⟩
abbrev cX1_isOfKind : ByteArray := prog_3_method_2_code
def yX1_isOfKind : MethodName := ⟨RX1, "isOfKind", "(II)Z"⟩
abbrev cX1_answer : ByteArray := prog_3_method_3_code
def yX1_answer : MethodName := ⟨RX1, "answer", "(LGhostTrain$Train;II)I"⟩
abbrev cX1_give : ByteArray := prog_3_method_4_code
def yX1_give : MethodName := ⟨RX1, "give", "(LGhostTrain$Asker;LGhostTrain$Train;III)I"⟩
abbrev cX1_begins : ByteArray := prog_3_method_5_code
def yX1_begins : MethodName := ⟨RX1, "begins", "(I)V"⟩
def RX2 : String := "GhostTrain$Foresight"
def TX2 : u_T := fun k => match k with
  | 0 => ("GhostTrain$Foresight", "trial", "LGhostTrain$Train;", true)
  | 1 => ("GhostTrain$Foresight", "told", "[I", true)
  | 2 => ("GhostTrain$Foresight", "toldTicks", "I", false)
  | 3 => ("GhostTrain$Foresight", "bestOrder", "[I", true)
  | 4 => ("GhostTrain$Foresight", "tried", "[I", true)
  | 5 => ("GhostTrain$Foresight", "best", "[I", true)
  | 6 => ("GhostTrain$Foresight", "orderTicks", "I", false)
  | 7 => ("GhostTrain$Foresight", "orderScreams", "I", false)
  | _ => ("GhostTrain$Foresight", "comesOf", "[I", true)
def tyX2 : Nat → FieldType := fun k => match k with
  | 0 => .object "GhostTrain$Train"
  | 1 => .array .int
  | 2 => .int
  | 3 => .array .int
  | 4 => .array .int
  | 5 => .array .int
  | 6 => .int
  | 7 => .int
  | _ => .array .int
abbrev wsX20 : List Cond := u_ws RX2 TX2 9
theorem nmX2 : ∀ a, a < 9 → ∀ b, b < 9 → a ≠ b → (TX2 a).2.1 ≠ (TX2 b).2.1 := by decide +kernel
theorem tyX2_ok : ∀ k, k < 9 → parseFieldDescriptor (TX2 k).2.2.1 = some (tyX2 k) := by decide +kernel
abbrev cX2_init : ByteArray := prog_4_method_1_code
def yX2_init : MethodName := ⟨RX2, "<init>", "()V"⟩
abbrev cX2_forget : ByteArray := prog_4_method_2_code
def yX2_forget : MethodName := ⟨RX2, "forget", "()V"⟩
abbrev cX2_behind : ByteArray := prog_4_method_3_code
def yX2_behind : MethodName := ⟨RX2, "behind", "(LGhostTrain$Train;I)LGhostTrain$Train;"⟩
abbrev cX2_firstTime : ByteArray := prog_4_method_4_code
def yX2_firstTime : MethodName := ⟨RX2, "firstTime", "(LGhostTrain$Train;II)I"⟩
abbrev cX2_hasCome : ByteArray := prog_4_method_5_code
def yX2_hasCome : MethodName := ⟨RX2, "hasCome", "(III)Z"⟩
abbrev cX2_firstAllOut : ByteArray := prog_4_method_6_code
def yX2_firstAllOut : MethodName := ⟨RX2, "firstAllOut", "(LGhostTrain$Train;)I"⟩
abbrev cX2_findOrder : ByteArray := prog_4_method_7_code
def yX2_findOrder : MethodName := ⟨RX2, "findOrder", "(LGhostTrain$Train;I)V"⟩
abbrev cX2_listWaitingFirst : ByteArray := prog_4_method_8_code
def yX2_listWaitingFirst : MethodName := ⟨RX2, "listWaitingFirst", "(LGhostTrain$Train;)I"⟩
abbrev cX2_nextOrder : ByteArray := prog_4_method_9_code
def yX2_nextOrder : MethodName := ⟨RX2, "nextOrder", "(I)Z"⟩
abbrev cX2_swapTried : ByteArray := prog_4_method_10_code
def yX2_swapTried : MethodName := ⟨RX2, "swapTried", "(II)V"⟩
abbrev cX2_mergeBest : ByteArray := prog_4_method_11_code
def yX2_mergeBest : MethodName := ⟨RX2, "mergeBest", "(II)V"⟩
abbrev cX2_mostAt : ByteArray := prog_4_method_12_code
def yX2_mostAt : MethodName := ⟨RX2, "mostAt", "(LGhostTrain$Train;III)I"⟩
abbrev cX2_fewestOff : ByteArray := prog_4_method_13_code
def yX2_fewestOff : MethodName := ⟨RX2, "fewestOff", "(LGhostTrain$Train;I)I"⟩
abbrev cX2_isCalm : ByteArray := prog_4_method_14_code
def yX2_isCalm : MethodName := ⟨RX2, "isCalm", "(LGhostTrain$Train;II)Z"⟩
abbrev cX2_leastNerve : ByteArray := prog_4_method_15_code
def yX2_leastNerve : MethodName := ⟨RX2, "leastNerve", "(LGhostTrain$Train;II)I"⟩
abbrev cX2_switchingByTurns : ByteArray := prog_4_method_16_code
def yX2_switchingByTurns : MethodName := ⟨RX2, "switchingByTurns", "(LGhostTrain$Train;II)I"⟩
abbrev cX2_switchOnForMost : ByteArray := prog_4_method_17_code
def yX2_switchOnForMost : MethodName := ⟨RX2, "switchOnForMost", "(I)V"⟩
abbrev cX2_switchOffForFewest : ByteArray := prog_4_method_18_code
def yX2_switchOffForFewest : MethodName := ⟨RX2, "switchOffForFewest", "(I)V"⟩
abbrev cX2_hear : ByteArray := prog_4_method_19_code
def yX2_hear : MethodName := ⟨RX2, "hear", "(LGhostTrain$Row;II)V"⟩
abbrev cX2_isAsTold : ByteArray := prog_4_method_20_code
def yX2_isAsTold : MethodName := ⟨RX2, "isAsTold", "(I)Z"⟩
abbrev cX2_fittingTricks : ByteArray := prog_4_method_21_code
def yX2_fittingTricks : MethodName := ⟨RX2, "fittingTricks", "(LGhostTrain$Train;III)I"⟩
abbrev cX2_fittingNerves : ByteArray := prog_4_method_22_code
def yX2_fittingNerves : MethodName := ⟨RX2, "fittingNerves", "(LGhostTrain$Train;II)I"⟩
abbrev cX2_screamsIfFailing : ByteArray := prog_4_method_23_code
def yX2_screamsIfFailing : MethodName := ⟨RX2, "screamsIfFailing", "(LGhostTrain$Train;IIII)J"⟩
abbrev cX2_power : ByteArray := prog_4_method_24_code
def yX2_power : MethodName := ⟨RX2, "power", "(JI)J"⟩
abbrev cX2_commonDivisor : ByteArray := prog_4_method_25_code
def yX2_commonDivisor : MethodName := ⟨RX2, "commonDivisor", "(JJ)J"⟩
abbrev cX2_nightsByDraws : ByteArray := prog_4_method_26_code
def yX2_nightsByDraws : MethodName := ⟨RX2, "nightsByDraws", "(LGhostTrain$Train;III)I"⟩
abbrev cX2_draw : ByteArray := prog_4_method_27_code
def yX2_draw : MethodName := ⟨RX2, "draw", "(J)V"⟩
def RX3 : String := "GhostTrain$Row"
def TX3 : u_T := fun k => match k with
  | 0 => ("GhostTrain$Row", "there", "Z", false)
  | 1 => ("GhostTrain$Row", "lane", "I", false)
  | 2 => ("GhostTrain$Row", "size", "I", false)
  | _ => ("GhostTrain$Row", "items", "[I", true)
def tyX3 : Nat → FieldType := fun k => match k with
  | 0 => .boolean
  | 1 => .int
  | 2 => .int
  | _ => .array .int
abbrev wsX30 : List Cond := u_ws RX3 TX3 4
theorem nmX3 : ∀ a, a < 4 → ∀ b, b < 4 → a ≠ b → (TX3 a).2.1 ≠ (TX3 b).2.1 := by decide +kernel
theorem tyX3_ok : ∀ k, k < 4 → parseFieldDescriptor (TX3 k).2.2.1 = some (tyX3 k) := by decide +kernel
abbrev cX3_init : ByteArray := prog_5_method_1_code
def yX3_init : MethodName := ⟨RX3, "<init>", "()V"⟩
abbrev cX3_begin : ByteArray := prog_5_method_2_code
def yX3_begin : MethodName := ⟨RX3, "begin", "(II)V"⟩
abbrev cX3_cut : ByteArray := prog_5_method_3_code
def yX3_cut : MethodName := ⟨RX3, "cut", "(I)I"⟩
abbrev cX3_holds : ByteArray := prog_5_method_4_code
def yX3_holds : MethodName := ⟨RX3, "holds", "(II)Z"⟩
def RX4 : String := "GhostTrain$Tape"
def TX4 : u_T := fun k => match k with
  | 0 => ("GhostTrain$Tape", "bytes", "[I", true)
  | 1 => ("GhostTrain$Tape", "size", "I", false)
  | 2 => ("GhostTrain$Tape", "at", "I", false)
  | _ => ("GhostTrain$Tape", "faultNumber", "I", false)
def tyX4 : Nat → FieldType := fun k => match k with
  | 0 => .array .int
  | 1 => .int
  | 2 => .int
  | _ => .int
abbrev wsX40 : List Cond := u_ws RX4 TX4 4
theorem nmX4 : ∀ a, a < 4 → ∀ b, b < 4 → a ≠ b → (TX4 a).2.1 ≠ (TX4 b).2.1 := by decide +kernel
theorem tyX4_ok : ∀ k, k < 4 → parseFieldDescriptor (TX4 k).2.2.1 = some (tyX4 k) := by decide +kernel
abbrev cX4_init : ByteArray := prog_6_method_1_code
def yX4_init : MethodName := ⟨RX4, "<init>", "()V"⟩
abbrev cX4_readInto : ByteArray := prog_6_method_2_code
def yX4_readInto : MethodName := ⟨RX4, "readInto", "(LGhostTrain$Train;)Z"⟩
abbrev cX4_readLaw : ByteArray := prog_6_method_3_code
def yX4_readLaw : MethodName := ⟨RX4, "readLaw", "(LGhostTrain$Train;)Z"⟩
abbrev cX4_readTricks : ByteArray := prog_6_method_4_code
def yX4_readTricks : MethodName := ⟨RX4, "readTricks", "(LGhostTrain$Train;)Z"⟩
abbrev cX4_readCars : ByteArray := prog_6_method_5_code
def yX4_readCars : MethodName := ⟨RX4, "readCars", "(LGhostTrain$Train;)Z"⟩
abbrev cX4_faulty : ByteArray := prog_6_method_6_code
def yX4_faulty : MethodName := ⟨RX4, "faulty", "(I)Z"⟩
abbrev cX4_next : ByteArray := prog_6_method_7_code
def yX4_next : MethodName := ⟨RX4, "next", "()I"⟩
abbrev cX4_readSign : ByteArray := prog_6_method_8_code
def yX4_readSign : MethodName := ⟨RX4, "readSign", "(I)Z"⟩
abbrev cX4_readNumber : ByteArray := prog_6_method_9_code
def yX4_readNumber : MethodName := ⟨RX4, "readNumber", "(II)I"⟩
abbrev cX4_kindOfLetter : ByteArray := prog_6_method_10_code
def yX4_kindOfLetter : MethodName := ⟨RX4, "kindOfLetter", "(I)I"⟩
def RX5 : String := "GhostTrain$Train"
def TX5 : u_T := fun k => match k with
  | 0 => ("GhostTrain$Train", "cells", "I", false)
  | 1 => ("GhostTrain$Train", "tricks", "I", false)
  | 2 => ("GhostTrain$Train", "cars", "I", false)
  | 3 => ("GhostTrain$Train", "tick", "I", false)
  | 4 => ("GhostTrain$Train", "running", "I", false)
  | 5 => ("GhostTrain$Train", "kind", "[I", true)
  | 6 => ("GhostTrain$Train", "spot", "[I", true)
  | 7 => ("GhostTrain$Train", "power", "[I", true)
  | 8 => ("GhostTrain$Train", "on", "[Z", true)
  | 9 => ("GhostTrain$Train", "met", "[I", true)
  | 10 => ("GhostTrain$Train", "riders", "[I", true)
  | 11 => ("GhostTrain$Train", "nerve", "[I", true)
  | 12 => ("GhostTrain$Train", "pace", "[I", true)
  | 13 => ("GhostTrain$Train", "where", "[I", true)
  | 14 => ("GhostTrain$Train", "fear", "[I", true)
  | 15 => ("GhostTrain$Train", "screams", "[I", true)
  | 16 => ("GhostTrain$Train", "halted", "[Z", true)
  | 17 => ("GhostTrain$Train", "rank", "[I", true)
  | _ => ("GhostTrain$Train", "inCell", "[I", true)
def tyX5 : Nat → FieldType := fun k => match k with
  | 0 => .int
  | 1 => .int
  | 2 => .int
  | 3 => .int
  | 4 => .int
  | 5 => .array .int
  | 6 => .array .int
  | 7 => .array .int
  | 8 => .array .boolean
  | 9 => .array .int
  | 10 => .array .int
  | 11 => .array .int
  | 12 => .array .int
  | 13 => .array .int
  | 14 => .array .int
  | 15 => .array .int
  | 16 => .array .boolean
  | 17 => .array .int
  | _ => .array .int
abbrev wsX50 : List Cond := u_ws RX5 TX5 19
theorem nmX5 : ∀ a, a < 19 → ∀ b, b < 19 → a ≠ b → (TX5 a).2.1 ≠ (TX5 b).2.1 := by decide +kernel
theorem tyX5_ok : ∀ k, k < 19 → parseFieldDescriptor (TX5 k).2.2.1 = some (tyX5 k) := by decide +kernel
abbrev cX5_init : ByteArray := prog_7_method_1_code
def yX5_init : MethodName := ⟨RX5, "<init>", "()V"⟩
abbrev cX5_clear : ByteArray := prog_7_method_2_code
def yX5_clear : MethodName := ⟨RX5, "clear", "()V"⟩
abbrev cX5_addTrick : ByteArray := prog_7_method_3_code
def yX5_addTrick : MethodName := ⟨RX5, "addTrick", "(III)V"⟩
abbrev cX5_addCar : ByteArray := prog_7_method_4_code
def yX5_addCar : MethodName := ⟨RX5, "addCar", "(III)V"⟩
abbrev cX5_copyFrom : ByteArray := prog_7_method_5_code
def yX5_copyFrom : MethodName := ⟨RX5, "copyFrom", "(LGhostTrain$Train;)V"⟩
abbrev cX5_tickOn : ByteArray := prog_7_method_6_code
def yX5_tickOn : MethodName := ⟨RX5, "tickOn", "()V"⟩
abbrev cX5_tickOnFor : ByteArray := prog_7_method_7_code
def yX5_tickOnFor : MethodName := ⟨RX5, "tickOnFor", "(I)V"⟩
abbrev cX5_goOn : ByteArray := prog_7_method_8_code
def yX5_goOn : MethodName := ⟨RX5, "goOn", "(I)V"⟩
abbrev cX5_letIn : ByteArray := prog_7_method_9_code
def yX5_letIn : MethodName := ⟨RX5, "letIn", "()V"⟩
abbrev cX5_comeInto : ByteArray := prog_7_method_10_code
def yX5_comeInto : MethodName := ⟨RX5, "comeInto", "(II)V"⟩
abbrev cX5_fright : ByteArray := prog_7_method_11_code
def yX5_fright : MethodName := ⟨RX5, "fright", "(II)I"⟩
abbrev cX5_goAgain : ByteArray := prog_7_method_12_code
def yX5_goAgain : MethodName := ⟨RX5, "goAgain", "(I)V"⟩
abbrev cX5_switchTo : ByteArray := prog_7_method_13_code
def yX5_switchTo : MethodName := ⟨RX5, "switchTo", "(I)V"⟩
abbrev cX5_allOut : ByteArray := prog_7_method_14_code
def yX5_allOut : MethodName := ⟨RX5, "allOut", "()Z"⟩
abbrev cX5_bitsWaiting : ByteArray := prog_7_method_15_code
def yX5_bitsWaiting : MethodName := ⟨RX5, "bitsWaiting", "()I"⟩
abbrev cX5_bitsRunning : ByteArray := prog_7_method_16_code
def yX5_bitsRunning : MethodName := ⟨RX5, "bitsRunning", "()I"⟩
abbrev cX5_bitsOut : ByteArray := prog_7_method_17_code
def yX5_bitsOut : MethodName := ⟨RX5, "bitsOut", "()I"⟩
abbrev cX5_bitsBetween : ByteArray := prog_7_method_18_code
def yX5_bitsBetween : MethodName := ⟨RX5, "bitsBetween", "(II)I"⟩
abbrev cX5_bitsOn : ByteArray := prog_7_method_19_code
def yX5_bitsOn : MethodName := ⟨RX5, "bitsOn", "()I"⟩
abbrev cX5_tricksIn : ByteArray := prog_7_method_20_code
def yX5_tricksIn : MethodName := ⟨RX5, "tricksIn", "(I)I"⟩
abbrev cX5_allScreams : ByteArray := prog_7_method_21_code
def yX5_allScreams : MethodName := ⟨RX5, "allScreams", "()I"⟩
abbrev cX5_allFear : ByteArray := prog_7_method_22_code
def yX5_allFear : MethodName := ⟨RX5, "allFear", "()I"⟩
abbrev cX5_allMet : ByteArray := prog_7_method_23_code
def yX5_allMet : MethodName := ⟨RX5, "allMet", "()I"⟩
abbrev cX5_sum : ByteArray := prog_7_method_24_code
def yX5_sum : MethodName := ⟨RX5, "sum", "([II)I"⟩
abbrev cX5_setsWith : ByteArray := prog_7_method_25_code
def yX5_setsWith : MethodName := ⟨RX5, "setsWith", "(II)I"⟩
abbrev cX5_ridersOf : ByteArray := prog_7_method_26_code
def yX5_ridersOf : MethodName := ⟨RX5, "ridersOf", "(I)I"⟩
abbrev cX5_takings : ByteArray := prog_7_method_27_code
def yX5_takings : MethodName := ⟨RX5, "takings", "(II)I"⟩
def RX6 : String := "GhostTrain"
def TX6 : u_T := fun k => match k with
  | 0 => ("GhostTrain", "rows", "[LGhostTrain$Row;", true)
  | 1 => ("GhostTrain", "tape", "LGhostTrain$Tape;", true)
  | 2 => ("GhostTrain", "train", "LGhostTrain$Train;", true)
  | 3 => ("GhostTrain", "draft", "LGhostTrain$Train;", true)
  | 4 => ("GhostTrain", "acts", "LGhostTrain$Acts;", true)
  | 5 => ("GhostTrain", "images", "[LGhostTrain$Train;", true)
  | 6 => ("GhostTrain", "foresight", "LGhostTrain$Foresight;", true)
  | 7 => ("GhostTrain", "asker", "LGhostTrain$Asker;", true)
  | 8 => ("GhostTrain", "latestFault", "I", false)
  | _ => ("GhostTrain", "latestFinding", "I", false)
def tyX6 : Nat → FieldType := fun k => match k with
  | 0 => .array (.object "GhostTrain$Row")
  | 1 => .object "GhostTrain$Tape"
  | 2 => .object "GhostTrain$Train"
  | 3 => .object "GhostTrain$Train"
  | 4 => .object "GhostTrain$Acts"
  | 5 => .array (.object "GhostTrain$Train")
  | 6 => .object "GhostTrain$Foresight"
  | 7 => .object "GhostTrain$Asker"
  | 8 => .int
  | _ => .int
abbrev wsX60 : List Cond := u_ws RX6 TX6 10
theorem nmX6 : ∀ a, a < 10 → ∀ b, b < 10 → a ≠ b → (TX6 a).2.1 ≠ (TX6 b).2.1 := by decide +kernel
theorem tyX6_ok : ∀ k, k < 10 → parseFieldDescriptor (TX6 k).2.2.1 = some (tyX6 k) := by decide +kernel
abbrev cX6_init : ByteArray := prog_1_method_1_code
def yX6_init : MethodName := ⟨RX6, "<init>", "()V"⟩
abbrev cX6_row : ByteArray := prog_1_method_2_code
def yX6_row : MethodName := ⟨RX6, "row", "(III)I"⟩
abbrev cX6_set : ByteArray := prog_1_method_3_code
def yX6_set : MethodName := ⟨RX6, "set", "(III)I"⟩
abbrev cX6_copy : ByteArray := prog_1_method_4_code
def yX6_copy : MethodName := ⟨RX6, "copy", "(IIIII)I"⟩
abbrev cX6_drop : ByteArray := prog_1_method_5_code
def yX6_drop : MethodName := ⟨RX6, "drop", "(I)I"⟩
abbrev cX6_feed : ByteArray := prog_1_method_6_code
def yX6_feed : MethodName := ⟨RX6, "feed", "(I)I"⟩
abbrev cX6_train : ByteArray := prog_1_method_7_code
def yX6_train : MethodName := ⟨RX6, "train", "()I"⟩
abbrev cX6_fault : ByteArray := prog_1_method_8_code
def yX6_fault : MethodName := ⟨RX6, "fault", "()I"⟩
abbrev cX6_undo : ByteArray := prog_1_method_9_code
def yX6_undo : MethodName := ⟨RX6, "undo", "()I"⟩
abbrev cX6_ticks : ByteArray := prog_1_method_10_code
def yX6_ticks : MethodName := ⟨RX6, "ticks", "(I)I"⟩
abbrev cX6_place : ByteArray := prog_1_method_11_code
def yX6_place : MethodName := ⟨RX6, "place", "(II)I"⟩
abbrev cX6_flip : ByteArray := prog_1_method_12_code
def yX6_flip : MethodName := ⟨RX6, "flip", "(I)I"⟩
abbrev cX6_nerve : ByteArray := prog_1_method_13_code
def yX6_nerve : MethodName := ⟨RX6, "nerve", "(II)I"⟩
abbrev cX6_again : ByteArray := prog_1_method_14_code
def yX6_again : MethodName := ⟨RX6, "again", "(I)I"⟩
abbrev cX6_trick : ByteArray := prog_1_method_15_code
def yX6_trick : MethodName := ⟨RX6, "trick", "(II)I"⟩
abbrev cX6_car : ByteArray := prog_1_method_16_code
def yX6_car : MethodName := ⟨RX6, "car", "(II)I"⟩
abbrev cX6_cell : ByteArray := prog_1_method_17_code
def yX6_cell : MethodName := ⟨RX6, "cell", "(II)I"⟩
abbrev cX6_stand : ByteArray := prog_1_method_18_code
def yX6_stand : MethodName := ⟨RX6, "stand", "(I)I"⟩
abbrev cX6_ahead : ByteArray := prog_1_method_19_code
def yX6_ahead : MethodName := ⟨RX6, "ahead", "(III)I"⟩
abbrev cX6_show : ByteArray := prog_1_method_20_code
def yX6_show : MethodName := ⟨RX6, "show", "(II)I"⟩
abbrev cX6_when : ByteArray := prog_1_method_21_code
def yX6_when : MethodName := ⟨RX6, "when", "(II)I"⟩
abbrev cX6_over : ByteArray := prog_1_method_22_code
def yX6_over : MethodName := ⟨RX6, "over", "()I"⟩
abbrev cX6_order : ByteArray := prog_1_method_23_code
def yX6_order : MethodName := ⟨RX6, "order", "(II)I"⟩
abbrev cX6_spot : ByteArray := prog_1_method_24_code
def yX6_spot : MethodName := ⟨RX6, "spot", "(III)I"⟩
abbrev cX6_calm : ByteArray := prog_1_method_25_code
def yX6_calm : MethodName := ⟨RX6, "calm", "(II)I"⟩
abbrev cX6_bears : ByteArray := prog_1_method_26_code
def yX6_bears : MethodName := ⟨RX6, "bears", "(II)I"⟩
abbrev cX6_sets : ByteArray := prog_1_method_27_code
def yX6_sets : MethodName := ⟨RX6, "sets", "(II)I"⟩
abbrev cX6_share : ByteArray := prog_1_method_28_code
def yX6_share : MethodName := ⟨RX6, "share", "(II)I"⟩
abbrev cX6_byTurns : ByteArray := prog_1_method_29_code
def yX6_byTurns : MethodName := ⟨RX6, "byTurns", "(II)I"⟩
abbrev cX6_who : ByteArray := prog_1_method_30_code
def yX6_who : MethodName := ⟨RX6, "who", "(IIIIII)I"⟩
abbrev cX6_nerves : ByteArray := prog_1_method_31_code
def yX6_nerves : MethodName := ⟨RX6, "nerves", "(IIIII)I"⟩
abbrev cX6_fails : ByteArray := prog_1_method_32_code
def yX6_fails : MethodName := ⟨RX6, "fails", "(IIII)J"⟩
abbrev cX6_drawn : ByteArray := prog_1_method_33_code
def yX6_drawn : MethodName := ⟨RX6, "drawn", "(III)I"⟩
abbrev cX6_image : ByteArray := prog_1_method_34_code
def yX6_image : MethodName := ⟨RX6, "image", "(I)I"⟩
abbrev cX6_restore : ByteArray := prog_1_method_35_code
def yX6_restore : MethodName := ⟨RX6, "restore", "(I)I"⟩
abbrev cX6_kind : ByteArray := prog_1_method_36_code
def yX6_kind : MethodName := ⟨RX6, "kind", "(I)I"⟩
abbrev cX6_as : ByteArray := prog_1_method_37_code
def yX6_as : MethodName := ⟨RX6, "as", "(II)I"⟩
abbrev cX6_ask : ByteArray := prog_1_method_38_code
def yX6_ask : MethodName := ⟨RX6, "ask", "(II)I"⟩
abbrev cX6_trace : ByteArray := prog_1_method_39_code
def yX6_trace : MethodName := ⟨RX6, "trace", "(I)I"⟩
abbrev cX6_count : ByteArray := prog_1_method_40_code
def yX6_count : MethodName := ⟨RX6, "count", "(I)I"⟩
abbrev cX6_status : ByteArray := prog_1_method_41_code
def yX6_status : MethodName := ⟨RX6, "status", "()I"⟩
abbrev cX6_within : ByteArray := prog_1_method_42_code
def yX6_within : MethodName := ⟨RX6, "within", "(III)Z"⟩
abbrev cX6_oneIf : ByteArray := prog_1_method_43_code
def yX6_oneIf : MethodName := ⟨RX6, "oneIf", "(Z)I"⟩
abbrev cX6_isRow : ByteArray := prog_1_method_44_code
def yX6_isRow : MethodName := ⟨RX6, "isRow", "(I)Z"⟩
abbrev cX6_isTrick : ByteArray := prog_1_method_45_code
def yX6_isTrick : MethodName := ⟨RX6, "isTrick", "(I)Z"⟩
abbrev cX6_isCar : ByteArray := prog_1_method_46_code
def yX6_isCar : MethodName := ⟨RX6, "isCar", "(I)Z"⟩
abbrev cX6_isCell : ByteArray := prog_1_method_47_code
def yX6_isCell : MethodName := ⟨RX6, "isCell", "(I)Z"⟩
abbrev cX6_hasTrain : ByteArray := prog_1_method_48_code
def yX6_hasTrain : MethodName := ⟨RX6, "hasTrain", "()Z"⟩
abbrev cX6_found : ByteArray := prog_1_method_49_code
def yX6_found : MethodName := ⟨RX6, "found", "(I)I"⟩
abbrev cX6_fine : ByteArray := prog_1_method_50_code
def yX6_fine : MethodName := ⟨RX6, "fine", "(I)I"⟩
abbrev cX6_findingIn : ByteArray := prog_1_method_51_code
def yX6_findingIn : MethodName := ⟨RX6, "findingIn", "(LGhostTrain$Row;II)I"⟩
abbrev cX6_rowsThere : ByteArray := prog_1_method_52_code
def yX6_rowsThere : MethodName := ⟨RX6, "rowsThere", "()I"⟩
abbrev cX6_beginAct : ByteArray := prog_1_method_53_code
def yX6_beginAct : MethodName := ⟨RX6, "beginAct", "()V"⟩
abbrev cX6_becomes : ByteArray := prog_1_method_54_code
def yX6_becomes : MethodName := ⟨RX6, "becomes", "(LGhostTrain$Train;)V"⟩
def RX7 : String := "GhostTrainModel"
def TX7 : u_T := fun k => match k with
  | 0 => ("GhostTrainModel", "w", "[I", true)
  | 1 => ("GhostTrainModel", "acts", "I", false)
  | 2 => ("GhostTrainModel", "kept", "I", false)
  | 3 => ("GhostTrainModel", "rank", "[I", true)
  | 4 => ("GhostTrainModel", "best", "[I", true)
  | 5 => ("GhostTrainModel", "howls", "I", false)
  | 6 => ("GhostTrainModel", "howled", "[I", true)
  | 7 => ("GhostTrainModel", "tape", "[I", true)
  | 8 => ("GhostTrainModel", "taped", "I", false)
  | 9 => ("GhostTrainModel", "fault", "I", false)
  | 10 => ("GhostTrainModel", "items", "[I", true)
  | 11 => ("GhostTrainModel", "lanes", "[I", true)
  | 12 => ("GhostTrainModel", "sizes", "[I", true)
  | 13 => ("GhostTrainModel", "status", "I", false)
  | 14 => ("GhostTrainModel", "trace", "[I", true)
  | 15 => ("GhostTrainModel", "traced", "I", false)
  | 16 => ("GhostTrainModel", "at", "I", false)
  | 17 => ("GhostTrainModel", "wrong", "I", false)
  | 18 => ("GhostTrainModel", "place", "I", false)
  | 19 => ("GhostTrainModel", "order", "[I", true)
  | 20 => ("GhostTrainModel", "worth", "[I", true)
  | _ => ("GhostTrainModel", "behind", "[I", true)
def tyX7 : Nat → FieldType := fun k => match k with
  | 0 => .array .int
  | 1 => .int
  | 2 => .int
  | 3 => .array .int
  | 4 => .array .int
  | 5 => .int
  | 6 => .array .int
  | 7 => .array .int
  | 8 => .int
  | 9 => .int
  | 10 => .array .int
  | 11 => .array .int
  | 12 => .array .int
  | 13 => .int
  | 14 => .array .int
  | 15 => .int
  | 16 => .int
  | 17 => .int
  | 18 => .int
  | 19 => .array .int
  | 20 => .array .int
  | _ => .array .int
abbrev wsX70 : List Cond := u_ws RX7 TX7 22
theorem nmX7 : ∀ a, a < 22 → ∀ b, b < 22 → a ≠ b → (TX7 a).2.1 ≠ (TX7 b).2.1 := by decide +kernel
theorem tyX7_ok : ∀ k, k < 22 → parseFieldDescriptor (TX7 k).2.2.1 = some (tyX7 k) := by decide +kernel
abbrev cX7_init : ByteArray := prog_9_method_1_code
def yX7_init : MethodName := ⟨RX7, "<init>", "()V"⟩
abbrev cX7_in : ByteArray := prog_9_method_3_code
def yX7_in : MethodName := ⟨RX7, "in", "(III)Z"⟩
abbrev cX7_has : ByteArray := prog_9_method_4_code
def yX7_has : MethodName := ⟨RX7, "has", "(II)Z"⟩
abbrev cX7_bits : ByteArray := prog_9_method_5_code
def yX7_bits : MethodName := ⟨RX7, "bits", "(I)I"⟩
abbrev cX7_found : ByteArray := prog_9_method_6_code
def yX7_found : MethodName := ⟨RX7, "found", "(I)I"⟩
abbrev cX7_well : ByteArray := prog_9_method_7_code
def yX7_well : MethodName := ⟨RX7, "well", "(I)I"⟩
abbrev cX7_copyRow : ByteArray := prog_9_method_8_code
def yX7_copyRow : MethodName := ⟨RX7, "copyRow", "(II)V"⟩
abbrev cX7_isTrain : ByteArray := prog_9_method_9_code
def yX7_isTrain : MethodName := ⟨RX7, "isTrain", "()Z"⟩
abbrev cX7_isTrick : ByteArray := prog_9_method_10_code
def yX7_isTrick : MethodName := ⟨RX7, "isTrick", "(I)Z"⟩
abbrev cX7_isCar : ByteArray := prog_9_method_11_code
def yX7_isCar : MethodName := ⟨RX7, "isCar", "(I)Z"⟩
abbrev cX7_isCell : ByteArray := prog_9_method_12_code
def yX7_isCell : MethodName := ⟨RX7, "isCell", "(I)Z"⟩
abbrev cX7_trickAt : ByteArray := prog_9_method_13_code
def yX7_trickAt : MethodName := ⟨RX7, "trickAt", "(II)I"⟩
abbrev cX7_carAt : ByteArray := prog_9_method_14_code
def yX7_carAt : MethodName := ⟨RX7, "carAt", "(II)I"⟩
abbrev cX7_isRow : ByteArray := prog_9_method_15_code
def yX7_isRow : MethodName := ⟨RX7, "isRow", "(I)Z"⟩
abbrev cX7_row : ByteArray := prog_9_method_16_code
def yX7_row : MethodName := ⟨RX7, "row", "(III)I"⟩
abbrev cX7_set : ByteArray := prog_9_method_17_code
def yX7_set : MethodName := ⟨RX7, "set", "(III)I"⟩
abbrev cX7_isPart : ByteArray := prog_9_method_18_code
def yX7_isPart : MethodName := ⟨RX7, "isPart", "(III)Z"⟩
abbrev cX7_copy : ByteArray := prog_9_method_19_code
def yX7_copy : MethodName := ⟨RX7, "copy", "(IIIII)I"⟩
abbrev cX7_drop : ByteArray := prog_9_method_20_code
def yX7_drop : MethodName := ⟨RX7, "drop", "(I)I"⟩
abbrev cX7_feed : ByteArray := prog_9_method_21_code
def yX7_feed : MethodName := ⟨RX7, "feed", "(I)I"⟩
abbrev cX7_fine : ByteArray := prog_9_method_22_code
def yX7_fine : MethodName := ⟨RX7, "fine", "()Z"⟩
abbrev cX7_fail : ByteArray := prog_9_method_23_code
def yX7_fail : MethodName := ⟨RX7, "fail", "(II)V"⟩
abbrev cX7_here : ByteArray := prog_9_method_24_code
def yX7_here : MethodName := ⟨RX7, "here", "()I"⟩
abbrev cX7_isFigure : ByteArray := prog_9_method_25_code
def yX7_isFigure : MethodName := ⟨RX7, "isFigure", "(I)Z"⟩
abbrev cX7_number : ByteArray := prog_9_method_26_code
def yX7_number : MethodName := ⟨RX7, "number", "(II)I"⟩
abbrev cX7_sign : ByteArray := prog_9_method_27_code
def yX7_sign : MethodName := ⟨RX7, "sign", "(I)V"⟩
abbrev cX7_kindOf : ByteArray := prog_9_method_28_code
def yX7_kindOf : MethodName := ⟨RX7, "kindOf", "(I)I"⟩
abbrev cX7_readTrick : ByteArray := prog_9_method_29_code
def yX7_readTrick : MethodName := ⟨RX7, "readTrick", "()V"⟩
abbrev cX7_readCar : ByteArray := prog_9_method_30_code
def yX7_readCar : MethodName := ⟨RX7, "readCar", "()V"⟩
abbrev cX7_readAll : ByteArray := prog_9_method_31_code
def yX7_readAll : MethodName := ⟨RX7, "readAll", "()V"⟩
abbrev cX7_train : ByteArray := prog_9_method_32_code
def yX7_train : MethodName := ⟨RX7, "train", "()I"⟩
abbrev cX7_fault : ByteArray := prog_9_method_33_code
def yX7_fault : MethodName := ⟨RX7, "fault", "()I"⟩
abbrev cX7_carIn : ByteArray := prog_9_method_34_code
def yX7_carIn : MethodName := ⟨RX7, "carIn", "(II)I"⟩
abbrev cX7_runsAlone : ByteArray := prog_9_method_35_code
def yX7_runsAlone : MethodName := ⟨RX7, "runsAlone", "(II)Z"⟩
abbrev cX7_fright : ByteArray := prog_9_method_36_code
def yX7_fright : MethodName := ⟨RX7, "fright", "(III)I"⟩
abbrev cX7_comes : ByteArray := prog_9_method_37_code
def yX7_comes : MethodName := ⟨RX7, "comes", "(III)Z"⟩
abbrev cX7_goes : ByteArray := prog_9_method_38_code
def yX7_goes : MethodName := ⟨RX7, "goes", "(II)V"⟩
abbrev cX7_tickAt : ByteArray := prog_9_method_39_code
def yX7_tickAt : MethodName := ⟨RX7, "tickAt", "(I)V"⟩
abbrev cX7_rankByNumbers : ByteArray := prog_9_method_40_code
def yX7_rankByNumbers : MethodName := ⟨RX7, "rankByNumbers", "()V"⟩
abbrev cX7_noHowls : ByteArray := prog_9_method_41_code
def yX7_noHowls : MethodName := ⟨RX7, "noHowls", "()V"⟩
abbrev cX7_beginTry : ByteArray := prog_9_method_42_code
def yX7_beginTry : MethodName := ⟨RX7, "beginTry", "()V"⟩
abbrev cX7_goOn : ByteArray := prog_9_method_43_code
def yX7_goOn : MethodName := ⟨RX7, "goOn", "(I)V"⟩
abbrev cX7_sumOf : ByteArray := prog_9_method_44_code
def yX7_sumOf : MethodName := ⟨RX7, "sumOf", "(II)I"⟩
abbrev cX7_carsThat : ByteArray := prog_9_method_45_code
def yX7_carsThat : MethodName := ⟨RX7, "carsThat", "(II)I"⟩
abbrev cX7_onSet : ByteArray := prog_9_method_46_code
def yX7_onSet : MethodName := ⟨RX7, "onSet", "(I)I"⟩
abbrev cX7_remember : ByteArray := prog_9_method_47_code
def yX7_remember : MethodName := ⟨RX7, "remember", "()V"⟩
abbrev cX7_undo : ByteArray := prog_9_method_48_code
def yX7_undo : MethodName := ⟨RX7, "undo", "()I"⟩
abbrev cX7_ticks : ByteArray := prog_9_method_49_code
def yX7_ticks : MethodName := ⟨RX7, "ticks", "(I)I"⟩
abbrev cX7_place : ByteArray := prog_9_method_50_code
def yX7_place : MethodName := ⟨RX7, "place", "(II)I"⟩
abbrev cX7_flip : ByteArray := prog_9_method_51_code
def yX7_flip : MethodName := ⟨RX7, "flip", "(I)I"⟩
abbrev cX7_nerve : ByteArray := prog_9_method_52_code
def yX7_nerve : MethodName := ⟨RX7, "nerve", "(II)I"⟩
abbrev cX7_goesAgain : ByteArray := prog_9_method_53_code
def yX7_goesAgain : MethodName := ⟨RX7, "goesAgain", "(II)V"⟩
abbrev cX7_again : ByteArray := prog_9_method_54_code
def yX7_again : MethodName := ⟨RX7, "again", "(I)I"⟩
abbrev cX7_trick : ByteArray := prog_9_method_55_code
def yX7_trick : MethodName := ⟨RX7, "trick", "(II)I"⟩
abbrev cX7_car : ByteArray := prog_9_method_56_code
def yX7_car : MethodName := ⟨RX7, "car", "(II)I"⟩
abbrev cX7_tricksIn : ByteArray := prog_9_method_57_code
def yX7_tricksIn : MethodName := ⟨RX7, "tricksIn", "(I)I"⟩
abbrev cX7_cell : ByteArray := prog_9_method_58_code
def yX7_cell : MethodName := ⟨RX7, "cell", "(II)I"⟩
abbrev cX7_stand : ByteArray := prog_9_method_59_code
def yX7_stand : MethodName := ⟨RX7, "stand", "(I)I"⟩
abbrev cX7_ahead : ByteArray := prog_9_method_60_code
def yX7_ahead : MethodName := ⟨RX7, "ahead", "(III)I"⟩
abbrev cX7_show : ByteArray := prog_9_method_61_code
def yX7_show : MethodName := ⟨RX7, "show", "(II)I"⟩
abbrev cX7_allMet : ByteArray := prog_9_method_62_code
def yX7_allMet : MethodName := ⟨RX7, "allMet", "(I)I"⟩
abbrev cX7_when : ByteArray := prog_9_method_63_code
def yX7_when : MethodName := ⟨RX7, "when", "(II)I"⟩
abbrev cX7_allOut : ByteArray := prog_9_method_64_code
def yX7_allOut : MethodName := ⟨RX7, "allOut", "()Z"⟩
abbrev cX7_over : ByteArray := prog_9_method_65_code
def yX7_over : MethodName := ⟨RX7, "over", "()I"⟩
abbrev cX7_nextOrder : ByteArray := prog_9_method_66_code
def yX7_nextOrder : MethodName := ⟨RX7, "nextOrder", "(I)Z"⟩
abbrev cX7_valueOfOrder : ByteArray := prog_9_method_67_code
def yX7_valueOfOrder : MethodName := ⟨RX7, "valueOfOrder", "(I)I"⟩
abbrev cX7_order : ByteArray := prog_9_method_68_code
def yX7_order : MethodName := ⟨RX7, "order", "(II)I"⟩
abbrev cX7_spot : ByteArray := prog_9_method_69_code
def yX7_spot : MethodName := ⟨RX7, "spot", "(III)I"⟩
abbrev cX7_switchAll : ByteArray := prog_9_method_70_code
def yX7_switchAll : MethodName := ⟨RX7, "switchAll", "(I)V"⟩
abbrev cX7_allTricks : ByteArray := prog_9_method_71_code
def yX7_allTricks : MethodName := ⟨RX7, "allTricks", "()I"⟩
abbrev cX7_calm : ByteArray := prog_9_method_72_code
def yX7_calm : MethodName := ⟨RX7, "calm", "(II)I"⟩
abbrev cX7_bears : ByteArray := prog_9_method_73_code
def yX7_bears : MethodName := ⟨RX7, "bears", "(II)I"⟩
abbrev cX7_ridersOf : ByteArray := prog_9_method_74_code
def yX7_ridersOf : MethodName := ⟨RX7, "ridersOf", "(I)I"⟩
abbrev cX7_sets : ByteArray := prog_9_method_75_code
def yX7_sets : MethodName := ⟨RX7, "sets", "(II)I"⟩
abbrev cX7_metOf : ByteArray := prog_9_method_76_code
def yX7_metOf : MethodName := ⟨RX7, "metOf", "(I)I"⟩
abbrev cX7_share : ByteArray := prog_9_method_77_code
def yX7_share : MethodName := ⟨RX7, "share", "(II)I"⟩
abbrev cX7_chosen : ByteArray := prog_9_method_78_code
def yX7_chosen : MethodName := ⟨RX7, "chosen", "(IZ)I"⟩
abbrev cX7_byTurns : ByteArray := prog_9_method_79_code
def yX7_byTurns : MethodName := ⟨RX7, "byTurns", "(II)I"⟩
abbrev cX7_isTold : ByteArray := prog_9_method_80_code
def yX7_isTold : MethodName := ⟨RX7, "isTold", "(IIII)Z"⟩
abbrev cX7_wrongRow : ByteArray := prog_9_method_81_code
def yX7_wrongRow : MethodName := ⟨RX7, "wrongRow", "(III)I"⟩
abbrev cX7_who : ByteArray := prog_9_method_82_code
def yX7_who : MethodName := ⟨RX7, "who", "(IIIIII)I"⟩
abbrev cX7_nerves : ByteArray := prog_9_method_83_code
def yX7_nerves : MethodName := ⟨RX7, "nerves", "(IIIII)I"⟩
abbrev cX7_fails : ByteArray := prog_9_method_84_code
def yX7_fails : MethodName := ⟨RX7, "fails", "(IIII)J"⟩
abbrev cX7_drawn : ByteArray := prog_9_method_85_code
def yX7_drawn : MethodName := ⟨RX7, "drawn", "(III)I"⟩
abbrev cX7_image : ByteArray := prog_9_method_86_code
def yX7_image : MethodName := ⟨RX7, "image", "(I)I"⟩
abbrev cX7_restore : ByteArray := prog_9_method_87_code
def yX7_restore : MethodName := ⟨RX7, "restore", "(I)I"⟩
abbrev cX7_kindAt : ByteArray := prog_9_method_88_code
def yX7_kindAt : MethodName := ⟨RX7, "kindAt", "(I)I"⟩
abbrev cX7_kind : ByteArray := prog_9_method_89_code
def yX7_kind : MethodName := ⟨RX7, "kind", "(I)I"⟩
abbrev cX7_as : ByteArray := prog_9_method_90_code
def yX7_as : MethodName := ⟨RX7, "as", "(II)I"⟩
abbrev cX7_begins : ByteArray := prog_9_method_91_code
def yX7_begins : MethodName := ⟨RX7, "begins", "(I)V"⟩
abbrev cX7_body10 : ByteArray := prog_9_method_92_code
def yX7_body10 : MethodName := ⟨RX7, "body10", "(I)I"⟩
abbrev cX7_body11 : ByteArray := prog_9_method_93_code
def yX7_body11 : MethodName := ⟨RX7, "body11", "(I)I"⟩
abbrev cX7_body13 : ByteArray := prog_9_method_94_code
def yX7_body13 : MethodName := ⟨RX7, "body13", "(I)I"⟩
abbrev cX7_sizeOf : ByteArray := prog_9_method_95_code
def yX7_sizeOf : MethodName := ⟨RX7, "sizeOf", "(I)I"⟩
abbrev cX7_body20 : ByteArray := prog_9_method_96_code
def yX7_body20 : MethodName := ⟨RX7, "body20", "(I)I"⟩
abbrev cX7_body21 : ByteArray := prog_9_method_97_code
def yX7_body21 : MethodName := ⟨RX7, "body21", "(I)I"⟩
abbrev cX7_markOfBones : ByteArray := prog_9_method_98_code
def yX7_markOfBones : MethodName := ⟨RX7, "markOfBones", "(I)I"⟩
abbrev cX7_markOf : ByteArray := prog_9_method_99_code
def yX7_markOf : MethodName := ⟨RX7, "markOf", "(I)I"⟩
abbrev cX7_ask : ByteArray := prog_9_method_100_code
def yX7_ask : MethodName := ⟨RX7, "ask", "(II)I"⟩
abbrev cX7_trace : ByteArray := prog_9_method_101_code
def yX7_trace : MethodName := ⟨RX7, "trace", "(I)I"⟩
abbrev cX7_rowMany : ByteArray := prog_9_method_102_code
def yX7_rowMany : MethodName := ⟨RX7, "rowMany", "()I"⟩
abbrev cX7_count : ByteArray := prog_9_method_103_code
def yX7_count : MethodName := ⟨RX7, "count", "(I)I"⟩
abbrev cX7_status : ByteArray := prog_9_method_104_code
def yX7_status : MethodName := ⟨RX7, "status", "()I"⟩
def RJ6 : String := "java/lang/Integer"
def TJ6 : u_T := fun k => match k with
  | _ => ("", "", "", false)
def tyJ6 : Nat → FieldType := fun k => match k with
  | _ => .int
abbrev wsJ60 : List Cond := u_ws RJ6 TJ6 0
theorem nmJ6 : ∀ a, a < 0 → ∀ b, b < 0 → a ≠ b → (TJ6 a).2.1 ≠ (TJ6 b).2.1 := by decide +kernel
theorem tyJ6_ok : ∀ k, k < 0 → parseFieldDescriptor (TJ6 k).2.2.1 = some (tyJ6 k) := by decide +kernel
abbrev cJ6_bitCount_0f7a4 : ByteArray := prog_10_method_49_code
def yJ6_bitCount_0f7a4 : MethodName := ⟨RJ6, "bitCount", "(I)I"⟩
def RJ9 : String := "java/lang/Math"
def TJ9 : u_T := fun k => match k with
  | _ => ("", "", "", false)
def tyJ9 : Nat → FieldType := fun k => match k with
  | _ => .int
abbrev wsJ90 : List Cond := u_ws RJ9 TJ9 0
theorem nmJ9 : ∀ a, a < 0 → ∀ b, b < 0 → a ≠ b → (TJ9 a).2.1 ≠ (TJ9 b).2.1 := by decide +kernel
theorem tyJ9_ok : ∀ k, k < 0 → parseFieldDescriptor (TJ9 k).2.2.1 = some (tyJ9 k) := by decide +kernel
abbrev cJ9_max_7cf53 : ByteArray := prog_11_method_65_code
def yJ9_max_7cf53 : MethodName := ⟨RJ9, "max", "(II)I"⟩
abbrev cJ9_min_7cf53 : ByteArray := prog_11_method_69_code
def yJ9_min_7cf53 : MethodName := ⟨RJ9, "min", "(II)I"⟩
def RJ10 : String := "java/lang/System"
def TJ10 : u_T := fun k => match k with
  | _ => ("", "", "", false)
def tyJ10 : Nat → FieldType := fun k => match k with
  | _ => .int
abbrev wsJ100 : List Cond := u_ws RJ10 TJ10 0
theorem nmJ10 : ∀ a, a < 0 → ∀ b, b < 0 → a ≠ b → (TJ10 a).2.1 ≠ (TJ10 b).2.1 := by decide +kernel
theorem tyJ10_ok : ∀ k, k < 0 → parseFieldDescriptor (TJ10 k).2.2.1 = some (tyJ10 k) := by decide +kernel
def RJ7 : String := "java/util/Arrays"
def TJ7 : u_T := fun k => match k with
  | _ => ("", "", "", false)
def tyJ7 : Nat → FieldType := fun k => match k with
  | _ => .int
abbrev wsJ70 : List Cond := u_ws RJ7 TJ7 0
theorem nmJ7 : ∀ a, a < 0 → ∀ b, b < 0 → a ≠ b → (TJ7 a).2.1 ≠ (TJ7 b).2.1 := by decide +kernel
theorem tyJ7_ok : ∀ k, k < 0 → parseFieldDescriptor (TJ7 k).2.2.1 = some (tyJ7 k) := by decide +kernel
abbrev cJ7_fill_53178 : ByteArray := prog_13_method_103_code
def yJ7_fill_53178 : MethodName := ⟨RJ7, "fill", "([II)V"⟩
def RL : String := "GhostTrainLaw"
abbrev cL_law : ByteArray := code
def yL_law : MethodName := ⟨RL, "law", "([I)Z"⟩
def wsX5_init : List Cond := .code yX5_init cX5_init 1 none :: ([.methodLink RX5 3 objectInit, .instanceMethod objectInit, .code objectInit ⟨#[0xb1]⟩ 1 none, .arrayClass .int, .fieldLink RX5 9 "GhostTrain$Train" "kind" "[I", .fieldLink RX5 15 "GhostTrain$Train" "spot" "[I", .fieldLink RX5 18 "GhostTrain$Train" "power" "[I", .arrayClass .boolean, .fieldLink RX5 21 "GhostTrain$Train" "on" "[Z", .fieldLink RX5 25 "GhostTrain$Train" "met" "[I", .fieldLink RX5 28 "GhostTrain$Train" "riders" "[I", .fieldLink RX5 31 "GhostTrain$Train" "nerve" "[I", .fieldLink RX5 34 "GhostTrain$Train" "pace" "[I", .fieldLink RX5 37 "GhostTrain$Train" "where" "[I", .fieldLink RX5 40 "GhostTrain$Train" "fear" "[I", .fieldLink RX5 43 "GhostTrain$Train" "screams" "[I", .fieldLink RX5 46 "GhostTrain$Train" "halted" "[Z", .fieldLink RX5 49 "GhostTrain$Train" "rank" "[I", .fieldLink RX5 52 "GhostTrain$Train" "inCell" "[I"] ++ wsX50)
def wsX0_init_r1 : List Cond := [Cond.methodLink RX0 3 objectInit, Cond.instanceMethod objectInit, Cond.code objectInit ⟨#[0xb1]⟩ 1 none, Cond.classLink RX0 9 RX5, Cond.fieldLink RX0 11 "GhostTrain$Acts" "before" "[LGhostTrain$Train;", Cond.instantiable RX5 19, Cond.initialized RX5, Cond.instanceMethod yX5_init, Cond.code yX5_init cX5_init 1 none, Cond.methodLink RX5 3 objectInit, Cond.arrayClass .int, Cond.fieldLink RX5 9 "GhostTrain$Train" "kind" "[I", Cond.fieldLink RX5 15 "GhostTrain$Train" "spot" "[I", Cond.fieldLink RX5 18 "GhostTrain$Train" "power" "[I", Cond.arrayClass .boolean, Cond.fieldLink RX5 21 "GhostTrain$Train" "on" "[Z", Cond.fieldLink RX5 25 "GhostTrain$Train" "met" "[I", Cond.fieldLink RX5 28 "GhostTrain$Train" "riders" "[I", Cond.fieldLink RX5 31 "GhostTrain$Train" "nerve" "[I", Cond.fieldLink RX5 34 "GhostTrain$Train" "pace" "[I", Cond.fieldLink RX5 37 "GhostTrain$Train" "where" "[I", Cond.fieldLink RX5 40 "GhostTrain$Train" "fear" "[I", Cond.fieldLink RX5 43 "GhostTrain$Train" "screams" "[I", Cond.fieldLink RX5 46 "GhostTrain$Train" "halted" "[Z"]
def wsX0_init_r2 : List Cond := [Cond.fieldLink RX5 49 "GhostTrain$Train" "rank" "[I", Cond.fieldLink RX5 52 "GhostTrain$Train" "inCell" "[I"]
def wsX0_init : List Cond := .code yX0_init cX0_init 2 none :: ((wsX0_init_r1 ++ wsX0_init_r2) ++ wsX00 ++ wsX50)
def wsX5_copyFrom : List Cond := .code yX5_copyFrom cX5_copyFrom 2 none :: ([.fieldLink RX5 55 "GhostTrain$Train" "cells" "I", .fieldLink RX5 59 "GhostTrain$Train" "tricks" "I", .fieldLink RX5 62 "GhostTrain$Train" "cars" "I", .fieldLink RX5 65 "GhostTrain$Train" "tick" "I", .fieldLink RX5 68 "GhostTrain$Train" "running" "I", .fieldLink RX5 9 "GhostTrain$Train" "kind" "[I", .methodLink RX5 77 arraycopyName, .native arraycopyName, .static arraycopyName, .initialized "java/lang/System", .fieldLink RX5 15 "GhostTrain$Train" "spot" "[I", .fieldLink RX5 18 "GhostTrain$Train" "power" "[I", .fieldLink RX5 21 "GhostTrain$Train" "on" "[Z", .fieldLink RX5 25 "GhostTrain$Train" "met" "[I", .fieldLink RX5 28 "GhostTrain$Train" "riders" "[I", .fieldLink RX5 31 "GhostTrain$Train" "nerve" "[I", .fieldLink RX5 34 "GhostTrain$Train" "pace" "[I", .fieldLink RX5 37 "GhostTrain$Train" "where" "[I", .fieldLink RX5 40 "GhostTrain$Train" "fear" "[I", .fieldLink RX5 43 "GhostTrain$Train" "screams" "[I", .fieldLink RX5 46 "GhostTrain$Train" "halted" "[Z", .fieldLink RX5 49 "GhostTrain$Train" "rank" "[I", .fieldLink RX5 52 "GhostTrain$Train" "inCell" "[I"] ++ wsX50)
def wsX0_keep_r1 : List Cond := [Cond.fieldLink RX0 11 "GhostTrain$Acts" "before" "[LGhostTrain$Train;", Cond.fieldLink RX0 18 "GhostTrain$Acts" "next" "I", Cond.fieldLink RX0 26 "GhostTrain$Acts" "kept" "I", Cond.methodLink RX0 29 Lib.Math.min.name, Cond.static Lib.Math.min.name, Cond.initialized "java/lang/Math", Cond.code Lib.Math.min.name Lib.Math.min.code 2 (some .int), Cond.instanceMethod yX5_copyFrom, Cond.initialized RX5, Cond.selects RX5 yX5_copyFrom yX5_copyFrom, Cond.code yX5_copyFrom cX5_copyFrom 2 none, Cond.fieldLink RX5 55 "GhostTrain$Train" "cells" "I", Cond.fieldLink RX5 59 "GhostTrain$Train" "tricks" "I", Cond.fieldLink RX5 62 "GhostTrain$Train" "cars" "I", Cond.fieldLink RX5 65 "GhostTrain$Train" "tick" "I", Cond.fieldLink RX5 68 "GhostTrain$Train" "running" "I", Cond.fieldLink RX5 9 "GhostTrain$Train" "kind" "[I", Cond.methodLink RX5 77 arraycopyName, Cond.native arraycopyName, Cond.static arraycopyName, Cond.initialized "java/lang/System", Cond.fieldLink RX5 15 "GhostTrain$Train" "spot" "[I", Cond.fieldLink RX5 18 "GhostTrain$Train" "power" "[I", Cond.fieldLink RX5 21 "GhostTrain$Train" "on" "[Z"]
def wsX0_keep_r2 : List Cond := [Cond.fieldLink RX5 25 "GhostTrain$Train" "met" "[I", Cond.fieldLink RX5 28 "GhostTrain$Train" "riders" "[I", Cond.fieldLink RX5 31 "GhostTrain$Train" "nerve" "[I", Cond.fieldLink RX5 34 "GhostTrain$Train" "pace" "[I", Cond.fieldLink RX5 37 "GhostTrain$Train" "where" "[I", Cond.fieldLink RX5 40 "GhostTrain$Train" "fear" "[I", Cond.fieldLink RX5 43 "GhostTrain$Train" "screams" "[I", Cond.fieldLink RX5 46 "GhostTrain$Train" "halted" "[Z", Cond.fieldLink RX5 49 "GhostTrain$Train" "rank" "[I", Cond.fieldLink RX5 52 "GhostTrain$Train" "inCell" "[I"]
def wsX0_keep : List Cond := .code yX0_keep cX0_keep 2 none :: ((wsX0_keep_r1 ++ wsX0_keep_r2) ++ wsX00 ++ wsX50)
end
section
-- THE ABSTRACT WORLD: objects have names (kind, number); what changes is numbers alone: a memory gh_M
abbrev gh_V : Type := Int32 ⊕ (Int64 ⊕ (Nat × Nat))
abbrev vI (x : Int32) : gh_V := Sum.inl x
abbrev vL (x : Int64) : gh_V := Sum.inr (Sum.inl x)
abbrev vR (k t : Nat) : gh_V := Sum.inr (Sum.inr (k, t))
abbrev gh_M : Type := Nat → Nat → Nat → Int32
/-- the numbers of one object become f -/
def gh_row (M : gh_M) (k t : Nat) (f : Nat → Int32) : gh_M := fun a b => if a = k ∧ b = t then f else M a b
/-- one number becomes v -/
def gh_st (M : gh_M) (k t j : Nat) (v : Int32) : gh_M := gh_row M k t (upd (M k t) j v)
/-- class numbers and slots, addresses, array classes (int, boolean, Row, Train), the least address -/
abbrev gh_Wd : Type := va_G × (Nat → Nat → Nat) × (Nat → ClassId) × Nat
def gh_A (wd : gh_Wd) : Nat → Prop := fun q => wd.2.2.2 ≤ q
def gh_tv (wd : gh_Wd) : gh_V → Value
  | .inl x => .int x
  | .inr (.inl y) => .long y
  | .inr (.inr q) => .ref (wd.2.1 q.1 q.2)
-- THE SHAPE
def gh_cls : List vw_C := [(RX0, TX0, 3), (RX1, TX1, 2), (RX2, TX2, 9), (RX3, TX3, 4), (RX4, TX4, 4), (RX5, TX5, 19), (RX6, TX6, 10), (RX7, TX7, 22)]
def gh_ty (ci k : Nat) : FieldType := match ci with
  | 0 => tyX0 k | 1 => tyX1 k | 2 => tyX2 k | 3 => tyX3 k | 4 => tyX4 k | 5 => tyX5 k | 6 => tyX6 k | _ => tyX7 k
/-- how many of a kind there are -/
def gh_cnt (k : Nat) : Nat := match k with
  | 2 => 8 | 3 => 8
  | 6 => 29 | 7 => 29 | 8 => 29 | 9 => 29 | 10 => 29 | 11 => 29 | 12 => 29 | 13 => 29 | 14 => 29 | 15 => 29 | 16 => 29 | 17 => 29 | 18 => 29 | 19 => 29 | 20 => 29
  | _ => 1
/-- arrays: of what (0 int, 1 boolean, 2 Row, 3 Train), how long -/
def gh_ar (k : Nat) : Option (Nat × Nat) := match k with
  | 1 => some (2, 8) | 3 => some (0, 40) | 5 => some (0, 100)
  | 7 => some (0, 5) | 8 => some (0, 5) | 9 => some (0, 5) | 10 => some (1, 5) | 11 => some (0, 5)
  | 12 => some (0, 6) | 13 => some (0, 6) | 14 => some (0, 6) | 15 => some (0, 6) | 16 => some (0, 6) | 17 => some (0, 6) | 18 => some (1, 6) | 19 => some (0, 6) | 20 => some (0, 12)
  | 22 => some (3, 24) | 23 => some (3, 2)
  | 25 => some (0, 12) | 26 => some (0, 6) | 27 => some (0, 6) | 28 => some (0, 6) | 29 => some (0, 32) | 31 => some (0, 16)
  | 33 => some (0, 1988) | 34 => some (0, 6) | 35 => some (0, 6) | 36 => some (0, 6) | 37 => some (0, 100) | 38 => some (0, 320) | 39 => some (0, 8) | 40 => some (0, 8) | 41 => some (0, 16) | 42 => some (0, 6) | 43 => some (0, 32) | 44 => some (0, 32)
  | _ => none
/-- objects: the number of the class -/
def gh_ci (k : Nat) : Nat := match k with
  | 0 => 6 | 2 => 3 | 4 => 4 | 6 => 5 | 21 => 0 | 24 => 2 | 30 => 1 | _ => 7
/-- objects: the fields, numbers (none) or other objects -/
def gh_fl (k t : Nat) : List (Option (Nat × Nat)) := match k with
  | 0 => [some (1, 0), some (4, 0), some (6, 0), some (6, 1), some (21, 0), some (23, 0), some (24, 0), some (30, 0), none, none]
  | 2 => [none, none, none, some (3, t)]
  | 4 => [some (5, 0), none, none, none]
  | 6 => [none, none, none, none, none, some (7, t), some (8, t), some (9, t), some (10, t), some (11, t), some (12, t), some (13, t), some (14, t), some (15, t), some (16, t), some (17, t), some (18, t), some (19, t), some (20, t)]
  | 21 => [some (22, 0), none, none]
  | 24 => [some (6, 28), some (25, 0), none, some (26, 0), some (27, 0), some (28, 0), none, none, some (29, 0)]
  | 30 => [some (31, 0), none]
  | _ => [some (33, 0), none, none, some (34, 0), some (35, 0), none, some (36, 0), some (37, 0), none, none, some (38, 0), some (39, 0), some (40, 0), none, some (41, 0), none, none, none, none, some (42, 0), some (43, 0), some (44, 0)]
/-- arrays of objects: what stands at a place -/
def gh_el (k i : Nat) : Nat × Nat := match k with
  | 1 => (2, i) | 22 => (6, 2 + i) | _ => (6, 26 + i)
def gh_fv (wd : gh_Wd) (M : gh_M) (k t i : Nat) : Value := match (gh_fl k t)[i]? with
  | some (some q) => .ref (wd.2.1 q.1 q.2)
  | _ => .int (M k t i)
def gh_ce (wd : gh_Wd) (M : gh_M) (k t : Nat) : va_E := match gh_ar k with
  | some (0, n) => .inl (wd.2.2.1 0, n, .inl (M k t))
  | some (1, n) => .inl (wd.2.2.1 1, n, .inl (M k t))
  | some (a, n) => .inl (wd.2.2.1 a, n, .inr (.inr (.inr (.inr (fun i => some (wd.2.1 (gh_el k i).1 (gh_el k i).2))))))
  | none => .inr (gh_ci k, (List.range (gh_fl k t).length).map (gh_fv wd M k t))
/-- all objects -/
def gh_all : List (Nat × Nat) := (List.range 45).flatMap (fun k => (List.range (gh_cnt k)).map (fun t => (k, t)))
def gh_ws (wd : gh_Wd) (M : gh_M) : va_W := gh_all.map (fun q => (wd.2.1 q.1 q.2, gh_ce wd M q.1 q.2))
def gh_tys (wd : gh_Wd) : List (ClassId × FieldType) := [(wd.2.2.1 0, .int), (wd.2.2.1 1, .boolean), (wd.2.2.1 2, .object RX3), (wd.2.2.1 3, .object RX5)]
-- THE TABLES' WORDS
def gh_G : List Cond := lw_tbl.filter goodWord
def gh_isN : Cond → Bool
  | .fieldLinkNest .. => true
  | .methodLinkNest .. => true
  | _ => false
/-- static arrays that nobody writes -/
def gh_tab (i j : Nat) : Int32 := match i with
  | 0 => ([-1, 0, 1, 1, 0, 4] : List Int32).getD j 0
  | 1 => ([20, 21, 24, 22, 23, 23] : List Int32).getD j 0
  | _ => ([10, 11, 12, 11, 13, 14] : List Int32).getD j 0
def gh_sn (i : Nat) : String := match i with
  | 0 => "IS_TOO" | 1 => "MARK_BODY" | _ => "SIZE_BODY"
/-- what holds in every state of the run, beside the memory -/
def gh_Ok (wd : gh_Wd) (U : State) : Prop :=
  va_K wd.1 gh_cls (gh_tys wd) U ∧ va_D (gh_A wd) (gh_ws wd (fun _ _ _ => 0)) ∧ (∀ w ∈ lw_tbl, gh_isN w = true → va_Nw w U) ∧
  ∀ i, i < 3 → va_Z RX1 (gh_sn i) "[I" (.ref (wd.2.1 (60 + i) 0)) (gh_A wd) U U.heap ∧ va_T .int (wd.2.1 (60 + i) 0) 6 (fun j => .int (gh_tab i j)) (gh_A wd) U U.heap
def gh_W (wd : gh_Wd) (M : gh_M) (U : State) : Prop := va_P wd.1 gh_cls (gh_ws wd M) U.heap ∧ gh_Ok wd U
-- locals
def gh_pr (wd : gh_Wd) (L : List (Option gh_V)) : List (Nat × Value) := L.zipIdx.filterMap (fun q => q.1.map (fun v => (q.2, gh_tv wd v)))
def gh_L (wd : gh_Wd) (ls : Array Slot) (nL : Nat) (L : List (Option gh_V)) : Prop := lv_has ls nL (gh_pr wd L)
-- methods: owner, name, bytes, locals, answer
abbrev gh_MI : Type := String × MethodName × ByteArray × Nat × Option FieldType
def gh_wsm (mi : gh_MI) : List Cond := Cond.code mi.2.1 mi.2.2.1 mi.2.2.2.1 mi.2.2.2.2 :: gh_G
def gh_rm (d : Nat) : Room := { frames := d, cells := 0, slots := 0, locals := 64 * d }
def gh_Pc (wd : gh_Wd) (as : List gh_V) (M : gh_M) : Array Value → State → Prop := fun a U => a = (as.map (gh_tv wd)).toArray ∧ gh_W wd M U
def gh_Qc (wd : gh_Wd) (Qv : Option gh_V → gh_M → Prop) : Array Value → State → Outcome → State → Prop := fun _ st o t => (∃ (r : Option gh_V) (M : gh_M), o = .returned (r.map (gh_tv wd)) ∧ Qv r M ∧ gh_W wd M t) ∧ va_F (gh_A wd) st t
/-- A METHOD'S CONTRACT: with these arguments, in this memory, it returns, and what it answers and leaves is in Qv -/
def gh_Calls (d : Nat) (mi : gh_MI) (as : List gh_V) (M : gh_M) (Qv : Option gh_V → gh_M → Prop) : Prop :=
  ∀ (l : Launch) (wd : gh_Wd), Met l mi.2.1 (gh_wsm mi) (gh_rm d) (gh_Pc wd as M) (gh_Qc wd Qv) 0 0 (gh_A wd)
-- THE RUN WITHIN A METHOD
abbrev gh_X : Type := Program × Launch × Env × Room × State × MethodId × Array Value × List Frame × Method × Code × Nat × Nat × (State → Prop)
def gh_C (mi : gh_MI) (d : Nat) (wd : gh_Wd) : gh_X → Prop
  | (p, _, _, R, s, m, args, _, meth, c, cells, slots, _) => p.tables.exec = Jvm.exec ∧ c.code = mi.2.2.1 ∧ c.maxLocals = mi.2.2.2.1 ∧ s.vm.findClass mi.1 = some m.cls ∧ (∀ w ∈ gh_G, w.before args s = true) ∧ gh_Ok wd s ∧ meth.locks = false ∧ meth.sig.returnType = mi.2.2.2.2 ∧ d ≤ R.frames ∧ 64 * d ≤ R.locals ∧ cells ≤ R.cells ∧ slots ≤ R.slots
/-- from here, with this memory, these locals, this stack, the run comes to the method's end as it should -/
def gh_J (mi : gh_MI) (d : Nat) (wd : gh_Wd) : gh_X → gh_M → Nat → List (Option gh_V) → List gh_V → Prop
  | (p, l, e, R, s, m, args, below, meth, c, cells, slots, Q), M, pc, L, S => gh_C mi d wd (p, l, e, R, s, m, args, below, meth, c, cells, slots, Q) →
    ∀ (H : Heap) (locs : List Loc) (ls : Array Slot), va_P wd.1 gh_cls (gh_ws wd M) H → va_S (gh_A wd) s.heap H locs → gh_L wd ls mi.2.2.2.1 L →
      W p l e R s m args below meth c H locs cells slots Q (F0 m pc ls (S.map (gh_tv wd)))
/-- the end of a method with a contract -/
def gh_E (wd : gh_Wd) (Qv : Option gh_V → gh_M → Prop) : gh_X → Prop
  | (_, _, _, _, s, _, args, below, _, _, cells, slots, Q) => cells = 0 ∧ slots = 0 ∧ Q = MQ below (gh_Qc wd Qv) args s 0 0 (gh_A wd)
-- an instruction, its length, the place behind it
def gh_at (mi : gh_MI) (pc : Nat) (i : Instr) (n pc' : Nat) : Prop := decode mi.2.2.1 pc = .ok (i, n) ∧ pc + n = pc'
/-- a field's link of a class: field j of class number ci -/
def gh_FL (own : String) (idx ci j : Nat) : Prop := ∃ (C : String) (T : u_T) (N : Nat), gh_cls[ci]? = some (C, T, N) ∧ j < N ∧ (Cond.fieldLink own idx (T j).1 (T j).2.1 (T j).2.2.1 ∈ gh_G ∨ ∃ host, Cond.fieldLinkNest own idx (T j).1 (T j).2.1 (T j).2.2.1 host ∈ lw_tbl)
end
section
-- the cells of the world, by their names
theorem gh_mem {k t : Nat} (hk : k < 45) (ht : t < gh_cnt k) : ∃ q0 : Nat, gh_all[q0]? = some (k, t) := by
  have h : (k, t) ∈ gh_all := by
    unfold gh_all
    exact List.mem_flatMap.mpr ⟨k, List.mem_range.mpr hk, List.mem_map.mpr ⟨t, List.mem_range.mpr ht, rfl⟩⟩
  exact List.getElem?_of_mem h
theorem gh_ws_at (wd : gh_Wd) (M : gh_M) {q0 k t : Nat} (h : gh_all[q0]? = some (k, t)) : (gh_ws wd M)[q0]? = some (wd.2.1 k t, gh_ce wd M k t) := by
  unfold gh_ws
  rw [List.getElem?_map, h]
  rfl
theorem gh_ws_of (wd : gh_Wd) (M : gh_M) {i : Nat} {p : Nat × va_E} (h : (gh_ws wd M)[i]? = some p) : ∃ q : Nat × Nat, gh_all[i]? = some q ∧ p = (wd.2.1 q.1 q.2, gh_ce wd M q.1 q.2) := by
  unfold gh_ws at h
  rw [List.getElem?_map] at h
  cases hq : gh_all[i]? with
  | none => rw [hq] at h; cases h
  | some q => rw [hq] at h; exact ⟨q, rfl, (Option.some.inj h).symm⟩
theorem gh_D_any {wd : gh_Wd} {A : Nat → Prop} {M0 : gh_M} (M : gh_M) (h : va_D A (gh_ws wd M0)) : va_D A (gh_ws wd M) := by
  refine ⟨fun i j p q hi hj e => ?_, fun k q hk => ?_⟩
  · obtain ⟨a, ha, rfl⟩ := gh_ws_of wd M hi
    obtain ⟨b, hb, rfl⟩ := gh_ws_of wd M hj
    exact h.1 i j _ _ (gh_ws_at wd M0 ha) (gh_ws_at wd M0 hb) e
  · obtain ⟨a, ha, rfl⟩ := gh_ws_of wd M hk
    exact h.2 k (wd.2.1 a.1 a.2, gh_ce wd M0 a.1 a.2) (gh_ws_at wd M0 ha)
theorem gh_fv_loc (wd : gh_Wd) {M N : gh_M} {k t : Nat} (h : M k t = N k t) (i : Nat) : gh_fv wd M k t i = gh_fv wd N k t i := by
  unfold gh_fv
  rw [h]
theorem gh_ce_loc (wd : gh_Wd) {M N : gh_M} {k t : Nat} (h : M k t = N k t) : gh_ce wd M k t = gh_ce wd N k t := by
  have e : gh_fv wd M k t = gh_fv wd N k t := funext (gh_fv_loc wd h)
  unfold gh_ce
  rw [h, e]
theorem gh_row_self (M : gh_M) (k t : Nat) (f : Nat → Int32) : gh_row M k t f k t = f := by
  unfold gh_row
  rw [if_pos ⟨rfl, rfl⟩]
theorem gh_row_ne (M : gh_M) {k t : Nat} (f : Nat → Int32) {a b : Nat} (h : ¬ (a = k ∧ b = t)) : gh_row M k t f a b = M a b := by
  unfold gh_row
  rw [if_neg h]
theorem gh_set {wd : gh_Wd} {A : Nat → Prop} {M : gh_M} (hD : va_D A (gh_ws wd M)) {q0 k t : Nat} (h : gh_all[q0]? = some (k, t)) (f : Nat → Int32) {e : va_E} (he : gh_ce wd (gh_row M k t f) k t = e) :
    (gh_ws wd M).set q0 (wd.2.1 k t, e) = gh_ws wd (gh_row M k t f) := by
  subst he
  apply List.ext_getElem?
  intro i
  have hl : q0 < (gh_ws wd M).length := (List.getElem?_eq_some_iff.mp (gh_ws_at wd M h)).1
  by_cases hi : q0 = i
  · subst hi
    rw [List.getElem?_set_self hl, gh_ws_at wd (gh_row M k t f) h]
  · rw [List.getElem?_set_ne hi]
    unfold gh_ws
    rw [List.getElem?_map, List.getElem?_map]
    cases hq : gh_all[i]? with
    | none => rfl
    | some q =>
      have hne : ¬ (q.1 = k ∧ q.2 = t) := by
        rintro ⟨h1, h2⟩
        refine hi (hD.1 q0 i _ _ (gh_ws_at wd M h) (gh_ws_at wd M (q0 := i) (k := q.1) (t := q.2) hq) ?_)
        show wd.2.1 k t = wd.2.1 q.1 q.2
        rw [h1, h2]
      have e := gh_ce_loc wd (M := gh_row M k t f) (N := M) (k := q.1) (t := q.2) (gh_row_ne M f hne)
      show some (wd.2.1 q.1 q.2, gh_ce wd M q.1 q.2) = some (wd.2.1 q.1 q.2, gh_ce wd (gh_row M k t f) q.1 q.2)
      rw [e]
theorem gh_ce_i (wd : gh_Wd) (M : gh_M) {k n : Nat} (t : Nat) (h : gh_ar k = some (0, n)) : gh_ce wd M k t = .inl (wd.2.2.1 0, n, .inl (M k t)) := by
  unfold gh_ce
  rw [h]
  rfl
theorem gh_ce_z (wd : gh_Wd) (M : gh_M) {k n : Nat} (t : Nat) (h : gh_ar k = some (1, n)) : gh_ce wd M k t = .inl (wd.2.2.1 1, n, .inl (M k t)) := by
  unfold gh_ce
  rw [h]
  rfl
theorem gh_ce_r (wd : gh_Wd) (M : gh_M) {k n a : Nat} (t : Nat) (h : gh_ar k = some (a + 2, n)) : gh_ce wd M k t = .inl (wd.2.2.1 (a + 2), n, .inr (.inr (.inr (.inr (fun i => some (wd.2.1 (gh_el k i).1 (gh_el k i).2)))))) := by
  unfold gh_ce
  rw [h]
  rfl
theorem gh_ce_o (wd : gh_Wd) (M : gh_M) {k : Nat} (t : Nat) (h : gh_ar k = none) : gh_ce wd M k t = .inr (gh_ci k, (List.range (gh_fl k t).length).map (gh_fv wd M k t)) := by
  unfold gh_ce
  rw [h]
theorem gh_fs_at (wd : gh_Wd) (M : gh_M) {k t j : Nat} {f : Option (Nat × Nat)} (h : (gh_fl k t)[j]? = some f) : ((List.range (gh_fl k t).length).map (gh_fv wd M k t))[j]? = some (gh_fv wd M k t j) := by
  have hl : j < (gh_fl k t).length := (List.getElem?_eq_some_iff.mp h).1
  rw [List.getElem?_map, List.getElem?_range hl]
  rfl
theorem gh_fs_set (wd : gh_Wd) (M : gh_M) {k t j : Nat} (v : Int32) (h : (gh_fl k t)[j]? = some none) :
    ((List.range (gh_fl k t).length).map (gh_fv wd M k t)).set j (.int v) = (List.range (gh_fl k t).length).map (gh_fv wd (gh_st M k t j v) k t) := by
  have hl : j < (gh_fl k t).length := (List.getElem?_eq_some_iff.mp h).1
  apply List.ext_getElem?
  intro i
  by_cases hi : j = i
  · subst hi
    rw [List.getElem?_set_self (by simp; exact hl), List.getElem?_map, List.getElem?_range hl]
    show some (Value.int v) = some (gh_fv wd (gh_st M k t j v) k t j)
    unfold gh_fv
    rw [h]
    show some (Value.int v) = some (Value.int (gh_st M k t j v k t j))
    unfold gh_st
    rw [gh_row_self]
    show some (Value.int v) = some (Value.int (if j = j then v else _))
    rw [if_pos rfl]
  · rw [List.getElem?_set_ne hi, List.getElem?_map, List.getElem?_map]
    cases hq : (List.range (gh_fl k t).length)[i]? with
    | none => rfl
    | some z =>
      have hz : z = i := by
        have h1 := List.getElem?_eq_some_iff.mp hq
        obtain ⟨h2, h3⟩ := h1
        rw [List.getElem_range] at h3
        exact h3.symm
      subst hz
      show some (gh_fv wd M k t z) = some (gh_fv wd (gh_st M k t j v) k t z)
      unfold gh_fv gh_st
      rw [gh_row_self]
      have hne : z ≠ j := fun e => hi e.symm
      cases (gh_fl k t)[z]? with
      | none => simp [upd, hne]
      | some o => cases o with
        | none => simp [upd, hne]
        | some q => rfl
-- locals
theorem gh_pr_mem {wd : gh_Wd} {L : List (Option gh_V)} {i : Nat} {y : Value} : (i, y) ∈ gh_pr wd L ↔ ∃ v, L[i]? = some (some v) ∧ y = gh_tv wd v := by
  unfold gh_pr
  rw [List.mem_filterMap]
  constructor
  · rintro ⟨⟨o, j⟩, h1, h2⟩
    rw [List.mem_zipIdx_iff_getElem?] at h1
    cases o with
    | none => cases h2
    | some v =>
      have h3 := Option.some.inj h2
      have e1 : j = i := congrArg Prod.fst h3
      have e2 : gh_tv wd v = y := congrArg Prod.snd h3
      subst e1
      exact ⟨v, h1, e2.symm⟩
  · rintro ⟨v, h1, rfl⟩
    exact ⟨(some v, i), List.mem_zipIdx_iff_getElem?.mpr h1, rfl⟩
theorem gh_L_at {wd : gh_Wd} {ls : Array Slot} {nL : Nat} {L : List (Option gh_V)} (h : gh_L wd ls nL L) {i : Nat} {v : gh_V} (hv : L[i]? = some (some v)) : ls[i]? = some (.val (gh_tv wd v)) :=
  h.2.2 (i, gh_tv wd v) (gh_pr_mem.mpr ⟨v, hv, rfl⟩)
/-- no long stands just ahead of a place -/
def gh_nl (L : List (Option gh_V)) (i : Nat) : Bool := match i with
  | 0 => true
  | j + 1 => match L[j]? with
    | some (some (.inr (.inl _))) => false
    | _ => true
theorem gh_nl_cat {wd : gh_Wd} {L : List (Option gh_V)} {i j : Nat} {v : gh_V} (hn : gh_nl L i = true) (hj : j + 1 = i) (hv : L[j]? = some (some v)) : (gh_tv wd v).category = 1 := by
  subst hj
  change (match L[j]? with
    | some (some (.inr (.inl _))) => false
    | _ => true) = true at hn
  rw [hv] at hn
  rcases v with a | b | q
  · rfl
  · cases hn
  · rfl
theorem gh_L_s1 {wd : gh_Wd} {ls : Array Slot} {nL : Nat} {L : List (Option gh_V)} (h : gh_L wd ls nL L) {i : Nat} (v : gh_V) (hn : gh_nl L i = true) {ls' : Array Slot}
    (hs : lv_has ls' nL ((i, gh_tv wd v) :: (gh_pr wd L).filter (fun q => !(q.1 == i) && !(q.1 + 1 == i && q.2.category == 2)))) : gh_L wd ls' nL (L.set i (some v)) := by
  refine ⟨hs.1, hs.2.1, fun q hq => ?_⟩
  obtain ⟨j, y⟩ := q
  obtain ⟨w, hw, rfl⟩ := gh_pr_mem.mp hq
  apply hs.2.2
  by_cases hj : i = j
  · subst hj
    have hl : i < L.length := by
      have := (List.getElem?_eq_some_iff.mp hw).1
      rwa [List.length_set] at this
    rw [List.getElem?_set_self hl] at hw
    cases hw
    exact List.mem_cons_self
  · rw [List.getElem?_set_ne hj] at hw
    refine List.mem_cons_of_mem _ (List.mem_filter.mpr ⟨gh_pr_mem.mpr ⟨w, hw, rfl⟩, ?_⟩)
    have h1 : ¬ j = i := fun e => hj e.symm
    by_cases h2 : j + 1 = i
    · have h3 := gh_nl_cat (wd := wd) hn h2 hw
      simp [h1, h3]
    · simp [h1, h2]
theorem gh_L_s2 {wd : gh_Wd} {ls : Array Slot} {nL : Nat} {L : List (Option gh_V)} (h : gh_L wd ls nL L) {i : Nat} (v : gh_V) (hn : gh_nl L i = true) {ls' : Array Slot}
    (hs : lv_has ls' nL ((i, gh_tv wd v) :: (gh_pr wd L).filter (fun q => !(q.1 == i) && (!(q.1 == i + 1) && !(q.1 + 1 == i && q.2.category == 2))))) : gh_L wd ls' nL ((L.set i (some v)).set (i + 1) none) := by
  refine ⟨hs.1, hs.2.1, fun q hq => ?_⟩
  obtain ⟨j, y⟩ := q
  obtain ⟨w, hw, rfl⟩ := gh_pr_mem.mp hq
  apply hs.2.2
  by_cases hj2 : i + 1 = j
  · subst hj2
    have hl : i + 1 < (L.set i (some v)).length := by
      have := (List.getElem?_eq_some_iff.mp hw).1
      rwa [List.length_set] at this
    rw [List.getElem?_set_self hl] at hw
    cases hw
  · rw [List.getElem?_set_ne hj2] at hw
    by_cases hj : i = j
    · subst hj
      have hl : i < L.length := by
        have := (List.getElem?_eq_some_iff.mp hw).1
        rwa [List.length_set] at this
      rw [List.getElem?_set_self hl] at hw
      cases hw
      exact List.mem_cons_self
    · rw [List.getElem?_set_ne hj] at hw
      refine List.mem_cons_of_mem _ (List.mem_filter.mpr ⟨gh_pr_mem.mpr ⟨w, hw, rfl⟩, ?_⟩)
      have h1 : ¬ j = i := fun e => hj e.symm
      have h0 : ¬ j = i + 1 := fun e => hj2 e.symm
      by_cases h2 : j + 1 = i
      · have h3 := gh_nl_cat (wd := wd) hn h2 hw
        simp [h1, h0, h3]
      · simp [h1, h0, h2]
/-- fewer locals -/
def gh_le : List (Option gh_V) → List (Option gh_V) → Prop
  | [], _ => True
  | none :: a, _ :: b => gh_le a b
  | some v :: a, w :: b => w = some v ∧ gh_le a b
  | _ :: _, [] => False
theorem gh_le_at : ∀ {a b : List (Option gh_V)}, gh_le a b → ∀ {i : Nat} {v : gh_V}, a[i]? = some (some v) → b[i]? = some (some v)
  | [], _, _, i, v, h => by simp at h
  | none :: a, w :: b, hab, 0, v, h => by simp at h
  | none :: a, w :: b, hab, i + 1, v, h => by
    rw [List.getElem?_cons_succ] at h ⊢
    exact gh_le_at (a := a) (b := b) hab h
  | some u :: a, w :: b, hab, 0, v, h => by
    rw [List.getElem?_cons_zero] at h ⊢
    rw [hab.1]
    exact h
  | some u :: a, w :: b, hab, i + 1, v, h => by
    rw [List.getElem?_cons_succ] at h ⊢
    exact gh_le_at (a := a) (b := b) hab.2 h
  | none :: a, [], hab, _, _, _ => hab.elim
  | some u :: a, [], hab, _, _, _ => hab.elim
theorem gh_L_le {wd : gh_Wd} {ls : Array Slot} {nL : Nat} {L L' : List (Option gh_V)} (hle : gh_le L' L) (h : gh_L wd ls nL L) : gh_L wd ls nL L' := by
  refine ⟨h.1, h.2.1, fun q hq => ?_⟩
  obtain ⟨j, y⟩ := q
  obtain ⟨w, hw, rfl⟩ := gh_pr_mem.mp hq
  exact gh_L_at h (gh_le_at hle hw)
end
section
theorem gh_iconst {mi : gh_MI} {d : Nat} {wd : gh_Wd} {x : gh_X} {M : gh_M} {pc pc' : Nat} {L : List (Option gh_V)} {S : List gh_V} {n : Int} {v : Int32} (hd : gh_at mi pc (.iconst n) 1 pc') (hv : Int32.ofInt n = v) (k : gh_J mi d wd x M pc' L (vI v :: S)) : gh_J mi d wd x M pc L (S) := by
  obtain ⟨p, l, e, R, s, m, args, below, meth, c, cells, slots, Q⟩ := x
  obtain ⟨hd, rfl⟩ := hd
  intro hC H locs ls hP hS hL
  exact lv_iconst hC.1 hC.2.1 hd hv (k hC H locs ls hP hS hL)
theorem gh_bipush {mi : gh_MI} {d : Nat} {wd : gh_Wd} {x : gh_X} {M : gh_M} {pc pc' : Nat} {L : List (Option gh_V)} {S : List gh_V} {n : Int} {v : Int32} (hd : gh_at mi pc (.bipush n) 2 pc') (hv : (Int8.ofInt n).toInt32 = v) (k : gh_J mi d wd x M pc' L (vI v :: S)) : gh_J mi d wd x M pc L (S) := by
  obtain ⟨p, l, e, R, s, m, args, below, meth, c, cells, slots, Q⟩ := x
  obtain ⟨hd, rfl⟩ := hd
  intro hC H locs ls hP hS hL
  exact lv_bipush hC.1 hC.2.1 hd hv (k hC H locs ls hP hS hL)
theorem gh_sipush {mi : gh_MI} {d : Nat} {wd : gh_Wd} {x : gh_X} {M : gh_M} {pc pc' : Nat} {L : List (Option gh_V)} {S : List gh_V} {n : Int} {v : Int32} (hd : gh_at mi pc (.sipush n) 3 pc') (hv : (Int16.ofInt n).toInt32 = v) (k : gh_J mi d wd x M pc' L (vI v :: S)) : gh_J mi d wd x M pc L (S) := by
  obtain ⟨p, l, e, R, s, m, args, below, meth, c, cells, slots, Q⟩ := x
  obtain ⟨hd, rfl⟩ := hd
  intro hC H locs ls hP hS hL
  exact lv_sipush hC.1 hC.2.1 hd hv (k hC H locs ls hP hS hL)
theorem gh_lconst {mi : gh_MI} {d : Nat} {wd : gh_Wd} {x : gh_X} {M : gh_M} {pc pc' : Nat} {L : List (Option gh_V)} {S : List gh_V} {n : Fin 2} {v : Int64} (hd : gh_at mi pc (.lconst n) 1 pc') (hv : Int64.ofNat n = v) (k : gh_J mi d wd x M pc' L (vL v :: S)) : gh_J mi d wd x M pc L (S) := by
  obtain ⟨p, l, e, R, s, m, args, below, meth, c, cells, slots, Q⟩ := x
  obtain ⟨hd, rfl⟩ := hd
  intro hC H locs ls hP hS hL
  exact lv_lconst hC.1 hC.2.1 hd hv (k hC H locs ls hP hS hL)
theorem gh_ldc {mi : gh_MI} {d : Nat} {wd : gh_Wd} {x : gh_X} {M : gh_M} {pc pc' : Nat} {L : List (Option gh_V)} {S : List gh_V} {n : Nat} {v : Int32} (hd : gh_at mi pc (.ldc n) 2 pc') (hw : Cond.constant mi.1 n v ∈ gh_G) (k : gh_J mi d wd x M pc' L (vI v :: S)) : gh_J mi d wd x M pc L (S) := by
  obtain ⟨p, l, e, R, s, m, args, below, meth, c, cells, slots, Q⟩ := x
  obtain ⟨hd, rfl⟩ := hd
  intro hC H locs ls hP hS hL
  exact lv_ldc hC.1 hC.2.1 hC.2.2.2.1 (hC.2.2.2.2.1 _ hw) hd (k hC H locs ls hP hS hL)
theorem gh_ldcw {mi : gh_MI} {d : Nat} {wd : gh_Wd} {x : gh_X} {M : gh_M} {pc pc' : Nat} {L : List (Option gh_V)} {S : List gh_V} {n : Nat} {v : Int32} (hd : gh_at mi pc (.ldc_w n) 3 pc') (hw : Cond.constant mi.1 n v ∈ gh_G) (k : gh_J mi d wd x M pc' L (vI v :: S)) : gh_J mi d wd x M pc L (S) := by
  obtain ⟨p, l, e, R, s, m, args, below, meth, c, cells, slots, Q⟩ := x
  obtain ⟨hd, rfl⟩ := hd
  intro hC H locs ls hP hS hL
  exact lv_ldcw hC.1 hC.2.1 hC.2.2.2.1 (hC.2.2.2.2.1 _ hw) hd (k hC H locs ls hP hS hL)
theorem gh_ldc2 {mi : gh_MI} {d : Nat} {wd : gh_Wd} {x : gh_X} {M : gh_M} {pc pc' : Nat} {L : List (Option gh_V)} {S : List gh_V} {n : Nat} {v : Int64} (hd : gh_at mi pc (.ldc2_w n) 3 pc') (hw : Cond.constantLong mi.1 n v ∈ gh_G) (k : gh_J mi d wd x M pc' L (vL v :: S)) : gh_J mi d wd x M pc L (S) := by
  obtain ⟨p, l, e, R, s, m, args, below, meth, c, cells, slots, Q⟩ := x
  obtain ⟨hd, rfl⟩ := hd
  intro hC H locs ls hP hS hL
  exact lv_ldc2 hC.1 hC.2.1 hC.2.2.2.1 (hC.2.2.2.2.1 _ hw) hd (k hC H locs ls hP hS hL)
theorem gh_iload_n {mi : gh_MI} {d : Nat} {wd : gh_Wd} {x : gh_X} {M : gh_M} {pc pc' : Nat} {L : List (Option gh_V)} {S : List gh_V} {i : Fin 4} {v : Int32} (hd : gh_at mi pc (.iload_n i) 1 pc') (hv : L[(i : Nat)]? = some (some (vI v))) (k : gh_J mi d wd x M pc' L (vI v :: S)) : gh_J mi d wd x M pc L (S) := by
  obtain ⟨p, l, e, R, s, m, args, below, meth, c, cells, slots, Q⟩ := x
  obtain ⟨hd, rfl⟩ := hd
  intro hC H locs ls hP hS hL
  exact lv_iload_n hC.1 hC.2.1 hd rfl (gh_L_at hL hv) (k hC H locs ls hP hS hL)
theorem gh_iload {mi : gh_MI} {d : Nat} {wd : gh_Wd} {x : gh_X} {M : gh_M} {pc pc' : Nat} {L : List (Option gh_V)} {S : List gh_V} {i : Nat} {v : Int32} (hd : gh_at mi pc (.iload i) 2 pc') (hv : L[i]? = some (some (vI v))) (k : gh_J mi d wd x M pc' L (vI v :: S)) : gh_J mi d wd x M pc L (S) := by
  obtain ⟨p, l, e, R, s, m, args, below, meth, c, cells, slots, Q⟩ := x
  obtain ⟨hd, rfl⟩ := hd
  intro hC H locs ls hP hS hL
  exact lv_iload hC.1 hC.2.1 hd (gh_L_at hL hv) (k hC H locs ls hP hS hL)
theorem gh_lload_n {mi : gh_MI} {d : Nat} {wd : gh_Wd} {x : gh_X} {M : gh_M} {pc pc' : Nat} {L : List (Option gh_V)} {S : List gh_V} {i : Fin 4} {v : Int64} (hd : gh_at mi pc (.lload_n i) 1 pc') (hv : L[(i : Nat)]? = some (some (vL v))) (k : gh_J mi d wd x M pc' L (vL v :: S)) : gh_J mi d wd x M pc L (S) := by
  obtain ⟨p, l, e, R, s, m, args, below, meth, c, cells, slots, Q⟩ := x
  obtain ⟨hd, rfl⟩ := hd
  intro hC H locs ls hP hS hL
  exact lv_lload_n hC.1 hC.2.1 hd rfl (gh_L_at hL hv) (k hC H locs ls hP hS hL)
theorem gh_lload {mi : gh_MI} {d : Nat} {wd : gh_Wd} {x : gh_X} {M : gh_M} {pc pc' : Nat} {L : List (Option gh_V)} {S : List gh_V} {i : Nat} {v : Int64} (hd : gh_at mi pc (.lload i) 2 pc') (hv : L[i]? = some (some (vL v))) (k : gh_J mi d wd x M pc' L (vL v :: S)) : gh_J mi d wd x M pc L (S) := by
  obtain ⟨p, l, e, R, s, m, args, below, meth, c, cells, slots, Q⟩ := x
  obtain ⟨hd, rfl⟩ := hd
  intro hC H locs ls hP hS hL
  exact lv_lload hC.1 hC.2.1 hd (gh_L_at hL hv) (k hC H locs ls hP hS hL)
theorem gh_aload_n {mi : gh_MI} {d : Nat} {wd : gh_Wd} {x : gh_X} {M : gh_M} {pc pc' : Nat} {L : List (Option gh_V)} {S : List gh_V} {i : Fin 4} {a b : Nat} (hd : gh_at mi pc (.aload_n i) 1 pc') (hv : L[(i : Nat)]? = some (some (vR a b))) (k : gh_J mi d wd x M pc' L (vR a b :: S)) : gh_J mi d wd x M pc L (S) := by
  obtain ⟨p, l, e, R, s, m, args, below, meth, c, cells, slots, Q⟩ := x
  obtain ⟨hd, rfl⟩ := hd
  intro hC H locs ls hP hS hL
  exact lv_aload_n hC.1 hC.2.1 hd rfl (gh_L_at hL hv) (k hC H locs ls hP hS hL)
theorem gh_aload {mi : gh_MI} {d : Nat} {wd : gh_Wd} {x : gh_X} {M : gh_M} {pc pc' : Nat} {L : List (Option gh_V)} {S : List gh_V} {i : Nat} {a b : Nat} (hd : gh_at mi pc (.aload i) 2 pc') (hv : L[i]? = some (some (vR a b))) (k : gh_J mi d wd x M pc' L (vR a b :: S)) : gh_J mi d wd x M pc L (S) := by
  obtain ⟨p, l, e, R, s, m, args, below, meth, c, cells, slots, Q⟩ := x
  obtain ⟨hd, rfl⟩ := hd
  intro hC H locs ls hP hS hL
  exact lv_aload hC.1 hC.2.1 hd (gh_L_at hL hv) (k hC H locs ls hP hS hL)
theorem gh_istore_n {mi : gh_MI} {d : Nat} {wd : gh_Wd} {x : gh_X} {M : gh_M} {pc pc' : Nat} {L : List (Option gh_V)} {S : List gh_V} {i : Fin 4} {v : Int32} {L' : List (Option gh_V)} (hd : gh_at mi pc (.istore_n i) 1 pc') (hn : (i : Nat) < mi.2.2.2.1) (hl : gh_nl L (i : Nat) = true) (hset : L.set (i : Nat) (some (vI v)) = L') (k : gh_J mi d wd x M pc' L' (S)) : gh_J mi d wd x M pc L (vI v :: S) := by
  obtain ⟨p, l, e, R, s, m, args, below, meth, c, cells, slots, Q⟩ := x
  obtain ⟨hd, rfl⟩ := hd
  intro hC H locs ls hP hS hL
  subst hset
  exact lv_istore_n hC.1 hC.2.1 hd rfl hL hn rfl (fun ls' hs => k hC H locs ls' hP hS (gh_L_s1 hL (vI v) hl hs))
theorem gh_istore {mi : gh_MI} {d : Nat} {wd : gh_Wd} {x : gh_X} {M : gh_M} {pc pc' : Nat} {L : List (Option gh_V)} {S : List gh_V} {i : Nat} {v : Int32} {L' : List (Option gh_V)} (hd : gh_at mi pc (.istore i) 2 pc') (hn : i < mi.2.2.2.1) (hl : gh_nl L i = true) (hset : L.set i (some (vI v)) = L') (k : gh_J mi d wd x M pc' L' (S)) : gh_J mi d wd x M pc L (vI v :: S) := by
  obtain ⟨p, l, e, R, s, m, args, below, meth, c, cells, slots, Q⟩ := x
  obtain ⟨hd, rfl⟩ := hd
  intro hC H locs ls hP hS hL
  subst hset
  exact lv_istore hC.1 hC.2.1 hd hL hn rfl (fun ls' hs => k hC H locs ls' hP hS (gh_L_s1 hL (vI v) hl hs))
theorem gh_astore_n {mi : gh_MI} {d : Nat} {wd : gh_Wd} {x : gh_X} {M : gh_M} {pc pc' : Nat} {L : List (Option gh_V)} {S : List gh_V} {i : Fin 4} {v : Nat} {b : Nat} {L' : List (Option gh_V)} (hd : gh_at mi pc (.astore_n i) 1 pc') (hn : (i : Nat) < mi.2.2.2.1) (hl : gh_nl L (i : Nat) = true) (hset : L.set (i : Nat) (some (vR v b)) = L') (k : gh_J mi d wd x M pc' L' (S)) : gh_J mi d wd x M pc L (vR v b :: S) := by
  obtain ⟨p, l, e, R, s, m, args, below, meth, c, cells, slots, Q⟩ := x
  obtain ⟨hd, rfl⟩ := hd
  intro hC H locs ls hP hS hL
  subst hset
  exact lv_astore_n hC.1 hC.2.1 hd rfl hL hn rfl (fun ls' hs => k hC H locs ls' hP hS (gh_L_s1 hL (vR v b) hl hs))
theorem gh_astore {mi : gh_MI} {d : Nat} {wd : gh_Wd} {x : gh_X} {M : gh_M} {pc pc' : Nat} {L : List (Option gh_V)} {S : List gh_V} {i : Nat} {v : Nat} {b : Nat} {L' : List (Option gh_V)} (hd : gh_at mi pc (.astore i) 2 pc') (hn : i < mi.2.2.2.1) (hl : gh_nl L i = true) (hset : L.set i (some (vR v b)) = L') (k : gh_J mi d wd x M pc' L' (S)) : gh_J mi d wd x M pc L (vR v b :: S) := by
  obtain ⟨p, l, e, R, s, m, args, below, meth, c, cells, slots, Q⟩ := x
  obtain ⟨hd, rfl⟩ := hd
  intro hC H locs ls hP hS hL
  subst hset
  exact lv_astore hC.1 hC.2.1 hd hL hn rfl (fun ls' hs => k hC H locs ls' hP hS (gh_L_s1 hL (vR v b) hl hs))
theorem gh_lstore_n {mi : gh_MI} {d : Nat} {wd : gh_Wd} {x : gh_X} {M : gh_M} {pc pc' : Nat} {L : List (Option gh_V)} {S : List gh_V} {i : Fin 4} {v : Int64} {L' : List (Option gh_V)} (hd : gh_at mi pc (.lstore_n i) 1 pc') (hn : (i : Nat) + 1 < mi.2.2.2.1) (hl : gh_nl L (i : Nat) = true) (hset : (L.set (i : Nat) (some (vL v))).set ((i : Nat) + 1) none = L') (k : gh_J mi d wd x M pc' L' (S)) : gh_J mi d wd x M pc L (vL v :: S) := by
  obtain ⟨p, l, e, R, s, m, args, below, meth, c, cells, slots, Q⟩ := x
  obtain ⟨hd, rfl⟩ := hd
  intro hC H locs ls hP hS hL
  subst hset
  exact lv_lstore_n hC.1 hC.2.1 hd rfl hL hn rfl (fun ls' hs => k hC H locs ls' hP hS (gh_L_s2 hL (vL v) hl hs))
theorem gh_lstore {mi : gh_MI} {d : Nat} {wd : gh_Wd} {x : gh_X} {M : gh_M} {pc pc' : Nat} {L : List (Option gh_V)} {S : List gh_V} {i : Nat} {v : Int64} {L' : List (Option gh_V)} (hd : gh_at mi pc (.lstore i) 2 pc') (hn : i + 1 < mi.2.2.2.1) (hl : gh_nl L i = true) (hset : (L.set i (some (vL v))).set (i + 1) none = L') (k : gh_J mi d wd x M pc' L' (S)) : gh_J mi d wd x M pc L (vL v :: S) := by
  obtain ⟨p, l, e, R, s, m, args, below, meth, c, cells, slots, Q⟩ := x
  obtain ⟨hd, rfl⟩ := hd
  intro hC H locs ls hP hS hL
  subst hset
  exact lv_lstore hC.1 hC.2.1 hd hL hn rfl (fun ls' hs => k hC H locs ls' hP hS (gh_L_s2 hL (vL v) hl hs))
theorem gh_iinc {mi : gh_MI} {d : Nat} {wd : gh_Wd} {x : gh_X} {M : gh_M} {pc pc' : Nat} {L : List (Option gh_V)} {S : List gh_V} {i : Nat} {n : Int} {u v : Int32} {L' : List (Option gh_V)} (hd : gh_at mi pc (.iinc i n) 3 pc') (hu : L[i]? = some (some (vI u))) (hv : u + Int32.ofInt n = v) (hn : i < mi.2.2.2.1) (hl : gh_nl L i = true) (hset : L.set i (some (vI v)) = L') (k : gh_J mi d wd x M pc' L' (S)) : gh_J mi d wd x M pc L (S) := by
  obtain ⟨p, l, e, R, s, m, args, below, meth, c, cells, slots, Q⟩ := x
  obtain ⟨hd, rfl⟩ := hd
  intro hC H locs ls hP hS hL
  subst hset
  obtain ⟨j, hj⟩ := List.getElem?_of_mem (gh_pr_mem.mpr ⟨vI u, hu, rfl⟩ : (i, gh_tv wd (vI u)) ∈ gh_pr wd L)
  exact lv_iinc hC.1 hC.2.1 hd hL hj hv hn rfl (fun ls' hs => k hC H locs ls' hP hS (gh_L_s1 hL (vI v) hl hs))
theorem gh_iadd {mi : gh_MI} {d : Nat} {wd : gh_Wd} {x : gh_X} {M : gh_M} {pc pc' : Nat} {L : List (Option gh_V)} {S : List gh_V} {a b : Int32} (hd : gh_at mi pc (.iadd) 1 pc')  (k : gh_J mi d wd x M pc' L (vI (a + b) :: S)) : gh_J mi d wd x M pc L (vI b :: vI a :: S) := by
  obtain ⟨p, l, e, R, s, m, args, below, meth, c, cells, slots, Q⟩ := x
  obtain ⟨hd, rfl⟩ := hd
  intro hC H locs ls hP hS hL
  exact lv_iadd hC.1 hC.2.1 hd (k hC H locs ls hP hS hL)
theorem gh_isub {mi : gh_MI} {d : Nat} {wd : gh_Wd} {x : gh_X} {M : gh_M} {pc pc' : Nat} {L : List (Option gh_V)} {S : List gh_V} {a b : Int32} (hd : gh_at mi pc (.isub) 1 pc')  (k : gh_J mi d wd x M pc' L (vI (a - b) :: S)) : gh_J mi d wd x M pc L (vI b :: vI a :: S) := by
  obtain ⟨p, l, e, R, s, m, args, below, meth, c, cells, slots, Q⟩ := x
  obtain ⟨hd, rfl⟩ := hd
  intro hC H locs ls hP hS hL
  exact lv_isub hC.1 hC.2.1 hd (k hC H locs ls hP hS hL)
theorem gh_imul {mi : gh_MI} {d : Nat} {wd : gh_Wd} {x : gh_X} {M : gh_M} {pc pc' : Nat} {L : List (Option gh_V)} {S : List gh_V} {a b : Int32} (hd : gh_at mi pc (.imul) 1 pc')  (k : gh_J mi d wd x M pc' L (vI (a * b) :: S)) : gh_J mi d wd x M pc L (vI b :: vI a :: S) := by
  obtain ⟨p, l, e, R, s, m, args, below, meth, c, cells, slots, Q⟩ := x
  obtain ⟨hd, rfl⟩ := hd
  intro hC H locs ls hP hS hL
  exact lv_imul hC.1 hC.2.1 hd (k hC H locs ls hP hS hL)
theorem gh_iand {mi : gh_MI} {d : Nat} {wd : gh_Wd} {x : gh_X} {M : gh_M} {pc pc' : Nat} {L : List (Option gh_V)} {S : List gh_V} {a b : Int32} (hd : gh_at mi pc (.iand) 1 pc')  (k : gh_J mi d wd x M pc' L (vI (a &&& b) :: S)) : gh_J mi d wd x M pc L (vI b :: vI a :: S) := by
  obtain ⟨p, l, e, R, s, m, args, below, meth, c, cells, slots, Q⟩ := x
  obtain ⟨hd, rfl⟩ := hd
  intro hC H locs ls hP hS hL
  exact lv_iand hC.1 hC.2.1 hd (k hC H locs ls hP hS hL)
theorem gh_ior {mi : gh_MI} {d : Nat} {wd : gh_Wd} {x : gh_X} {M : gh_M} {pc pc' : Nat} {L : List (Option gh_V)} {S : List gh_V} {a b : Int32} (hd : gh_at mi pc (.ior) 1 pc')  (k : gh_J mi d wd x M pc' L (vI (a ||| b) :: S)) : gh_J mi d wd x M pc L (vI b :: vI a :: S) := by
  obtain ⟨p, l, e, R, s, m, args, below, meth, c, cells, slots, Q⟩ := x
  obtain ⟨hd, rfl⟩ := hd
  intro hC H locs ls hP hS hL
  exact lv_ior hC.1 hC.2.1 hd (k hC H locs ls hP hS hL)
theorem gh_ixor {mi : gh_MI} {d : Nat} {wd : gh_Wd} {x : gh_X} {M : gh_M} {pc pc' : Nat} {L : List (Option gh_V)} {S : List gh_V} {a b : Int32} (hd : gh_at mi pc (.ixor) 1 pc')  (k : gh_J mi d wd x M pc' L (vI (a ^^^ b) :: S)) : gh_J mi d wd x M pc L (vI b :: vI a :: S) := by
  obtain ⟨p, l, e, R, s, m, args, below, meth, c, cells, slots, Q⟩ := x
  obtain ⟨hd, rfl⟩ := hd
  intro hC H locs ls hP hS hL
  exact lv_ixor hC.1 hC.2.1 hd (k hC H locs ls hP hS hL)
theorem gh_ishl {mi : gh_MI} {d : Nat} {wd : gh_Wd} {x : gh_X} {M : gh_M} {pc pc' : Nat} {L : List (Option gh_V)} {S : List gh_V} {a b : Int32} (hd : gh_at mi pc (.ishl) 1 pc')  (k : gh_J mi d wd x M pc' L (vI (a <<< (b &&& 31)) :: S)) : gh_J mi d wd x M pc L (vI b :: vI a :: S) := by
  obtain ⟨p, l, e, R, s, m, args, below, meth, c, cells, slots, Q⟩ := x
  obtain ⟨hd, rfl⟩ := hd
  intro hC H locs ls hP hS hL
  exact lv_ishl hC.1 hC.2.1 hd (k hC H locs ls hP hS hL)
theorem gh_ishr {mi : gh_MI} {d : Nat} {wd : gh_Wd} {x : gh_X} {M : gh_M} {pc pc' : Nat} {L : List (Option gh_V)} {S : List gh_V} {a b : Int32} (hd : gh_at mi pc (.ishr) 1 pc')  (k : gh_J mi d wd x M pc' L (vI (a >>> (b &&& 31)) :: S)) : gh_J mi d wd x M pc L (vI b :: vI a :: S) := by
  obtain ⟨p, l, e, R, s, m, args, below, meth, c, cells, slots, Q⟩ := x
  obtain ⟨hd, rfl⟩ := hd
  intro hC H locs ls hP hS hL
  exact lv_ishr hC.1 hC.2.1 hd (k hC H locs ls hP hS hL)
theorem gh_idiv {mi : gh_MI} {d : Nat} {wd : gh_Wd} {x : gh_X} {M : gh_M} {pc pc' : Nat} {L : List (Option gh_V)} {S : List gh_V} {a b : Int32} (hd : gh_at mi pc (.idiv) 1 pc') (hne : ¬ b = 0) (k : gh_J mi d wd x M pc' L (vI (a / b) :: S)) : gh_J mi d wd x M pc L (vI b :: vI a :: S) := by
  obtain ⟨p, l, e, R, s, m, args, below, meth, c, cells, slots, Q⟩ := x
  obtain ⟨hd, rfl⟩ := hd
  intro hC H locs ls hP hS hL
  exact lv_idiv hC.1 hC.2.1 hd hne (k hC H locs ls hP hS hL)
theorem gh_irem {mi : gh_MI} {d : Nat} {wd : gh_Wd} {x : gh_X} {M : gh_M} {pc pc' : Nat} {L : List (Option gh_V)} {S : List gh_V} {a b : Int32} (hd : gh_at mi pc (.irem) 1 pc') (hne : ¬ b = 0) (k : gh_J mi d wd x M pc' L (vI (a - a / b * b) :: S)) : gh_J mi d wd x M pc L (vI b :: vI a :: S) := by
  obtain ⟨p, l, e, R, s, m, args, below, meth, c, cells, slots, Q⟩ := x
  obtain ⟨hd, rfl⟩ := hd
  intro hC H locs ls hP hS hL
  exact lv_irem hC.1 hC.2.1 hd hne (k hC H locs ls hP hS hL)
theorem gh_iushr {mi : gh_MI} {d : Nat} {wd : gh_Wd} {x : gh_X} {M : gh_M} {pc pc' : Nat} {L : List (Option gh_V)} {S : List gh_V} {a b : Int32} (hd : gh_at mi pc (.iushr) 1 pc')  (k : gh_J mi d wd x M pc' L (vI (a.toUInt32 >>> (b.toUInt32 &&& Int32.toUInt32 31)).toInt32 :: S)) : gh_J mi d wd x M pc L (vI b :: vI a :: S) := by
  obtain ⟨p, l, e, R, s, m, args, below, meth, c, cells, slots, Q⟩ := x
  obtain ⟨hd, rfl⟩ := hd
  intro hC H locs ls hP hS hL
  exact lv_iushr hC.1 hC.2.1 hd rfl (k hC H locs ls hP hS hL)
theorem gh_ineg {mi : gh_MI} {d : Nat} {wd : gh_Wd} {x : gh_X} {M : gh_M} {pc pc' : Nat} {L : List (Option gh_V)} {S : List gh_V} {a : Int32} (hd : gh_at mi pc (.ineg) 1 pc')  (k : gh_J mi d wd x M pc' L (vI (-a) :: S)) : gh_J mi d wd x M pc L (vI a :: S) := by
  obtain ⟨p, l, e, R, s, m, args, below, meth, c, cells, slots, Q⟩ := x
  obtain ⟨hd, rfl⟩ := hd
  intro hC H locs ls hP hS hL
  exact lv_ineg hC.1 hC.2.1 hd (k hC H locs ls hP hS hL)
theorem gh_ladd {mi : gh_MI} {d : Nat} {wd : gh_Wd} {x : gh_X} {M : gh_M} {pc pc' : Nat} {L : List (Option gh_V)} {S : List gh_V} {a b : Int64} (hd : gh_at mi pc (.ladd) 1 pc')  (k : gh_J mi d wd x M pc' L (vL (a + b) :: S)) : gh_J mi d wd x M pc L (vL b :: vL a :: S) := by
  obtain ⟨p, l, e, R, s, m, args, below, meth, c, cells, slots, Q⟩ := x
  obtain ⟨hd, rfl⟩ := hd
  intro hC H locs ls hP hS hL
  exact lv_ladd hC.1 hC.2.1 hd (k hC H locs ls hP hS hL)
theorem gh_lsub {mi : gh_MI} {d : Nat} {wd : gh_Wd} {x : gh_X} {M : gh_M} {pc pc' : Nat} {L : List (Option gh_V)} {S : List gh_V} {a b : Int64} (hd : gh_at mi pc (.lsub) 1 pc')  (k : gh_J mi d wd x M pc' L (vL (a - b) :: S)) : gh_J mi d wd x M pc L (vL b :: vL a :: S) := by
  obtain ⟨p, l, e, R, s, m, args, below, meth, c, cells, slots, Q⟩ := x
  obtain ⟨hd, rfl⟩ := hd
  intro hC H locs ls hP hS hL
  exact lv_lsub hC.1 hC.2.1 hd (k hC H locs ls hP hS hL)
theorem gh_lmul {mi : gh_MI} {d : Nat} {wd : gh_Wd} {x : gh_X} {M : gh_M} {pc pc' : Nat} {L : List (Option gh_V)} {S : List gh_V} {a b : Int64} (hd : gh_at mi pc (.lmul) 1 pc')  (k : gh_J mi d wd x M pc' L (vL (a * b) :: S)) : gh_J mi d wd x M pc L (vL b :: vL a :: S) := by
  obtain ⟨p, l, e, R, s, m, args, below, meth, c, cells, slots, Q⟩ := x
  obtain ⟨hd, rfl⟩ := hd
  intro hC H locs ls hP hS hL
  exact lv_lmul hC.1 hC.2.1 hd (k hC H locs ls hP hS hL)
theorem gh_ldiv {mi : gh_MI} {d : Nat} {wd : gh_Wd} {x : gh_X} {M : gh_M} {pc pc' : Nat} {L : List (Option gh_V)} {S : List gh_V} {a b : Int64} (hd : gh_at mi pc (.ldiv) 1 pc') (hne : ¬ b = 0) (k : gh_J mi d wd x M pc' L (vL (a / b) :: S)) : gh_J mi d wd x M pc L (vL b :: vL a :: S) := by
  obtain ⟨p, l, e, R, s, m, args, below, meth, c, cells, slots, Q⟩ := x
  obtain ⟨hd, rfl⟩ := hd
  intro hC H locs ls hP hS hL
  exact lv_ldiv hC.1 hC.2.1 hd hne (k hC H locs ls hP hS hL)
theorem gh_lrem {mi : gh_MI} {d : Nat} {wd : gh_Wd} {x : gh_X} {M : gh_M} {pc pc' : Nat} {L : List (Option gh_V)} {S : List gh_V} {a b : Int64} (hd : gh_at mi pc (.lrem) 1 pc') (hne : ¬ b = 0) (k : gh_J mi d wd x M pc' L (vL (a - a / b * b) :: S)) : gh_J mi d wd x M pc L (vL b :: vL a :: S) := by
  obtain ⟨p, l, e, R, s, m, args, below, meth, c, cells, slots, Q⟩ := x
  obtain ⟨hd, rfl⟩ := hd
  intro hC H locs ls hP hS hL
  exact lv_lrem hC.1 hC.2.1 hd hne (k hC H locs ls hP hS hL)
theorem gh_lcmp {mi : gh_MI} {d : Nat} {wd : gh_Wd} {x : gh_X} {M : gh_M} {pc pc' : Nat} {L : List (Option gh_V)} {S : List gh_V} {a b : Int64} (hd : gh_at mi pc (.lcmp) 1 pc')  (k : gh_J mi d wd x M pc' L (vI (lg_cmp a b) :: S)) : gh_J mi d wd x M pc L (vL b :: vL a :: S) := by
  obtain ⟨p, l, e, R, s, m, args, below, meth, c, cells, slots, Q⟩ := x
  obtain ⟨hd, rfl⟩ := hd
  intro hC H locs ls hP hS hL
  exact W.lcmp hC.1 hC.2.1 hd (k hC H locs ls hP hS hL)
theorem gh_i2l {mi : gh_MI} {d : Nat} {wd : gh_Wd} {x : gh_X} {M : gh_M} {pc pc' : Nat} {L : List (Option gh_V)} {S : List gh_V} {a : Int32} (hd : gh_at mi pc (.i2l) 1 pc')  (k : gh_J mi d wd x M pc' L (vL a.toInt64 :: S)) : gh_J mi d wd x M pc L (vI a :: S) := by
  obtain ⟨p, l, e, R, s, m, args, below, meth, c, cells, slots, Q⟩ := x
  obtain ⟨hd, rfl⟩ := hd
  intro hC H locs ls hP hS hL
  exact lv_i2l hC.1 hC.2.1 hd rfl (k hC H locs ls hP hS hL)
theorem gh_l2i {mi : gh_MI} {d : Nat} {wd : gh_Wd} {x : gh_X} {M : gh_M} {pc pc' : Nat} {L : List (Option gh_V)} {S : List gh_V} {a : Int64} (hd : gh_at mi pc (.l2i) 1 pc')  (k : gh_J mi d wd x M pc' L (vI a.toInt32 :: S)) : gh_J mi d wd x M pc L (vL a :: S) := by
  obtain ⟨p, l, e, R, s, m, args, below, meth, c, cells, slots, Q⟩ := x
  obtain ⟨hd, rfl⟩ := hd
  intro hC H locs ls hP hS hL
  exact lv_l2i hC.1 hC.2.1 hd rfl (k hC H locs ls hP hS hL)
theorem gh_i2b {mi : gh_MI} {d : Nat} {wd : gh_Wd} {x : gh_X} {M : gh_M} {pc pc' : Nat} {L : List (Option gh_V)} {S : List gh_V} {a : Int32} (hd : gh_at mi pc (.i2b) 1 pc')  (k : gh_J mi d wd x M pc' L (vI a.toInt8.toInt32 :: S)) : gh_J mi d wd x M pc L (vI a :: S) := by
  obtain ⟨p, l, e, R, s, m, args, below, meth, c, cells, slots, Q⟩ := x
  obtain ⟨hd, rfl⟩ := hd
  intro hC H locs ls hP hS hL
  exact lv_i2b hC.1 hC.2.1 hd rfl (k hC H locs ls hP hS hL)
theorem gh_i2s {mi : gh_MI} {d : Nat} {wd : gh_Wd} {x : gh_X} {M : gh_M} {pc pc' : Nat} {L : List (Option gh_V)} {S : List gh_V} {a : Int32} (hd : gh_at mi pc (.i2s) 1 pc')  (k : gh_J mi d wd x M pc' L (vI a.toInt16.toInt32 :: S)) : gh_J mi d wd x M pc L (vI a :: S) := by
  obtain ⟨p, l, e, R, s, m, args, below, meth, c, cells, slots, Q⟩ := x
  obtain ⟨hd, rfl⟩ := hd
  intro hC H locs ls hP hS hL
  exact lv_i2s hC.1 hC.2.1 hd rfl (k hC H locs ls hP hS hL)
theorem gh_dupI {mi : gh_MI} {d : Nat} {wd : gh_Wd} {x : gh_X} {M : gh_M} {pc pc' : Nat} {L : List (Option gh_V)} {S : List gh_V} {a : Int32} (hd : gh_at mi pc (.dup) 1 pc')  (k : gh_J mi d wd x M pc' L (vI a :: vI a :: S)) : gh_J mi d wd x M pc L (vI a :: S) := by
  obtain ⟨p, l, e, R, s, m, args, below, meth, c, cells, slots, Q⟩ := x
  obtain ⟨hd, rfl⟩ := hd
  intro hC H locs ls hP hS hL
  exact lv_dup hC.1 hC.2.1 hd rfl (k hC H locs ls hP hS hL)
theorem gh_dupR {mi : gh_MI} {d : Nat} {wd : gh_Wd} {x : gh_X} {M : gh_M} {pc pc' : Nat} {L : List (Option gh_V)} {S : List gh_V} {a b : Nat} (hd : gh_at mi pc (.dup) 1 pc')  (k : gh_J mi d wd x M pc' L (vR a b :: vR a b :: S)) : gh_J mi d wd x M pc L (vR a b :: S) := by
  obtain ⟨p, l, e, R, s, m, args, below, meth, c, cells, slots, Q⟩ := x
  obtain ⟨hd, rfl⟩ := hd
  intro hC H locs ls hP hS hL
  exact lv_dup hC.1 hC.2.1 hd rfl (k hC H locs ls hP hS hL)
theorem gh_dup2 {mi : gh_MI} {d : Nat} {wd : gh_Wd} {x : gh_X} {M : gh_M} {pc pc' : Nat} {L : List (Option gh_V)} {S : List gh_V} {a : Int32} {u v : Nat} (hd : gh_at mi pc (.dup2) 1 pc')  (k : gh_J mi d wd x M pc' L (vI a :: vR u v :: vI a :: vR u v :: S)) : gh_J mi d wd x M pc L (vI a :: vR u v :: S) := by
  obtain ⟨p, l, e, R, s, m, args, below, meth, c, cells, slots, Q⟩ := x
  obtain ⟨hd, rfl⟩ := hd
  intro hC H locs ls hP hS hL
  exact lv_dup2_11 hC.1 hC.2.1 hd rfl rfl (k hC H locs ls hP hS hL)
theorem gh_popI {mi : gh_MI} {d : Nat} {wd : gh_Wd} {x : gh_X} {M : gh_M} {pc pc' : Nat} {L : List (Option gh_V)} {S : List gh_V} {a : Int32} (hd : gh_at mi pc (.pop) 1 pc')  (k : gh_J mi d wd x M pc' L (S)) : gh_J mi d wd x M pc L (vI a :: S) := by
  obtain ⟨p, l, e, R, s, m, args, below, meth, c, cells, slots, Q⟩ := x
  obtain ⟨hd, rfl⟩ := hd
  intro hC H locs ls hP hS hL
  exact lv_pop hC.1 hC.2.1 hd rfl (k hC H locs ls hP hS hL)
theorem gh_if_eq {mi : gh_MI} {d : Nat} {wd : gh_Wd} {x : gh_X} {M : gh_M} {pc pc' : Nat} {L : List (Option gh_V)} {S : List gh_V} {a : Int32} {off : Int} {tgt : Nat} (hd : gh_at mi pc (.ifCond .eq off) 3 pc') (ht : (pc : Int) + off = (tgt : Int)) (kt : a = 0 → gh_J mi d wd x M tgt L (S)) (kf : ¬ a = 0 → gh_J mi d wd x M pc' L (S)) : gh_J mi d wd x M pc L (vI a :: S) := by
  obtain ⟨p, l, e, R, s, m, args, below, meth, c, cells, slots, Q⟩ := x
  obtain ⟨hd, rfl⟩ := hd
  intro hC H locs ls hP hS hL
  exact lv_if_eq hC.1 hC.2.1 hd ht (fun h => kt h hC H locs ls hP hS hL) (fun h => kf h hC H locs ls hP hS hL)
theorem gh_if_ne {mi : gh_MI} {d : Nat} {wd : gh_Wd} {x : gh_X} {M : gh_M} {pc pc' : Nat} {L : List (Option gh_V)} {S : List gh_V} {a : Int32} {off : Int} {tgt : Nat} (hd : gh_at mi pc (.ifCond .ne off) 3 pc') (ht : (pc : Int) + off = (tgt : Int)) (kt : ¬ a = 0 → gh_J mi d wd x M tgt L (S)) (kf : a = 0 → gh_J mi d wd x M pc' L (S)) : gh_J mi d wd x M pc L (vI a :: S) := by
  obtain ⟨p, l, e, R, s, m, args, below, meth, c, cells, slots, Q⟩ := x
  obtain ⟨hd, rfl⟩ := hd
  intro hC H locs ls hP hS hL
  exact lv_if_ne hC.1 hC.2.1 hd ht (fun h => kt h hC H locs ls hP hS hL) (fun h => kf h hC H locs ls hP hS hL)
theorem gh_if_lt {mi : gh_MI} {d : Nat} {wd : gh_Wd} {x : gh_X} {M : gh_M} {pc pc' : Nat} {L : List (Option gh_V)} {S : List gh_V} {a : Int32} {off : Int} {tgt : Nat} (hd : gh_at mi pc (.ifCond .lt off) 3 pc') (ht : (pc : Int) + off = (tgt : Int)) (kt : a < 0 → gh_J mi d wd x M tgt L (S)) (kf : ¬ a < 0 → gh_J mi d wd x M pc' L (S)) : gh_J mi d wd x M pc L (vI a :: S) := by
  obtain ⟨p, l, e, R, s, m, args, below, meth, c, cells, slots, Q⟩ := x
  obtain ⟨hd, rfl⟩ := hd
  intro hC H locs ls hP hS hL
  exact lv_if_lt hC.1 hC.2.1 hd ht (fun h => kt h hC H locs ls hP hS hL) (fun h => kf h hC H locs ls hP hS hL)
theorem gh_if_ge {mi : gh_MI} {d : Nat} {wd : gh_Wd} {x : gh_X} {M : gh_M} {pc pc' : Nat} {L : List (Option gh_V)} {S : List gh_V} {a : Int32} {off : Int} {tgt : Nat} (hd : gh_at mi pc (.ifCond .ge off) 3 pc') (ht : (pc : Int) + off = (tgt : Int)) (kt : 0 ≤ a → gh_J mi d wd x M tgt L (S)) (kf : ¬ 0 ≤ a → gh_J mi d wd x M pc' L (S)) : gh_J mi d wd x M pc L (vI a :: S) := by
  obtain ⟨p, l, e, R, s, m, args, below, meth, c, cells, slots, Q⟩ := x
  obtain ⟨hd, rfl⟩ := hd
  intro hC H locs ls hP hS hL
  exact lv_if_ge hC.1 hC.2.1 hd ht (fun h => kt h hC H locs ls hP hS hL) (fun h => kf h hC H locs ls hP hS hL)
theorem gh_if_gt {mi : gh_MI} {d : Nat} {wd : gh_Wd} {x : gh_X} {M : gh_M} {pc pc' : Nat} {L : List (Option gh_V)} {S : List gh_V} {a : Int32} {off : Int} {tgt : Nat} (hd : gh_at mi pc (.ifCond .gt off) 3 pc') (ht : (pc : Int) + off = (tgt : Int)) (kt : 0 < a → gh_J mi d wd x M tgt L (S)) (kf : ¬ 0 < a → gh_J mi d wd x M pc' L (S)) : gh_J mi d wd x M pc L (vI a :: S) := by
  obtain ⟨p, l, e, R, s, m, args, below, meth, c, cells, slots, Q⟩ := x
  obtain ⟨hd, rfl⟩ := hd
  intro hC H locs ls hP hS hL
  exact lv_if_gt hC.1 hC.2.1 hd ht (fun h => kt h hC H locs ls hP hS hL) (fun h => kf h hC H locs ls hP hS hL)
theorem gh_if_le {mi : gh_MI} {d : Nat} {wd : gh_Wd} {x : gh_X} {M : gh_M} {pc pc' : Nat} {L : List (Option gh_V)} {S : List gh_V} {a : Int32} {off : Int} {tgt : Nat} (hd : gh_at mi pc (.ifCond .le off) 3 pc') (ht : (pc : Int) + off = (tgt : Int)) (kt : a ≤ 0 → gh_J mi d wd x M tgt L (S)) (kf : ¬ a ≤ 0 → gh_J mi d wd x M pc' L (S)) : gh_J mi d wd x M pc L (vI a :: S) := by
  obtain ⟨p, l, e, R, s, m, args, below, meth, c, cells, slots, Q⟩ := x
  obtain ⟨hd, rfl⟩ := hd
  intro hC H locs ls hP hS hL
  exact lv_if_le hC.1 hC.2.1 hd ht (fun h => kt h hC H locs ls hP hS hL) (fun h => kf h hC H locs ls hP hS hL)
theorem gh_icmp_eq {mi : gh_MI} {d : Nat} {wd : gh_Wd} {x : gh_X} {M : gh_M} {pc pc' : Nat} {L : List (Option gh_V)} {S : List gh_V} {a b : Int32} {off : Int} {tgt : Nat} (hd : gh_at mi pc (.if_icmp .eq off) 3 pc') (ht : (pc : Int) + off = (tgt : Int)) (kt : a = b → gh_J mi d wd x M tgt L (S)) (kf : ¬ a = b → gh_J mi d wd x M pc' L (S)) : gh_J mi d wd x M pc L (vI b :: vI a :: S) := by
  obtain ⟨p, l, e, R, s, m, args, below, meth, c, cells, slots, Q⟩ := x
  obtain ⟨hd, rfl⟩ := hd
  intro hC H locs ls hP hS hL
  exact lv_icmp_eq hC.1 hC.2.1 hd ht (fun h => kt h hC H locs ls hP hS hL) (fun h => kf h hC H locs ls hP hS hL)
theorem gh_icmp_ne {mi : gh_MI} {d : Nat} {wd : gh_Wd} {x : gh_X} {M : gh_M} {pc pc' : Nat} {L : List (Option gh_V)} {S : List gh_V} {a b : Int32} {off : Int} {tgt : Nat} (hd : gh_at mi pc (.if_icmp .ne off) 3 pc') (ht : (pc : Int) + off = (tgt : Int)) (kt : ¬ a = b → gh_J mi d wd x M tgt L (S)) (kf : a = b → gh_J mi d wd x M pc' L (S)) : gh_J mi d wd x M pc L (vI b :: vI a :: S) := by
  obtain ⟨p, l, e, R, s, m, args, below, meth, c, cells, slots, Q⟩ := x
  obtain ⟨hd, rfl⟩ := hd
  intro hC H locs ls hP hS hL
  exact lv_icmp_ne hC.1 hC.2.1 hd ht (fun h => kt h hC H locs ls hP hS hL) (fun h => kf h hC H locs ls hP hS hL)
theorem gh_icmp_lt {mi : gh_MI} {d : Nat} {wd : gh_Wd} {x : gh_X} {M : gh_M} {pc pc' : Nat} {L : List (Option gh_V)} {S : List gh_V} {a b : Int32} {off : Int} {tgt : Nat} (hd : gh_at mi pc (.if_icmp .lt off) 3 pc') (ht : (pc : Int) + off = (tgt : Int)) (kt : a < b → gh_J mi d wd x M tgt L (S)) (kf : ¬ a < b → gh_J mi d wd x M pc' L (S)) : gh_J mi d wd x M pc L (vI b :: vI a :: S) := by
  obtain ⟨p, l, e, R, s, m, args, below, meth, c, cells, slots, Q⟩ := x
  obtain ⟨hd, rfl⟩ := hd
  intro hC H locs ls hP hS hL
  exact lv_icmp_lt hC.1 hC.2.1 hd ht (fun h => kt h hC H locs ls hP hS hL) (fun h => kf h hC H locs ls hP hS hL)
theorem gh_icmp_ge {mi : gh_MI} {d : Nat} {wd : gh_Wd} {x : gh_X} {M : gh_M} {pc pc' : Nat} {L : List (Option gh_V)} {S : List gh_V} {a b : Int32} {off : Int} {tgt : Nat} (hd : gh_at mi pc (.if_icmp .ge off) 3 pc') (ht : (pc : Int) + off = (tgt : Int)) (kt : b ≤ a → gh_J mi d wd x M tgt L (S)) (kf : ¬ b ≤ a → gh_J mi d wd x M pc' L (S)) : gh_J mi d wd x M pc L (vI b :: vI a :: S) := by
  obtain ⟨p, l, e, R, s, m, args, below, meth, c, cells, slots, Q⟩ := x
  obtain ⟨hd, rfl⟩ := hd
  intro hC H locs ls hP hS hL
  exact lv_icmp_ge hC.1 hC.2.1 hd ht (fun h => kt h hC H locs ls hP hS hL) (fun h => kf h hC H locs ls hP hS hL)
theorem gh_icmp_gt {mi : gh_MI} {d : Nat} {wd : gh_Wd} {x : gh_X} {M : gh_M} {pc pc' : Nat} {L : List (Option gh_V)} {S : List gh_V} {a b : Int32} {off : Int} {tgt : Nat} (hd : gh_at mi pc (.if_icmp .gt off) 3 pc') (ht : (pc : Int) + off = (tgt : Int)) (kt : b < a → gh_J mi d wd x M tgt L (S)) (kf : ¬ b < a → gh_J mi d wd x M pc' L (S)) : gh_J mi d wd x M pc L (vI b :: vI a :: S) := by
  obtain ⟨p, l, e, R, s, m, args, below, meth, c, cells, slots, Q⟩ := x
  obtain ⟨hd, rfl⟩ := hd
  intro hC H locs ls hP hS hL
  exact lv_icmp_gt hC.1 hC.2.1 hd ht (fun h => kt h hC H locs ls hP hS hL) (fun h => kf h hC H locs ls hP hS hL)
theorem gh_icmp_le {mi : gh_MI} {d : Nat} {wd : gh_Wd} {x : gh_X} {M : gh_M} {pc pc' : Nat} {L : List (Option gh_V)} {S : List gh_V} {a b : Int32} {off : Int} {tgt : Nat} (hd : gh_at mi pc (.if_icmp .le off) 3 pc') (ht : (pc : Int) + off = (tgt : Int)) (kt : a ≤ b → gh_J mi d wd x M tgt L (S)) (kf : ¬ a ≤ b → gh_J mi d wd x M pc' L (S)) : gh_J mi d wd x M pc L (vI b :: vI a :: S) := by
  obtain ⟨p, l, e, R, s, m, args, below, meth, c, cells, slots, Q⟩ := x
  obtain ⟨hd, rfl⟩ := hd
  intro hC H locs ls hP hS hL
  exact lv_icmp_le hC.1 hC.2.1 hd ht (fun h => kt h hC H locs ls hP hS hL) (fun h => kf h hC H locs ls hP hS hL)
theorem gh_goto {mi : gh_MI} {d : Nat} {wd : gh_Wd} {x : gh_X} {M : gh_M} {pc pc' : Nat} {L : List (Option gh_V)} {S : List gh_V} {off : Int} {tgt : Nat} (hd : gh_at mi pc (.goto off) 3 pc') (ht : (pc : Int) + off = (tgt : Int)) (k : gh_J mi d wd x M tgt L (S)) : gh_J mi d wd x M pc L (S) := by
  obtain ⟨p, l, e, R, s, m, args, below, meth, c, cells, slots, Q⟩ := x
  obtain ⟨hd, rfl⟩ := hd
  intro hC H locs ls hP hS hL
  exact lv_goto hC.1 hC.2.1 hd ht (k hC H locs ls hP hS hL)
theorem gh_tabIn {mi : gh_MI} {d : Nat} {wd : gh_Wd} {x : gh_X} {M : gh_M} {pc pc' : Nat} {L : List (Option gh_V)} {S : List gh_V} {a v : Int32} {dflt lo hi : Int} {offs : Array Int} {n : Nat} {off : Int} {tgt : Nat} (hd : gh_at mi pc (.tableswitch dflt lo hi offs) n pc') (ha : a = v) (h1 : ¬ v.toInt < lo) (h2 : ¬ hi < v.toInt) (ho : offs[(v.toInt - lo).toNat]? = some off) (ht : (pc : Int) + off = (tgt : Int)) (k : gh_J mi d wd x M tgt L (S)) : gh_J mi d wd x M pc L (vI a :: S) := by
  obtain ⟨p, l, e, R, s, m, args, below, meth, c, cells, slots, Q⟩ := x
  obtain ⟨hd, rfl⟩ := hd
  intro hC H locs ls hP hS hL
  subst ha
  exact lv_tableIn hC.1 hC.2.1 hd h1 h2 ho ht (k hC H locs ls hP hS hL)
theorem gh_tabOut {mi : gh_MI} {d : Nat} {wd : gh_Wd} {x : gh_X} {M : gh_M} {pc pc' : Nat} {L : List (Option gh_V)} {S : List gh_V} {a : Int32} {dflt lo hi : Int} {offs : Array Int} {n : Nat} {tgt : Nat} (hd : gh_at mi pc (.tableswitch dflt lo hi offs) n pc') (h : a.toInt < lo ∨ hi < a.toInt) (ht : (pc : Int) + dflt = (tgt : Int)) (k : gh_J mi d wd x M tgt L (S)) : gh_J mi d wd x M pc L (vI a :: S) := by
  obtain ⟨p, l, e, R, s, m, args, below, meth, c, cells, slots, Q⟩ := x
  obtain ⟨hd, rfl⟩ := hd
  intro hC H locs ls hP hS hL
  exact lv_tableOut hC.1 hC.2.1 hd h ht (k hC H locs ls hP hS hL)
theorem gh_lookup {mi : gh_MI} {d : Nat} {wd : gh_Wd} {x : gh_X} {M : gh_M} {pc pc' : Nat} {L : List (Option gh_V)} {S : List gh_V} {a : Int32} {dflt : Int} {ps : Array (Int × Int)} {n : Nat} {off : Int} {tgt : Nat} (hd : gh_at mi pc (.lookupswitch dflt ps) n pc') (hp : (ps.toList.zip (ps.toList.drop 1)).all (fun (a, next) => a.1 < next.1) = true) (ho : Op.lookupswitch.offset ps.toList dflt a.toInt = off) (ht : (pc : Int) + off = (tgt : Int)) (k : gh_J mi d wd x M tgt L (S)) : gh_J mi d wd x M pc L (vI a :: S) := by
  obtain ⟨p, l, e, R, s, m, args, below, meth, c, cells, slots, Q⟩ := x
  obtain ⟨hd, rfl⟩ := hd
  intro hC H locs ls hP hS hL
  exact lv_lookup hC.1 hC.2.1 hd hp ho ht (k hC H locs ls hP hS hL)
theorem gh_cl_ok : ∀ {ci : Nat} {C : String} {T : u_T} {N : Nat}, gh_cls[ci]? = some (C, T, N) → (∀ k, k < N → parseFieldDescriptor (T k).2.2.1 = some (gh_ty ci k)) ∧ (∀ a, a < N → ∀ b, b < N → a ≠ b → (T a).2.1 ≠ (T b).2.1) := by
  intro ci C T N h
  match ci, h with
  | 0, h => cases h; exact ⟨tyX0_ok, nmX0⟩
  | 1, h => cases h; exact ⟨tyX1_ok, nmX1⟩
  | 2, h => cases h; exact ⟨tyX2_ok, nmX2⟩
  | 3, h => cases h; exact ⟨tyX3_ok, nmX3⟩
  | 4, h => cases h; exact ⟨tyX4_ok, nmX4⟩
  | 5, h => cases h; exact ⟨tyX5_ok, nmX5⟩
  | 6, h => cases h; exact ⟨tyX6_ok, nmX6⟩
  | 7, h => cases h; exact ⟨tyX7_ok, nmX7⟩
  | n + 8, h => simp [gh_cls] at h
set_option maxRecDepth 100000 in
theorem gh_in_all : ∀ r ∈ gh_cls, (u_ws r.1 r.2.1 r.2.2).all (fun w => decide (w ∈ lw_tbl) && goodWord w) = true := by decide +kernel
theorem gh_in {ci : Nat} {C : String} {T : u_T} {N : Nat} (h : gh_cls[ci]? = some (C, T, N)) : ∀ w ∈ u_ws C T N, w ∈ gh_G := by
  intro w hw
  have h1 := List.all_eq_true.mp (gh_in_all (C, T, N) (List.mem_of_getElem? h)) w hw
  simp only [Bool.and_eq_true, decide_eq_true_eq] at h1
  exact List.mem_filter.mpr h1
theorem gh_getI {mi : gh_MI} {d : Nat} {wd : gh_Wd} {x : gh_X} {M : gh_M} {pc pc' : Nat} {L : List (Option gh_V)} {S : List gh_V} {idx k t j : Nat} (hd : gh_at mi pc (.getfield idx) 3 pc') (hf : gh_FL mi.1 idx (gh_ci k) j) (hk : k < 45) (ht : t < gh_cnt k) (ho : gh_ar k = none) (hfl : (gh_fl k t)[j]? = some none) (k' : gh_J mi d wd x M pc' L (vI (M k t j) :: S)) : gh_J mi d wd x M pc L (vR k t :: S) := by
  obtain ⟨p, l, e, R, s, m, args, below, meth, c, cells, slots, Q⟩ := x
  obtain ⟨hd, rfl⟩ := hd
  intro hC H locs ls hP hS hL
  obtain ⟨q0, hq⟩ := gh_mem hk ht
  have he : (gh_ws wd M)[q0]? = some (wd.2.1 k t, .inr (gh_ci k, (List.range (gh_fl k t).length).map (gh_fv wd M k t))) := by rw [gh_ws_at wd M hq, gh_ce_o wd M t ho]
  obtain ⟨C, T, N, hc, hj, hlink⟩ := hf
  have hv : gh_fv wd M k t j = .int (M k t j) := by unfold gh_fv; rw [hfl]
  have hg := gh_fs_at wd M hfl
  rw [hv] at hg
  rcases hlink with hlink | ⟨host, hlink⟩
  · exact va_get hC.1 hC.2.1 hC.2.2.2.2.1 (gh_in hc) hC.2.2.2.1 hC.2.2.2.2.2.1.1 hP q0 he hc j hj (hC.2.2.2.2.1 _ hlink) (fun _ h9 => h9) hg hd (k' hC H locs ls hP hS hL)
  · exact va_getN hC.1 hC.2.1 hC.2.2.2.2.1 (gh_in hc) hC.2.2.2.1 hC.2.2.2.2.2.1.1 hP q0 he hc j hj (va_Nw.use rfl (hC.2.2.2.2.2.1.2.2.1 _ hlink rfl)) (fun _ h9 => h9) hg hd (k' hC H locs ls hP hS hL)
theorem gh_getR {mi : gh_MI} {d : Nat} {wd : gh_Wd} {x : gh_X} {M : gh_M} {pc pc' : Nat} {L : List (Option gh_V)} {S : List gh_V} {idx k t j a b : Nat} (hd : gh_at mi pc (.getfield idx) 3 pc') (hf : gh_FL mi.1 idx (gh_ci k) j) (hk : k < 45) (ht : t < gh_cnt k) (ho : gh_ar k = none) (hfl : (gh_fl k t)[j]? = some (some (a, b))) (k' : gh_J mi d wd x M pc' L (vR a b :: S)) : gh_J mi d wd x M pc L (vR k t :: S) := by
  obtain ⟨p, l, e, R, s, m, args, below, meth, c, cells, slots, Q⟩ := x
  obtain ⟨hd, rfl⟩ := hd
  intro hC H locs ls hP hS hL
  obtain ⟨q0, hq⟩ := gh_mem hk ht
  have he : (gh_ws wd M)[q0]? = some (wd.2.1 k t, .inr (gh_ci k, (List.range (gh_fl k t).length).map (gh_fv wd M k t))) := by rw [gh_ws_at wd M hq, gh_ce_o wd M t ho]
  obtain ⟨C, T, N, hc, hj, hlink⟩ := hf
  have hv : gh_fv wd M k t j = .ref (wd.2.1 a b) := by unfold gh_fv; rw [hfl]
  have hg := gh_fs_at wd M hfl
  rw [hv] at hg
  rcases hlink with hlink | ⟨host, hlink⟩
  · exact va_get hC.1 hC.2.1 hC.2.2.2.2.1 (gh_in hc) hC.2.2.2.1 hC.2.2.2.2.2.1.1 hP q0 he hc j hj (hC.2.2.2.2.1 _ hlink) (fun _ h9 => h9) hg hd (k' hC H locs ls hP hS hL)
  · exact va_getN hC.1 hC.2.1 hC.2.2.2.2.1 (gh_in hc) hC.2.2.2.1 hC.2.2.2.2.2.1.1 hP q0 he hc j hj (va_Nw.use rfl (hC.2.2.2.2.2.1.2.2.1 _ hlink rfl)) (fun _ h9 => h9) hg hd (k' hC H locs ls hP hS hL)
theorem gh_put {mi : gh_MI} {d : Nat} {wd : gh_Wd} {x : gh_X} {M : gh_M} {pc pc' : Nat} {L : List (Option gh_V)} {S : List gh_V} {idx k t j : Nat} {v : Int32} (hd : gh_at mi pc (.putfield idx) 3 pc') (hf : gh_FL mi.1 idx (gh_ci k) j) (hk : k < 45) (ht : t < gh_cnt k) (ho : gh_ar k = none) (hfl : (gh_fl k t)[j]? = some none) (hfin : ∀ r, gh_cls[gh_ci k]? = some r → (r.2.1 j).2.2.2 = false) (hn : narrow (gh_ty (gh_ci k) j) (.int v) = .int v) (hfit : fits (gh_ty (gh_ci k) j) (.int v) = true) (k' : gh_J mi d wd x (gh_st M k t j v) pc' L (S)) : gh_J mi d wd x M pc L (vI v :: vR k t :: S) := by
  obtain ⟨p, l, e, R, s, m, args, below, meth, c, cells, slots, Q⟩ := x
  obtain ⟨hd, rfl⟩ := hd
  intro hC H locs ls hP hS hL
  obtain ⟨q0, hq⟩ := gh_mem hk ht
  have he : (gh_ws wd M)[q0]? = some (wd.2.1 k t, .inr (gh_ci k, (List.range (gh_fl k t).length).map (gh_fv wd M k t))) := by rw [gh_ws_at wd M hq, gh_ce_o wd M t ho]
  obtain ⟨C, T, N, hc, hj, hlink⟩ := hf
  have hD := gh_D_any M hC.2.2.2.2.2.1.2.1
  have hl : j < ((List.range (gh_fl k t).length).map (gh_fv wd M k t)).length := by simp; exact (List.getElem?_eq_some_iff.mp hfl).1
  have e1 : gh_ce wd (gh_st M k t j v) k t = .inr (gh_ci k, ((List.range (gh_fl k t).length).map (gh_fv wd M k t)).set j (.int v)) := by rw [gh_ce_o wd _ t ho, gh_fs_set wd M v hfl]
  have e2 := gh_set hD hq (upd (M k t) j v) e1
  have kk : ∀ (H1 : Heap) (locs1 : List Loc), va_P wd.1 gh_cls ((gh_ws wd M).set q0 (wd.2.1 k t, .inr (gh_ci k, ((List.range (gh_fl k t).length).map (gh_fv wd M k t)).set j (.int v)))) H1 → va_D (gh_A wd) ((gh_ws wd M).set q0 (wd.2.1 k t, .inr (gh_ci k, ((List.range (gh_fl k t).length).map (gh_fv wd M k t)).set j (.int v)))) → va_S (gh_A wd) s.heap H1 locs1 → W p l e R s m args below meth c H1 locs1 cells slots Q (F0 m (pc + 3) ls (S.map (gh_tv wd))) := fun H1 locs1 hP1 _ hS1 => by
    rw [e2] at hP1
    exact k' hC H1 locs1 ls hP1 hS1 hL
  have hfn : (T j).2.2.2 = false := hfin _ hc
  obtain ⟨hty, hnm⟩ := gh_cl_ok hc
  rcases hlink with hlink | ⟨host, hlink⟩
  · exact va_put hC.1 hC.2.1 hC.2.2.2.2.1 (gh_in hc) (gh_ty (gh_ci k)) hty hnm hC.2.2.2.1 hC.2.2.2.2.2.1.1 hP hD hS q0 he hc j hj (hC.2.2.2.2.1 _ hlink) (fun _ h9 => h9) hfn (hty j hj) hn hfit hl hd kk
  · exact va_putN hC.1 hC.2.1 hC.2.2.2.2.1 (gh_in hc) (gh_ty (gh_ci k)) hty hnm hC.2.2.2.1 hC.2.2.2.2.2.1.1 hP hD hS q0 he hc j hj (va_Nw.use rfl (hC.2.2.2.2.2.1.2.2.1 _ hlink rfl)) (fun _ h9 => h9) hfn (hty j hj) hn hfit hl hd kk
theorem gh_iald {mi : gh_MI} {d : Nat} {wd : gh_Wd} {x : gh_X} {M : gh_M} {pc pc' : Nat} {L : List (Option gh_V)} {S : List gh_V} {k t n : Nat} {i : Int32} (hd : gh_at mi pc (.iaload) 1 pc') (ha : gh_ar k = some (0, n)) (hk : k < 45) (ht : t < gh_cnt k) (hi : vp_in i n) (k' : gh_J mi d wd x M pc' L (vI (M k t i.toNatClampNeg) :: S)) : gh_J mi d wd x M pc L (vI i :: vR k t :: S) := by
  obtain ⟨p, l, e, R, s, m, args, below, meth, c, cells, slots, Q⟩ := x
  obtain ⟨hd, rfl⟩ := hd
  intro hC H locs ls hP hS hL
  obtain ⟨q0, hq⟩ := gh_mem hk ht
  have he := gh_ws_at wd M hq
  rw [gh_ce_i wd M t ha] at he
  exact va_iald hC.1 hC.2.1 hC.2.2.2.2.2.1.1 hP q0 0 he rfl hi hd (k' hC H locs ls hP hS hL)
theorem gh_zald {mi : gh_MI} {d : Nat} {wd : gh_Wd} {x : gh_X} {M : gh_M} {pc pc' : Nat} {L : List (Option gh_V)} {S : List gh_V} {k t n : Nat} {i : Int32} (hd : gh_at mi pc (.baload) 1 pc') (ha : gh_ar k = some (1, n)) (hk : k < 45) (ht : t < gh_cnt k) (hi : vp_in i n) (k' : gh_J mi d wd x M pc' L (vI (M k t i.toNatClampNeg) :: S)) : gh_J mi d wd x M pc L (vI i :: vR k t :: S) := by
  obtain ⟨p, l, e, R, s, m, args, below, meth, c, cells, slots, Q⟩ := x
  obtain ⟨hd, rfl⟩ := hd
  intro hC H locs ls hP hS hL
  obtain ⟨q0, hq⟩ := gh_mem hk ht
  have he := gh_ws_at wd M hq
  rw [gh_ce_z wd M t ha] at he
  exact va_zald hC.1 hC.2.1 hC.2.2.2.2.2.1.1 hP q0 1 he rfl hi hd (k' hC H locs ls hP hS hL)
theorem gh_iast {mi : gh_MI} {d : Nat} {wd : gh_Wd} {x : gh_X} {M : gh_M} {pc pc' : Nat} {L : List (Option gh_V)} {S : List gh_V} {k t n : Nat} {i v : Int32} (hd : gh_at mi pc (.iastore) 1 pc') (ha : gh_ar k = some (0, n)) (hk : k < 45) (ht : t < gh_cnt k) (hi : vp_in i n) (k' : gh_J mi d wd x (gh_st M k t i.toNatClampNeg v) pc' L (S)) : gh_J mi d wd x M pc L (vI v :: vI i :: vR k t :: S) := by
  obtain ⟨p, l, e, R, s, m, args, below, meth, c, cells, slots, Q⟩ := x
  obtain ⟨hd, rfl⟩ := hd
  intro hC H locs ls hP hS hL
  obtain ⟨q0, hq⟩ := gh_mem hk ht
  have he := gh_ws_at wd M hq
  rw [gh_ce_i wd M t ha] at he
  have hD := gh_D_any M hC.2.2.2.2.2.1.2.1
  have e1 : gh_ce wd (gh_row M k t (upd (M k t) i.toNatClampNeg v)) k t = .inl (wd.2.2.1 0, n, .inl (upd (M k t) i.toNatClampNeg v)) := by rw [gh_ce_i wd _ t ha, gh_row_self]
  have e2 := gh_set hD hq _ e1
  exact va_iast hC.1 hC.2.1 hC.2.2.2.2.2.1.1 hP hD hS q0 0 he rfl hi hd (fun H1 locs1 hP1 _ hS1 => k' hC H1 locs1 ls (by rw [← show (gh_ws wd M).set q0 _ = gh_ws wd (gh_st M k t i.toNatClampNeg v) from e2]; exact hP1) hS1 hL)
theorem gh_zast {mi : gh_MI} {d : Nat} {wd : gh_Wd} {x : gh_X} {M : gh_M} {pc pc' : Nat} {L : List (Option gh_V)} {S : List gh_V} {k t n : Nat} {i v : Int32} (hd : gh_at mi pc (.bastore) 1 pc') (ha : gh_ar k = some (1, n)) (hk : k < 45) (ht : t < gh_cnt k) (hi : vp_in i n) (k' : gh_J mi d wd x (gh_st M k t i.toNatClampNeg (v &&& 1)) pc' L (S)) : gh_J mi d wd x M pc L (vI v :: vI i :: vR k t :: S) := by
  obtain ⟨p, l, e, R, s, m, args, below, meth, c, cells, slots, Q⟩ := x
  obtain ⟨hd, rfl⟩ := hd
  intro hC H locs ls hP hS hL
  obtain ⟨q0, hq⟩ := gh_mem hk ht
  have he := gh_ws_at wd M hq
  rw [gh_ce_z wd M t ha] at he
  have hD := gh_D_any M hC.2.2.2.2.2.1.2.1
  have e1 : gh_ce wd (gh_row M k t (upd (M k t) i.toNatClampNeg (v &&& 1))) k t = .inl (wd.2.2.1 1, n, .inl (upd (M k t) i.toNatClampNeg (v &&& 1))) := by rw [gh_ce_z wd _ t ha, gh_row_self]
  have e2 := gh_set hD hq _ e1
  exact va_zast hC.1 hC.2.1 hC.2.2.2.2.2.1.1 hP hD hS q0 1 he rfl hi hd (fun H1 locs1 hP1 _ hS1 => k' hC H1 locs1 ls (by rw [← show (gh_ws wd M).set q0 _ = gh_ws wd (gh_st M k t i.toNatClampNeg (v &&& 1)) from e2]; exact hP1) hS1 hL)
theorem gh_aald {mi : gh_MI} {d : Nat} {wd : gh_Wd} {x : gh_X} {M : gh_M} {pc pc' : Nat} {L : List (Option gh_V)} {S : List gh_V} {k t n a u v : Nat} {i : Int32} (hd : gh_at mi pc (.aaload) 1 pc') (ha : gh_ar k = some (a + 2, n)) (ha2 : a < 2) (hk : k < 45) (ht : t < gh_cnt k) (hi : vp_in i n) (he0 : gh_el k i.toNatClampNeg = (u, v)) (k' : gh_J mi d wd x M pc' L (vR u v :: S)) : gh_J mi d wd x M pc L (vI i :: vR k t :: S) := by
  obtain ⟨p, l, e, R, s, m, args, below, meth, c, cells, slots, Q⟩ := x
  obtain ⟨hd, rfl⟩ := hd
  intro hC H locs ls hP hS hL
  obtain ⟨q0, hq⟩ := gh_mem hk ht
  have he := gh_ws_at wd M hq
  rw [gh_ce_r wd M t ha] at he
  have hq2 : ∃ C, (gh_tys wd)[a + 2]? = some (wd.2.2.1 (a + 2), .object C) := by
    match a, ha2 with
    | 0, _ => exact ⟨RX3, rfl⟩
    | 1, _ => exact ⟨RX5, rfl⟩
  obtain ⟨C, hC2⟩ := hq2
  refine va_aldq hC.1 hC.2.1 hC.2.2.2.2.2.1.1 hP q0 (a + 2) he hC2 hi hd ?_
  rw [he0]
  exact k' hC H locs ls hP hS hL
theorem gh_alen {mi : gh_MI} {d : Nat} {wd : gh_Wd} {x : gh_X} {M : gh_M} {pc pc' : Nat} {L : List (Option gh_V)} {S : List gh_V} {k t n : Nat} (hd : gh_at mi pc (.arraylength) 1 pc') (ha : gh_ar k = some (0, n)) (hk : k < 45) (ht : t < gh_cnt k) (k' : gh_J mi d wd x M pc' L (vI (nI n) :: S)) : gh_J mi d wd x M pc L (vR k t :: S) := by
  obtain ⟨p, l, e, R, s, m, args, below, meth, c, cells, slots, Q⟩ := x
  obtain ⟨hd, rfl⟩ := hd
  intro hC H locs ls hP hS hL
  obtain ⟨q0, hq⟩ := gh_mem hk ht
  have he := gh_ws_at wd M hq
  rw [gh_ce_i wd M t ha] at he
  exact va_alen hC.1 hC.2.1 hC.2.2.2.2.2.1.1 hP q0 0 he rfl rfl hd (k' hC H locs ls hP hS hL)
theorem gh_gets {mi : gh_MI} {d : Nat} {wd : gh_Wd} {x : gh_X} {M : gh_M} {pc pc' : Nat} {L : List (Option gh_V)} {S : List gh_V} {idx i : Nat} (hd : gh_at mi pc (.getstatic idx) 3 pc') (hi : i < 3) (hw : Cond.fieldLink mi.1 idx RX1 (gh_sn i) "[I" ∈ gh_G) (k' : gh_J mi d wd x M pc' L (vR (60 + i) 0 :: S)) : gh_J mi d wd x M pc L (S) := by
  obtain ⟨p, l, e, R, s, m, args, below, meth, c, cells, slots, Q⟩ := x
  obtain ⟨hd, rfl⟩ := hd
  intro hC H locs ls hP hS hL
  exact va_gets hC.1 hC.2.1 (hC.2.2.2.2.2.1.2.2.2 i hi).1 hS hC.2.2.2.1 (hC.2.2.2.2.1 _ hw) (fun _ h9 => h9) hd (k' hC H locs ls hP hS hL)
theorem gh_tald {mi : gh_MI} {d : Nat} {wd : gh_Wd} {x : gh_X} {M : gh_M} {pc pc' : Nat} {L : List (Option gh_V)} {S : List gh_V} {i : Nat} {a : Int32} (hd : gh_at mi pc (.iaload) 1 pc') (hi : i < 3) (ha : vp_in a 6) (k' : gh_J mi d wd x M pc' L (vI (gh_tab i a.toNatClampNeg) :: S)) : gh_J mi d wd x M pc L (vI a :: vR (60 + i) 0 :: S) := by
  obtain ⟨p, l, e, R, s, m, args, below, meth, c, cells, slots, Q⟩ := x
  obtain ⟨hd, rfl⟩ := hd
  intro hC H locs ls hP hS hL
  exact va_ti hC.1 hC.2.1 (hC.2.2.2.2.2.1.2.2.2 i hi).2 hS ha rfl hd (k' hC H locs ls hP hS hL)
theorem gh_drop {mi : gh_MI} {d : Nat} {wd : gh_Wd} {x : gh_X} {M : gh_M} {pc pc' : Nat} {L : List (Option gh_V)} {S : List gh_V} (L' : List (Option gh_V)) (h : gh_le L' L) (k : gh_J mi d wd x M pc L' S) : gh_J mi d wd x M pc L S := by
  obtain ⟨p, l, e, R, s, m, args, below, meth, c, cells, slots, Q⟩ := x
  intro hC H locs ls hP hS hL
  exact k hC H locs ls hP hS (gh_L_le h hL)
end
section
-- what holds everywhere goes along with the state
theorem gh_Nw_warm {w : Cond} (hw : gh_isN w = true) {s U : State} (hW : s.WarmedH U.vm) (h : va_Nw w s) : va_Nw w U := by
  cases w <;> first | (exact va_Nw.warmF hW h) | (exact va_Nw.warmM hW h) | (cases hw)
theorem gh_Nw_same {w : Cond} (hw : gh_isN w = true) {s U : State} (e : s.vm = U.vm) (h : va_Nw w s) : va_Nw w U := by
  cases w <;> first | (exact va_Nw.same rfl e h) | (cases hw)
theorem gh_Ok_warm {wd : gh_Wd} {s U : State} (hW : s.WarmedH U.vm) (hq : ∀ q : Nat, q < s.heap.size → ¬ gh_A wd q → U.heap[q]? = s.heap[q]?) (h : gh_Ok wd s) : gh_Ok wd U := by
  obtain ⟨h1, h2, h3, h4⟩ := h
  refine ⟨va_K.moved hW.alike h1, h2, fun w hw hn => gh_Nw_warm hn hW (h3 w hw hn), fun i hi => ?_⟩
  obtain ⟨a, b⟩ := h4 i hi
  exact ⟨(a.moved hW.alike).kept hq, (b.moved hW.alike).kept hq⟩
theorem gh_W_calling {wd : gh_Wd} {M : gh_M} {U : State} (g : JFrame) (mk : MethodId) (a : Array Value) (h : gh_W wd M U) : gh_W wd M (U.calling g mk a) := by
  obtain ⟨h0, h1, h2, h3, h4⟩ := h
  refine ⟨h0, va_K.moved (u := U) (U := U.calling g mk a) (Vm.Alike.refl U.vm) h1, h2, fun w hw hn => gh_Nw_same (s := U) (U := U.calling g mk a) hn rfl (h3 w hw hn), fun i hi => ?_⟩
  obtain ⟨z, t⟩ := h4 i hi
  exact ⟨va_Z.moved (u := U) (U := U.calling g mk a) (Vm.Alike.refl U.vm) z, va_T.moved (u := U) (U := U.calling g mk a) (Vm.Alike.refl U.vm) t⟩
theorem gh_blind {wd : gh_Wd} {as : List gh_V} {M : gh_M} : FrameBlind (gh_Pc wd as M) := fun a _ g mk h => ⟨h.1, gh_W_calling g mk a h.2⟩
theorem gh_pre {wd : gh_Wd} {s U : State} {M : gh_M} {H : Heap} {locs : List Loc} (hOk : gh_Ok wd s) (hP : va_P wd.1 gh_cls (gh_ws wd M) H) (hS : va_S (gh_A wd) s.heap H locs) (hU : U.heap = H) (hW : s.WarmedH U.vm) : gh_W wd M U :=
  ⟨by rw [hU]; exact hP, gh_Ok_warm hW (fun q h1 h2 => by rw [hU]; exact hS.2.1 q h1 h2) hOk⟩
-- THE END OF A METHOD
def gh_Qi (Q : Int32 → gh_M → Prop) : Option gh_V → gh_M → Prop := fun r M => ∃ v, r = some (vI v) ∧ Q v M
def gh_Ql (Q : Int64 → gh_M → Prop) : Option gh_V → gh_M → Prop := fun r M => ∃ v, r = some (vL v) ∧ Q v M
def gh_Qv (Q : gh_M → Prop) : Option gh_V → gh_M → Prop := fun r M => r = none ∧ Q M
def gh_Qr (k t : Nat) (Q : gh_M → Prop) : Option gh_V → gh_M → Prop := fun r M => r = some (vR k t) ∧ Q M
section GE
variable {mi : gh_MI} {d : Nat} {wd : gh_Wd} {x : gh_X} {M : gh_M} {pc pc' : Nat} {L : List (Option gh_V)} {Qv : Option gh_V → gh_M → Prop}
theorem gh_iret {Q : Int32 → gh_M → Prop} {a : Int32} (hd : gh_at mi pc .ireturn 1 pc') (hE : gh_E wd (gh_Qi Q) x) (hr : mi.2.2.2.2 = some .int) (hq : Q a M) : gh_J mi d wd x M pc L [vI a] := by
  obtain ⟨p, l, e, R, s, m, args, below, meth, c, cells, slots, Qf⟩ := x
  obtain ⟨hd, rfl⟩ := hd
  obtain ⟨rfl, rfl, rfl⟩ := hE
  intro hC H locs ls hP hS hL
  have hlocks := hC.2.2.2.2.2.2.1
  exact W.iret hC.1 hC.2.1 (hC.2.2.2.2.2.2.2.1.trans hr) (fun t ht hW => ⟨⟨some (vI a), M, rfl, ⟨a, rfl, hq⟩, gh_pre hC.2.2.2.2.2.1 hP hS ht hW⟩, hS.F ht⟩) hS.2.2 hd
theorem gh_zret {Q : Int32 → gh_M → Prop} {a : Int32} (hd : gh_at mi pc .ireturn 1 pc') (hE : gh_E wd (gh_Qi Q) x) (hr : mi.2.2.2.2 = some .boolean) (hz : a &&& 1 = a) (hq : Q a M) : gh_J mi d wd x M pc L [vI a] := by
  obtain ⟨p, l, e, R, s, m, args, below, meth, c, cells, slots, Qf⟩ := x
  obtain ⟨hd, rfl⟩ := hd
  obtain ⟨rfl, rfl, rfl⟩ := hE
  intro hC H locs ls hP hS hL
  have hlocks := hC.2.2.2.2.2.2.1
  exact W.zret hC.1 hC.2.1 (hC.2.2.2.2.2.2.2.1.trans hr) (by show Value.int (a &&& 1) = _; rw [hz]) (fun t ht hW => ⟨⟨some (vI a), M, rfl, ⟨a, rfl, hq⟩, gh_pre hC.2.2.2.2.2.1 hP hS ht hW⟩, hS.F ht⟩) hS.2.2 hd
theorem gh_lret {Q : Int64 → gh_M → Prop} {a : Int64} (hd : gh_at mi pc .lreturn 1 pc') (hE : gh_E wd (gh_Ql Q) x) (hr : mi.2.2.2.2 = some .long) (hq : Q a M) : gh_J mi d wd x M pc L [vL a] := by
  obtain ⟨p, l, e, R, s, m, args, below, meth, c, cells, slots, Qf⟩ := x
  obtain ⟨hd, rfl⟩ := hd
  obtain ⟨rfl, rfl, rfl⟩ := hE
  intro hC H locs ls hP hS hL
  have hlocks := hC.2.2.2.2.2.2.1
  exact W.lret hC.1 hC.2.1 (hC.2.2.2.2.2.2.2.1.trans hr) (fun t ht hW => ⟨⟨some (vL a), M, rfl, ⟨a, rfl, hq⟩, gh_pre hC.2.2.2.2.2.1 hP hS ht hW⟩, hS.F ht⟩) hS.2.2 hd
theorem gh_vret {Q : gh_M → Prop} (hd : gh_at mi pc .return_ 1 pc') (hE : gh_E wd (gh_Qv Q) x) (hr : mi.2.2.2.2 = none) (hq : Q M) : gh_J mi d wd x M pc L [] := by
  obtain ⟨p, l, e, R, s, m, args, below, meth, c, cells, slots, Qf⟩ := x
  obtain ⟨hd, rfl⟩ := hd
  obtain ⟨rfl, rfl, rfl⟩ := hE
  intro hC H locs ls hP hS hL
  have hlocks := hC.2.2.2.2.2.2.1
  exact W.vret hC.1 hC.2.1 (hC.2.2.2.2.2.2.2.1.trans hr) (fun t ht hW => ⟨⟨none, M, rfl, ⟨rfl, hq⟩, gh_pre hC.2.2.2.2.2.1 hP hS ht hW⟩, hS.F ht⟩) hS.2.2 hd
theorem gh_aret {Q : gh_M → Prop} {k t : Nat} {C : String} (hd : gh_at mi pc .areturn 1 pc') (hE : gh_E wd (gh_Qr k t Q) x) (hr : mi.2.2.2.2 = some (.object C)) (hq : Q M) : gh_J mi d wd x M pc L [vR k t] := by
  obtain ⟨p, l, e, R, s, m, args, below, meth, c, cells, slots, Qf⟩ := x
  obtain ⟨hd, rfl⟩ := hd
  obtain ⟨rfl, rfl, rfl⟩ := hE
  intro hC H locs ls hP hS hL
  have hlocks := hC.2.2.2.2.2.2.1
  exact W.aret hC.1 hC.2.1 (hC.2.2.2.2.2.2.2.1.trans hr) (Or.inl ⟨C, rfl⟩) (Or.inr ⟨wd.2.1 k t, rfl⟩) (fun t' ht hW => ⟨⟨some (vR k t), M, rfl, ⟨rfl, hq⟩, gh_pre hC.2.2.2.2.2.1 hP hS ht hW⟩, hS.F ht⟩) hS.2.2 hd
end GE
-- THE BEGINNING OF A METHOD
def gh_ent : List gh_V → List (Option gh_V)
  | [] => []
  | .inl a :: r => some (.inl a) :: gh_ent r
  | .inr (.inl a) :: r => some (.inr (.inl a)) :: none :: gh_ent r
  | .inr (.inr a) :: r => some (.inr (.inr a)) :: gh_ent r
theorem gh_ent_len (wd : gh_Wd) : ∀ as : List gh_V, (lg_sl (as.map (gh_tv wd))).length = (gh_ent as).length
  | [] => rfl
  | .inl a :: r => by
    have h := gh_ent_len wd r
    simp only [List.map_cons, gh_tv, lg_sl, gh_ent, List.flatMap_cons, List.length_append, Value.category] at h ⊢
    simp [h, Nat.add_comm]
  | .inr (.inl a) :: r => by
    have h := gh_ent_len wd r
    simp only [List.map_cons, gh_tv, lg_sl, gh_ent, List.flatMap_cons, List.length_append, Value.category] at h ⊢
    simp [h, Nat.add_comm]; omega
  | .inr (.inr a) :: r => by
    have h := gh_ent_len wd r
    simp only [List.map_cons, gh_tv, lg_sl, gh_ent, List.flatMap_cons, List.length_append, Value.category] at h ⊢
    simp [h, Nat.add_comm]
theorem gh_ent_at (wd : gh_Wd) (n : Nat) : ∀ (as : List gh_V) (j i : Nat) (v : gh_V), (gh_ent as ++ List.replicate n none)[i]? = some (some v) → (j + i, gh_tv wd v) ∈ lv_args j (as.map (gh_tv wd))
  | [], j, i, v, h => by
    rw [show gh_ent [] = [] from rfl, List.nil_append] at h
    have h1 := List.mem_of_getElem? h
    rw [List.mem_replicate] at h1
    cases h1.2
  | .inl a :: r, j, 0, v, h => by
    have h1 : (some (Sum.inl a) : Option gh_V) = some v := Option.some.inj h
    cases h1
    exact List.mem_cons_self
  | .inl a :: r, j, i + 1, v, h => by
    have h1 := gh_ent_at wd n r (j + 1) i v h
    rw [show j + (i + 1) = j + 1 + i by omega]
    exact List.mem_cons_of_mem _ h1
  | .inr (.inr a) :: r, j, 0, v, h => by
    have h1 : (some (Sum.inr (Sum.inr a)) : Option gh_V) = some v := Option.some.inj h
    cases h1
    exact List.mem_cons_self
  | .inr (.inr a) :: r, j, i + 1, v, h => by
    have h1 := gh_ent_at wd n r (j + 1) i v h
    rw [show j + (i + 1) = j + 1 + i by omega]
    exact List.mem_cons_of_mem _ h1
  | .inr (.inl a) :: r, j, 0, v, h => by
    have h1 : (some (Sum.inr (Sum.inl a)) : Option gh_V) = some v := Option.some.inj h
    cases h1
    exact List.mem_cons_self
  | .inr (.inl a) :: r, j, 1, v, h => by
    have h1 : (none : Option gh_V) = some v := Option.some.inj h
    cases h1
  | .inr (.inl a) :: r, j, i + 2, v, h => by
    have h1 := gh_ent_at wd n r (j + 2) i v h
    rw [show j + (i + 2) = j + 2 + i by omega]
    exact List.mem_cons_of_mem _ h1
theorem gh_of {mi : gh_MI} {d : Nat} {as : List gh_V} {M : gh_M} {Qv : Option gh_V → gh_M → Prop} (hy : plainName mi.2.1.cls = true) (hown : mi.1 = mi.2.1.cls) (n : Nat) (hn : (gh_ent as).length + n = mi.2.2.2.1) {L0 : List (Option gh_V)} (hL0 : gh_ent as ++ List.replicate n none = L0)
    (h : ∀ (wd : gh_Wd) (x : gh_X), gh_E wd Qv x → gh_J mi d wd x M 0 L0 []) : gh_Calls d mi as M Qv := by
  intro l wd
  refine Met.ofW (cc := mi.2.2.1) (maxL := mi.2.2.2.1) (ret := mi.2.2.2.2) hy rfl ?_
  intro p e s m args below meth c s₁ B hml hv
  obtain ⟨rfl, hP, hOk⟩ := hv
  have hts := atoms_spec (ws := gh_wsm mi) B.pre
  have hown' : s.vm.findClass mi.1 = some m.cls := by rw [hown]; exact findClass_of_methodNamed B.named
  have hl := lv_entry (as.map (gh_tv wd)) (n := mi.2.2.2.1) (by rw [gh_ent_len]; omega)
  rw [lg_entry_eq]
  have hL : gh_L wd ((lg_sl (as.map (gh_tv wd)) ++ List.replicate (mi.2.2.2.1 - (lg_sl (as.map (gh_tv wd))).length) Slot.unset).toArray) mi.2.2.2.1 L0 := by
    refine ⟨hl.1, hl.2.1, fun q hq => ?_⟩
    obtain ⟨j, y⟩ := q
    obtain ⟨w, hw, rfl⟩ := gh_pr_mem.mp hq
    rw [← hL0] at hw
    have h1 := gh_ent_at wd n as 0 j w hw
    rw [Nat.zero_add] at h1
    exact hl.2.2 _ h1
  exact h wd (p, l, e, (headSpec (gh_wsm mi) (gh_rm d)).room, s, m, (as.map (gh_tv wd)).toArray, below, meth, c, 0, 0, MQ below (gh_Qc wd Qv) (as.map (gh_tv wd)).toArray s 0 0 (gh_A wd)) ⟨rfl, rfl, rfl⟩
    ⟨B.exec, B.bytes, hml, hown', fun w hw => hts w (List.mem_cons_of_mem _ hw), hOk, B.notSynchronized, B.returns, Nat.le_refl _, Nat.le_refl _, Nat.zero_le _, Nat.zero_le _⟩ s.heap [] _ hP va_S.rf hL
-- A CALL
def gh_cat : gh_V → Nat
  | .inr (.inl _) => 2
  | _ => 1
theorem gh_cat_tv (wd : gh_Wd) : ∀ S : List gh_V, ((S.map (gh_tv wd)).map fun v => v.category).sum = (S.map gh_cat).sum
  | [] => rfl
  | .inl a :: r => by simp [gh_tv, gh_cat, Value.category, ← gh_cat_tv wd r]
  | .inr (.inl a) :: r => by simp [gh_tv, gh_cat, Value.category, ← gh_cat_tv wd r]
  | .inr (.inr a) :: r => by simp [gh_tv, gh_cat, Value.category, ← gh_cat_tv wd r]
/-- what the tables say of a method that is called: on an object, or static -/
def gh_mok (mi : gh_MI) (n : Nat) : Prop := Cond.initialized mi.2.1.cls ∈ gh_G ∧ Cond.code mi.2.1 mi.2.2.1 mi.2.2.2.1 mi.2.2.2.2 ∈ gh_G ∧ (mi.2.1.cls ≠ "java/lang/invoke/MethodHandle" ∧ mi.2.1.cls ≠ "java/lang/invoke/VarHandle" ∧ (parseMethodDescriptor mi.2.1.desc).map (fun d => d.parameters.length) = some n) ∧ mi.2.2.2.1 ≤ 40
def gh_okV (mi : gh_MI) (n : Nat) : Prop := gh_mok mi n ∧ Cond.instanceMethod mi.2.1 ∈ gh_G ∧ Cond.selects mi.2.1.cls mi.2.1 mi.2.1 ∈ gh_G
def gh_okS (mi : gh_MI) (n : Nat) : Prop := gh_mok mi n ∧ Cond.static mi.2.1 ∈ gh_G
def gh_ML (own : String) (idx : Nat) (y : MethodName) : Prop := Cond.methodLink own idx y ∈ gh_G ∨ ∃ host, Cond.methodLinkNest own idx y host ∈ lw_tbl
theorem gh_good {mi : gh_MI} {n : Nat} (h : gh_mok mi n) : GoodIn gh_G (gh_wsm mi) := by
  intro w hw
  rcases List.mem_cons.mp hw with rfl | hw
  · exact ⟨h.2.1, good_of_word (List.mem_filter.mp h.2.1).2⟩
  · exact ⟨hw, good_of_word (List.mem_filter.mp hw).2⟩
theorem gh_after {p : Program} {l : Launch} {e : Env} {R : Room} {s : State} {m : MethodId} {args : Array Value} {below : List Frame} {meth : Method} {c : Code} {H : Heap} {locs : List Loc} {cells slots : Nat} {Q : State → Prop} {wd : gh_Wd} {Qv : Option gh_V → gh_M → Prop} {a : Array Value} {pc : Nat} {ls : Array Slot} {st0 rest : List Value}
    (hr : va_Run p l e R s m args below meth c H locs cells slots 0 0 (F0 m pc ls st0) rest (gh_Qc wd Qv a) (gh_A wd)) (hS : va_S (gh_A wd) s.heap H locs)
    (kk : ∀ (r : Option gh_V) (M' : gh_M) (H1 : Heap) (locs1 : List Loc), Qv r M' → va_P wd.1 gh_cls (gh_ws wd M') H1 → va_S (gh_A wd) s.heap H1 locs1 → W p l e R s m args below meth c H1 locs1 cells slots Q (F0 m (pc + 3) ls ((r.map (gh_tv wd)).toList ++ rest))) :
    W p l e R s m args below meth c H locs cells slots Q (F0 m pc ls st0) := by
  intro T hT X
  obtain ⟨v, st₀, t, T', L, h0, X', hL, e1, e2, ⟨⟨r, M', hv, hq, hW⟩, hz, hk⟩, st⟩ := hr T hT X
  have hv' : v = r.map (gh_tv wd) := by cases hv; rfl
  subst hv'
  rw [h0] at hz hk
  obtain ⟨t2, a1, b1⟩ := kk r M' T'.heap (locs ++ L) hq (by rw [e1]; exact hW.1)
    ⟨Nat.le_trans hS.1 (by rw [e1]; exact hz), fun q h1 h2 => by rw [e1, hk q (Nat.lt_of_lt_of_le h1 hS.1) h2]; exact hS.2.1 q h1 h2, fun q hq => by
      rcases List.mem_append.mp hq with h | h
      · exact hS.2.2 q h
      · exact hL q h⟩ T' rfl X'
  exact ⟨t2, st t2 a1, b1⟩
section GC
variable {mi : gh_MI} {d : Nat} {wd : gh_Wd} {x : gh_X} {M : gh_M} {pc pc' : Nat} {L : List (Option gh_V)}
theorem gh_callV {mi' : gh_MI} {d' n idx k t : Nat} {as st S : List gh_V} {Qv : Option gh_V → gh_M → Prop} (hd : gh_at mi pc (.invokevirtual idx) 3 pc') (hl : gh_ML mi.1 idx mi'.2.1) (ho : gh_okV mi' n) (hlen : as.length = n) (hst : st = as.reverse ++ vR k t :: S) (hdd : d' + 1 ≤ d) (hwS : (S.map gh_cat).sum ≤ 8)
    (hk : k < 45) (ht : t < gh_cnt k) (har : gh_ar k = none) (hcl : (gh_cls[gh_ci k]?).map (fun r => r.1) = some mi'.2.1.cls) (hc : gh_Calls d' mi' (vR k t :: as) M Qv)
    (kk : ∀ r M', Qv r M' → gh_J mi d wd x M' pc' L (r.toList ++ S)) : gh_J mi d wd x M pc L st := by
  obtain ⟨p, l, e, R, s, m, args, below, meth, c, cells, slots, Qf⟩ := x
  obtain ⟨hd, rfl⟩ := hd
  subst hst
  intro hC H locs ls hP hS hL
  obtain ⟨ho, hin, hsel⟩ := ho
  have hts := hC.2.2.2.2.1
  obtain ⟨q0, hq⟩ := gh_mem hk ht
  have he := gh_ws_at wd M hq
  rw [gh_ce_o wd M t har] at he
  obtain ⟨r0, hr0, hr1⟩ : ∃ r0, gh_cls[gh_ci k]? = some r0 ∧ r0.1 = mi'.2.1.cls := by
    cases h9 : gh_cls[gh_ci k]? with
    | none => rw [h9] at hcl; cases hcl
    | some r0 => rw [h9] at hcl; exact ⟨r0, rfl, Option.some.inj hcl⟩
  have hrecv := va_recv hC.2.2.2.2.2.1.1 hP hr0 he
  rw [hr1] at hrecv
  have hpre : PreV s H mi'.2.1.cls (wd.2.1 k t) (gh_Pc wd (vR k t :: as) M) (as.map (gh_tv wd)) := ⟨gh_blind, hrecv, fun U hU hW => ⟨rfl, gh_pre hC.2.2.2.2.2.1 hP hS hU hW⟩⟩
  have hroom : (gh_rm d').frames + 1 ≤ R.frames ∧ 8 + (mi'.2.2.2.1 + 11) + (gh_rm d').locals ≤ R.locals := by
    have h1 := hC.2.2.2.2.2.2.2.2.1
    have h2 := hC.2.2.2.2.2.2.2.2.2.1
    have h3 := ho.2.2.2
    show d' + 1 ≤ R.frames ∧ 8 + (mi'.2.2.2.1 + 11) + 64 * d' ≤ R.locals
    omega
  have hf : cells + 0 ≤ R.cells ∧ slots + 0 ≤ R.slots := ⟨hC.2.2.2.2.2.2.2.2.2.2.1, hC.2.2.2.2.2.2.2.2.2.2.2⟩
  have hstk : (((as.reverse ++ vR k t :: S).map (gh_tv wd))) = (as.map (gh_tv wd)).reverse ++ .ref (wd.2.1 k t) :: S.map (gh_tv wd) := by
    rw [List.map_append, List.map_reverse]
    rfl
  have hwS' : 2 * (F0 m pc ls (((as.reverse ++ vR k t :: S).map (gh_tv wd)))).monitorRoom + ((S.map (gh_tv wd)).map fun v => v.category).sum ≤ 8 := lv_room (by rw [gh_cat_tv]; exact hwS)
  have fin : ∀ (r : Option gh_V) (M' : gh_M) (H1 : Heap) (locs1 : List Loc), Qv r M' → va_P wd.1 gh_cls (gh_ws wd M') H1 → va_S (gh_A wd) s.heap H1 locs1 → W p l e R s m args below meth c H1 locs1 cells slots Qf (F0 m (pc + 3) ls ((r.map (gh_tv wd)).toList ++ S.map (gh_tv wd))) := fun r M' H1 locs1 hq hP1 hS1 => by
    have h := kk r M' hq hC H1 locs1 ls hP1 hS1 hL
    cases r with
    | none => exact h
    | some v => exact h
  rcases hl with hl | ⟨host, hl⟩
  · exact gh_after (va_runV (As := as.map (gh_tv wd)) (rest := S.map (gh_tv wd)) (n := n) ⟨hC.1, hC.2.1, hC.2.2.1, hC.2.2.2.1, hts⟩ (hc l wd) ⟨callB_of n hts (gh_good ho) rfl rfl rfl (hts _ ho.1) (hts _ hl) ho.2.2.1 hroom, hts _ hin, hts _ hsel⟩ hpre rfl (by rw [List.length_map]; exact hlen) hL.1 hstk hwS' hd hf) hS fin
  · exact gh_after (va_runVN (As := as.map (gh_tv wd)) (rest := S.map (gh_tv wd)) (n := n) ⟨hC.1, hC.2.1, hC.2.2.1, hC.2.2.2.1, hts⟩ (hc l wd) ⟨va_cnB n hts (gh_good ho) rfl rfl rfl (hC.2.2.2.2.2.1.2.2.1 _ hl rfl) (hts _ ho.1) ho.2.2.1 hroom, hts _ hin, hts _ hsel⟩ hpre rfl (by rw [List.length_map]; exact hlen) hL.1 hstk hwS' hd hf) hS fin
theorem gh_callS {mi' : gh_MI} {d' n idx : Nat} {as st S : List gh_V} {Qv : Option gh_V → gh_M → Prop} (hd : gh_at mi pc (.invokestatic idx) 3 pc') (hl : gh_ML mi.1 idx mi'.2.1) (ho : gh_okS mi' n) (hlen : as.length = n) (hst : st = as.reverse ++ S) (hdd : d' + 1 ≤ d) (hwS : (S.map gh_cat).sum ≤ 8)
    (hc : gh_Calls d' mi' as M Qv) (kk : ∀ r M', Qv r M' → gh_J mi d wd x M' pc' L (r.toList ++ S)) : gh_J mi d wd x M pc L st := by
  obtain ⟨p, l, e, R, s, m, args, below, meth, c, cells, slots, Qf⟩ := x
  obtain ⟨hd, rfl⟩ := hd
  subst hst
  intro hC H locs ls hP hS hL
  obtain ⟨ho, hstt⟩ := ho
  have hts := hC.2.2.2.2.1
  have hpre : PreS s H (gh_Pc wd as M) (as.map (gh_tv wd)) := ⟨gh_blind, fun U hU hW => ⟨rfl, gh_pre hC.2.2.2.2.2.1 hP hS hU hW⟩⟩
  have hroom : (gh_rm d').frames + 1 ≤ R.frames ∧ 8 + (mi'.2.2.2.1 + 11) + (gh_rm d').locals ≤ R.locals := by
    have h1 := hC.2.2.2.2.2.2.2.2.1
    have h2 := hC.2.2.2.2.2.2.2.2.2.1
    have h3 := ho.2.2.2
    show d' + 1 ≤ R.frames ∧ 8 + (mi'.2.2.2.1 + 11) + 64 * d' ≤ R.locals
    omega
  have hf : cells + 0 ≤ R.cells ∧ slots + 0 ≤ R.slots := ⟨hC.2.2.2.2.2.2.2.2.2.2.1, hC.2.2.2.2.2.2.2.2.2.2.2⟩
  have hstk : (((as.reverse ++ S).map (gh_tv wd))) = (as.map (gh_tv wd)).reverse ++ S.map (gh_tv wd) := by
    rw [List.map_append, List.map_reverse]
  have hwS' : 2 * (F0 m pc ls (((as.reverse ++ S).map (gh_tv wd)))).monitorRoom + ((S.map (gh_tv wd)).map fun v => v.category).sum ≤ 8 := lv_room (by rw [gh_cat_tv]; exact hwS)
  have fin : ∀ (r : Option gh_V) (M' : gh_M) (H1 : Heap) (locs1 : List Loc), Qv r M' → va_P wd.1 gh_cls (gh_ws wd M') H1 → va_S (gh_A wd) s.heap H1 locs1 → W p l e R s m args below meth c H1 locs1 cells slots Qf (F0 m (pc + 3) ls ((r.map (gh_tv wd)).toList ++ S.map (gh_tv wd))) := fun r M' H1 locs1 hq hP1 hS1 => by
    have h := kk r M' hq hC H1 locs1 ls hP1 hS1 hL
    cases r with
    | none => exact h
    | some v => exact h
  rcases hl with hl | ⟨host, hl⟩
  · exact gh_after (va_runS (As := as.map (gh_tv wd)) (rest := S.map (gh_tv wd)) (n := n) ⟨hC.1, hC.2.1, hC.2.2.1, hC.2.2.2.1, hts⟩ (hc l wd) ⟨callB_of n hts (gh_good ho) rfl rfl rfl (hts _ ho.1) (hts _ hl) ho.2.2.1 hroom, hts _ hstt⟩ hpre rfl (by rw [List.length_map]; exact hlen) hL.1 hstk hwS' hd hf) hS fin
  · exact gh_after (va_runSN (As := as.map (gh_tv wd)) (rest := S.map (gh_tv wd)) (n := n) ⟨hC.1, hC.2.1, hC.2.2.1, hC.2.2.2.1, hts⟩ (hc l wd) ⟨va_cnB n hts (gh_good ho) rfl rfl rfl (hC.2.2.2.2.2.1.2.2.1 _ hl rfl) (hts _ ho.1) ho.2.2.1 hroom, hts _ hstt, trivial⟩ hpre rfl (by rw [List.length_map]; exact hlen) hL.1 hstk hwS' hd hf) hS fin
theorem gh_callVi {mi' : gh_MI} {d' n idx k t : Nat} {as st S : List gh_V} {Q : Int32 → gh_M → Prop} (hd : gh_at mi pc (.invokevirtual idx) 3 pc') (hl : gh_ML mi.1 idx mi'.2.1) (ho : gh_okV mi' n) (hlen : as.length = n) (hst : st = as.reverse ++ vR k t :: S) (hdd : d' + 1 ≤ d) (hwS : (S.map gh_cat).sum ≤ 8)
    (hk : k < 45) (ht : t < gh_cnt k) (har : gh_ar k = none) (hcl : (gh_cls[gh_ci k]?).map (fun r => r.1) = some mi'.2.1.cls) (hc : gh_Calls d' mi' (vR k t :: as) M (gh_Qi Q))
    (kk : ∀ r M', Q r M' → gh_J mi d wd x M' pc' L (vI r :: S)) : gh_J mi d wd x M pc L st :=
  gh_callV hd hl ho hlen hst hdd hwS hk ht har hcl hc (fun r M' h => by obtain ⟨v, rfl, hq⟩ := h; exact kk v M' hq)
theorem gh_callVl {mi' : gh_MI} {d' n idx k t : Nat} {as st S : List gh_V} {Q : Int64 → gh_M → Prop} (hd : gh_at mi pc (.invokevirtual idx) 3 pc') (hl : gh_ML mi.1 idx mi'.2.1) (ho : gh_okV mi' n) (hlen : as.length = n) (hst : st = as.reverse ++ vR k t :: S) (hdd : d' + 1 ≤ d) (hwS : (S.map gh_cat).sum ≤ 8)
    (hk : k < 45) (ht : t < gh_cnt k) (har : gh_ar k = none) (hcl : (gh_cls[gh_ci k]?).map (fun r => r.1) = some mi'.2.1.cls) (hc : gh_Calls d' mi' (vR k t :: as) M (gh_Ql Q))
    (kk : ∀ r M', Q r M' → gh_J mi d wd x M' pc' L (vL r :: S)) : gh_J mi d wd x M pc L st :=
  gh_callV hd hl ho hlen hst hdd hwS hk ht har hcl hc (fun r M' h => by obtain ⟨v, rfl, hq⟩ := h; exact kk v M' hq)
theorem gh_callVv {mi' : gh_MI} {d' n idx k t : Nat} {as st S : List gh_V} {Q : gh_M → Prop} (hd : gh_at mi pc (.invokevirtual idx) 3 pc') (hl : gh_ML mi.1 idx mi'.2.1) (ho : gh_okV mi' n) (hlen : as.length = n) (hst : st = as.reverse ++ vR k t :: S) (hdd : d' + 1 ≤ d) (hwS : (S.map gh_cat).sum ≤ 8)
    (hk : k < 45) (ht : t < gh_cnt k) (har : gh_ar k = none) (hcl : (gh_cls[gh_ci k]?).map (fun r => r.1) = some mi'.2.1.cls) (hc : gh_Calls d' mi' (vR k t :: as) M (gh_Qv Q))
    (kk : ∀ M', Q M' → gh_J mi d wd x M' pc' L S) : gh_J mi d wd x M pc L st :=
  gh_callV hd hl ho hlen hst hdd hwS hk ht har hcl hc (fun r M' h => by obtain ⟨rfl, hq⟩ := h; exact kk M' hq)
theorem gh_callVr {mi' : gh_MI} {d' n idx k t a b : Nat} {as st S : List gh_V} {Q : gh_M → Prop} (hd : gh_at mi pc (.invokevirtual idx) 3 pc') (hl : gh_ML mi.1 idx mi'.2.1) (ho : gh_okV mi' n) (hlen : as.length = n) (hst : st = as.reverse ++ vR k t :: S) (hdd : d' + 1 ≤ d) (hwS : (S.map gh_cat).sum ≤ 8)
    (hk : k < 45) (ht : t < gh_cnt k) (har : gh_ar k = none) (hcl : (gh_cls[gh_ci k]?).map (fun r => r.1) = some mi'.2.1.cls) (hc : gh_Calls d' mi' (vR k t :: as) M (gh_Qr a b Q))
    (kk : ∀ M', Q M' → gh_J mi d wd x M' pc' L (vR a b :: S)) : gh_J mi d wd x M pc L st :=
  gh_callV hd hl ho hlen hst hdd hwS hk ht har hcl hc (fun r M' h => by obtain ⟨rfl, hq⟩ := h; exact kk M' hq)
theorem gh_callSi {mi' : gh_MI} {d' n idx : Nat} {as st S : List gh_V} {Q : Int32 → gh_M → Prop} (hd : gh_at mi pc (.invokestatic idx) 3 pc') (hl : gh_ML mi.1 idx mi'.2.1) (ho : gh_okS mi' n) (hlen : as.length = n) (hst : st = as.reverse ++ S) (hdd : d' + 1 ≤ d) (hwS : (S.map gh_cat).sum ≤ 8)
    (hc : gh_Calls d' mi' as M (gh_Qi Q)) (kk : ∀ r M', Q r M' → gh_J mi d wd x M' pc' L (vI r :: S)) : gh_J mi d wd x M pc L st :=
  gh_callS hd hl ho hlen hst hdd hwS hc (fun r M' h => by obtain ⟨v, rfl, hq⟩ := h; exact kk v M' hq)
theorem gh_callSl {mi' : gh_MI} {d' n idx : Nat} {as st S : List gh_V} {Q : Int64 → gh_M → Prop} (hd : gh_at mi pc (.invokestatic idx) 3 pc') (hl : gh_ML mi.1 idx mi'.2.1) (ho : gh_okS mi' n) (hlen : as.length = n) (hst : st = as.reverse ++ S) (hdd : d' + 1 ≤ d) (hwS : (S.map gh_cat).sum ≤ 8)
    (hc : gh_Calls d' mi' as M (gh_Ql Q)) (kk : ∀ r M', Q r M' → gh_J mi d wd x M' pc' L (vL r :: S)) : gh_J mi d wd x M pc L st :=
  gh_callS hd hl ho hlen hst hdd hwS hc (fun r M' h => by obtain ⟨v, rfl, hq⟩ := h; exact kk v M' hq)
theorem gh_callSv {mi' : gh_MI} {d' n idx : Nat} {as st S : List gh_V} {Q : gh_M → Prop} (hd : gh_at mi pc (.invokestatic idx) 3 pc') (hl : gh_ML mi.1 idx mi'.2.1) (ho : gh_okS mi' n) (hlen : as.length = n) (hst : st = as.reverse ++ S) (hdd : d' + 1 ≤ d) (hwS : (S.map gh_cat).sum ≤ 8)
    (hc : gh_Calls d' mi' as M (gh_Qv Q)) (kk : ∀ M', Q M' → gh_J mi d wd x M' pc' L S) : gh_J mi d wd x M pc L st :=
  gh_callS hd hl ho hlen hst hdd hwS hc (fun r M' h => by obtain ⟨rfl, hq⟩ := h; exact kk M' hq)
-- the library's own
theorem gh_min {idx : Nat} {a b : Int32} {S : List gh_V} (hd : gh_at mi pc (.invokestatic idx) 3 pc') (hl : Cond.methodLink mi.1 idx Lib.Math.min.name ∈ gh_G) (h1 : Cond.static Lib.Math.min.name ∈ gh_G) (h2 : Cond.initialized "java/lang/Math" ∈ gh_G) (h3 : Cond.code Lib.Math.min.name Lib.Math.min.code 2 (some .int) ∈ gh_G) (hdd : 1 ≤ d) (hwS : (S.map gh_cat).sum ≤ 8)
    (k : gh_J mi d wd x M pc' L (vI (if b < a then b else a) :: S)) : gh_J mi d wd x M pc L (vI b :: vI a :: S) := by
  obtain ⟨p, l, e, R, s, m, args, below, meth, c, cells, slots, Qf⟩ := x
  obtain ⟨hd, rfl⟩ := hd
  intro hC H locs ls hP hS hL
  have hts := hC.2.2.2.2.1
  have g1 := hC.2.2.2.2.2.2.2.2.1
  have g2 := hC.2.2.2.2.2.2.2.2.2.1
  exact va_mmin hC.1 hC.2.1 (hC.2.2.1.trans hL.1.symm) hC.2.2.2.1 (hts _ hl) (hts _ h1) (hts _ h2) (hts _ h3) (by omega) (by rw [gh_cat_tv]; omega) hC.2.2.2.2.2.2.2.2.2.2.1 hC.2.2.2.2.2.2.2.2.2.2.2 hd (k hC H locs ls hP hS hL)
theorem gh_max {idx : Nat} {a b : Int32} {S : List gh_V} (hd : gh_at mi pc (.invokestatic idx) 3 pc') (hl : Cond.methodLink mi.1 idx Lib.Math.max.name ∈ gh_G) (h1 : Cond.static Lib.Math.max.name ∈ gh_G) (h2 : Cond.initialized "java/lang/Math" ∈ gh_G) (h3 : Cond.code Lib.Math.max.name Lib.Math.max.code 2 (some .int) ∈ gh_G) (hdd : 1 ≤ d) (hwS : (S.map gh_cat).sum ≤ 8)
    (k : gh_J mi d wd x M pc' L (vI (if a < b then b else a) :: S)) : gh_J mi d wd x M pc L (vI b :: vI a :: S) := by
  obtain ⟨p, l, e, R, s, m, args, below, meth, c, cells, slots, Qf⟩ := x
  obtain ⟨hd, rfl⟩ := hd
  intro hC H locs ls hP hS hL
  have hts := hC.2.2.2.2.1
  have g1 := hC.2.2.2.2.2.2.2.2.1
  have g2 := hC.2.2.2.2.2.2.2.2.2.1
  exact va_mmax hC.1 hC.2.1 (hC.2.2.1.trans hL.1.symm) hC.2.2.2.1 (hts _ hl) (hts _ h1) (hts _ h2) (hts _ h3) (by omega) (by rw [gh_cat_tv]; omega) hC.2.2.2.2.2.2.2.2.2.2.1 hC.2.2.2.2.2.2.2.2.2.2.2 hd (k hC H locs ls hP hS hL)
theorem gh_nfw : nativeFrameWords "java/lang/System" "arraycopy" 5 ≤ 40 := by decide +kernel
theorem gh_copy {idx ks ts kd td n0 n1 z : Nat} {sp dp n : Int32} {S : List gh_V} (hd : gh_at mi pc (.invokestatic idx) 3 pc') (hl : Cond.methodLink mi.1 idx arraycopyName ∈ gh_G) (h1 : Cond.native arraycopyName ∈ gh_G) (h2 : Cond.static arraycopyName ∈ gh_G) (h3 : Cond.initialized "java/lang/System" ∈ gh_G) (hdd : 1 ≤ d) (hwS : (S.map gh_cat).sum ≤ 8)
    (hz : z < 2) (ha0 : gh_ar ks = some (z, n0)) (ha1 : gh_ar kd = some (z, n1)) (hk0 : ks < 45) (ht0 : ts < gh_cnt ks) (hk1 : kd < 45) (ht1 : td < gh_cnt kd)
    (g1 : ¬ sp < 0) (g2 : ¬ dp < 0) (g3 : ¬ n < 0) (g4 : sp.toNatClampNeg + n.toNatClampNeg ≤ n0) (g5 : dp.toNatClampNeg + n.toNatClampNeg ≤ n1) (hfit : z = 1 → ∀ i, i < n.toNatClampNeg → M ks ts (sp.toNatClampNeg + i) = 0 ∨ M ks ts (sp.toNatClampNeg + i) = 1)
    (k : gh_J mi d wd x (gh_row M kd td (va_cpy (M ks ts) (M kd td) sp.toNatClampNeg dp.toNatClampNeg n.toNatClampNeg)) pc' L S) : gh_J mi d wd x M pc L (vI n :: vI dp :: vR kd td :: vI sp :: vR ks ts :: S) := by
  obtain ⟨p, l, e, R, s, m, args, below, meth, c, cells, slots, Qf⟩ := x
  obtain ⟨hd, rfl⟩ := hd
  intro hC H locs ls hP hS hL
  have hts := hC.2.2.2.2.1
  have r1 := hC.2.2.2.2.2.2.2.2.1
  have r2 := hC.2.2.2.2.2.2.2.2.2.1
  have r3 := gh_nfw
  obtain ⟨q0, hq0⟩ := gh_mem hk0 ht0
  obtain ⟨q1, hq1⟩ := gh_mem hk1 ht1
  have he0 := gh_ws_at wd M hq0
  have he1 := gh_ws_at wd M hq1
  have hD := gh_D_any M hC.2.2.2.2.2.1.2.1
  have hlo : ((S.map (gh_tv wd)).map fun v => v.category).sum + (nativeFrameWords "java/lang/System" "arraycopy" 5 + 11) ≤ R.locals := by rw [gh_cat_tv]; omega
  match z, hz with
  | 0, _ =>
    rw [gh_ce_i wd M ts ha0] at he0
    rw [gh_ce_i wd M td ha1] at he1
    have e1 : gh_ce wd (gh_row M kd td (va_cpy (M ks ts) (M kd td) sp.toNatClampNeg dp.toNatClampNeg n.toNatClampNeg)) kd td = .inl (wd.2.2.1 0, n1, .inl (va_cpy (M ks ts) (M kd td) sp.toNatClampNeg dp.toNatClampNeg n.toNatClampNeg)) := by rw [gh_ce_i wd _ td ha1, gh_row_self]
    have e2 := gh_set hD hq1 _ e1
    exact va_copyi hC.1 hC.2.1 (hC.2.2.1.trans hL.1.symm) hC.2.2.2.1 (hts _ hl) (hts _ h1) (hts _ h2) (hts _ h3) hC.2.2.2.2.2.1.1 hP hD hS q0 q1 0 0 he0 he1 rfl rfl rfl g1 g2 g3 g4 g5 (fun i _ => rfl) (by omega) hlo hd (fun H1 locs1 hP1 _ hS1 => k hC H1 locs1 ls (by rw [← e2]; exact hP1) hS1 hL)
  | 1, _ =>
    rw [gh_ce_z wd M ts ha0] at he0
    rw [gh_ce_z wd M td ha1] at he1
    have e1 : gh_ce wd (gh_row M kd td (va_cpy (M ks ts) (M kd td) sp.toNatClampNeg dp.toNatClampNeg n.toNatClampNeg)) kd td = .inl (wd.2.2.1 1, n1, .inl (va_cpy (M ks ts) (M kd td) sp.toNatClampNeg dp.toNatClampNeg n.toNatClampNeg)) := by rw [gh_ce_z wd _ td ha1, gh_row_self]
    have e2 := gh_set hD hq1 _ e1
    exact va_copyi hC.1 hC.2.1 (hC.2.2.1.trans hL.1.symm) hC.2.2.2.1 (hts _ hl) (hts _ h1) (hts _ h2) (hts _ h3) hC.2.2.2.2.2.1.1 hP hD hS q0 q1 1 1 he0 he1 rfl rfl rfl g1 g2 g3 g4 g5 (fun i hi => by rcases hfit rfl i hi with h | h <;> (rw [h]; rfl)) (by omega) hlo hd (fun H1 locs1 hP1 _ hS1 => k hC H1 locs1 ls (by rw [← e2]; exact hP1) hS1 hL)
end GC
end
