section
-- ===== PART A: goes FIRST, ahead of the names: the tables' words, and 'selects' of the private methods out of them =====
/-- a private method of a class that the tables say can be made, by its rows of tables_1 -/
def lw_okq (q : MethodName × Nat) : Prop := (q.1.cls ≠ "java/lang/invoke/MethodHandle" ∧ q.1.cls ≠ "java/lang/invoke/VarHandle") ∧ Cond.instantiable q.1.cls q.2 ∈ tables_1 ∧ Cond.privateMethod q.1 ∈ tables_1 ∧ Cond.instanceMethod q.1 ∈ tables_1
theorem lw_p0 : lw_okq (⟨"ScanMachine", "halt", "()V"⟩, 13) := ⟨⟨by decide +kernel, by decide +kernel⟩, List.mem_of_getElem? (i := 15) (by decide +kernel), List.mem_of_getElem? (i := 268) (by decide +kernel), List.mem_of_getElem? (i := 269) (by decide +kernel)⟩
theorem lw_p1 : lw_okq (⟨"ScanMachine$Memory", "clear", "()V"⟩, 4) := ⟨⟨by decide +kernel, by decide +kernel⟩, List.mem_of_getElem? (i := 147) (by decide +kernel), List.mem_of_getElem? (i := 272) (by decide +kernel), List.mem_of_getElem? (i := 273) (by decide +kernel)⟩
theorem lw_p2 : lw_okq (⟨"ScanMachine$Memory", "emptyStack", "()V"⟩, 4) := ⟨⟨by decide +kernel, by decide +kernel⟩, List.mem_of_getElem? (i := 147) (by decide +kernel), List.mem_of_getElem? (i := 279) (by decide +kernel), List.mem_of_getElem? (i := 280) (by decide +kernel)⟩
theorem lw_p3 : lw_okq (⟨"ScanMachine$Code", "forget", "()V"⟩, 10) := ⟨⟨by decide +kernel, by decide +kernel⟩, List.mem_of_getElem? (i := 23) (by decide +kernel), List.mem_of_getElem? (i := 283) (by decide +kernel), List.mem_of_getElem? (i := 284) (by decide +kernel)⟩
theorem lw_p4 : lw_okq (⟨"ScanMachine$Code", "hasRoomForUnit", "()Z"⟩, 10) := ⟨⟨by decide +kernel, by decide +kernel⟩, List.mem_of_getElem? (i := 23) (by decide +kernel), List.mem_of_getElem? (i := 291) (by decide +kernel), List.mem_of_getElem? (i := 292) (by decide +kernel)⟩
theorem lw_p5 : lw_okq (⟨"ScanMachine$Code", "appendUnit", "(II)I"⟩, 10) := ⟨⟨by decide +kernel, by decide +kernel⟩, List.mem_of_getElem? (i := 23) (by decide +kernel), List.mem_of_getElem? (i := 295) (by decide +kernel), List.mem_of_getElem? (i := 296) (by decide +kernel)⟩
theorem lw_p6 : lw_okq (⟨"ScanMachine$Code", "hasRoomForInstruction", "()Z"⟩, 10) := ⟨⟨by decide +kernel, by decide +kernel⟩, List.mem_of_getElem? (i := 23) (by decide +kernel), List.mem_of_getElem? (i := 304) (by decide +kernel), List.mem_of_getElem? (i := 305) (by decide +kernel)⟩
theorem lw_p7 : lw_okq (⟨"ScanMachine$Code", "appendInstruction", "(IIII)I"⟩, 10) := ⟨⟨by decide +kernel, by decide +kernel⟩, List.mem_of_getElem? (i := 23) (by decide +kernel), List.mem_of_getElem? (i := 308) (by decide +kernel), List.mem_of_getElem? (i := 309) (by decide +kernel)⟩
theorem lw_p8 : lw_okq (⟨"ScanMachine$Code", "unitCount", "()I"⟩, 10) := ⟨⟨by decide +kernel, by decide +kernel⟩, List.mem_of_getElem? (i := 23) (by decide +kernel), List.mem_of_getElem? (i := 317) (by decide +kernel), List.mem_of_getElem? (i := 318) (by decide +kernel)⟩
theorem lw_p9 : lw_okq (⟨"ScanMachine", "firstFault", "(I)I"⟩, 13) := ⟨⟨by decide +kernel, by decide +kernel⟩, List.mem_of_getElem? (i := 15) (by decide +kernel), List.mem_of_getElem? (i := 321) (by decide +kernel), List.mem_of_getElem? (i := 322) (by decide +kernel)⟩
theorem lw_p10 : lw_okq (⟨"ScanMachine$Shape", "faultOf", "(II)I"⟩, 7) := ⟨⟨by decide +kernel, by decide +kernel⟩, List.mem_of_getElem? (i := 61) (by decide +kernel), List.mem_of_getElem? (i := 325) (by decide +kernel), List.mem_of_getElem? (i := 326) (by decide +kernel)⟩
theorem lw_p11 : lw_okq (⟨"ScanMachine$Shape", "isPlacedWrong", "(I)Z"⟩, 7) := ⟨⟨by decide +kernel, by decide +kernel⟩, List.mem_of_getElem? (i := 61) (by decide +kernel), List.mem_of_getElem? (i := 329) (by decide +kernel), List.mem_of_getElem? (i := 330) (by decide +kernel)⟩
theorem lw_p12 : lw_okq (⟨"ScanMachine$Code", "placeOf", "(I)I"⟩, 10) := ⟨⟨by decide +kernel, by decide +kernel⟩, List.mem_of_getElem? (i := 23) (by decide +kernel), List.mem_of_getElem? (i := 333) (by decide +kernel), List.mem_of_getElem? (i := 334) (by decide +kernel)⟩
theorem lw_p13 : lw_okq (⟨"ScanMachine$Code", "hasUnit", "(I)Z"⟩, 10) := ⟨⟨by decide +kernel, by decide +kernel⟩, List.mem_of_getElem? (i := 23) (by decide +kernel), List.mem_of_getElem? (i := 337) (by decide +kernel), List.mem_of_getElem? (i := 338) (by decide +kernel)⟩
theorem lw_p14 : lw_okq (⟨"ScanMachine$Code", "frameOf", "(I)I"⟩, 10) := ⟨⟨by decide +kernel, by decide +kernel⟩, List.mem_of_getElem? (i := 23) (by decide +kernel), List.mem_of_getElem? (i := 341) (by decide +kernel), List.mem_of_getElem? (i := 342) (by decide +kernel)⟩
theorem lw_p15 : lw_okq (⟨"ScanMachine$Shape", "meetsEarlierUnit", "(II)Z"⟩, 7) := ⟨⟨by decide +kernel, by decide +kernel⟩, List.mem_of_getElem? (i := 61) (by decide +kernel), List.mem_of_getElem? (i := 346) (by decide +kernel), List.mem_of_getElem? (i := 347) (by decide +kernel)⟩
def lw_privs_1 : List (MethodName × Nat) := [(⟨"ScanMachine", "halt", "()V"⟩, 13), (⟨"ScanMachine$Memory", "clear", "()V"⟩, 4), (⟨"ScanMachine$Memory", "emptyStack", "()V"⟩, 4), (⟨"ScanMachine$Code", "forget", "()V"⟩, 10), (⟨"ScanMachine$Code", "hasRoomForUnit", "()Z"⟩, 10), (⟨"ScanMachine$Code", "appendUnit", "(II)I"⟩, 10), (⟨"ScanMachine$Code", "hasRoomForInstruction", "()Z"⟩, 10), (⟨"ScanMachine$Code", "appendInstruction", "(IIII)I"⟩, 10), (⟨"ScanMachine$Code", "unitCount", "()I"⟩, 10), (⟨"ScanMachine", "firstFault", "(I)I"⟩, 13), (⟨"ScanMachine$Shape", "faultOf", "(II)I"⟩, 7), (⟨"ScanMachine$Shape", "isPlacedWrong", "(I)Z"⟩, 7), (⟨"ScanMachine$Code", "placeOf", "(I)I"⟩, 10), (⟨"ScanMachine$Code", "hasUnit", "(I)Z"⟩, 10), (⟨"ScanMachine$Code", "frameOf", "(I)I"⟩, 10), (⟨"ScanMachine$Shape", "meetsEarlierUnit", "(II)Z"⟩, 7)]
theorem lw_r1 : ∀ q ∈ lw_privs_1, lw_okq q := List.forall_mem_cons.mpr ⟨lw_p0, List.forall_mem_cons.mpr ⟨lw_p1, List.forall_mem_cons.mpr ⟨lw_p2, List.forall_mem_cons.mpr ⟨lw_p3, List.forall_mem_cons.mpr ⟨lw_p4, List.forall_mem_cons.mpr ⟨lw_p5, List.forall_mem_cons.mpr ⟨lw_p6, List.forall_mem_cons.mpr ⟨lw_p7, List.forall_mem_cons.mpr ⟨lw_p8, List.forall_mem_cons.mpr ⟨lw_p9, List.forall_mem_cons.mpr ⟨lw_p10, List.forall_mem_cons.mpr ⟨lw_p11, List.forall_mem_cons.mpr ⟨lw_p12, List.forall_mem_cons.mpr ⟨lw_p13, List.forall_mem_cons.mpr ⟨lw_p14, List.forall_mem_cons.mpr ⟨lw_p15, fun _ h => absurd h List.not_mem_nil⟩⟩⟩⟩⟩⟩⟩⟩⟩⟩⟩⟩⟩⟩⟩⟩
theorem lw_p16 : lw_okq (⟨"ScanMachine$Code", "sizeOf", "(I)I"⟩, 10) := ⟨⟨by decide +kernel, by decide +kernel⟩, List.mem_of_getElem? (i := 23) (by decide +kernel), List.mem_of_getElem? (i := 356) (by decide +kernel), List.mem_of_getElem? (i := 357) (by decide +kernel)⟩
theorem lw_p17 : lw_okq (⟨"ScanMachine$Shape", "lookAt", "(I)V"⟩, 7) := ⟨⟨by decide +kernel, by decide +kernel⟩, List.mem_of_getElem? (i := 61) (by decide +kernel), List.mem_of_getElem? (i := 360) (by decide +kernel), List.mem_of_getElem? (i := 361) (by decide +kernel)⟩
theorem lw_p18 : lw_okq (⟨"ScanMachine$Code", "numberAt", "(II)I"⟩, 10) := ⟨⟨by decide +kernel, by decide +kernel⟩, List.mem_of_getElem? (i := 23) (by decide +kernel), List.mem_of_getElem? (i := 364) (by decide +kernel), List.mem_of_getElem? (i := 365) (by decide +kernel)⟩
theorem lw_p19 : lw_okq (⟨"ScanMachine$Code", "entry", "([III)I"⟩, 10) := ⟨⟨by decide +kernel, by decide +kernel⟩, List.mem_of_getElem? (i := 23) (by decide +kernel), List.mem_of_getElem? (i := 368) (by decide +kernel), List.mem_of_getElem? (i := 369) (by decide +kernel)⟩
theorem lw_p20 : lw_okq (⟨"ScanMachine$Code", "aAt", "(II)I"⟩, 10) := ⟨⟨by decide +kernel, by decide +kernel⟩, List.mem_of_getElem? (i := 23) (by decide +kernel), List.mem_of_getElem? (i := 372) (by decide +kernel), List.mem_of_getElem? (i := 373) (by decide +kernel)⟩
theorem lw_p21 : lw_okq (⟨"ScanMachine$Code", "bAt", "(II)I"⟩, 10) := ⟨⟨by decide +kernel, by decide +kernel⟩, List.mem_of_getElem? (i := 23) (by decide +kernel), List.mem_of_getElem? (i := 376) (by decide +kernel), List.mem_of_getElem? (i := 377) (by decide +kernel)⟩
theorem lw_p22 : lw_okq (⟨"ScanMachine$Code", "cAt", "(II)I"⟩, 10) := ⟨⟨by decide +kernel, by decide +kernel⟩, List.mem_of_getElem? (i := 23) (by decide +kernel), List.mem_of_getElem? (i := 380) (by decide +kernel), List.mem_of_getElem? (i := 381) (by decide +kernel)⟩
theorem lw_p23 : lw_okq (⟨"ScanMachine$Shape", "faultHere", "()I"⟩, 7) := ⟨⟨by decide +kernel, by decide +kernel⟩, List.mem_of_getElem? (i := 61) (by decide +kernel), List.mem_of_getElem? (i := 384) (by decide +kernel), List.mem_of_getElem? (i := 385) (by decide +kernel)⟩
theorem lw_p24 : lw_okq (⟨"ScanMachine$Shape", "isInstruction", "()Z"⟩, 7) := ⟨⟨by decide +kernel, by decide +kernel⟩, List.mem_of_getElem? (i := 61) (by decide +kernel), List.mem_of_getElem? (i := 388) (by decide +kernel), List.mem_of_getElem? (i := 389) (by decide +kernel)⟩
theorem lw_p25 : lw_okq (⟨"ScanMachine$Shape", "namesWrongUnit", "()Z"⟩, 7) := ⟨⟨by decide +kernel, by decide +kernel⟩, List.mem_of_getElem? (i := 61) (by decide +kernel), List.mem_of_getElem? (i := 393) (by decide +kernel), List.mem_of_getElem? (i := 394) (by decide +kernel)⟩
theorem lw_p26 : lw_okq (⟨"ScanMachine$Shape", "leavesFrame", "()Z"⟩, 7) := ⟨⟨by decide +kernel, by decide +kernel⟩, List.mem_of_getElem? (i := 61) (by decide +kernel), List.mem_of_getElem? (i := 397) (by decide +kernel), List.mem_of_getElem? (i := 398) (by decide +kernel)⟩
theorem lw_p27 : lw_okq (⟨"ScanMachine$Shape", "howManyCells", "()I"⟩, 7) := ⟨⟨by decide +kernel, by decide +kernel⟩, List.mem_of_getElem? (i := 61) (by decide +kernel), List.mem_of_getElem? (i := 401) (by decide +kernel), List.mem_of_getElem? (i := 402) (by decide +kernel)⟩
theorem lw_p28 : lw_okq (⟨"ScanMachine$Shape", "firstCell", "()I"⟩, 7) := ⟨⟨by decide +kernel, by decide +kernel⟩, List.mem_of_getElem? (i := 61) (by decide +kernel), List.mem_of_getElem? (i := 405) (by decide +kernel), List.mem_of_getElem? (i := 406) (by decide +kernel)⟩
theorem lw_p29 : lw_okq (⟨"ScanMachine$Shape", "ownerOfCells", "()I"⟩, 7) := ⟨⟨by decide +kernel, by decide +kernel⟩, List.mem_of_getElem? (i := 61) (by decide +kernel), List.mem_of_getElem? (i := 409) (by decide +kernel), List.mem_of_getElem? (i := 410) (by decide +kernel)⟩
theorem lw_p30 : lw_okq (⟨"ScanMachine$Shape", "touchesCounter", "()Z"⟩, 7) := ⟨⟨by decide +kernel, by decide +kernel⟩, List.mem_of_getElem? (i := 61) (by decide +kernel), List.mem_of_getElem? (i := 413) (by decide +kernel), List.mem_of_getElem? (i := 414) (by decide +kernel)⟩
theorem lw_p31 : lw_okq (⟨"ScanMachine$Shape", "goesWrongWay", "()Z"⟩, 7) := ⟨⟨by decide +kernel, by decide +kernel⟩, List.mem_of_getElem? (i := 61) (by decide +kernel), List.mem_of_getElem? (i := 417) (by decide +kernel), List.mem_of_getElem? (i := 418) (by decide +kernel)⟩
def lw_privs_2 : List (MethodName × Nat) := [(⟨"ScanMachine$Code", "sizeOf", "(I)I"⟩, 10), (⟨"ScanMachine$Shape", "lookAt", "(I)V"⟩, 7), (⟨"ScanMachine$Code", "numberAt", "(II)I"⟩, 10), (⟨"ScanMachine$Code", "entry", "([III)I"⟩, 10), (⟨"ScanMachine$Code", "aAt", "(II)I"⟩, 10), (⟨"ScanMachine$Code", "bAt", "(II)I"⟩, 10), (⟨"ScanMachine$Code", "cAt", "(II)I"⟩, 10), (⟨"ScanMachine$Shape", "faultHere", "()I"⟩, 7), (⟨"ScanMachine$Shape", "isInstruction", "()Z"⟩, 7), (⟨"ScanMachine$Shape", "namesWrongUnit", "()Z"⟩, 7), (⟨"ScanMachine$Shape", "leavesFrame", "()Z"⟩, 7), (⟨"ScanMachine$Shape", "howManyCells", "()I"⟩, 7), (⟨"ScanMachine$Shape", "firstCell", "()I"⟩, 7), (⟨"ScanMachine$Shape", "ownerOfCells", "()I"⟩, 7), (⟨"ScanMachine$Shape", "touchesCounter", "()Z"⟩, 7), (⟨"ScanMachine$Shape", "goesWrongWay", "()Z"⟩, 7)]
theorem lw_r2 : ∀ q ∈ lw_privs_2, lw_okq q := List.forall_mem_cons.mpr ⟨lw_p16, List.forall_mem_cons.mpr ⟨lw_p17, List.forall_mem_cons.mpr ⟨lw_p18, List.forall_mem_cons.mpr ⟨lw_p19, List.forall_mem_cons.mpr ⟨lw_p20, List.forall_mem_cons.mpr ⟨lw_p21, List.forall_mem_cons.mpr ⟨lw_p22, List.forall_mem_cons.mpr ⟨lw_p23, List.forall_mem_cons.mpr ⟨lw_p24, List.forall_mem_cons.mpr ⟨lw_p25, List.forall_mem_cons.mpr ⟨lw_p26, List.forall_mem_cons.mpr ⟨lw_p27, List.forall_mem_cons.mpr ⟨lw_p28, List.forall_mem_cons.mpr ⟨lw_p29, List.forall_mem_cons.mpr ⟨lw_p30, List.forall_mem_cons.mpr ⟨lw_p31, fun _ h => absurd h List.not_mem_nil⟩⟩⟩⟩⟩⟩⟩⟩⟩⟩⟩⟩⟩⟩⟩⟩
theorem lw_p32 : lw_okq (⟨"ScanMachine$Loops", "faultOf", "(I)I"⟩, 4) := ⟨⟨by decide +kernel, by decide +kernel⟩, List.mem_of_getElem? (i := 89) (by decide +kernel), List.mem_of_getElem? (i := 421) (by decide +kernel), List.mem_of_getElem? (i := 422) (by decide +kernel)⟩
theorem lw_p33 : lw_okq (⟨"ScanMachine$Loops", "gatherLoops", "()V"⟩, 4) := ⟨⟨by decide +kernel, by decide +kernel⟩, List.mem_of_getElem? (i := 89) (by decide +kernel), List.mem_of_getElem? (i := 425) (by decide +kernel), List.mem_of_getElem? (i := 426) (by decide +kernel)⟩
theorem lw_p34 : lw_okq (⟨"ScanMachine$Loops", "isWrong", "(I)Z"⟩, 4) := ⟨⟨by decide +kernel, by decide +kernel⟩, List.mem_of_getElem? (i := 89) (by decide +kernel), List.mem_of_getElem? (i := 431) (by decide +kernel), List.mem_of_getElem? (i := 432) (by decide +kernel)⟩
theorem lw_p35 : lw_okq (⟨"ScanMachine$Loops", "isWrongCount", "(I)Z"⟩, 4) := ⟨⟨by decide +kernel, by decide +kernel⟩, List.mem_of_getElem? (i := 89) (by decide +kernel), List.mem_of_getElem? (i := 435) (by decide +kernel), List.mem_of_getElem? (i := 436) (by decide +kernel)⟩
theorem lw_p36 : lw_okq (⟨"ScanMachine$Loops", "isIn", "(II)Z"⟩, 4) := ⟨⟨by decide +kernel, by decide +kernel⟩, List.mem_of_getElem? (i := 89) (by decide +kernel), List.mem_of_getElem? (i := 440) (by decide +kernel), List.mem_of_getElem? (i := 441) (by decide +kernel)⟩
theorem lw_p37 : lw_okq (⟨"ScanMachine$Loops", "isWrongNext", "(I)Z"⟩, 4) := ⟨⟨by decide +kernel, by decide +kernel⟩, List.mem_of_getElem? (i := 89) (by decide +kernel), List.mem_of_getElem? (i := 445) (by decide +kernel), List.mem_of_getElem? (i := 446) (by decide +kernel)⟩
theorem lw_p38 : lw_okq (⟨"ScanMachine$Loops", "isWrongBack", "(I)Z"⟩, 4) := ⟨⟨by decide +kernel, by decide +kernel⟩, List.mem_of_getElem? (i := 89) (by decide +kernel), List.mem_of_getElem? (i := 449) (by decide +kernel), List.mem_of_getElem? (i := 450) (by decide +kernel)⟩
theorem lw_p39 : lw_okq (⟨"ScanMachine$Loops", "goesIntoLoop", "(II)Z"⟩, 4) := ⟨⟨by decide +kernel, by decide +kernel⟩, List.mem_of_getElem? (i := 89) (by decide +kernel), List.mem_of_getElem? (i := 453) (by decide +kernel), List.mem_of_getElem? (i := 454) (by decide +kernel)⟩
theorem lw_p40 : lw_okq (⟨"ScanMachine$Depths", "faultOf", "(I)I"⟩, 2) := ⟨⟨by decide +kernel, by decide +kernel⟩, List.mem_of_getElem? (i := 108) (by decide +kernel), List.mem_of_getElem? (i := 457) (by decide +kernel), List.mem_of_getElem? (i := 458) (by decide +kernel)⟩
theorem lw_p41 : lw_okq (⟨"ScanMachine$Depths", "faultAt", "(III)I"⟩, 2) := ⟨⟨by decide +kernel, by decide +kernel⟩, List.mem_of_getElem? (i := 108) (by decide +kernel), List.mem_of_getElem? (i := 463) (by decide +kernel), List.mem_of_getElem? (i := 464) (by decide +kernel)⟩
theorem lw_p42 : lw_okq (⟨"ScanMachine$Depths", "agrees", "(II)Z"⟩, 2) := ⟨⟨by decide +kernel, by decide +kernel⟩, List.mem_of_getElem? (i := 108) (by decide +kernel), List.mem_of_getElem? (i := 472) (by decide +kernel), List.mem_of_getElem? (i := 473) (by decide +kernel)⟩
theorem lw_p43 : lw_okq (⟨"ScanMachine$Depths", "targetOf", "(III)I"⟩, 2) := ⟨⟨by decide +kernel, by decide +kernel⟩, List.mem_of_getElem? (i := 108) (by decide +kernel), List.mem_of_getElem? (i := 476) (by decide +kernel), List.mem_of_getElem? (i := 477) (by decide +kernel)⟩
theorem lw_p44 : lw_okq (⟨"ScanMachine$Ways", "faultOf", "(I)I"⟩, 6) := ⟨⟨by decide +kernel, by decide +kernel⟩, List.mem_of_getElem? (i := 121) (by decide +kernel), List.mem_of_getElem? (i := 482) (by decide +kernel), List.mem_of_getElem? (i := 483) (by decide +kernel)⟩
theorem lw_p45 : lw_okq (⟨"ScanMachine$Ways", "walk", "(II)V"⟩, 6) := ⟨⟨by decide +kernel, by decide +kernel⟩, List.mem_of_getElem? (i := 121) (by decide +kernel), List.mem_of_getElem? (i := 489) (by decide +kernel), List.mem_of_getElem? (i := 490) (by decide +kernel)⟩
theorem lw_p46 : lw_okq (⟨"ScanMachine$Ways", "goOn", "(IJ)V"⟩, 6) := ⟨⟨by decide +kernel, by decide +kernel⟩, List.mem_of_getElem? (i := 121) (by decide +kernel), List.mem_of_getElem? (i := 497) (by decide +kernel), List.mem_of_getElem? (i := 498) (by decide +kernel)⟩
theorem lw_p47 : lw_okq (⟨"ScanMachine$Ways", "reach", "(IJ)V"⟩, 6) := ⟨⟨by decide +kernel, by decide +kernel⟩, List.mem_of_getElem? (i := 121) (by decide +kernel), List.mem_of_getElem? (i := 502) (by decide +kernel), List.mem_of_getElem? (i := 503) (by decide +kernel)⟩
def lw_privs_3 : List (MethodName × Nat) := [(⟨"ScanMachine$Loops", "faultOf", "(I)I"⟩, 4), (⟨"ScanMachine$Loops", "gatherLoops", "()V"⟩, 4), (⟨"ScanMachine$Loops", "isWrong", "(I)Z"⟩, 4), (⟨"ScanMachine$Loops", "isWrongCount", "(I)Z"⟩, 4), (⟨"ScanMachine$Loops", "isIn", "(II)Z"⟩, 4), (⟨"ScanMachine$Loops", "isWrongNext", "(I)Z"⟩, 4), (⟨"ScanMachine$Loops", "isWrongBack", "(I)Z"⟩, 4), (⟨"ScanMachine$Loops", "goesIntoLoop", "(II)Z"⟩, 4), (⟨"ScanMachine$Depths", "faultOf", "(I)I"⟩, 2), (⟨"ScanMachine$Depths", "faultAt", "(III)I"⟩, 2), (⟨"ScanMachine$Depths", "agrees", "(II)Z"⟩, 2), (⟨"ScanMachine$Depths", "targetOf", "(III)I"⟩, 2), (⟨"ScanMachine$Ways", "faultOf", "(I)I"⟩, 6), (⟨"ScanMachine$Ways", "walk", "(II)V"⟩, 6), (⟨"ScanMachine$Ways", "goOn", "(IJ)V"⟩, 6), (⟨"ScanMachine$Ways", "reach", "(IJ)V"⟩, 6)]
theorem lw_r3 : ∀ q ∈ lw_privs_3, lw_okq q := List.forall_mem_cons.mpr ⟨lw_p32, List.forall_mem_cons.mpr ⟨lw_p33, List.forall_mem_cons.mpr ⟨lw_p34, List.forall_mem_cons.mpr ⟨lw_p35, List.forall_mem_cons.mpr ⟨lw_p36, List.forall_mem_cons.mpr ⟨lw_p37, List.forall_mem_cons.mpr ⟨lw_p38, List.forall_mem_cons.mpr ⟨lw_p39, List.forall_mem_cons.mpr ⟨lw_p40, List.forall_mem_cons.mpr ⟨lw_p41, List.forall_mem_cons.mpr ⟨lw_p42, List.forall_mem_cons.mpr ⟨lw_p43, List.forall_mem_cons.mpr ⟨lw_p44, List.forall_mem_cons.mpr ⟨lw_p45, List.forall_mem_cons.mpr ⟨lw_p46, List.forall_mem_cons.mpr ⟨lw_p47, fun _ h => absurd h List.not_mem_nil⟩⟩⟩⟩⟩⟩⟩⟩⟩⟩⟩⟩⟩⟩⟩⟩
theorem lw_p48 : lw_okq (⟨"ScanMachine$Ways", "passLoop", "(IJ)V"⟩, 6) := ⟨⟨by decide +kernel, by decide +kernel⟩, List.mem_of_getElem? (i := 121) (by decide +kernel), List.mem_of_getElem? (i := 508) (by decide +kernel), List.mem_of_getElem? (i := 509) (by decide +kernel)⟩
theorem lw_p49 : lw_okq (⟨"ScanMachine$Ways", "stepsOf", "(I)J"⟩, 6) := ⟨⟨by decide +kernel, by decide +kernel⟩, List.mem_of_getElem? (i := 121) (by decide +kernel), List.mem_of_getElem? (i := 512) (by decide +kernel), List.mem_of_getElem? (i := 513) (by decide +kernel)⟩
theorem lw_p50 : lw_okq (⟨"ScanMachine$Runner", "run", "(I)I"⟩, 13) := ⟨⟨by decide +kernel, by decide +kernel⟩, List.mem_of_getElem? (i := 167) (by decide +kernel), List.mem_of_getElem? (i := 525) (by decide +kernel), List.mem_of_getElem? (i := 526) (by decide +kernel)⟩
theorem lw_p51 : lw_okq (⟨"ScanMachine$Runner", "step", "()V"⟩, 13) := ⟨⟨by decide +kernel, by decide +kernel⟩, List.mem_of_getElem? (i := 167) (by decide +kernel), List.mem_of_getElem? (i := 533) (by decide +kernel), List.mem_of_getElem? (i := 534) (by decide +kernel)⟩
theorem lw_p52 : lw_okq (⟨"ScanMachine$Runner", "move", "(IIII)V"⟩, 13) := ⟨⟨by decide +kernel, by decide +kernel⟩, List.mem_of_getElem? (i := 167) (by decide +kernel), List.mem_of_getElem? (i := 541) (by decide +kernel), List.mem_of_getElem? (i := 542) (by decide +kernel)⟩
theorem lw_p53 : lw_okq (⟨"ScanMachine$Memory", "push", "(I)V"⟩, 4) := ⟨⟨by decide +kernel, by decide +kernel⟩, List.mem_of_getElem? (i := 147) (by decide +kernel), List.mem_of_getElem? (i := 545) (by decide +kernel), List.mem_of_getElem? (i := 546) (by decide +kernel)⟩
theorem lw_p54 : lw_okq (⟨"ScanMachine$Memory", "cell", "(I)I"⟩, 4) := ⟨⟨by decide +kernel, by decide +kernel⟩, List.mem_of_getElem? (i := 147) (by decide +kernel), List.mem_of_getElem? (i := 550) (by decide +kernel), List.mem_of_getElem? (i := 551) (by decide +kernel)⟩
theorem lw_p55 : lw_okq (⟨"ScanMachine$Memory", "pop", "()I"⟩, 4) := ⟨⟨by decide +kernel, by decide +kernel⟩, List.mem_of_getElem? (i := 147) (by decide +kernel), List.mem_of_getElem? (i := 554) (by decide +kernel), List.mem_of_getElem? (i := 555) (by decide +kernel)⟩
theorem lw_p56 : lw_okq (⟨"ScanMachine$Memory", "change", "(II)V"⟩, 4) := ⟨⟨by decide +kernel, by decide +kernel⟩, List.mem_of_getElem? (i := 147) (by decide +kernel), List.mem_of_getElem? (i := 558) (by decide +kernel), List.mem_of_getElem? (i := 559) (by decide +kernel)⟩
theorem lw_p57 : lw_okq (⟨"ScanMachine$Runner", "take", "(III)V"⟩, 13) := ⟨⟨by decide +kernel, by decide +kernel⟩, List.mem_of_getElem? (i := 167) (by decide +kernel), List.mem_of_getElem? (i := 562) (by decide +kernel), List.mem_of_getElem? (i := 563) (by decide +kernel)⟩
theorem lw_p58 : lw_okq (⟨"ScanMachine$Runner", "put", "(III)V"⟩, 13) := ⟨⟨by decide +kernel, by decide +kernel⟩, List.mem_of_getElem? (i := 167) (by decide +kernel), List.mem_of_getElem? (i := 566) (by decide +kernel), List.mem_of_getElem? (i := 567) (by decide +kernel)⟩
theorem lw_p59 : lw_okq (⟨"ScanMachine$Runner", "reckon", "(II)V"⟩, 13) := ⟨⟨by decide +kernel, by decide +kernel⟩, List.mem_of_getElem? (i := 167) (by decide +kernel), List.mem_of_getElem? (i := 571) (by decide +kernel), List.mem_of_getElem? (i := 572) (by decide +kernel)⟩
theorem lw_p60 : lw_okq (⟨"ScanMachine$Blocks", "run", "(III)V"⟩, 1) := ⟨⟨by decide +kernel, by decide +kernel⟩, List.mem_of_getElem? (i := 173) (by decide +kernel), List.mem_of_getElem? (i := 602) (by decide +kernel), List.mem_of_getElem? (i := 603) (by decide +kernel)⟩
theorem lw_p61 : lw_okq (⟨"ScanMachine$Blocks", "runTimer", "(IIZI)V"⟩, 1) := ⟨⟨by decide +kernel, by decide +kernel⟩, List.mem_of_getElem? (i := 173) (by decide +kernel), List.mem_of_getElem? (i := 607) (by decide +kernel), List.mem_of_getElem? (i := 608) (by decide +kernel)⟩
theorem lw_p62 : lw_okq (⟨"ScanMachine$Blocks", "isSet", "(I)Z"⟩, 1) := ⟨⟨by decide +kernel, by decide +kernel⟩, List.mem_of_getElem? (i := 173) (by decide +kernel), List.mem_of_getElem? (i := 612) (by decide +kernel), List.mem_of_getElem? (i := 613) (by decide +kernel)⟩
theorem lw_p63 : lw_okq (⟨"ScanMachine$Blocks", "putFlag", "(IZ)V"⟩, 1) := ⟨⟨by decide +kernel, by decide +kernel⟩, List.mem_of_getElem? (i := 173) (by decide +kernel), List.mem_of_getElem? (i := 620) (by decide +kernel), List.mem_of_getElem? (i := 621) (by decide +kernel)⟩
def lw_privs_4 : List (MethodName × Nat) := [(⟨"ScanMachine$Ways", "passLoop", "(IJ)V"⟩, 6), (⟨"ScanMachine$Ways", "stepsOf", "(I)J"⟩, 6), (⟨"ScanMachine$Runner", "run", "(I)I"⟩, 13), (⟨"ScanMachine$Runner", "step", "()V"⟩, 13), (⟨"ScanMachine$Runner", "move", "(IIII)V"⟩, 13), (⟨"ScanMachine$Memory", "push", "(I)V"⟩, 4), (⟨"ScanMachine$Memory", "cell", "(I)I"⟩, 4), (⟨"ScanMachine$Memory", "pop", "()I"⟩, 4), (⟨"ScanMachine$Memory", "change", "(II)V"⟩, 4), (⟨"ScanMachine$Runner", "take", "(III)V"⟩, 13), (⟨"ScanMachine$Runner", "put", "(III)V"⟩, 13), (⟨"ScanMachine$Runner", "reckon", "(II)V"⟩, 13), (⟨"ScanMachine$Blocks", "run", "(III)V"⟩, 1), (⟨"ScanMachine$Blocks", "runTimer", "(IIZI)V"⟩, 1), (⟨"ScanMachine$Blocks", "isSet", "(I)Z"⟩, 1), (⟨"ScanMachine$Blocks", "putFlag", "(IZ)V"⟩, 1)]
theorem lw_r4 : ∀ q ∈ lw_privs_4, lw_okq q := List.forall_mem_cons.mpr ⟨lw_p48, List.forall_mem_cons.mpr ⟨lw_p49, List.forall_mem_cons.mpr ⟨lw_p50, List.forall_mem_cons.mpr ⟨lw_p51, List.forall_mem_cons.mpr ⟨lw_p52, List.forall_mem_cons.mpr ⟨lw_p53, List.forall_mem_cons.mpr ⟨lw_p54, List.forall_mem_cons.mpr ⟨lw_p55, List.forall_mem_cons.mpr ⟨lw_p56, List.forall_mem_cons.mpr ⟨lw_p57, List.forall_mem_cons.mpr ⟨lw_p58, List.forall_mem_cons.mpr ⟨lw_p59, List.forall_mem_cons.mpr ⟨lw_p60, List.forall_mem_cons.mpr ⟨lw_p61, List.forall_mem_cons.mpr ⟨lw_p62, List.forall_mem_cons.mpr ⟨lw_p63, fun _ h => absurd h List.not_mem_nil⟩⟩⟩⟩⟩⟩⟩⟩⟩⟩⟩⟩⟩⟩⟩⟩
theorem lw_p64 : lw_okq (⟨"ScanMachine$Blocks", "runOffDelay", "(IZZII)V"⟩, 1) := ⟨⟨by decide +kernel, by decide +kernel⟩, List.mem_of_getElem? (i := 173) (by decide +kernel), List.mem_of_getElem? (i := 624) (by decide +kernel), List.mem_of_getElem? (i := 625) (by decide +kernel)⟩
theorem lw_p65 : lw_okq (⟨"ScanMachine$Blocks", "runPulse", "(IZZII)V"⟩, 1) := ⟨⟨by decide +kernel, by decide +kernel⟩, List.mem_of_getElem? (i := 173) (by decide +kernel), List.mem_of_getElem? (i := 628) (by decide +kernel), List.mem_of_getElem? (i := 629) (by decide +kernel)⟩
theorem lw_p66 : lw_okq (⟨"ScanMachine$Blocks", "runCounter", "(IIZ)V"⟩, 1) := ⟨⟨by decide +kernel, by decide +kernel⟩, List.mem_of_getElem? (i := 173) (by decide +kernel), List.mem_of_getElem? (i := 632) (by decide +kernel), List.mem_of_getElem? (i := 633) (by decide +kernel)⟩
theorem lw_p67 : lw_okq (⟨"ScanMachine$Blocks", "runLatch", "(IIZ)V"⟩, 1) := ⟨⟨by decide +kernel, by decide +kernel⟩, List.mem_of_getElem? (i := 173) (by decide +kernel), List.mem_of_getElem? (i := 636) (by decide +kernel), List.mem_of_getElem? (i := 637) (by decide +kernel)⟩
theorem lw_p68 : lw_okq (⟨"ScanMachine$Runner", "go", "(III)V"⟩, 13) := ⟨⟨by decide +kernel, by decide +kernel⟩, List.mem_of_getElem? (i := 167) (by decide +kernel), List.mem_of_getElem? (i := 640) (by decide +kernel), List.mem_of_getElem? (i := 641) (by decide +kernel)⟩
theorem lw_p69 : lw_okq (⟨"ScanMachine$Runner", "countDown", "(II)V"⟩, 13) := ⟨⟨by decide +kernel, by decide +kernel⟩, List.mem_of_getElem? (i := 167) (by decide +kernel), List.mem_of_getElem? (i := 644) (by decide +kernel), List.mem_of_getElem? (i := 645) (by decide +kernel)⟩
theorem lw_p70 : lw_okq (⟨"ScanMachine$Runner", "descend", "(II)V"⟩, 13) := ⟨⟨by decide +kernel, by decide +kernel⟩, List.mem_of_getElem? (i := 167) (by decide +kernel), List.mem_of_getElem? (i := 648) (by decide +kernel), List.mem_of_getElem? (i := 649) (by decide +kernel)⟩
theorem lw_p71 : lw_okq (⟨"ScanMachine$Runner", "goBack", "()V"⟩, 13) := ⟨⟨by decide +kernel, by decide +kernel⟩, List.mem_of_getElem? (i := 167) (by decide +kernel), List.mem_of_getElem? (i := 652) (by decide +kernel), List.mem_of_getElem? (i := 653) (by decide +kernel)⟩
theorem lw_p72 : lw_okq (⟨"ScanMachine", "mayTouch", "(I)Z"⟩, 13) := ⟨⟨by decide +kernel, by decide +kernel⟩, List.mem_of_getElem? (i := 15) (by decide +kernel), List.mem_of_getElem? (i := 660) (by decide +kernel), List.mem_of_getElem? (i := 661) (by decide +kernel)⟩
theorem lw_p73 : lw_okq (⟨"ScanMachineModel", "stop", "()V"⟩, 28) := ⟨⟨by decide +kernel, by decide +kernel⟩, List.mem_of_getElem? (i := 674) (by decide +kernel), List.mem_of_getElem? (i := 684) (by decide +kernel), List.mem_of_getElem? (i := 685) (by decide +kernel)⟩
theorem lw_p74 : lw_okq (⟨"ScanMachineModel", "unitFault", "(I)I"⟩, 28) := ⟨⟨by decide +kernel, by decide +kernel⟩, List.mem_of_getElem? (i := 674) (by decide +kernel), List.mem_of_getElem? (i := 786) (by decide +kernel), List.mem_of_getElem? (i := 787) (by decide +kernel)⟩
theorem lw_p75 : lw_okq (⟨"ScanMachineModel", "placeIsWrong", "(I)Z"⟩, 28) := ⟨⟨by decide +kernel, by decide +kernel⟩, List.mem_of_getElem? (i := 674) (by decide +kernel), List.mem_of_getElem? (i := 790) (by decide +kernel), List.mem_of_getElem? (i := 791) (by decide +kernel)⟩
theorem lw_p76 : lw_okq (⟨"ScanMachineModel", "lineFault", "(II)I"⟩, 28) := ⟨⟨by decide +kernel, by decide +kernel⟩, List.mem_of_getElem? (i := 674) (by decide +kernel), List.mem_of_getElem? (i := 794) (by decide +kernel), List.mem_of_getElem? (i := 795) (by decide +kernel)⟩
theorem lw_p77 : lw_okq (⟨"ScanMachineModel", "isWrongNumber", "(I)Z"⟩, 28) := ⟨⟨by decide +kernel, by decide +kernel⟩, List.mem_of_getElem? (i := 674) (by decide +kernel), List.mem_of_getElem? (i := 798) (by decide +kernel), List.mem_of_getElem? (i := 799) (by decide +kernel)⟩
theorem lw_p78 : lw_okq (⟨"ScanMachineModel", "isWrongUnit", "(II)Z"⟩, 28) := ⟨⟨by decide +kernel, by decide +kernel⟩, List.mem_of_getElem? (i := 674) (by decide +kernel), List.mem_of_getElem? (i := 810) (by decide +kernel), List.mem_of_getElem? (i := 811) (by decide +kernel)⟩
theorem lw_p79 : lw_okq (⟨"ScanMachineModel", "namesUnit", "(I)Z"⟩, 28) := ⟨⟨by decide +kernel, by decide +kernel⟩, List.mem_of_getElem? (i := 674) (by decide +kernel), List.mem_of_getElem? (i := 814) (by decide +kernel), List.mem_of_getElem? (i := 815) (by decide +kernel)⟩
def lw_privs_5 : List (MethodName × Nat) := [(⟨"ScanMachine$Blocks", "runOffDelay", "(IZZII)V"⟩, 1), (⟨"ScanMachine$Blocks", "runPulse", "(IZZII)V"⟩, 1), (⟨"ScanMachine$Blocks", "runCounter", "(IIZ)V"⟩, 1), (⟨"ScanMachine$Blocks", "runLatch", "(IIZ)V"⟩, 1), (⟨"ScanMachine$Runner", "go", "(III)V"⟩, 13), (⟨"ScanMachine$Runner", "countDown", "(II)V"⟩, 13), (⟨"ScanMachine$Runner", "descend", "(II)V"⟩, 13), (⟨"ScanMachine$Runner", "goBack", "()V"⟩, 13), (⟨"ScanMachine", "mayTouch", "(I)Z"⟩, 13), (⟨"ScanMachineModel", "stop", "()V"⟩, 28), (⟨"ScanMachineModel", "unitFault", "(I)I"⟩, 28), (⟨"ScanMachineModel", "placeIsWrong", "(I)Z"⟩, 28), (⟨"ScanMachineModel", "lineFault", "(II)I"⟩, 28), (⟨"ScanMachineModel", "isWrongNumber", "(I)Z"⟩, 28), (⟨"ScanMachineModel", "isWrongUnit", "(II)Z"⟩, 28), (⟨"ScanMachineModel", "namesUnit", "(I)Z"⟩, 28)]
theorem lw_r5 : ∀ q ∈ lw_privs_5, lw_okq q := List.forall_mem_cons.mpr ⟨lw_p64, List.forall_mem_cons.mpr ⟨lw_p65, List.forall_mem_cons.mpr ⟨lw_p66, List.forall_mem_cons.mpr ⟨lw_p67, List.forall_mem_cons.mpr ⟨lw_p68, List.forall_mem_cons.mpr ⟨lw_p69, List.forall_mem_cons.mpr ⟨lw_p70, List.forall_mem_cons.mpr ⟨lw_p71, List.forall_mem_cons.mpr ⟨lw_p72, List.forall_mem_cons.mpr ⟨lw_p73, List.forall_mem_cons.mpr ⟨lw_p74, List.forall_mem_cons.mpr ⟨lw_p75, List.forall_mem_cons.mpr ⟨lw_p76, List.forall_mem_cons.mpr ⟨lw_p77, List.forall_mem_cons.mpr ⟨lw_p78, List.forall_mem_cons.mpr ⟨lw_p79, fun _ h => absurd h List.not_mem_nil⟩⟩⟩⟩⟩⟩⟩⟩⟩⟩⟩⟩⟩⟩⟩⟩
theorem lw_p80 : lw_okq (⟨"ScanMachineModel", "isWrongCell", "(II)Z"⟩, 28) := ⟨⟨by decide +kernel, by decide +kernel⟩, List.mem_of_getElem? (i := 674) (by decide +kernel), List.mem_of_getElem? (i := 818) (by decide +kernel), List.mem_of_getElem? (i := 819) (by decide +kernel)⟩
theorem lw_p81 : lw_okq (⟨"ScanMachineModel", "cellsOf", "(I)I"⟩, 28) := ⟨⟨by decide +kernel, by decide +kernel⟩, List.mem_of_getElem? (i := 674) (by decide +kernel), List.mem_of_getElem? (i := 822) (by decide +kernel), List.mem_of_getElem? (i := 823) (by decide +kernel)⟩
theorem lw_p82 : lw_okq (⟨"ScanMachineModel", "firstCell", "(I)J"⟩, 28) := ⟨⟨by decide +kernel, by decide +kernel⟩, List.mem_of_getElem? (i := 674) (by decide +kernel), List.mem_of_getElem? (i := 826) (by decide +kernel), List.mem_of_getElem? (i := 827) (by decide +kernel)⟩
theorem lw_p83 : lw_okq (⟨"ScanMachineModel", "touchesCounter", "(II)Z"⟩, 28) := ⟨⟨by decide +kernel, by decide +kernel⟩, List.mem_of_getElem? (i := 674) (by decide +kernel), List.mem_of_getElem? (i := 830) (by decide +kernel), List.mem_of_getElem? (i := 831) (by decide +kernel)⟩
theorem lw_p84 : lw_okq (⟨"ScanMachineModel", "isCounter", "(IJ)Z"⟩, 28) := ⟨⟨by decide +kernel, by decide +kernel⟩, List.mem_of_getElem? (i := 674) (by decide +kernel), List.mem_of_getElem? (i := 834) (by decide +kernel), List.mem_of_getElem? (i := 835) (by decide +kernel)⟩
theorem lw_p85 : lw_okq (⟨"ScanMachineModel", "goesWrong", "(I)Z"⟩, 28) := ⟨⟨by decide +kernel, by decide +kernel⟩, List.mem_of_getElem? (i := 674) (by decide +kernel), List.mem_of_getElem? (i := 838) (by decide +kernel), List.mem_of_getElem? (i := 839) (by decide +kernel)⟩
theorem lw_p86 : lw_okq (⟨"ScanMachineModel", "numberAt", "(I)I"⟩, 28) := ⟨⟨by decide +kernel, by decide +kernel⟩, List.mem_of_getElem? (i := 674) (by decide +kernel), List.mem_of_getElem? (i := 842) (by decide +kernel), List.mem_of_getElem? (i := 843) (by decide +kernel)⟩
theorem lw_p87 : lw_okq (⟨"ScanMachineModel", "isWrongLoop", "(I)Z"⟩, 28) := ⟨⟨by decide +kernel, by decide +kernel⟩, List.mem_of_getElem? (i := 674) (by decide +kernel), List.mem_of_getElem? (i := 846) (by decide +kernel), List.mem_of_getElem? (i := 847) (by decide +kernel)⟩
theorem lw_p88 : lw_okq (⟨"ScanMachineModel", "hasSame", "(III)Z"⟩, 28) := ⟨⟨by decide +kernel, by decide +kernel⟩, List.mem_of_getElem? (i := 674) (by decide +kernel), List.mem_of_getElem? (i := 850) (by decide +kernel), List.mem_of_getElem? (i := 851) (by decide +kernel)⟩
theorem lw_p89 : lw_okq (⟨"ScanMachineModel", "isInLoop", "(II)Z"⟩, 28) := ⟨⟨by decide +kernel, by decide +kernel⟩, List.mem_of_getElem? (i := 674) (by decide +kernel), List.mem_of_getElem? (i := 854) (by decide +kernel), List.mem_of_getElem? (i := 855) (by decide +kernel)⟩
theorem lw_p90 : lw_okq (⟨"ScanMachineModel", "lastOf", "(I)I"⟩, 28) := ⟨⟨by decide +kernel, by decide +kernel⟩, List.mem_of_getElem? (i := 674) (by decide +kernel), List.mem_of_getElem? (i := 858) (by decide +kernel), List.mem_of_getElem? (i := 859) (by decide +kernel)⟩
theorem lw_p91 : lw_okq (⟨"ScanMachineModel", "stackFault", "(I)I"⟩, 28) := ⟨⟨by decide +kernel, by decide +kernel⟩, List.mem_of_getElem? (i := 674) (by decide +kernel), List.mem_of_getElem? (i := 862) (by decide +kernel), List.mem_of_getElem? (i := 863) (by decide +kernel)⟩
theorem lw_p92 : lw_okq (⟨"ScanMachineModel", "comes", "(II)Z"⟩, 28) := ⟨⟨by decide +kernel, by decide +kernel⟩, List.mem_of_getElem? (i := 674) (by decide +kernel), List.mem_of_getElem? (i := 872) (by decide +kernel), List.mem_of_getElem? (i := 873) (by decide +kernel)⟩
theorem lw_p93 : lw_okq (⟨"ScanMachineModel", "stepsOf", "()J"⟩, 28) := ⟨⟨by decide +kernel, by decide +kernel⟩, List.mem_of_getElem? (i := 674) (by decide +kernel), List.mem_of_getElem? (i := 876) (by decide +kernel), List.mem_of_getElem? (i := 877) (by decide +kernel)⟩
theorem lw_p94 : lw_okq (⟨"ScanMachineModel", "way", "(II)J"⟩, 28) := ⟨⟨by decide +kernel, by decide +kernel⟩, List.mem_of_getElem? (i := 674) (by decide +kernel), List.mem_of_getElem? (i := 880) (by decide +kernel), List.mem_of_getElem? (i := 881) (by decide +kernel)⟩
theorem lw_p95 : lw_okq (⟨"ScanMachineModel", "wayTo", "(II)J"⟩, 28) := ⟨⟨by decide +kernel, by decide +kernel⟩, List.mem_of_getElem? (i := 674) (by decide +kernel), List.mem_of_getElem? (i := 884) (by decide +kernel), List.mem_of_getElem? (i := 885) (by decide +kernel)⟩
def lw_privs_6 : List (MethodName × Nat) := [(⟨"ScanMachineModel", "isWrongCell", "(II)Z"⟩, 28), (⟨"ScanMachineModel", "cellsOf", "(I)I"⟩, 28), (⟨"ScanMachineModel", "firstCell", "(I)J"⟩, 28), (⟨"ScanMachineModel", "touchesCounter", "(II)Z"⟩, 28), (⟨"ScanMachineModel", "isCounter", "(IJ)Z"⟩, 28), (⟨"ScanMachineModel", "goesWrong", "(I)Z"⟩, 28), (⟨"ScanMachineModel", "numberAt", "(I)I"⟩, 28), (⟨"ScanMachineModel", "isWrongLoop", "(I)Z"⟩, 28), (⟨"ScanMachineModel", "hasSame", "(III)Z"⟩, 28), (⟨"ScanMachineModel", "isInLoop", "(II)Z"⟩, 28), (⟨"ScanMachineModel", "lastOf", "(I)I"⟩, 28), (⟨"ScanMachineModel", "stackFault", "(I)I"⟩, 28), (⟨"ScanMachineModel", "comes", "(II)Z"⟩, 28), (⟨"ScanMachineModel", "stepsOf", "()J"⟩, 28), (⟨"ScanMachineModel", "way", "(II)J"⟩, 28), (⟨"ScanMachineModel", "wayTo", "(II)J"⟩, 28)]
theorem lw_r6 : ∀ q ∈ lw_privs_6, lw_okq q := List.forall_mem_cons.mpr ⟨lw_p80, List.forall_mem_cons.mpr ⟨lw_p81, List.forall_mem_cons.mpr ⟨lw_p82, List.forall_mem_cons.mpr ⟨lw_p83, List.forall_mem_cons.mpr ⟨lw_p84, List.forall_mem_cons.mpr ⟨lw_p85, List.forall_mem_cons.mpr ⟨lw_p86, List.forall_mem_cons.mpr ⟨lw_p87, List.forall_mem_cons.mpr ⟨lw_p88, List.forall_mem_cons.mpr ⟨lw_p89, List.forall_mem_cons.mpr ⟨lw_p90, List.forall_mem_cons.mpr ⟨lw_p91, List.forall_mem_cons.mpr ⟨lw_p92, List.forall_mem_cons.mpr ⟨lw_p93, List.forall_mem_cons.mpr ⟨lw_p94, List.forall_mem_cons.mpr ⟨lw_p95, fun _ h => absurd h List.not_mem_nil⟩⟩⟩⟩⟩⟩⟩⟩⟩⟩⟩⟩⟩⟩⟩⟩
theorem lw_p96 : lw_okq (⟨"ScanMachineModel", "times", "(IJ)J"⟩, 28) := ⟨⟨by decide +kernel, by decide +kernel⟩, List.mem_of_getElem? (i := 674) (by decide +kernel), List.mem_of_getElem? (i := 899) (by decide +kernel), List.mem_of_getElem? (i := 900) (by decide +kernel)⟩
theorem lw_p97 : lw_okq (⟨"ScanMachineModel", "act", "(II)I"⟩, 28) := ⟨⟨by decide +kernel, by decide +kernel⟩, List.mem_of_getElem? (i := 674) (by decide +kernel), List.mem_of_getElem? (i := 910) (by decide +kernel), List.mem_of_getElem? (i := 911) (by decide +kernel)⟩
theorem lw_p98 : lw_okq (⟨"ScanMachineModel", "push", "(I)V"⟩, 28) := ⟨⟨by decide +kernel, by decide +kernel⟩, List.mem_of_getElem? (i := 674) (by decide +kernel), List.mem_of_getElem? (i := 914) (by decide +kernel), List.mem_of_getElem? (i := 915) (by decide +kernel)⟩
theorem lw_p99 : lw_okq (⟨"ScanMachineModel", "pop", "()I"⟩, 28) := ⟨⟨by decide +kernel, by decide +kernel⟩, List.mem_of_getElem? (i := 674) (by decide +kernel), List.mem_of_getElem? (i := 918) (by decide +kernel), List.mem_of_getElem? (i := 919) (by decide +kernel)⟩
theorem lw_p100 : lw_okq (⟨"ScanMachineModel", "index", "(III)I"⟩, 28) := ⟨⟨by decide +kernel, by decide +kernel⟩, List.mem_of_getElem? (i := 674) (by decide +kernel), List.mem_of_getElem? (i := 922) (by decide +kernel), List.mem_of_getElem? (i := 923) (by decide +kernel)⟩
theorem lw_p101 : lw_okq (⟨"ScanMachineModel", "block", "(II)V"⟩, 28) := ⟨⟨by decide +kernel, by decide +kernel⟩, List.mem_of_getElem? (i := 674) (by decide +kernel), List.mem_of_getElem? (i := 939) (by decide +kernel), List.mem_of_getElem? (i := 940) (by decide +kernel)⟩
theorem lw_p102 : lw_okq (⟨"ScanMachineModel", "timer", "(II)V"⟩, 28) := ⟨⟨by decide +kernel, by decide +kernel⟩, List.mem_of_getElem? (i := 674) (by decide +kernel), List.mem_of_getElem? (i := 943) (by decide +kernel), List.mem_of_getElem? (i := 944) (by decide +kernel)⟩
theorem lw_p103 : lw_okq (⟨"ScanMachineModel", "grown", "(II)I"⟩, 28) := ⟨⟨by decide +kernel, by decide +kernel⟩, List.mem_of_getElem? (i := 674) (by decide +kernel), List.mem_of_getElem? (i := 947) (by decide +kernel), List.mem_of_getElem? (i := 948) (by decide +kernel)⟩
theorem lw_p104 : lw_okq (⟨"ScanMachineModel", "counter", "(II)V"⟩, 28) := ⟨⟨by decide +kernel, by decide +kernel⟩, List.mem_of_getElem? (i := 674) (by decide +kernel), List.mem_of_getElem? (i := 951) (by decide +kernel), List.mem_of_getElem? (i := 952) (by decide +kernel)⟩
def lw_privs_7 : List (MethodName × Nat) := [(⟨"ScanMachineModel", "times", "(IJ)J"⟩, 28), (⟨"ScanMachineModel", "act", "(II)I"⟩, 28), (⟨"ScanMachineModel", "push", "(I)V"⟩, 28), (⟨"ScanMachineModel", "pop", "()I"⟩, 28), (⟨"ScanMachineModel", "index", "(III)I"⟩, 28), (⟨"ScanMachineModel", "block", "(II)V"⟩, 28), (⟨"ScanMachineModel", "timer", "(II)V"⟩, 28), (⟨"ScanMachineModel", "grown", "(II)I"⟩, 28), (⟨"ScanMachineModel", "counter", "(II)V"⟩, 28)]
theorem lw_r7 : ∀ q ∈ lw_privs_7, lw_okq q := List.forall_mem_cons.mpr ⟨lw_p96, List.forall_mem_cons.mpr ⟨lw_p97, List.forall_mem_cons.mpr ⟨lw_p98, List.forall_mem_cons.mpr ⟨lw_p99, List.forall_mem_cons.mpr ⟨lw_p100, List.forall_mem_cons.mpr ⟨lw_p101, List.forall_mem_cons.mpr ⟨lw_p102, List.forall_mem_cons.mpr ⟨lw_p103, List.forall_mem_cons.mpr ⟨lw_p104, fun _ h => absurd h List.not_mem_nil⟩⟩⟩⟩⟩⟩⟩⟩⟩
def lw_privs : List (MethodName × Nat) := lw_privs_1 ++ (lw_privs_2 ++ (lw_privs_3 ++ (lw_privs_4 ++ (lw_privs_5 ++ (lw_privs_6 ++ (lw_privs_7))))))
def lw_tbl : List Cond := k2_sels lw_privs ++ tables_1
theorem lw_privs_ok : ∀ q ∈ lw_privs, lw_okq q := by
  show ∀ q ∈ lw_privs_1 ++ (lw_privs_2 ++ (lw_privs_3 ++ (lw_privs_4 ++ (lw_privs_5 ++ (lw_privs_6 ++ (lw_privs_7)))))), lw_okq q
  exact List.forall_mem_append.mpr ⟨lw_r1, List.forall_mem_append.mpr ⟨lw_r2, List.forall_mem_append.mpr ⟨lw_r3, List.forall_mem_append.mpr ⟨lw_r4, List.forall_mem_append.mpr ⟨lw_r5, List.forall_mem_append.mpr ⟨lw_r6, lw_r7⟩⟩⟩⟩⟩⟩
-- ===== end of PART A; then your names; then what follows =====
end
section
/-! the base: words, the statics, a contract's start and end, calls, guards -/
def TB : List Cond := lw_tbl.filter goodWord
theorem tb_good {w : Cond} (h : w ∈ TB) : goodWord w = true := (List.mem_filter.mp h).2
theorem tb_in {w : Cond} (h : w ∈ TB) : w ∈ lw_tbl := (List.mem_filter.mp h).1
theorem tb_at {w : Cond} (h : w ∈ lw_tbl) (hg : goodWord w = true) : w ∈ TB := List.mem_filter.mpr ⟨h, hg⟩
theorem lt_s0 {w : Cond} (i : Nat) (h : (k2_sels lw_privs)[i]? = some w) : w ∈ lw_tbl := List.mem_append_left _ (List.mem_of_getElem? h)
theorem lt_t {w : Cond} (h : w ∈ tables_1) : w ∈ lw_tbl := List.mem_append_right _ h
theorem lt_s1 {w : Cond} (i : Nat) (h : tables_1_1[i]? = some w) : w ∈ lw_tbl := lt_t (List.mem_append_left _ (List.mem_of_getElem? h))
theorem lt_s2 {w : Cond} (i : Nat) (h : tables_1_2[i]? = some w) : w ∈ lw_tbl := lt_t (List.mem_append_right _ (List.mem_append_left _ (List.mem_of_getElem? h)))
theorem lt_s3 {w : Cond} (i : Nat) (h : tables_1_3[i]? = some w) : w ∈ lw_tbl := lt_t (List.mem_append_right _ (List.mem_append_right _ (List.mem_append_left _ (List.mem_of_getElem? h))))
theorem lt_s4 {w : Cond} (i : Nat) (h : tables_1_4[i]? = some w) : w ∈ lw_tbl := lt_t (List.mem_append_right _ (List.mem_append_right _ (List.mem_append_right _ (List.mem_append_left _ (List.mem_of_getElem? h)))))
theorem lt_s5 {w : Cond} (i : Nat) (h : tables_1_5[i]? = some w) : w ∈ lw_tbl := lt_t (List.mem_append_right _ (List.mem_append_right _ (List.mem_append_right _ (List.mem_append_right _ (List.mem_of_getElem? h)))))
def isNest : Cond → Bool
  | .methodLinkNest _ _ _ _ => true
  | .fieldLinkNest _ _ _ _ _ _ => true
  | _ => false
def NWL : List Cond := lw_tbl.filter isNest
theorem nw_at {w : Cond} (h : w ∈ lw_tbl) (hg : isNest w = true) : w ∈ NWL := List.mem_filter.mpr ⟨h, hg⟩
/-- the links among nest mates, as a state has them -/
def nw (U : State) : Prop := ∀ w ∈ NWL, va_Nw w U
theorem nw_warm {s U : State} (hW : s.WarmedH U.vm) (h : nw s) : nw U := fun w hw => by
  have h1 := h w hw
  have h2 := (List.mem_filter.mp hw).2
  cases w <;> first | exact va_Nw.warmM hW h1 | exact va_Nw.warmF hW h1 | (exact absurd h2 (by simp [isNest]))
theorem nw_same {s U : State} (hv : s.vm = U.vm) (h : nw s) : nw U := fun w hw => by
  have h1 := h w hw
  have h2 := (List.mem_filter.mp hw).2
  cases w <;> first | exact va_Nw.same rfl hv h1 | (exact absurd h2 (by simp [isNest]))
theorem gd_in {y : MethodName} {b : ByteArray} {n : Nat} {r : Option FieldType} (h : Cond.code y b n r ∈ TB) : GoodIn TB (Cond.code y b n r :: TB) := fun w hw => by
  rcases List.mem_cons.mp hw with rfl | hw
  · exact ⟨h, good_of_word (tb_good h)⟩
  · exact ⟨hw, good_of_word (tb_good hw)⟩
def tknL : List Int32 := [0, 0, 1, 1, 2, 0, 1, 2, 1, 3, 0, 1, 0, 0, 0, 0, 0, 0, 0]
def lftL : List Int32 := [1, 1, 0, 1, 0, 1, 0, 1, 1, 1, 0, 0, 0, 0, 0, 0, 0, 0, 0]
def tkn (j : Nat) : Int32 := tknL.getD j 0
def lft (j : Nat) : Int32 := lftL.getD j 0
def zt (A : Nat → Prop) (U : State) : Prop := nw U ∧ ∃ t1 t2 : Nat, va_Z "ScanMachine$Depths" "TAKEN" "[I" (.ref t1) A U U.heap ∧ va_T .int t1 19 (fun j => .int (tkn j)) A U U.heap ∧ va_Z "ScanMachine$Depths" "LEFT" "[I" (.ref t2) A U U.heap ∧ va_T .int t2 19 (fun j => .int (lft j)) A U U.heap
theorem zt_to {A B : Nat → Prop} {s U : State} {H : Heap} {locs : List Loc} (hz : zt A s) (hS : va_S A s.heap H locs) (hAB : ∀ q, B q → A q) (hU : U.heap = H) (hW : s.WarmedH U.vm) : zt B U := by
  subst hU
  have hvm := hW.alike
  obtain ⟨hn, t1, t2, a, b, c, d⟩ := hz
  exact ⟨nw_warm hW hn, t1, t2, ((a.kept hS.2.1).moved hvm).narrow hAB, ((b.kept hS.2.1).moved hvm).narrow hAB, ((c.kept hS.2.1).moved hvm).narrow hAB, ((d.kept hS.2.1).moved hvm).narrow hAB⟩
def PreW (D : va_G) (cl : List vw_C) (tys : List (ClassId × FieldType)) (ws : va_W) (av : List Value) (sz : Nat) : Array Value → State → Prop :=
  va_Pc av (fun U => U.heap.size = sz ∧ va_P D cl ws U.heap ∧ va_K D cl tys U ∧ va_D (fun _ => True) ws ∧ zt (va_A ws sz) U)
def PstI (D : va_G) (cl : List vw_C) (tys : List (ClassId × FieldType)) (ws ws' : va_W) (sz : Nat) (r : Int32) : Array Value → State → Outcome → State → Prop :=
  va_Qi (fun (x : Int32) (_ : Unit) => x = r) (fun _ t => va_P D cl ws' t.heap ∧ va_K D cl tys t ∧ va_D (va_A ws sz) ws') (va_A ws sz)
def PstL (D : va_G) (cl : List vw_C) (tys : List (ClassId × FieldType)) (ws ws' : va_W) (sz : Nat) (r : Int64) : Array Value → State → Outcome → State → Prop :=
  va_Ql (fun (x : Int64) (_ : Unit) => x = r) (fun _ t => va_P D cl ws' t.heap ∧ va_K D cl tys t ∧ va_D (va_A ws sz) ws') (va_A ws sz)
def PstV (D : va_G) (cl : List vw_C) (tys : List (ClassId × FieldType)) (ws ws' : va_W) (sz : Nat) : Array Value → State → Outcome → State → Prop :=
  va_Qv (fun (_ : Unit) => True) (fun _ t => va_P D cl ws' t.heap ∧ va_K D cl tys t ∧ va_D (va_A ws sz) ws') (va_A ws sz)
theorem PreW.blind {D : va_G} {cl : List vw_C} {tys : List (ClassId × FieldType)} {ws : va_W} {av : List Value} {sz : Nat} : FrameBlind (PreW D cl tys ws av sz) := fun a U g mk q => by
  obtain ⟨q0, q1, qP, qK, qD, hn, t1, t2, za, zb, zc, zd⟩ := q
  have hv : U.vm.Alike (U.calling g mk a).vm := Vm.Alike.refl U.vm
  exact ⟨q0, q1, qP, va_K.moved hv qK, qD, nw_same (s := U) (U := U.calling g mk a) rfl hn, t1, t2, za.moved hv, zb.moved hv, zc.moved hv, zd.moved hv⟩
theorem k_free {A : Nat → Prop} {ws : va_W} {H0 H : Heap} {locs : List Loc} (hD : va_D A ws) (hS : va_S A H0 H locs) (hA : ∀ q, H0.size ≤ q → A q) : ∀ q, va_A ws H.size q → A q := fun q h => by
  rcases h with ⟨k, e, h⟩ | h
  · exact hD.2 k _ h
  · exact hA q (Nat.le_trans hS.1 h)
theorem PreW.at {D : va_G} {cl : List vw_C} {tys : List (ClassId × FieldType)} {ws : va_W} {av : List Value} {A : Nat → Prop} {s : State} {H : Heap} {locs : List Loc} (hP : va_P D cl ws H) (hK : va_K D cl tys s) (hD : va_D A ws) (hS : va_S A s.heap H locs) (hA : ∀ q, s.heap.size ≤ q → A q) (hz : zt A s) :
    ∀ U : State, U.heap = H → s.WarmedH U.vm → PreW D cl tys ws av H.size av.toArray U := fun U hU hW =>
  ⟨rfl, by rw [hU], by rw [hU]; exact hP, va_K.moved hW.alike hK, hD.weaken (fun _ _ _ _ => trivial), zt_to hz hS (k_free hD hS hA) hU hW⟩
/-- what the tables say of a method -/
def MOK (y : MethodName) (b : ByteArray) (n : Nat) (r : Option FieldType) (k : Nat) : Prop :=
  Cond.code y b n r ∈ TB ∧ Cond.initialized y.cls ∈ TB ∧ y.cls ≠ "java/lang/invoke/MethodHandle" ∧ y.cls ≠ "java/lang/invoke/VarHandle" ∧ (parseMethodDescriptor y.desc).map (fun d => d.parameters.length) = some k
def MIN (y : MethodName) : Prop := Cond.instanceMethod y ∈ TB ∧ Cond.selects y.cls y y ∈ TB
section BASE
variable {p : Program} {l : Launch} {e : Env} {R : Room} {s : State} {m : MethodId} {args : Array Value} {below : List Frame} {meth : Method} {c : Code} {H H0 : Heap} {locs : List Loc} {cells slots : Nat} {Q : State → Prop} {cc : ByteArray} {pc : Nat} {ls : Array Slot} {rest : List Value} {D : va_G} {cl : List vw_C} {tys : List (ClassId × FieldType)} {ws ws' : va_W} {A : Nat → Prop}
  {y : MethodName} {bytes : ByteArray} {maxL nL n index : Nat} {ret : Option FieldType} {rm : Room} {own host : String} {b : Nat} {As st0 : List Value} {Qc : Array Value → State → Outcome → State → Prop} {free : Addr → Prop} {ci q0 : Nat} {q : vw_C} {fs : List Value}
theorem k_runV (S : CallFix p m c cc nL s args TB own) (hM : Met l y (Cond.code y bytes maxL ret :: TB) rm (PreW D cl tys ws (.ref b :: As) H.size) Qc 0 0 free) (hk : MOK y bytes maxL ret n) (hi : MIN y) (hl : Cond.methodLink own index y ∈ TB) (hrc : rm.cells = 0) (hrs : rm.slots = 0) (hR : rm.frames + 1 ≤ R.frames ∧ 8 + (maxL + 11) + rm.locals ≤ R.locals)
    (hP : va_P D cl ws H) (hK : va_K D cl tys s) (hD : va_D A ws) (hS : va_S A s.heap H locs) (hA : ∀ q, s.heap.size ≤ q → A q) (hz : zt A s) (hc : cl[ci]? = some q) (hq : q.1 = y.cls) (he : ws[q0]? = some (b, .inr (ci, fs))) (hn : As.length = n) (hsize : ls.size = nL) (hstk : st0 = As.reverse ++ .ref b :: rest) (hW : (rest.map fun v => v.category).sum ≤ 8) (hdg : decode cc pc = .ok (.invokevirtual index, 3)) (hf : cells ≤ R.cells ∧ slots ≤ R.slots) :
    va_Run p l e R s m args below meth c H locs cells slots 0 0 (F0 m pc ls st0) rest (Qc (Value.ref b :: As).toArray) free :=
  va_runV S hM ⟨callB_of n S.2.2.2.2 (gd_in hk.1) rfl hrc hrs (S.2.2.2.2 _ hk.2.1) (S.2.2.2.2 _ hl) ⟨hk.2.2.1, hk.2.2.2.1, hk.2.2.2.2⟩ hR, S.2.2.2.2 _ hi.1, S.2.2.2.2 _ hi.2⟩ ⟨PreW.blind, by have h := va_recv hK hP hc he; rw [hq] at h; exact h, PreW.at hP hK hD hS hA hz⟩ rfl hn hsize hstk (lv_room hW) hdg hf
theorem k_runVN (S : CallFix p m c cc nL s args TB own) (hM : Met l y (Cond.code y bytes maxL ret :: TB) rm (PreW D cl tys ws (.ref b :: As) H.size) Qc 0 0 free) (hk : MOK y bytes maxL ret n) (hi : MIN y) (hl : Cond.methodLinkNest own index y host ∈ NWL) (hrc : rm.cells = 0) (hrs : rm.slots = 0) (hR : rm.frames + 1 ≤ R.frames ∧ 8 + (maxL + 11) + rm.locals ≤ R.locals)
    (hP : va_P D cl ws H) (hK : va_K D cl tys s) (hD : va_D A ws) (hS : va_S A s.heap H locs) (hA : ∀ q, s.heap.size ≤ q → A q) (hz : zt A s) (hc : cl[ci]? = some q) (hq : q.1 = y.cls) (he : ws[q0]? = some (b, .inr (ci, fs))) (hn : As.length = n) (hsize : ls.size = nL) (hstk : st0 = As.reverse ++ .ref b :: rest) (hW : (rest.map fun v => v.category).sum ≤ 8) (hdg : decode cc pc = .ok (.invokevirtual index, 3)) (hf : cells ≤ R.cells ∧ slots ≤ R.slots) :
    va_Run p l e R s m args below meth c H locs cells slots 0 0 (F0 m pc ls st0) rest (Qc (Value.ref b :: As).toArray) free :=
  va_runVN S hM ⟨va_cnB n S.2.2.2.2 (gd_in hk.1) rfl hrc hrs (hz.1 _ hl) (S.2.2.2.2 _ hk.2.1) ⟨hk.2.2.1, hk.2.2.2.1, hk.2.2.2.2⟩ hR, S.2.2.2.2 _ hi.1, S.2.2.2.2 _ hi.2⟩ ⟨PreW.blind, by have h := va_recv hK hP hc he; rw [hq] at h; exact h, PreW.at hP hK hD hS hA hz⟩ rfl hn hsize hstk (lv_room hW) hdg hf
theorem k_runS (S : CallFix p m c cc nL s args TB own) (hM : Met l y (Cond.code y bytes maxL ret :: TB) rm (PreW D cl tys ws As H.size) Qc 0 0 free) (hk : MOK y bytes maxL ret n) (hi : Cond.static y ∈ TB) (hl : Cond.methodLink own index y ∈ TB) (hrc : rm.cells = 0) (hrs : rm.slots = 0) (hR : rm.frames + 1 ≤ R.frames ∧ 8 + (maxL + 11) + rm.locals ≤ R.locals)
    (hP : va_P D cl ws H) (hK : va_K D cl tys s) (hD : va_D A ws) (hS : va_S A s.heap H locs) (hA : ∀ q, s.heap.size ≤ q → A q) (hz : zt A s) (hn : As.length = n) (hsize : ls.size = nL) (hstk : st0 = As.reverse ++ rest) (hW : (rest.map fun v => v.category).sum ≤ 8) (hdg : decode cc pc = .ok (.invokestatic index, 3)) (hf : cells ≤ R.cells ∧ slots ≤ R.slots) :
    va_Run p l e R s m args below meth c H locs cells slots 0 0 (F0 m pc ls st0) rest (Qc As.toArray) free :=
  va_runS S hM ⟨callB_of n S.2.2.2.2 (gd_in hk.1) rfl hrc hrs (S.2.2.2.2 _ hk.2.1) (S.2.2.2.2 _ hl) ⟨hk.2.2.1, hk.2.2.2.1, hk.2.2.2.2⟩ hR, S.2.2.2.2 _ hi⟩ ⟨PreW.blind, PreW.at hP hK hD hS hA hz⟩ rfl hn hsize hstk (lv_room hW) hdg hf
theorem k_runSN (S : CallFix p m c cc nL s args TB own) (hM : Met l y (Cond.code y bytes maxL ret :: TB) rm (PreW D cl tys ws As H.size) Qc 0 0 free) (hk : MOK y bytes maxL ret n) (hi : Cond.static y ∈ TB) (hl : Cond.methodLinkNest own index y host ∈ NWL) (hrc : rm.cells = 0) (hrs : rm.slots = 0) (hR : rm.frames + 1 ≤ R.frames ∧ 8 + (maxL + 11) + rm.locals ≤ R.locals)
    (hP : va_P D cl ws H) (hK : va_K D cl tys s) (hD : va_D A ws) (hS : va_S A s.heap H locs) (hA : ∀ q, s.heap.size ≤ q → A q) (hz : zt A s) (hn : As.length = n) (hsize : ls.size = nL) (hstk : st0 = As.reverse ++ rest) (hW : (rest.map fun v => v.category).sum ≤ 8) (hdg : decode cc pc = .ok (.invokestatic index, 3)) (hf : cells ≤ R.cells ∧ slots ≤ R.slots) :
    va_Run p l e R s m args below meth c H locs cells slots 0 0 (F0 m pc ls st0) rest (Qc As.toArray) free :=
  va_runSN S hM ⟨va_cnB n S.2.2.2.2 (gd_in hk.1) rfl hrc hrs (hz.1 _ hl) (S.2.2.2.2 _ hk.2.1) ⟨hk.2.2.1, hk.2.2.2.1, hk.2.2.2.2⟩ hR, S.2.2.2.2 _ hi, trivial⟩ ⟨PreW.blind, PreW.at hP hK hD hS hA hz⟩ rfl hn hsize hstk (lv_room hW) hdg hf
theorem k_I {r : Int32} {a : Array Value} (hr : va_Run p l e R s m args below meth c H locs cells slots 0 0 (F0 m pc ls st0) rest (PstI D cl tys ws ws' H.size r a) (va_A ws H.size)) (hD : va_D A ws) (hS : va_S A H0 H locs) (hA : ∀ q, H0.size ≤ q → A q)
    (kk : ∀ (H1 : Heap) (locs1 : List Loc), va_P D cl ws' H1 → va_D A ws' → va_S A H0 H1 locs1 → W p l e R s m args below meth c H1 locs1 cells slots Q (F0 m (pc + 3) ls (.int r :: rest))) : W p l e R s m args below meth c H locs cells slots Q (F0 m pc ls st0) := by
  have hFc := k_free hD hS hA
  refine va_calli hr hS (fun q _ h => hFc q h) hFc (fun r' u t H1 locs1 ht hvm hw hB hz1 hk1 hS1 => ?_)
  obtain ⟨hP1, hK1, hD1⟩ := hB
  rw [ht] at hP1
  subst hw
  exact kk H1 locs1 hP1 ⟨hD1.1, fun k q h => hFc _ (hD1.2 k q h)⟩ hS1
theorem k_L {r : Int64} {a : Array Value} (hr : va_Run p l e R s m args below meth c H locs cells slots 0 0 (F0 m pc ls st0) rest (PstL D cl tys ws ws' H.size r a) (va_A ws H.size)) (hD : va_D A ws) (hS : va_S A H0 H locs) (hA : ∀ q, H0.size ≤ q → A q)
    (kk : ∀ (H1 : Heap) (locs1 : List Loc), va_P D cl ws' H1 → va_D A ws' → va_S A H0 H1 locs1 → W p l e R s m args below meth c H1 locs1 cells slots Q (F0 m (pc + 3) ls (.long r :: rest))) : W p l e R s m args below meth c H locs cells slots Q (F0 m pc ls st0) := by
  have hFc := k_free hD hS hA
  refine va_calll hr hS (fun q _ h => hFc q h) hFc (fun r' u t H1 locs1 ht hvm hw hB hz1 hk1 hS1 => ?_)
  obtain ⟨hP1, hK1, hD1⟩ := hB
  rw [ht] at hP1
  subst hw
  exact kk H1 locs1 hP1 ⟨hD1.1, fun k q h => hFc _ (hD1.2 k q h)⟩ hS1
theorem k_V {a : Array Value} (hr : va_Run p l e R s m args below meth c H locs cells slots 0 0 (F0 m pc ls st0) rest (PstV D cl tys ws ws' H.size a) (va_A ws H.size)) (hD : va_D A ws) (hS : va_S A H0 H locs) (hA : ∀ q, H0.size ≤ q → A q)
    (kk : ∀ (H1 : Heap) (locs1 : List Loc), va_P D cl ws' H1 → va_D A ws' → va_S A H0 H1 locs1 → W p l e R s m args below meth c H1 locs1 cells slots Q (F0 m (pc + 3) ls rest)) : W p l e R s m args below meth c H locs cells slots Q (F0 m pc ls st0) := by
  have hFc := k_free hD hS hA
  refine va_callv hr hS (fun q _ h => hFc q h) hFc (fun u t H1 locs1 ht hvm hw hB hz1 hk1 hS1 => ?_)
  obtain ⟨hP1, hK1, hD1⟩ := hB
  rw [ht] at hP1
  exact kk H1 locs1 hP1 ⟨hD1.1, fun k q h => hFc _ (hD1.2 k q h)⟩ hS1
variable {sz : Nat}
theorem k_iret {r : Int32} (hx : p.tables.exec = Jvm.exec) (hb : c.code = cc) (hr : meth.sig.returnType = some .int) (hlk : meth.locks = false) (hP : va_P D cl ws' H) (hK : va_K D cl tys s) (hD : va_D (va_A ws sz) ws') (hS : va_S (va_A ws sz) s.heap H locs) (hdg : decode cc pc = .ok (.ireturn, 1)) :
    W p l e R s m args below meth c H locs 0 0 (MQ below (PstI D cl tys ws ws' sz r) args s 0 0 (va_A ws sz)) (F0 m pc ls [.int r]) :=
  W.iret hx hb hr (fun t ht hW => ⟨⟨r, (), rfl, rfl, by rw [ht]; exact hP, va_K.moved hW.alike hK, hD⟩, hS.F ht⟩) hS.2.2 hdg (hlocks := hlk)
theorem k_zret {r : Int32} (hx : p.tables.exec = Jvm.exec) (hb : c.code = cc) (hr : meth.sig.returnType = some .boolean) (hlk : meth.locks = false) (h01 : r = 0 ∨ r = 1) (hP : va_P D cl ws' H) (hK : va_K D cl tys s) (hD : va_D (va_A ws sz) ws') (hS : va_S (va_A ws sz) s.heap H locs) (hdg : decode cc pc = .ok (.ireturn, 1)) :
    W p l e R s m args below meth c H locs 0 0 (MQ below (PstI D cl tys ws ws' sz r) args s 0 0 (va_A ws sz)) (F0 m pc ls [.int r]) :=
  W.zret hx hb hr (by rcases h01 with rfl | rfl <;> rfl) (fun t ht hW => ⟨⟨r, (), rfl, rfl, by rw [ht]; exact hP, va_K.moved hW.alike hK, hD⟩, hS.F ht⟩) hS.2.2 hdg (hlocks := hlk)
theorem k_lret {r : Int64} (hx : p.tables.exec = Jvm.exec) (hb : c.code = cc) (hr : meth.sig.returnType = some .long) (hlk : meth.locks = false) (hP : va_P D cl ws' H) (hK : va_K D cl tys s) (hD : va_D (va_A ws sz) ws') (hS : va_S (va_A ws sz) s.heap H locs) (hdg : decode cc pc = .ok (.lreturn, 1)) :
    W p l e R s m args below meth c H locs 0 0 (MQ below (PstL D cl tys ws ws' sz r) args s 0 0 (va_A ws sz)) (F0 m pc ls [.long r]) :=
  W.lret hx hb hr (fun t ht hW => ⟨⟨r, (), rfl, rfl, by rw [ht]; exact hP, va_K.moved hW.alike hK, hD⟩, hS.F ht⟩) hS.2.2 hdg (hlocks := hlk)
theorem k_vret (hx : p.tables.exec = Jvm.exec) (hb : c.code = cc) (hr : meth.sig.returnType = none) (hlk : meth.locks = false) (hP : va_P D cl ws' H) (hK : va_K D cl tys s) (hD : va_D (va_A ws sz) ws') (hS : va_S (va_A ws sz) s.heap H locs) (hdg : decode cc pc = .ok (.return_, 1)) :
    W p l e R s m args below meth c H locs 0 0 (MQ below (PstV D cl tys ws ws' sz) args s 0 0 (va_A ws sz)) (F0 m pc ls []) :=
  W.vret hx hb hr (fun t ht hW => ⟨⟨(), rfl, trivial, by rw [ht]; exact hP, va_K.moved hW.alike hK, hD⟩, hS.F ht⟩) hS.2.2 hdg (hlocks := hlk)
/-- a contract's body, from its first instruction -/
theorem k_met {av : List Value} (hy : plainName y.cls = true) (hlen : (lg_sl av).length ≤ maxL)
    (body : ∀ (p : Program) (e : Env) (s : State) (m : MethodId) (below : List Frame) (meth : Method) (c : Code) (ls : Array Slot), p.tables.exec = Jvm.exec → c.code = bytes → meth.sig.returnType = ret → c.maxLocals = maxL → (∀ w ∈ TB, w.before av.toArray s = true) → s.vm.findClass y.cls = some m.cls → meth.locks = false → meth.name = y.name → s.heap.size = sz → va_P D cl ws s.heap → va_K D cl tys s → va_D (va_A ws sz) ws → (∀ q, s.heap.size ≤ q → va_A ws sz q) → zt (va_A ws sz) s → lv_has ls maxL (lv_args 0 av) →
      W p l e rm s m av.toArray below meth c s.heap [] 0 0 (MQ below Qc av.toArray s 0 0 free) (F0 m 0 ls [])) :
    Met l y (Cond.code y bytes maxL ret :: TB) rm (PreW D cl tys ws av sz) Qc 0 0 free := by
  refine Met.ofW (cc := bytes) (maxL := maxL) (ret := ret) hy rfl ?_
  intro p e s m args below meth c s₁ B hml hv
  obtain ⟨rfl, hsz, hP, hK, hD0, hz⟩ := hv
  have hts := atoms_spec (ws := Cond.code y bytes maxL ret :: TB) B.pre
  have hl := lv_entry av (n := maxL) hlen
  rw [lg_entry_eq]
  generalize (lg_sl av ++ List.replicate (maxL - (lg_sl av).length) Slot.unset).toArray = ls at hl ⊢
  exact body p e s m below meth c ls B.exec B.bytes B.returns hml (fun w h => hts w (List.mem_cons_of_mem _ h)) (findClass_of_methodNamed B.named) B.notSynchronized (name_of_methodNamed B.named B.method).1 hsz hP hK hD0.self (fun q h => Or.inr (by rw [← hsz]; exact h)) hz hl
end BASE
/-! guards of the pure functions -/
def ga {α : Type} (i : Int32) (N : Nat) (k : Option α) : Option α := if 0 ≤ i.toInt ∧ i.toInt < (N : Int) then k else none
def gr {α β : Type} (f : Nat → β) (i : Int32) (N : Nat) (k : β → Option α) : Option α := if 0 ≤ i.toInt ∧ i.toInt < (N : Int) then k (f i.toNatClampNeg) else none
def gz {α : Type} (y : Int32) (k : Option α) : Option α := if y = 0 then none else k
def gb {α : Type} (y : Int32) (k : Option α) : Option α := if y = 0 ∨ y = 1 then k else none
theorem ga_some {α : Type} {i : Int32} {N : Nat} {k : Option α} {x : α} (h : ga i N k = some x) : vp_in i N ∧ k = some x := by
  unfold ga at h
  split at h
  · rename_i q; exact ⟨vp_in_iff.mpr q, h⟩
  · cases h
theorem gr_some {α β : Type} {f : Nat → β} {i : Int32} {N : Nat} {k : β → Option α} {x : α} (h : gr f i N k = some x) : vp_in i N ∧ ∃ v, v = f i.toNatClampNeg ∧ k v = some x := by
  unfold gr at h
  split at h
  · rename_i q; exact ⟨vp_in_iff.mpr q, _, rfl, h⟩
  · cases h
theorem gz_some {α : Type} {y : Int32} {k : Option α} {x : α} (h : gz y k = some x) : ¬ y = 0 ∧ k = some x := by
  unfold gz at h
  split at h
  · cases h
  · rename_i q; exact ⟨q, h⟩
theorem gb_some {α : Type} {y : Int32} {k : Option α} {x : α} (h : gb y k = some x) : (y = 0 ∨ y = 1) ∧ k = some x := by
  unfold gb at h
  split at h
  · rename_i q; exact ⟨q, h⟩
  · cases h
theorem k_sw {p : Program} {l : Launch} {e : Env} {R : Room} {s : State} {m : MethodId} {args : Array Value} {below : List Frame} {meth : Method} {c : Code} {H : Heap} {locs : List Loc} {cells slots : Nat} {Q : State → Prop} {pc : Nat} {ls : Array Slot} {rest : List Value} {x y : Int32} (h : x = y) (k : W p l e R s m args below meth c H locs cells slots Q (F0 m pc ls (.int y :: rest))) : W p l e R s m args below meth c H locs cells slots Q (F0 m pc ls (.int x :: rest)) := by
  subst h; exact k
end
section
/-! printed by wip/gen/gen.py: the classes' tables, the components, the worlds, rows for each field and array -/
def T_Sm_ : u_T := fun k => match k with
  | 0 => ("ScanMachine", "code", "LScanMachine$Code;", true)
  | 1 => ("ScanMachine", "shape", "LScanMachine$Shape;", true)
  | 2 => ("ScanMachine", "loops", "LScanMachine$Loops;", true)
  | 3 => ("ScanMachine", "depths", "LScanMachine$Depths;", true)
  | 4 => ("ScanMachine", "ways", "LScanMachine$Ways;", true)
  | 5 => ("ScanMachine", "memory", "LScanMachine$Memory;", true)
  | 6 => ("ScanMachine", "runner", "LScanMachine$Runner;", true)
  | 7 => ("ScanMachine", "total", "I", false)
  | 8 => ("ScanMachine", "ready", "Z", false)
  | 9 => ("ScanMachine", "allowed", "I", false)
  | 10 => ("ScanMachine", "now", "I", false)
  | 11 => ("ScanMachine", "scans", "I", false)
  | _ => ("ScanMachine", "faults", "I", false)
def ty_Sm : Nat → FieldType := fun k => match k with
  | 0 => .object "ScanMachine$Code"
  | 1 => .object "ScanMachine$Shape"
  | 2 => .object "ScanMachine$Loops"
  | 3 => .object "ScanMachine$Depths"
  | 4 => .object "ScanMachine$Ways"
  | 5 => .object "ScanMachine$Memory"
  | 6 => .object "ScanMachine$Runner"
  | 7 => .int
  | 8 => .boolean
  | 9 => .int
  | 10 => .int
  | 11 => .int
  | _ => .int
theorem nm_Sm : ∀ a, a < 13 → ∀ b, b < 13 → a ≠ b → (T_Sm_ a).2.1 ≠ (T_Sm_ b).2.1 := by decide +kernel
theorem tyok_Sm : ∀ k, k < 13 → parseFieldDescriptor (T_Sm_ k).2.2.1 = some (ty_Sm k) := by decide +kernel
theorem in_Sm : ∀ w ∈ u_ws "ScanMachine" T_Sm_ 13, w ∈ TB := by
  intro w hw
  obtain ⟨k, hk, rfl⟩ := List.mem_map.mp hw
  have hk := List.mem_range.mp hk
  match k, hk with
  | 0, _ => exact tb_at (lt_s1 236 (by decide +kernel)) (by decide +kernel)
  | 1, _ => exact tb_at (lt_s1 238 (by decide +kernel)) (by decide +kernel)
  | 2, _ => exact tb_at (lt_s2 0 (by decide +kernel)) (by decide +kernel)
  | 3, _ => exact tb_at (lt_s2 2 (by decide +kernel)) (by decide +kernel)
  | 4, _ => exact tb_at (lt_s2 4 (by decide +kernel)) (by decide +kernel)
  | 5, _ => exact tb_at (lt_s2 6 (by decide +kernel)) (by decide +kernel)
  | 6, _ => exact tb_at (lt_s2 8 (by decide +kernel)) (by decide +kernel)
  | 7, _ => exact tb_at (lt_s2 10 (by decide +kernel)) (by decide +kernel)
  | 8, _ => exact tb_at (lt_s2 12 (by decide +kernel)) (by decide +kernel)
  | 9, _ => exact tb_at (lt_s2 14 (by decide +kernel)) (by decide +kernel)
  | 10, _ => exact tb_at (lt_s2 16 (by decide +kernel)) (by decide +kernel)
  | 11, _ => exact tb_at (lt_s2 18 (by decide +kernel)) (by decide +kernel)
  | 12, _ => exact tb_at (lt_s2 20 (by decide +kernel)) (by decide +kernel)
  | k + 13, h => exact absurd h (by omega)
def T_Co_ : u_T := fun k => match k with
  | 0 => ("ScanMachine$Code", "frames", "[I", true)
  | 1 => ("ScanMachine$Code", "places", "[I", true)
  | 2 => ("ScanMachine$Code", "firsts", "[I", true)
  | 3 => ("ScanMachine$Code", "sizes", "[I", true)
  | 4 => ("ScanMachine$Code", "numbers", "[I", true)
  | 5 => ("ScanMachine$Code", "as", "[I", true)
  | 6 => ("ScanMachine$Code", "bs", "[I", true)
  | 7 => ("ScanMachine$Code", "cs", "[I", true)
  | 8 => ("ScanMachine$Code", "units", "I", false)
  | _ => ("ScanMachine$Code", "length", "I", false)
def ty_Co : Nat → FieldType := fun k => match k with
  | 0 => .array .int
  | 1 => .array .int
  | 2 => .array .int
  | 3 => .array .int
  | 4 => .array .int
  | 5 => .array .int
  | 6 => .array .int
  | 7 => .array .int
  | 8 => .int
  | _ => .int
theorem nm_Co : ∀ a, a < 10 → ∀ b, b < 10 → a ≠ b → (T_Co_ a).2.1 ≠ (T_Co_ b).2.1 := by decide +kernel
theorem tyok_Co : ∀ k, k < 10 → parseFieldDescriptor (T_Co_ k).2.2.1 = some (ty_Co k) := by decide +kernel
theorem in_Co : ∀ w ∈ u_ws "ScanMachine$Code" T_Co_ 10, w ∈ TB := by
  intro w hw
  obtain ⟨k, hk, rfl⟩ := List.mem_map.mp hw
  have hk := List.mem_range.mp hk
  match k, hk with
  | 0, _ => exact tb_at (lt_s1 38 (by decide +kernel)) (by decide +kernel)
  | 1, _ => exact tb_at (lt_s1 40 (by decide +kernel)) (by decide +kernel)
  | 2, _ => exact tb_at (lt_s1 42 (by decide +kernel)) (by decide +kernel)
  | 3, _ => exact tb_at (lt_s1 44 (by decide +kernel)) (by decide +kernel)
  | 4, _ => exact tb_at (lt_s1 46 (by decide +kernel)) (by decide +kernel)
  | 5, _ => exact tb_at (lt_s1 48 (by decide +kernel)) (by decide +kernel)
  | 6, _ => exact tb_at (lt_s1 50 (by decide +kernel)) (by decide +kernel)
  | 7, _ => exact tb_at (lt_s1 52 (by decide +kernel)) (by decide +kernel)
  | 8, _ => exact tb_at (lt_s1 54 (by decide +kernel)) (by decide +kernel)
  | 9, _ => exact tb_at (lt_s1 56 (by decide +kernel)) (by decide +kernel)
  | k + 10, h => exact absurd h (by omega)
def T_Sh_ : u_T := fun k => match k with
  | 0 => ("ScanMachine$Shape", "code", "LScanMachine$Code;", true)
  | 1 => ("ScanMachine$Shape", "unit", "I", false)
  | 2 => ("ScanMachine$Shape", "i", "I", false)
  | 3 => ("ScanMachine$Shape", "number", "I", false)
  | 4 => ("ScanMachine$Shape", "a", "I", false)
  | 5 => ("ScanMachine$Shape", "b", "I", false)
  | _ => ("ScanMachine$Shape", "c", "I", false)
def ty_Sh : Nat → FieldType := fun k => match k with
  | 0 => .object "ScanMachine$Code"
  | 1 => .int
  | 2 => .int
  | 3 => .int
  | 4 => .int
  | 5 => .int
  | _ => .int
theorem nm_Sh : ∀ a, a < 7 → ∀ b, b < 7 → a ≠ b → (T_Sh_ a).2.1 ≠ (T_Sh_ b).2.1 := by decide +kernel
theorem tyok_Sh : ∀ k, k < 7 → parseFieldDescriptor (T_Sh_ k).2.2.1 = some (ty_Sh k) := by decide +kernel
theorem in_Sh : ∀ w ∈ u_ws "ScanMachine$Shape" T_Sh_ 7, w ∈ TB := by
  intro w hw
  obtain ⟨k, hk, rfl⟩ := List.mem_map.mp hw
  have hk := List.mem_range.mp hk
  match k, hk with
  | 0, _ => exact tb_at (lt_s1 73 (by decide +kernel)) (by decide +kernel)
  | 1, _ => exact tb_at (lt_s1 75 (by decide +kernel)) (by decide +kernel)
  | 2, _ => exact tb_at (lt_s1 77 (by decide +kernel)) (by decide +kernel)
  | 3, _ => exact tb_at (lt_s1 79 (by decide +kernel)) (by decide +kernel)
  | 4, _ => exact tb_at (lt_s1 81 (by decide +kernel)) (by decide +kernel)
  | 5, _ => exact tb_at (lt_s1 83 (by decide +kernel)) (by decide +kernel)
  | 6, _ => exact tb_at (lt_s1 85 (by decide +kernel)) (by decide +kernel)
  | k + 7, h => exact absurd h (by omega)
def T_Lo_ : u_T := fun k => match k with
  | 0 => ("ScanMachine$Loops", "code", "LScanMachine$Code;", true)
  | 1 => ("ScanMachine$Loops", "nexts", "[I", true)
  | 2 => ("ScanMachine$Loops", "loops", "I", false)
  | _ => ("ScanMachine$Loops", "unit", "I", false)
def ty_Lo : Nat → FieldType := fun k => match k with
  | 0 => .object "ScanMachine$Code"
  | 1 => .array .int
  | 2 => .int
  | _ => .int
theorem nm_Lo : ∀ a, a < 4 → ∀ b, b < 4 → a ≠ b → (T_Lo_ a).2.1 ≠ (T_Lo_ b).2.1 := by decide +kernel
theorem tyok_Lo : ∀ k, k < 4 → parseFieldDescriptor (T_Lo_ k).2.2.1 = some (ty_Lo k) := by decide +kernel
theorem in_Lo : ∀ w ∈ u_ws "ScanMachine$Loops" T_Lo_ 4, w ∈ TB := by
  intro w hw
  obtain ⟨k, hk, rfl⟩ := List.mem_map.mp hw
  have hk := List.mem_range.mp hk
  match k, hk with
  | 0, _ => exact tb_at (lt_s1 98 (by decide +kernel)) (by decide +kernel)
  | 1, _ => exact tb_at (lt_s1 100 (by decide +kernel)) (by decide +kernel)
  | 2, _ => exact tb_at (lt_s1 102 (by decide +kernel)) (by decide +kernel)
  | 3, _ => exact tb_at (lt_s1 104 (by decide +kernel)) (by decide +kernel)
  | k + 4, h => exact absurd h (by omega)
def T_De_ : u_T := fun k => match k with
  | 0 => ("ScanMachine$Depths", "code", "LScanMachine$Code;", true)
  | _ => ("ScanMachine$Depths", "depths", "[I", true)
def ty_De : Nat → FieldType := fun k => match k with
  | 0 => .object "ScanMachine$Code"
  | _ => .array .int
theorem nm_De : ∀ a, a < 2 → ∀ b, b < 2 → a ≠ b → (T_De_ a).2.1 ≠ (T_De_ b).2.1 := by decide +kernel
theorem tyok_De : ∀ k, k < 2 → parseFieldDescriptor (T_De_ k).2.2.1 = some (ty_De k) := by decide +kernel
theorem in_De : ∀ w ∈ u_ws "ScanMachine$Depths" T_De_ 2, w ∈ TB := by
  intro w hw
  obtain ⟨k, hk, rfl⟩ := List.mem_map.mp hw
  have hk := List.mem_range.mp hk
  match k, hk with
  | 0, _ => exact tb_at (lt_s1 115 (by decide +kernel)) (by decide +kernel)
  | 1, _ => exact tb_at (lt_s1 117 (by decide +kernel)) (by decide +kernel)
  | k + 2, h => exact absurd h (by omega)
def T_Wa_ : u_T := fun k => match k with
  | 0 => ("ScanMachine$Ways", "code", "LScanMachine$Code;", true)
  | 1 => ("ScanMachine$Ways", "reached", "[J", true)
  | 2 => ("ScanMachine$Ways", "rounds", "[J", true)
  | 3 => ("ScanMachine$Ways", "steps", "[J", true)
  | 4 => ("ScanMachine$Ways", "unit", "I", false)
  | _ => ("ScanMachine$Ways", "end", "I", false)
def ty_Wa : Nat → FieldType := fun k => match k with
  | 0 => .object "ScanMachine$Code"
  | 1 => .array .long
  | 2 => .array .long
  | 3 => .array .long
  | 4 => .int
  | _ => .int
theorem nm_Wa : ∀ a, a < 6 → ∀ b, b < 6 → a ≠ b → (T_Wa_ a).2.1 ≠ (T_Wa_ b).2.1 := by decide +kernel
theorem tyok_Wa : ∀ k, k < 6 → parseFieldDescriptor (T_Wa_ k).2.2.1 = some (ty_Wa k) := by decide +kernel
theorem in_Wa : ∀ w ∈ u_ws "ScanMachine$Ways" T_Wa_ 6, w ∈ TB := by
  intro w hw
  obtain ⟨k, hk, rfl⟩ := List.mem_map.mp hw
  have hk := List.mem_range.mp hk
  match k, hk with
  | 0, _ => exact tb_at (lt_s1 132 (by decide +kernel)) (by decide +kernel)
  | 1, _ => exact tb_at (lt_s1 134 (by decide +kernel)) (by decide +kernel)
  | 2, _ => exact tb_at (lt_s1 136 (by decide +kernel)) (by decide +kernel)
  | 3, _ => exact tb_at (lt_s1 138 (by decide +kernel)) (by decide +kernel)
  | 4, _ => exact tb_at (lt_s1 140 (by decide +kernel)) (by decide +kernel)
  | 5, _ => exact tb_at (lt_s1 142 (by decide +kernel)) (by decide +kernel)
  | k + 6, h => exact absurd h (by omega)
def T_Me_ : u_T := fun k => match k with
  | 0 => ("ScanMachine$Memory", "cells", "[I", true)
  | 1 => ("ScanMachine$Memory", "stack", "[I", true)
  | 2 => ("ScanMachine$Memory", "depth", "I", false)
  | _ => ("ScanMachine$Memory", "deepest", "I", false)
def ty_Me : Nat → FieldType := fun k => match k with
  | 0 => .array .int
  | 1 => .array .int
  | 2 => .int
  | _ => .int
theorem nm_Me : ∀ a, a < 4 → ∀ b, b < 4 → a ≠ b → (T_Me_ a).2.1 ≠ (T_Me_ b).2.1 := by decide +kernel
theorem tyok_Me : ∀ k, k < 4 → parseFieldDescriptor (T_Me_ k).2.2.1 = some (ty_Me k) := by decide +kernel
theorem in_Me : ∀ w ∈ u_ws "ScanMachine$Memory" T_Me_ 4, w ∈ TB := by
  intro w hw
  obtain ⟨k, hk, rfl⟩ := List.mem_map.mp hw
  have hk := List.mem_range.mp hk
  match k, hk with
  | 0, _ => exact tb_at (lt_s1 157 (by decide +kernel)) (by decide +kernel)
  | 1, _ => exact tb_at (lt_s1 159 (by decide +kernel)) (by decide +kernel)
  | 2, _ => exact tb_at (lt_s1 161 (by decide +kernel)) (by decide +kernel)
  | 3, _ => exact tb_at (lt_s1 163 (by decide +kernel)) (by decide +kernel)
  | k + 4, h => exact absurd h (by omega)
def T_Ru_ : u_T := fun k => match k with
  | 0 => ("ScanMachine$Runner", "code", "LScanMachine$Code;", true)
  | 1 => ("ScanMachine$Runner", "memory", "LScanMachine$Memory;", true)
  | 2 => ("ScanMachine$Runner", "blocks", "LScanMachine$Blocks;", true)
  | 3 => ("ScanMachine$Runner", "waitingUnits", "[I", true)
  | 4 => ("ScanMachine$Runner", "waitingNexts", "[I", true)
  | 5 => ("ScanMachine$Runner", "waitingBases", "[I", true)
  | 6 => ("ScanMachine$Runner", "waiting", "I", false)
  | 7 => ("ScanMachine$Runner", "unit", "I", false)
  | 8 => ("ScanMachine$Runner", "next", "I", false)
  | 9 => ("ScanMachine$Runner", "base", "I", false)
  | 10 => ("ScanMachine$Runner", "steps", "I", false)
  | 11 => ("ScanMachine$Runner", "fault", "I", false)
  | _ => ("ScanMachine$Runner", "now", "I", false)
def ty_Ru : Nat → FieldType := fun k => match k with
  | 0 => .object "ScanMachine$Code"
  | 1 => .object "ScanMachine$Memory"
  | 2 => .object "ScanMachine$Blocks"
  | 3 => .array .int
  | 4 => .array .int
  | 5 => .array .int
  | 6 => .int
  | 7 => .int
  | 8 => .int
  | 9 => .int
  | 10 => .int
  | 11 => .int
  | _ => .int
theorem nm_Ru : ∀ a, a < 13 → ∀ b, b < 13 → a ≠ b → (T_Ru_ a).2.1 ≠ (T_Ru_ b).2.1 := by decide +kernel
theorem tyok_Ru : ∀ k, k < 13 → parseFieldDescriptor (T_Ru_ k).2.2.1 = some (ty_Ru k) := by decide +kernel
theorem in_Ru : ∀ w ∈ u_ws "ScanMachine$Runner" T_Ru_ 13, w ∈ TB := by
  intro w hw
  obtain ⟨k, hk, rfl⟩ := List.mem_map.mp hw
  have hk := List.mem_range.mp hk
  match k, hk with
  | 0, _ => exact tb_at (lt_s1 196 (by decide +kernel)) (by decide +kernel)
  | 1, _ => exact tb_at (lt_s1 198 (by decide +kernel)) (by decide +kernel)
  | 2, _ => exact tb_at (lt_s1 200 (by decide +kernel)) (by decide +kernel)
  | 3, _ => exact tb_at (lt_s1 202 (by decide +kernel)) (by decide +kernel)
  | 4, _ => exact tb_at (lt_s1 204 (by decide +kernel)) (by decide +kernel)
  | 5, _ => exact tb_at (lt_s1 206 (by decide +kernel)) (by decide +kernel)
  | 6, _ => exact tb_at (lt_s1 208 (by decide +kernel)) (by decide +kernel)
  | 7, _ => exact tb_at (lt_s1 210 (by decide +kernel)) (by decide +kernel)
  | 8, _ => exact tb_at (lt_s1 212 (by decide +kernel)) (by decide +kernel)
  | 9, _ => exact tb_at (lt_s1 214 (by decide +kernel)) (by decide +kernel)
  | 10, _ => exact tb_at (lt_s1 216 (by decide +kernel)) (by decide +kernel)
  | 11, _ => exact tb_at (lt_s1 218 (by decide +kernel)) (by decide +kernel)
  | 12, _ => exact tb_at (lt_s1 220 (by decide +kernel)) (by decide +kernel)
  | k + 13, h => exact absurd h (by omega)
def T_Bl_ : u_T := fun k => match k with
  | _ => ("ScanMachine$Blocks", "memory", "LScanMachine$Memory;", true)
def ty_Bl : Nat → FieldType := fun k => match k with
  | _ => .object "ScanMachine$Memory"
theorem nm_Bl : ∀ a, a < 1 → ∀ b, b < 1 → a ≠ b → (T_Bl_ a).2.1 ≠ (T_Bl_ b).2.1 := by decide +kernel
theorem tyok_Bl : ∀ k, k < 1 → parseFieldDescriptor (T_Bl_ k).2.2.1 = some (ty_Bl k) := by decide +kernel
theorem in_Bl : ∀ w ∈ u_ws "ScanMachine$Blocks" T_Bl_ 1, w ∈ TB := by
  intro w hw
  obtain ⟨k, hk, rfl⟩ := List.mem_map.mp hw
  have hk := List.mem_range.mp hk
  match k, hk with
  | 0, _ => exact tb_at (lt_s1 179 (by decide +kernel)) (by decide +kernel)
  | k + 1, h => exact absurd h (by omega)
def T_Mo_ : u_T := fun k => match k with
  | 0 => ("ScanMachineModel", "size", "I", false)
  | 1 => ("ScanMachineModel", "cells", "[I", true)
  | 2 => ("ScanMachineModel", "units", "I", false)
  | 3 => ("ScanMachineModel", "frames", "[I", true)
  | 4 => ("ScanMachineModel", "places", "[I", true)
  | 5 => ("ScanMachineModel", "firsts", "[I", true)
  | 6 => ("ScanMachineModel", "total", "I", false)
  | 7 => ("ScanMachineModel", "numbers", "[I", true)
  | 8 => ("ScanMachineModel", "as", "[I", true)
  | 9 => ("ScanMachineModel", "bs", "[I", true)
  | 10 => ("ScanMachineModel", "cs", "[I", true)
  | 11 => ("ScanMachineModel", "from", "I", false)
  | 12 => ("ScanMachineModel", "many", "I", false)
  | 13 => ("ScanMachineModel", "depths", "[I", true)
  | 14 => ("ScanMachineModel", "ways", "[J", true)
  | 15 => ("ScanMachineModel", "rounds", "[J", true)
  | 16 => ("ScanMachineModel", "steps", "[J", true)
  | 17 => ("ScanMachineModel", "runs", "Z", false)
  | 18 => ("ScanMachineModel", "now", "I", false)
  | 19 => ("ScanMachineModel", "lastSteps", "I", false)
  | 20 => ("ScanMachineModel", "scans", "I", false)
  | 21 => ("ScanMachineModel", "faults", "I", false)
  | 22 => ("ScanMachineModel", "deepest", "I", false)
  | 23 => ("ScanMachineModel", "stack", "[I", true)
  | 24 => ("ScanMachineModel", "depth", "I", false)
  | 25 => ("ScanMachineModel", "unitOf", "[I", true)
  | 26 => ("ScanMachineModel", "baseOf", "[I", true)
  | _ => ("ScanMachineModel", "nextOf", "[I", true)
def ty_Mo : Nat → FieldType := fun k => match k with
  | 0 => .int
  | 1 => .array .int
  | 2 => .int
  | 3 => .array .int
  | 4 => .array .int
  | 5 => .array .int
  | 6 => .int
  | 7 => .array .int
  | 8 => .array .int
  | 9 => .array .int
  | 10 => .array .int
  | 11 => .int
  | 12 => .int
  | 13 => .array .int
  | 14 => .array .long
  | 15 => .array .long
  | 16 => .array .long
  | 17 => .boolean
  | 18 => .int
  | 19 => .int
  | 20 => .int
  | 21 => .int
  | 22 => .int
  | 23 => .array .int
  | 24 => .int
  | 25 => .array .int
  | 26 => .array .int
  | _ => .array .int
theorem nm_Mo : ∀ a, a < 28 → ∀ b, b < 28 → a ≠ b → (T_Mo_ a).2.1 ≠ (T_Mo_ b).2.1 := by decide +kernel
theorem tyok_Mo : ∀ k, k < 28 → parseFieldDescriptor (T_Mo_ k).2.2.1 = some (ty_Mo k) := by decide +kernel
theorem in_Mo : ∀ w ∈ u_ws "ScanMachineModel" T_Mo_ 28, w ∈ TB := by
  intro w hw
  obtain ⟨k, hk, rfl⟩ := List.mem_map.mp hw
  have hk := List.mem_range.mp hk
  match k, hk with
  | 0, _ => exact tb_at (lt_s3 235 (by decide +kernel)) (by decide +kernel)
  | 1, _ => exact tb_at (lt_s3 237 (by decide +kernel)) (by decide +kernel)
  | 2, _ => exact tb_at (lt_s3 239 (by decide +kernel)) (by decide +kernel)
  | 3, _ => exact tb_at (lt_s4 1 (by decide +kernel)) (by decide +kernel)
  | 4, _ => exact tb_at (lt_s4 3 (by decide +kernel)) (by decide +kernel)
  | 5, _ => exact tb_at (lt_s4 5 (by decide +kernel)) (by decide +kernel)
  | 6, _ => exact tb_at (lt_s4 7 (by decide +kernel)) (by decide +kernel)
  | 7, _ => exact tb_at (lt_s4 9 (by decide +kernel)) (by decide +kernel)
  | 8, _ => exact tb_at (lt_s4 11 (by decide +kernel)) (by decide +kernel)
  | 9, _ => exact tb_at (lt_s4 13 (by decide +kernel)) (by decide +kernel)
  | 10, _ => exact tb_at (lt_s4 15 (by decide +kernel)) (by decide +kernel)
  | 11, _ => exact tb_at (lt_s4 17 (by decide +kernel)) (by decide +kernel)
  | 12, _ => exact tb_at (lt_s4 19 (by decide +kernel)) (by decide +kernel)
  | 13, _ => exact tb_at (lt_s4 21 (by decide +kernel)) (by decide +kernel)
  | 14, _ => exact tb_at (lt_s4 23 (by decide +kernel)) (by decide +kernel)
  | 15, _ => exact tb_at (lt_s4 25 (by decide +kernel)) (by decide +kernel)
  | 16, _ => exact tb_at (lt_s4 27 (by decide +kernel)) (by decide +kernel)
  | 17, _ => exact tb_at (lt_s4 29 (by decide +kernel)) (by decide +kernel)
  | 18, _ => exact tb_at (lt_s4 31 (by decide +kernel)) (by decide +kernel)
  | 19, _ => exact tb_at (lt_s4 33 (by decide +kernel)) (by decide +kernel)
  | 20, _ => exact tb_at (lt_s4 35 (by decide +kernel)) (by decide +kernel)
  | 21, _ => exact tb_at (lt_s4 37 (by decide +kernel)) (by decide +kernel)
  | 22, _ => exact tb_at (lt_s4 39 (by decide +kernel)) (by decide +kernel)
  | 23, _ => exact tb_at (lt_s4 41 (by decide +kernel)) (by decide +kernel)
  | 24, _ => exact tb_at (lt_s4 43 (by decide +kernel)) (by decide +kernel)
  | 25, _ => exact tb_at (lt_s4 45 (by decide +kernel)) (by decide +kernel)
  | 26, _ => exact tb_at (lt_s4 47 (by decide +kernel)) (by decide +kernel)
  | 27, _ => exact tb_at (lt_s4 49 (by decide +kernel)) (by decide +kernel)
  | k + 28, h => exact absurd h (by omega)
def clX : List vw_C := [("ScanMachine", T_Sm_, 13), ("ScanMachine$Code", T_Co_, 10), ("ScanMachine$Shape", T_Sh_, 7), ("ScanMachine$Loops", T_Lo_, 4), ("ScanMachine$Depths", T_De_, 2), ("ScanMachine$Ways", T_Wa_, 6), ("ScanMachine$Memory", T_Me_, 4), ("ScanMachine$Runner", T_Ru_, 13), ("ScanMachine$Blocks", T_Bl_, 1), ("ScanMachineModel", T_Mo_, 28)]
abbrev tyX (cI cL : ClassId) : List (ClassId × FieldType) := [(cI, .int), (cL, .long)]
abbrev T_ma : Type := Int32 × Int32 × Int32 × Int32 × Int32 × Int32
def ma_total (x : T_ma) : Int32 := x.1
def ma_total_s (x : T_ma) (v : Int32) : T_ma := (v, x.2.1, x.2.2.1, x.2.2.2.1, x.2.2.2.2.1, x.2.2.2.2.2)
def ma_ready (x : T_ma) : Int32 := x.2.1
def ma_ready_s (x : T_ma) (v : Int32) : T_ma := (x.1, v, x.2.2.1, x.2.2.2.1, x.2.2.2.2.1, x.2.2.2.2.2)
def ma_allowed (x : T_ma) : Int32 := x.2.2.1
def ma_allowed_s (x : T_ma) (v : Int32) : T_ma := (x.1, x.2.1, v, x.2.2.2.1, x.2.2.2.2.1, x.2.2.2.2.2)
def ma_now (x : T_ma) : Int32 := x.2.2.2.1
def ma_now_s (x : T_ma) (v : Int32) : T_ma := (x.1, x.2.1, x.2.2.1, v, x.2.2.2.2.1, x.2.2.2.2.2)
def ma_scans (x : T_ma) : Int32 := x.2.2.2.2.1
def ma_scans_s (x : T_ma) (v : Int32) : T_ma := (x.1, x.2.1, x.2.2.1, x.2.2.2.1, v, x.2.2.2.2.2)
def ma_faults (x : T_ma) : Int32 := x.2.2.2.2.2
def ma_faults_s (x : T_ma) (v : Int32) : T_ma := (x.1, x.2.1, x.2.2.1, x.2.2.2.1, x.2.2.2.2.1, v)
abbrev T_ko : Type := Int32 × Int32 × (Nat → Int32) × (Nat → Int32) × (Nat → Int32) × (Nat → Int32) × (Nat → Int32) × (Nat → Int32) × (Nat → Int32) × (Nat → Int32)
def ko_units (x : T_ko) : Int32 := x.1
def ko_units_s (x : T_ko) (v : Int32) : T_ko := (v, x.2.1, x.2.2.1, x.2.2.2.1, x.2.2.2.2.1, x.2.2.2.2.2.1, x.2.2.2.2.2.2.1, x.2.2.2.2.2.2.2.1, x.2.2.2.2.2.2.2.2.1, x.2.2.2.2.2.2.2.2.2)
def ko_length (x : T_ko) : Int32 := x.2.1
def ko_length_s (x : T_ko) (v : Int32) : T_ko := (x.1, v, x.2.2.1, x.2.2.2.1, x.2.2.2.2.1, x.2.2.2.2.2.1, x.2.2.2.2.2.2.1, x.2.2.2.2.2.2.2.1, x.2.2.2.2.2.2.2.2.1, x.2.2.2.2.2.2.2.2.2)
def ko_frames (x : T_ko) : Nat → Int32 := x.2.2.1
def ko_frames_s (x : T_ko) (v : Nat → Int32) : T_ko := (x.1, x.2.1, v, x.2.2.2.1, x.2.2.2.2.1, x.2.2.2.2.2.1, x.2.2.2.2.2.2.1, x.2.2.2.2.2.2.2.1, x.2.2.2.2.2.2.2.2.1, x.2.2.2.2.2.2.2.2.2)
def ko_places (x : T_ko) : Nat → Int32 := x.2.2.2.1
def ko_places_s (x : T_ko) (v : Nat → Int32) : T_ko := (x.1, x.2.1, x.2.2.1, v, x.2.2.2.2.1, x.2.2.2.2.2.1, x.2.2.2.2.2.2.1, x.2.2.2.2.2.2.2.1, x.2.2.2.2.2.2.2.2.1, x.2.2.2.2.2.2.2.2.2)
def ko_firsts (x : T_ko) : Nat → Int32 := x.2.2.2.2.1
def ko_firsts_s (x : T_ko) (v : Nat → Int32) : T_ko := (x.1, x.2.1, x.2.2.1, x.2.2.2.1, v, x.2.2.2.2.2.1, x.2.2.2.2.2.2.1, x.2.2.2.2.2.2.2.1, x.2.2.2.2.2.2.2.2.1, x.2.2.2.2.2.2.2.2.2)
def ko_sizes (x : T_ko) : Nat → Int32 := x.2.2.2.2.2.1
def ko_sizes_s (x : T_ko) (v : Nat → Int32) : T_ko := (x.1, x.2.1, x.2.2.1, x.2.2.2.1, x.2.2.2.2.1, v, x.2.2.2.2.2.2.1, x.2.2.2.2.2.2.2.1, x.2.2.2.2.2.2.2.2.1, x.2.2.2.2.2.2.2.2.2)
def ko_numbers (x : T_ko) : Nat → Int32 := x.2.2.2.2.2.2.1
def ko_numbers_s (x : T_ko) (v : Nat → Int32) : T_ko := (x.1, x.2.1, x.2.2.1, x.2.2.2.1, x.2.2.2.2.1, x.2.2.2.2.2.1, v, x.2.2.2.2.2.2.2.1, x.2.2.2.2.2.2.2.2.1, x.2.2.2.2.2.2.2.2.2)
def ko_as_ (x : T_ko) : Nat → Int32 := x.2.2.2.2.2.2.2.1
def ko_as__s (x : T_ko) (v : Nat → Int32) : T_ko := (x.1, x.2.1, x.2.2.1, x.2.2.2.1, x.2.2.2.2.1, x.2.2.2.2.2.1, x.2.2.2.2.2.2.1, v, x.2.2.2.2.2.2.2.2.1, x.2.2.2.2.2.2.2.2.2)
def ko_bs (x : T_ko) : Nat → Int32 := x.2.2.2.2.2.2.2.2.1
def ko_bs_s (x : T_ko) (v : Nat → Int32) : T_ko := (x.1, x.2.1, x.2.2.1, x.2.2.2.1, x.2.2.2.2.1, x.2.2.2.2.2.1, x.2.2.2.2.2.2.1, x.2.2.2.2.2.2.2.1, v, x.2.2.2.2.2.2.2.2.2)
def ko_cs (x : T_ko) : Nat → Int32 := x.2.2.2.2.2.2.2.2.2
def ko_cs_s (x : T_ko) (v : Nat → Int32) : T_ko := (x.1, x.2.1, x.2.2.1, x.2.2.2.1, x.2.2.2.2.1, x.2.2.2.2.2.1, x.2.2.2.2.2.2.1, x.2.2.2.2.2.2.2.1, x.2.2.2.2.2.2.2.2.1, v)
abbrev T_sh : Type := Int32 × Int32 × Int32 × Int32 × Int32 × Int32
def sh_unit (x : T_sh) : Int32 := x.1
def sh_unit_s (x : T_sh) (v : Int32) : T_sh := (v, x.2.1, x.2.2.1, x.2.2.2.1, x.2.2.2.2.1, x.2.2.2.2.2)
def sh_i (x : T_sh) : Int32 := x.2.1
def sh_i_s (x : T_sh) (v : Int32) : T_sh := (x.1, v, x.2.2.1, x.2.2.2.1, x.2.2.2.2.1, x.2.2.2.2.2)
def sh_number (x : T_sh) : Int32 := x.2.2.1
def sh_number_s (x : T_sh) (v : Int32) : T_sh := (x.1, x.2.1, v, x.2.2.2.1, x.2.2.2.2.1, x.2.2.2.2.2)
def sh_a (x : T_sh) : Int32 := x.2.2.2.1
def sh_a_s (x : T_sh) (v : Int32) : T_sh := (x.1, x.2.1, x.2.2.1, v, x.2.2.2.2.1, x.2.2.2.2.2)
def sh_b (x : T_sh) : Int32 := x.2.2.2.2.1
def sh_b_s (x : T_sh) (v : Int32) : T_sh := (x.1, x.2.1, x.2.2.1, x.2.2.2.1, v, x.2.2.2.2.2)
def sh_c (x : T_sh) : Int32 := x.2.2.2.2.2
def sh_c_s (x : T_sh) (v : Int32) : T_sh := (x.1, x.2.1, x.2.2.1, x.2.2.2.1, x.2.2.2.2.1, v)
abbrev T_lo : Type := Int32 × Int32 × (Nat → Int32)
def lo_loops (x : T_lo) : Int32 := x.1
def lo_loops_s (x : T_lo) (v : Int32) : T_lo := (v, x.2.1, x.2.2)
def lo_unit (x : T_lo) : Int32 := x.2.1
def lo_unit_s (x : T_lo) (v : Int32) : T_lo := (x.1, v, x.2.2)
def lo_nexts (x : T_lo) : Nat → Int32 := x.2.2
def lo_nexts_s (x : T_lo) (v : Nat → Int32) : T_lo := (x.1, x.2.1, v)
abbrev T_de : Type := (Nat → Int32)
def de_depths (x : T_de) : Nat → Int32 := x
def de_depths_s (x : T_de) (v : Nat → Int32) : T_de := v
abbrev T_wa : Type := Int32 × Int32 × (Nat → Int64) × (Nat → Int64) × (Nat → Int64)
def wa_unit (x : T_wa) : Int32 := x.1
def wa_unit_s (x : T_wa) (v : Int32) : T_wa := (v, x.2.1, x.2.2.1, x.2.2.2.1, x.2.2.2.2)
def wa_end_ (x : T_wa) : Int32 := x.2.1
def wa_end__s (x : T_wa) (v : Int32) : T_wa := (x.1, v, x.2.2.1, x.2.2.2.1, x.2.2.2.2)
def wa_reached (x : T_wa) : Nat → Int64 := x.2.2.1
def wa_reached_s (x : T_wa) (v : Nat → Int64) : T_wa := (x.1, x.2.1, v, x.2.2.2.1, x.2.2.2.2)
def wa_rounds (x : T_wa) : Nat → Int64 := x.2.2.2.1
def wa_rounds_s (x : T_wa) (v : Nat → Int64) : T_wa := (x.1, x.2.1, x.2.2.1, v, x.2.2.2.2)
def wa_steps (x : T_wa) : Nat → Int64 := x.2.2.2.2
def wa_steps_s (x : T_wa) (v : Nat → Int64) : T_wa := (x.1, x.2.1, x.2.2.1, x.2.2.2.1, v)
abbrev T_me : Type := Int32 × Int32 × (Nat → Int32) × (Nat → Int32)
def me_depth (x : T_me) : Int32 := x.1
def me_depth_s (x : T_me) (v : Int32) : T_me := (v, x.2.1, x.2.2.1, x.2.2.2)
def me_deepest (x : T_me) : Int32 := x.2.1
def me_deepest_s (x : T_me) (v : Int32) : T_me := (x.1, v, x.2.2.1, x.2.2.2)
def me_cells (x : T_me) : Nat → Int32 := x.2.2.1
def me_cells_s (x : T_me) (v : Nat → Int32) : T_me := (x.1, x.2.1, v, x.2.2.2)
def me_stack (x : T_me) : Nat → Int32 := x.2.2.2
def me_stack_s (x : T_me) (v : Nat → Int32) : T_me := (x.1, x.2.1, x.2.2.1, v)
abbrev T_ru : Type := Int32 × Int32 × Int32 × Int32 × Int32 × Int32 × Int32 × (Nat → Int32) × (Nat → Int32) × (Nat → Int32)
def ru_waiting (x : T_ru) : Int32 := x.1
def ru_waiting_s (x : T_ru) (v : Int32) : T_ru := (v, x.2.1, x.2.2.1, x.2.2.2.1, x.2.2.2.2.1, x.2.2.2.2.2.1, x.2.2.2.2.2.2.1, x.2.2.2.2.2.2.2.1, x.2.2.2.2.2.2.2.2.1, x.2.2.2.2.2.2.2.2.2)
def ru_unit (x : T_ru) : Int32 := x.2.1
def ru_unit_s (x : T_ru) (v : Int32) : T_ru := (x.1, v, x.2.2.1, x.2.2.2.1, x.2.2.2.2.1, x.2.2.2.2.2.1, x.2.2.2.2.2.2.1, x.2.2.2.2.2.2.2.1, x.2.2.2.2.2.2.2.2.1, x.2.2.2.2.2.2.2.2.2)
def ru_next (x : T_ru) : Int32 := x.2.2.1
def ru_next_s (x : T_ru) (v : Int32) : T_ru := (x.1, x.2.1, v, x.2.2.2.1, x.2.2.2.2.1, x.2.2.2.2.2.1, x.2.2.2.2.2.2.1, x.2.2.2.2.2.2.2.1, x.2.2.2.2.2.2.2.2.1, x.2.2.2.2.2.2.2.2.2)
def ru_base (x : T_ru) : Int32 := x.2.2.2.1
def ru_base_s (x : T_ru) (v : Int32) : T_ru := (x.1, x.2.1, x.2.2.1, v, x.2.2.2.2.1, x.2.2.2.2.2.1, x.2.2.2.2.2.2.1, x.2.2.2.2.2.2.2.1, x.2.2.2.2.2.2.2.2.1, x.2.2.2.2.2.2.2.2.2)
def ru_steps (x : T_ru) : Int32 := x.2.2.2.2.1
def ru_steps_s (x : T_ru) (v : Int32) : T_ru := (x.1, x.2.1, x.2.2.1, x.2.2.2.1, v, x.2.2.2.2.2.1, x.2.2.2.2.2.2.1, x.2.2.2.2.2.2.2.1, x.2.2.2.2.2.2.2.2.1, x.2.2.2.2.2.2.2.2.2)
def ru_fault (x : T_ru) : Int32 := x.2.2.2.2.2.1
def ru_fault_s (x : T_ru) (v : Int32) : T_ru := (x.1, x.2.1, x.2.2.1, x.2.2.2.1, x.2.2.2.2.1, v, x.2.2.2.2.2.2.1, x.2.2.2.2.2.2.2.1, x.2.2.2.2.2.2.2.2.1, x.2.2.2.2.2.2.2.2.2)
def ru_now (x : T_ru) : Int32 := x.2.2.2.2.2.2.1
def ru_now_s (x : T_ru) (v : Int32) : T_ru := (x.1, x.2.1, x.2.2.1, x.2.2.2.1, x.2.2.2.2.1, x.2.2.2.2.2.1, v, x.2.2.2.2.2.2.2.1, x.2.2.2.2.2.2.2.2.1, x.2.2.2.2.2.2.2.2.2)
def ru_waitingUnits (x : T_ru) : Nat → Int32 := x.2.2.2.2.2.2.2.1
def ru_waitingUnits_s (x : T_ru) (v : Nat → Int32) : T_ru := (x.1, x.2.1, x.2.2.1, x.2.2.2.1, x.2.2.2.2.1, x.2.2.2.2.2.1, x.2.2.2.2.2.2.1, v, x.2.2.2.2.2.2.2.2.1, x.2.2.2.2.2.2.2.2.2)
def ru_waitingNexts (x : T_ru) : Nat → Int32 := x.2.2.2.2.2.2.2.2.1
def ru_waitingNexts_s (x : T_ru) (v : Nat → Int32) : T_ru := (x.1, x.2.1, x.2.2.1, x.2.2.2.1, x.2.2.2.2.1, x.2.2.2.2.2.1, x.2.2.2.2.2.2.1, x.2.2.2.2.2.2.2.1, v, x.2.2.2.2.2.2.2.2.2)
def ru_waitingBases (x : T_ru) : Nat → Int32 := x.2.2.2.2.2.2.2.2.2
def ru_waitingBases_s (x : T_ru) (v : Nat → Int32) : T_ru := (x.1, x.2.1, x.2.2.1, x.2.2.2.1, x.2.2.2.2.1, x.2.2.2.2.2.1, x.2.2.2.2.2.2.1, x.2.2.2.2.2.2.2.1, x.2.2.2.2.2.2.2.2.1, v)
abbrev T_mc : Type := Int32 × Int32 × Int32 × (Nat → Int32) × (Nat → Int32) × (Nat → Int32) × (Nat → Int32) × (Nat → Int32) × (Nat → Int32) × (Nat → Int32)
def mc_size (x : T_mc) : Int32 := x.1
def mc_size_s (x : T_mc) (v : Int32) : T_mc := (v, x.2.1, x.2.2.1, x.2.2.2.1, x.2.2.2.2.1, x.2.2.2.2.2.1, x.2.2.2.2.2.2.1, x.2.2.2.2.2.2.2.1, x.2.2.2.2.2.2.2.2.1, x.2.2.2.2.2.2.2.2.2)
def mc_units (x : T_mc) : Int32 := x.2.1
def mc_units_s (x : T_mc) (v : Int32) : T_mc := (x.1, v, x.2.2.1, x.2.2.2.1, x.2.2.2.2.1, x.2.2.2.2.2.1, x.2.2.2.2.2.2.1, x.2.2.2.2.2.2.2.1, x.2.2.2.2.2.2.2.2.1, x.2.2.2.2.2.2.2.2.2)
def mc_total (x : T_mc) : Int32 := x.2.2.1
def mc_total_s (x : T_mc) (v : Int32) : T_mc := (x.1, x.2.1, v, x.2.2.2.1, x.2.2.2.2.1, x.2.2.2.2.2.1, x.2.2.2.2.2.2.1, x.2.2.2.2.2.2.2.1, x.2.2.2.2.2.2.2.2.1, x.2.2.2.2.2.2.2.2.2)
def mc_frames (x : T_mc) : Nat → Int32 := x.2.2.2.1
def mc_frames_s (x : T_mc) (v : Nat → Int32) : T_mc := (x.1, x.2.1, x.2.2.1, v, x.2.2.2.2.1, x.2.2.2.2.2.1, x.2.2.2.2.2.2.1, x.2.2.2.2.2.2.2.1, x.2.2.2.2.2.2.2.2.1, x.2.2.2.2.2.2.2.2.2)
def mc_places (x : T_mc) : Nat → Int32 := x.2.2.2.2.1
def mc_places_s (x : T_mc) (v : Nat → Int32) : T_mc := (x.1, x.2.1, x.2.2.1, x.2.2.2.1, v, x.2.2.2.2.2.1, x.2.2.2.2.2.2.1, x.2.2.2.2.2.2.2.1, x.2.2.2.2.2.2.2.2.1, x.2.2.2.2.2.2.2.2.2)
def mc_firsts (x : T_mc) : Nat → Int32 := x.2.2.2.2.2.1
def mc_firsts_s (x : T_mc) (v : Nat → Int32) : T_mc := (x.1, x.2.1, x.2.2.1, x.2.2.2.1, x.2.2.2.2.1, v, x.2.2.2.2.2.2.1, x.2.2.2.2.2.2.2.1, x.2.2.2.2.2.2.2.2.1, x.2.2.2.2.2.2.2.2.2)
def mc_numbers (x : T_mc) : Nat → Int32 := x.2.2.2.2.2.2.1
def mc_numbers_s (x : T_mc) (v : Nat → Int32) : T_mc := (x.1, x.2.1, x.2.2.1, x.2.2.2.1, x.2.2.2.2.1, x.2.2.2.2.2.1, v, x.2.2.2.2.2.2.2.1, x.2.2.2.2.2.2.2.2.1, x.2.2.2.2.2.2.2.2.2)
def mc_as_ (x : T_mc) : Nat → Int32 := x.2.2.2.2.2.2.2.1
def mc_as__s (x : T_mc) (v : Nat → Int32) : T_mc := (x.1, x.2.1, x.2.2.1, x.2.2.2.1, x.2.2.2.2.1, x.2.2.2.2.2.1, x.2.2.2.2.2.2.1, v, x.2.2.2.2.2.2.2.2.1, x.2.2.2.2.2.2.2.2.2)
def mc_bs (x : T_mc) : Nat → Int32 := x.2.2.2.2.2.2.2.2.1
def mc_bs_s (x : T_mc) (v : Nat → Int32) : T_mc := (x.1, x.2.1, x.2.2.1, x.2.2.2.1, x.2.2.2.2.1, x.2.2.2.2.2.1, x.2.2.2.2.2.2.1, x.2.2.2.2.2.2.2.1, v, x.2.2.2.2.2.2.2.2.2)
def mc_cs (x : T_mc) : Nat → Int32 := x.2.2.2.2.2.2.2.2.2
def mc_cs_s (x : T_mc) (v : Nat → Int32) : T_mc := (x.1, x.2.1, x.2.2.1, x.2.2.2.1, x.2.2.2.2.1, x.2.2.2.2.2.1, x.2.2.2.2.2.2.1, x.2.2.2.2.2.2.2.1, x.2.2.2.2.2.2.2.2.1, v)
abbrev T_mk : Type := Int32 × Int32 × (Nat → Int32) × (Nat → Int64) × (Nat → Int64) × (Nat → Int64)
def mk_from_ (x : T_mk) : Int32 := x.1
def mk_from__s (x : T_mk) (v : Int32) : T_mk := (v, x.2.1, x.2.2.1, x.2.2.2.1, x.2.2.2.2.1, x.2.2.2.2.2)
def mk_many (x : T_mk) : Int32 := x.2.1
def mk_many_s (x : T_mk) (v : Int32) : T_mk := (x.1, v, x.2.2.1, x.2.2.2.1, x.2.2.2.2.1, x.2.2.2.2.2)
def mk_depths (x : T_mk) : Nat → Int32 := x.2.2.1
def mk_depths_s (x : T_mk) (v : Nat → Int32) : T_mk := (x.1, x.2.1, v, x.2.2.2.1, x.2.2.2.2.1, x.2.2.2.2.2)
def mk_ways (x : T_mk) : Nat → Int64 := x.2.2.2.1
def mk_ways_s (x : T_mk) (v : Nat → Int64) : T_mk := (x.1, x.2.1, x.2.2.1, v, x.2.2.2.2.1, x.2.2.2.2.2)
def mk_rounds (x : T_mk) : Nat → Int64 := x.2.2.2.2.1
def mk_rounds_s (x : T_mk) (v : Nat → Int64) : T_mk := (x.1, x.2.1, x.2.2.1, x.2.2.2.1, v, x.2.2.2.2.2)
def mk_steps (x : T_mk) : Nat → Int64 := x.2.2.2.2.2
def mk_steps_s (x : T_mk) (v : Nat → Int64) : T_mk := (x.1, x.2.1, x.2.2.1, x.2.2.2.1, x.2.2.2.2.1, v)
abbrev T_mr : Type := Int32 × Int32 × Int32 × Int32 × Int32 × Int32 × Int32 × (Nat → Int32) × (Nat → Int32) × (Nat → Int32) × (Nat → Int32) × (Nat → Int32)
def mr_runs (x : T_mr) : Int32 := x.1
def mr_runs_s (x : T_mr) (v : Int32) : T_mr := (v, x.2.1, x.2.2.1, x.2.2.2.1, x.2.2.2.2.1, x.2.2.2.2.2.1, x.2.2.2.2.2.2.1, x.2.2.2.2.2.2.2.1, x.2.2.2.2.2.2.2.2.1, x.2.2.2.2.2.2.2.2.2.1, x.2.2.2.2.2.2.2.2.2.2.1, x.2.2.2.2.2.2.2.2.2.2.2)
def mr_now (x : T_mr) : Int32 := x.2.1
def mr_now_s (x : T_mr) (v : Int32) : T_mr := (x.1, v, x.2.2.1, x.2.2.2.1, x.2.2.2.2.1, x.2.2.2.2.2.1, x.2.2.2.2.2.2.1, x.2.2.2.2.2.2.2.1, x.2.2.2.2.2.2.2.2.1, x.2.2.2.2.2.2.2.2.2.1, x.2.2.2.2.2.2.2.2.2.2.1, x.2.2.2.2.2.2.2.2.2.2.2)
def mr_lastSteps (x : T_mr) : Int32 := x.2.2.1
def mr_lastSteps_s (x : T_mr) (v : Int32) : T_mr := (x.1, x.2.1, v, x.2.2.2.1, x.2.2.2.2.1, x.2.2.2.2.2.1, x.2.2.2.2.2.2.1, x.2.2.2.2.2.2.2.1, x.2.2.2.2.2.2.2.2.1, x.2.2.2.2.2.2.2.2.2.1, x.2.2.2.2.2.2.2.2.2.2.1, x.2.2.2.2.2.2.2.2.2.2.2)
def mr_scans (x : T_mr) : Int32 := x.2.2.2.1
def mr_scans_s (x : T_mr) (v : Int32) : T_mr := (x.1, x.2.1, x.2.2.1, v, x.2.2.2.2.1, x.2.2.2.2.2.1, x.2.2.2.2.2.2.1, x.2.2.2.2.2.2.2.1, x.2.2.2.2.2.2.2.2.1, x.2.2.2.2.2.2.2.2.2.1, x.2.2.2.2.2.2.2.2.2.2.1, x.2.2.2.2.2.2.2.2.2.2.2)
def mr_faults (x : T_mr) : Int32 := x.2.2.2.2.1
def mr_faults_s (x : T_mr) (v : Int32) : T_mr := (x.1, x.2.1, x.2.2.1, x.2.2.2.1, v, x.2.2.2.2.2.1, x.2.2.2.2.2.2.1, x.2.2.2.2.2.2.2.1, x.2.2.2.2.2.2.2.2.1, x.2.2.2.2.2.2.2.2.2.1, x.2.2.2.2.2.2.2.2.2.2.1, x.2.2.2.2.2.2.2.2.2.2.2)
def mr_deepest (x : T_mr) : Int32 := x.2.2.2.2.2.1
def mr_deepest_s (x : T_mr) (v : Int32) : T_mr := (x.1, x.2.1, x.2.2.1, x.2.2.2.1, x.2.2.2.2.1, v, x.2.2.2.2.2.2.1, x.2.2.2.2.2.2.2.1, x.2.2.2.2.2.2.2.2.1, x.2.2.2.2.2.2.2.2.2.1, x.2.2.2.2.2.2.2.2.2.2.1, x.2.2.2.2.2.2.2.2.2.2.2)
def mr_depth (x : T_mr) : Int32 := x.2.2.2.2.2.2.1
def mr_depth_s (x : T_mr) (v : Int32) : T_mr := (x.1, x.2.1, x.2.2.1, x.2.2.2.1, x.2.2.2.2.1, x.2.2.2.2.2.1, v, x.2.2.2.2.2.2.2.1, x.2.2.2.2.2.2.2.2.1, x.2.2.2.2.2.2.2.2.2.1, x.2.2.2.2.2.2.2.2.2.2.1, x.2.2.2.2.2.2.2.2.2.2.2)
def mr_cells (x : T_mr) : Nat → Int32 := x.2.2.2.2.2.2.2.1
def mr_cells_s (x : T_mr) (v : Nat → Int32) : T_mr := (x.1, x.2.1, x.2.2.1, x.2.2.2.1, x.2.2.2.2.1, x.2.2.2.2.2.1, x.2.2.2.2.2.2.1, v, x.2.2.2.2.2.2.2.2.1, x.2.2.2.2.2.2.2.2.2.1, x.2.2.2.2.2.2.2.2.2.2.1, x.2.2.2.2.2.2.2.2.2.2.2)
def mr_stack (x : T_mr) : Nat → Int32 := x.2.2.2.2.2.2.2.2.1
def mr_stack_s (x : T_mr) (v : Nat → Int32) : T_mr := (x.1, x.2.1, x.2.2.1, x.2.2.2.1, x.2.2.2.2.1, x.2.2.2.2.2.1, x.2.2.2.2.2.2.1, x.2.2.2.2.2.2.2.1, v, x.2.2.2.2.2.2.2.2.2.1, x.2.2.2.2.2.2.2.2.2.2.1, x.2.2.2.2.2.2.2.2.2.2.2)
def mr_unitOf (x : T_mr) : Nat → Int32 := x.2.2.2.2.2.2.2.2.2.1
def mr_unitOf_s (x : T_mr) (v : Nat → Int32) : T_mr := (x.1, x.2.1, x.2.2.1, x.2.2.2.1, x.2.2.2.2.1, x.2.2.2.2.2.1, x.2.2.2.2.2.2.1, x.2.2.2.2.2.2.2.1, x.2.2.2.2.2.2.2.2.1, v, x.2.2.2.2.2.2.2.2.2.2.1, x.2.2.2.2.2.2.2.2.2.2.2)
def mr_baseOf (x : T_mr) : Nat → Int32 := x.2.2.2.2.2.2.2.2.2.2.1
def mr_baseOf_s (x : T_mr) (v : Nat → Int32) : T_mr := (x.1, x.2.1, x.2.2.1, x.2.2.2.1, x.2.2.2.2.1, x.2.2.2.2.2.1, x.2.2.2.2.2.2.1, x.2.2.2.2.2.2.2.1, x.2.2.2.2.2.2.2.2.1, x.2.2.2.2.2.2.2.2.2.1, v, x.2.2.2.2.2.2.2.2.2.2.2)
def mr_nextOf (x : T_mr) : Nat → Int32 := x.2.2.2.2.2.2.2.2.2.2.2
def mr_nextOf_s (x : T_mr) (v : Nat → Int32) : T_mr := (x.1, x.2.1, x.2.2.1, x.2.2.2.1, x.2.2.2.2.1, x.2.2.2.2.2.1, x.2.2.2.2.2.2.1, x.2.2.2.2.2.2.2.1, x.2.2.2.2.2.2.2.2.1, x.2.2.2.2.2.2.2.2.2.1, x.2.2.2.2.2.2.2.2.2.2.1, v)
def wX (cI cL : ClassId) (ad : Nat → Nat) (ma : T_ma) (ko : T_ko) (sh : T_sh) (lo : T_lo) (de : T_de) (wa : T_wa) (me : T_me) (ru : T_ru) : va_W := [(ad 0, .inr (0, [.ref (ad 1), .ref (ad 10), .ref (ad 11), .ref (ad 13), .ref (ad 15), .ref (ad 19), .ref (ad 22), .int (ma_total ma), .int (ma_ready ma), .int (ma_allowed ma), .int (ma_now ma), .int (ma_scans ma), .int (ma_faults ma)])),
  (ad 1, .inr (1, [.ref (ad 2), .ref (ad 3), .ref (ad 4), .ref (ad 5), .ref (ad 6), .ref (ad 7), .ref (ad 8), .ref (ad 9), .int (ko_units ko), .int (ko_length ko)])),
  (ad 2, .inl (cI, 16, .inl (ko_frames ko))),
  (ad 3, .inl (cI, 16, .inl (ko_places ko))),
  (ad 4, .inl (cI, 16, .inl (ko_firsts ko))),
  (ad 5, .inl (cI, 16, .inl (ko_sizes ko))),
  (ad 6, .inl (cI, 256, .inl (ko_numbers ko))),
  (ad 7, .inl (cI, 256, .inl (ko_as_ ko))),
  (ad 8, .inl (cI, 256, .inl (ko_bs ko))),
  (ad 9, .inl (cI, 256, .inl (ko_cs ko))),
  (ad 10, .inr (2, [.ref (ad 1), .int (sh_unit sh), .int (sh_i sh), .int (sh_number sh), .int (sh_a sh), .int (sh_b sh), .int (sh_c sh)])),
  (ad 11, .inr (3, [.ref (ad 1), .ref (ad 12), .int (lo_loops lo), .int (lo_unit lo)])),
  (ad 12, .inl (cI, 256, .inl (lo_nexts lo))),
  (ad 13, .inr (4, [.ref (ad 1), .ref (ad 14)])),
  (ad 14, .inl (cI, 257, .inl (de_depths de))),
  (ad 15, .inr (5, [.ref (ad 1), .ref (ad 16), .ref (ad 17), .ref (ad 18), .int (wa_unit wa), .int (wa_end_ wa)])),
  (ad 16, .inl (cL, 257, .inr (.inl (wa_reached wa)))),
  (ad 17, .inl (cL, 256, .inr (.inl (wa_rounds wa)))),
  (ad 18, .inl (cL, 16, .inr (.inl (wa_steps wa)))),
  (ad 19, .inr (6, [.ref (ad 20), .ref (ad 21), .int (me_depth me), .int (me_deepest me)])),
  (ad 20, .inl (cI, 4096, .inl (me_cells me))),
  (ad 21, .inl (cI, 1024, .inl (me_stack me))),
  (ad 22, .inr (7, [.ref (ad 1), .ref (ad 19), .ref (ad 26), .ref (ad 23), .ref (ad 24), .ref (ad 25), .int (ru_waiting ru), .int (ru_unit ru), .int (ru_next ru), .int (ru_base ru), .int (ru_steps ru), .int (ru_fault ru), .int (ru_now ru)])),
  (ad 23, .inl (cI, 16, .inl (ru_waitingUnits ru))),
  (ad 24, .inl (cI, 16, .inl (ru_waitingNexts ru))),
  (ad 25, .inl (cI, 16, .inl (ru_waitingBases ru))),
  (ad 26, .inr (8, [.ref (ad 19)]))]
def wM (cI cL : ClassId) (ad : Nat → Nat) (mc : T_mc) (mk : T_mk) (mr : T_mr) : va_W := [(ad 0, .inr (9, [.int (mc_size mc), .ref (ad 1), .int (mc_units mc), .ref (ad 2), .ref (ad 3), .ref (ad 4), .int (mc_total mc), .ref (ad 5), .ref (ad 6), .ref (ad 7), .ref (ad 8), .int (mk_from_ mk), .int (mk_many mk), .ref (ad 9), .ref (ad 10), .ref (ad 11), .ref (ad 12), .int (mr_runs mr), .int (mr_now mr), .int (mr_lastSteps mr), .int (mr_scans mr), .int (mr_faults mr), .int (mr_deepest mr), .ref (ad 13), .int (mr_depth mr), .ref (ad 14), .ref (ad 15), .ref (ad 16)])),
  (ad 1, .inl (cI, 4096, .inl (mr_cells mr))),
  (ad 2, .inl (cI, 16, .inl (mc_frames mc))),
  (ad 3, .inl (cI, 16, .inl (mc_places mc))),
  (ad 4, .inl (cI, 17, .inl (mc_firsts mc))),
  (ad 5, .inl (cI, 256, .inl (mc_numbers mc))),
  (ad 6, .inl (cI, 256, .inl (mc_as_ mc))),
  (ad 7, .inl (cI, 256, .inl (mc_bs mc))),
  (ad 8, .inl (cI, 256, .inl (mc_cs mc))),
  (ad 9, .inl (cI, 257, .inl (mk_depths mk))),
  (ad 10, .inl (cL, 257, .inr (.inl (mk_ways mk)))),
  (ad 11, .inl (cL, 256, .inr (.inl (mk_rounds mk)))),
  (ad 12, .inl (cL, 16, .inr (.inl (mk_steps mk)))),
  (ad 13, .inl (cI, 2048, .inl (mr_stack mr))),
  (ad 14, .inl (cI, 20, .inl (mr_unitOf mr))),
  (ad 15, .inl (cI, 20, .inl (mr_baseOf mr))),
  (ad 16, .inl (cI, 20, .inl (mr_nextOf mr)))]
section WROWS
variable {p : Program} {l : Launch} {e : Env} {R : Room} {s : State} {m : MethodId} {args : Array Value} {below : List Frame} {meth : Method} {c : Code} {H H0 : Heap} {locs : List Loc} {cells slots : Nat} {Q : State → Prop} {cc : ByteArray} {pc : Nat} {ls : Array Slot} {rest : List Value} {D : va_G} {A : Nat → Prop} {own host : String} {index : Nat} {cI cL : ClassId} {ad : Nat → Nat} {ma : T_ma} {ko : T_ko} {sh : T_sh} {lo : T_lo} {de : T_de} {wa : T_wa} {me : T_me} {ru : T_ru} {mc : T_mc} {mk : T_mk} {mr : T_mr}
theorem ob_Sm : (wX cI cL ad ma ko sh lo de wa me ru)[0]? = some (ad 0, .inr (0, [.ref (ad 1), .ref (ad 10), .ref (ad 11), .ref (ad 13), .ref (ad 15), .ref (ad 19), .ref (ad 22), .int (ma_total ma), .int (ma_ready ma), .int (ma_allowed ma), .int (ma_now ma), .int (ma_scans ma), .int (ma_faults ma)])) := rfl
theorem rd_Sm_code (hx : p.tables.exec = Jvm.exec) (hb : c.code = cc) (hts : ∀ w ∈ TB, w.before args s = true) (hown : s.vm.findClass own = some m.cls) (hK : va_K D clX (tyX cI cL) s) (hP : va_P D clX (wX cI cL ad ma ko sh lo de wa me ru) H) (hlink : Cond.fieldLink own index "ScanMachine" "code" "LScanMachine$Code;" ∈ TB) (hdg : decode cc pc = .ok (.getfield index, 3)) (kk : W p l e R s m args below meth c H locs cells slots Q (F0 m (pc + 3) ls (.ref (ad 1) :: rest))) : W p l e R s m args below meth c H locs cells slots Q (F0 m (pc) ls (.ref (ad 0) :: rest)) :=
  va_get (D := D) (ci := 0) (v := .ref (ad 1)) (C := "ScanMachine") (T := T_Sm_) (N := 13) hx hb hts in_Sm hown hK hP 0 ob_Sm rfl 0 (by decide) (hts _ hlink) (fun _ h9 => h9) rfl hdg kk
theorem rd_Sm_shape (hx : p.tables.exec = Jvm.exec) (hb : c.code = cc) (hts : ∀ w ∈ TB, w.before args s = true) (hown : s.vm.findClass own = some m.cls) (hK : va_K D clX (tyX cI cL) s) (hP : va_P D clX (wX cI cL ad ma ko sh lo de wa me ru) H) (hlink : Cond.fieldLink own index "ScanMachine" "shape" "LScanMachine$Shape;" ∈ TB) (hdg : decode cc pc = .ok (.getfield index, 3)) (kk : W p l e R s m args below meth c H locs cells slots Q (F0 m (pc + 3) ls (.ref (ad 10) :: rest))) : W p l e R s m args below meth c H locs cells slots Q (F0 m (pc) ls (.ref (ad 0) :: rest)) :=
  va_get (D := D) (ci := 0) (v := .ref (ad 10)) (C := "ScanMachine") (T := T_Sm_) (N := 13) hx hb hts in_Sm hown hK hP 0 ob_Sm rfl 1 (by decide) (hts _ hlink) (fun _ h9 => h9) rfl hdg kk
theorem rd_Sm_loops (hx : p.tables.exec = Jvm.exec) (hb : c.code = cc) (hts : ∀ w ∈ TB, w.before args s = true) (hown : s.vm.findClass own = some m.cls) (hK : va_K D clX (tyX cI cL) s) (hP : va_P D clX (wX cI cL ad ma ko sh lo de wa me ru) H) (hlink : Cond.fieldLink own index "ScanMachine" "loops" "LScanMachine$Loops;" ∈ TB) (hdg : decode cc pc = .ok (.getfield index, 3)) (kk : W p l e R s m args below meth c H locs cells slots Q (F0 m (pc + 3) ls (.ref (ad 11) :: rest))) : W p l e R s m args below meth c H locs cells slots Q (F0 m (pc) ls (.ref (ad 0) :: rest)) :=
  va_get (D := D) (ci := 0) (v := .ref (ad 11)) (C := "ScanMachine") (T := T_Sm_) (N := 13) hx hb hts in_Sm hown hK hP 0 ob_Sm rfl 2 (by decide) (hts _ hlink) (fun _ h9 => h9) rfl hdg kk
theorem rd_Sm_depths (hx : p.tables.exec = Jvm.exec) (hb : c.code = cc) (hts : ∀ w ∈ TB, w.before args s = true) (hown : s.vm.findClass own = some m.cls) (hK : va_K D clX (tyX cI cL) s) (hP : va_P D clX (wX cI cL ad ma ko sh lo de wa me ru) H) (hlink : Cond.fieldLink own index "ScanMachine" "depths" "LScanMachine$Depths;" ∈ TB) (hdg : decode cc pc = .ok (.getfield index, 3)) (kk : W p l e R s m args below meth c H locs cells slots Q (F0 m (pc + 3) ls (.ref (ad 13) :: rest))) : W p l e R s m args below meth c H locs cells slots Q (F0 m (pc) ls (.ref (ad 0) :: rest)) :=
  va_get (D := D) (ci := 0) (v := .ref (ad 13)) (C := "ScanMachine") (T := T_Sm_) (N := 13) hx hb hts in_Sm hown hK hP 0 ob_Sm rfl 3 (by decide) (hts _ hlink) (fun _ h9 => h9) rfl hdg kk
theorem rd_Sm_ways (hx : p.tables.exec = Jvm.exec) (hb : c.code = cc) (hts : ∀ w ∈ TB, w.before args s = true) (hown : s.vm.findClass own = some m.cls) (hK : va_K D clX (tyX cI cL) s) (hP : va_P D clX (wX cI cL ad ma ko sh lo de wa me ru) H) (hlink : Cond.fieldLink own index "ScanMachine" "ways" "LScanMachine$Ways;" ∈ TB) (hdg : decode cc pc = .ok (.getfield index, 3)) (kk : W p l e R s m args below meth c H locs cells slots Q (F0 m (pc + 3) ls (.ref (ad 15) :: rest))) : W p l e R s m args below meth c H locs cells slots Q (F0 m (pc) ls (.ref (ad 0) :: rest)) :=
  va_get (D := D) (ci := 0) (v := .ref (ad 15)) (C := "ScanMachine") (T := T_Sm_) (N := 13) hx hb hts in_Sm hown hK hP 0 ob_Sm rfl 4 (by decide) (hts _ hlink) (fun _ h9 => h9) rfl hdg kk
theorem rd_Sm_memory (hx : p.tables.exec = Jvm.exec) (hb : c.code = cc) (hts : ∀ w ∈ TB, w.before args s = true) (hown : s.vm.findClass own = some m.cls) (hK : va_K D clX (tyX cI cL) s) (hP : va_P D clX (wX cI cL ad ma ko sh lo de wa me ru) H) (hlink : Cond.fieldLink own index "ScanMachine" "memory" "LScanMachine$Memory;" ∈ TB) (hdg : decode cc pc = .ok (.getfield index, 3)) (kk : W p l e R s m args below meth c H locs cells slots Q (F0 m (pc + 3) ls (.ref (ad 19) :: rest))) : W p l e R s m args below meth c H locs cells slots Q (F0 m (pc) ls (.ref (ad 0) :: rest)) :=
  va_get (D := D) (ci := 0) (v := .ref (ad 19)) (C := "ScanMachine") (T := T_Sm_) (N := 13) hx hb hts in_Sm hown hK hP 0 ob_Sm rfl 5 (by decide) (hts _ hlink) (fun _ h9 => h9) rfl hdg kk
theorem rd_Sm_runner (hx : p.tables.exec = Jvm.exec) (hb : c.code = cc) (hts : ∀ w ∈ TB, w.before args s = true) (hown : s.vm.findClass own = some m.cls) (hK : va_K D clX (tyX cI cL) s) (hP : va_P D clX (wX cI cL ad ma ko sh lo de wa me ru) H) (hlink : Cond.fieldLink own index "ScanMachine" "runner" "LScanMachine$Runner;" ∈ TB) (hdg : decode cc pc = .ok (.getfield index, 3)) (kk : W p l e R s m args below meth c H locs cells slots Q (F0 m (pc + 3) ls (.ref (ad 22) :: rest))) : W p l e R s m args below meth c H locs cells slots Q (F0 m (pc) ls (.ref (ad 0) :: rest)) :=
  va_get (D := D) (ci := 0) (v := .ref (ad 22)) (C := "ScanMachine") (T := T_Sm_) (N := 13) hx hb hts in_Sm hown hK hP 0 ob_Sm rfl 6 (by decide) (hts _ hlink) (fun _ h9 => h9) rfl hdg kk
theorem rd_Sm_total (hx : p.tables.exec = Jvm.exec) (hb : c.code = cc) (hts : ∀ w ∈ TB, w.before args s = true) (hown : s.vm.findClass own = some m.cls) (hK : va_K D clX (tyX cI cL) s) (hP : va_P D clX (wX cI cL ad ma ko sh lo de wa me ru) H) (hlink : Cond.fieldLink own index "ScanMachine" "total" "I" ∈ TB) {v : Int32} (hv : ma_total ma = v) (hdg : decode cc pc = .ok (.getfield index, 3)) (kk : W p l e R s m args below meth c H locs cells slots Q (F0 m (pc + 3) ls (.int v :: rest))) : W p l e R s m args below meth c H locs cells slots Q (F0 m (pc) ls (.ref (ad 0) :: rest)) := by
  subst hv
  exact va_get (D := D) (ci := 0) (v := .int (ma_total ma)) (C := "ScanMachine") (T := T_Sm_) (N := 13) hx hb hts in_Sm hown hK hP 0 ob_Sm rfl 7 (by decide) (hts _ hlink) (fun _ h9 => h9) rfl hdg kk
theorem wr_Sm_total (hx : p.tables.exec = Jvm.exec) (hb : c.code = cc) (hts : ∀ w ∈ TB, w.before args s = true) (hown : s.vm.findClass own = some m.cls) (hK : va_K D clX (tyX cI cL) s) (hP : va_P D clX (wX cI cL ad ma ko sh lo de wa me ru) H) (hD : va_D A (wX cI cL ad ma ko sh lo de wa me ru)) (hS : va_S A H0 H locs) (hlink : Cond.fieldLink own index "ScanMachine" "total" "I" ∈ TB) {v : Int32} (hdg : decode cc pc = .ok (.putfield index, 3)) (kk : ∀ (H1 : Heap) (locs1 : List Loc), va_P D clX (wX cI cL ad (ma_total_s ma v) ko sh lo de wa me ru) H1 → va_D A (wX cI cL ad (ma_total_s ma v) ko sh lo de wa me ru) → va_S A H0 H1 locs1 → W p l e R s m args below meth c H1 locs1 cells slots Q (F0 m (pc + 3) ls (rest))) : W p l e R s m args below meth c H locs cells slots Q (F0 m (pc) ls (.int v :: .ref (ad 0) :: rest)) :=
  va_put (D := D) (ci := 0) (v := .int v) (ty := .int) (C := "ScanMachine") (T := T_Sm_) (N := 13) hx hb hts in_Sm ty_Sm tyok_Sm nm_Sm hown hK hP hD hS 0 ob_Sm rfl 7 (by decide) (hts _ hlink) (fun _ h9 => h9) rfl (by decide +kernel) rfl rfl (Nat.le_of_ble_eq_true rfl) hdg kk
theorem rd_Sm_ready (hx : p.tables.exec = Jvm.exec) (hb : c.code = cc) (hts : ∀ w ∈ TB, w.before args s = true) (hown : s.vm.findClass own = some m.cls) (hK : va_K D clX (tyX cI cL) s) (hP : va_P D clX (wX cI cL ad ma ko sh lo de wa me ru) H) (hlink : Cond.fieldLink own index "ScanMachine" "ready" "Z" ∈ TB) {v : Int32} (hv : ma_ready ma = v) (hdg : decode cc pc = .ok (.getfield index, 3)) (kk : W p l e R s m args below meth c H locs cells slots Q (F0 m (pc + 3) ls (.int v :: rest))) : W p l e R s m args below meth c H locs cells slots Q (F0 m (pc) ls (.ref (ad 0) :: rest)) := by
  subst hv
  exact va_get (D := D) (ci := 0) (v := .int (ma_ready ma)) (C := "ScanMachine") (T := T_Sm_) (N := 13) hx hb hts in_Sm hown hK hP 0 ob_Sm rfl 8 (by decide) (hts _ hlink) (fun _ h9 => h9) rfl hdg kk
theorem wr_Sm_ready (hx : p.tables.exec = Jvm.exec) (hb : c.code = cc) (hts : ∀ w ∈ TB, w.before args s = true) (hown : s.vm.findClass own = some m.cls) (hK : va_K D clX (tyX cI cL) s) (hP : va_P D clX (wX cI cL ad ma ko sh lo de wa me ru) H) (hD : va_D A (wX cI cL ad ma ko sh lo de wa me ru)) (hS : va_S A H0 H locs) (hlink : Cond.fieldLink own index "ScanMachine" "ready" "Z" ∈ TB) {v : Int32} (h01 : v = 0 ∨ v = 1) (hdg : decode cc pc = .ok (.putfield index, 3)) (kk : ∀ (H1 : Heap) (locs1 : List Loc), va_P D clX (wX cI cL ad (ma_ready_s ma v) ko sh lo de wa me ru) H1 → va_D A (wX cI cL ad (ma_ready_s ma v) ko sh lo de wa me ru) → va_S A H0 H1 locs1 → W p l e R s m args below meth c H1 locs1 cells slots Q (F0 m (pc + 3) ls (rest))) : W p l e R s m args below meth c H locs cells slots Q (F0 m (pc) ls (.int v :: .ref (ad 0) :: rest)) :=
  va_put (D := D) (ci := 0) (v := .int v) (ty := .boolean) (C := "ScanMachine") (T := T_Sm_) (N := 13) hx hb hts in_Sm ty_Sm tyok_Sm nm_Sm hown hK hP hD hS 0 ob_Sm rfl 8 (by decide) (hts _ hlink) (fun _ h9 => h9) rfl (by decide +kernel) (by rcases h01 with rfl | rfl <;> rfl) (by rcases h01 with rfl | rfl <;> rfl) (Nat.le_of_ble_eq_true rfl) hdg kk
theorem rd_Sm_allowed (hx : p.tables.exec = Jvm.exec) (hb : c.code = cc) (hts : ∀ w ∈ TB, w.before args s = true) (hown : s.vm.findClass own = some m.cls) (hK : va_K D clX (tyX cI cL) s) (hP : va_P D clX (wX cI cL ad ma ko sh lo de wa me ru) H) (hlink : Cond.fieldLink own index "ScanMachine" "allowed" "I" ∈ TB) {v : Int32} (hv : ma_allowed ma = v) (hdg : decode cc pc = .ok (.getfield index, 3)) (kk : W p l e R s m args below meth c H locs cells slots Q (F0 m (pc + 3) ls (.int v :: rest))) : W p l e R s m args below meth c H locs cells slots Q (F0 m (pc) ls (.ref (ad 0) :: rest)) := by
  subst hv
  exact va_get (D := D) (ci := 0) (v := .int (ma_allowed ma)) (C := "ScanMachine") (T := T_Sm_) (N := 13) hx hb hts in_Sm hown hK hP 0 ob_Sm rfl 9 (by decide) (hts _ hlink) (fun _ h9 => h9) rfl hdg kk
theorem wr_Sm_allowed (hx : p.tables.exec = Jvm.exec) (hb : c.code = cc) (hts : ∀ w ∈ TB, w.before args s = true) (hown : s.vm.findClass own = some m.cls) (hK : va_K D clX (tyX cI cL) s) (hP : va_P D clX (wX cI cL ad ma ko sh lo de wa me ru) H) (hD : va_D A (wX cI cL ad ma ko sh lo de wa me ru)) (hS : va_S A H0 H locs) (hlink : Cond.fieldLink own index "ScanMachine" "allowed" "I" ∈ TB) {v : Int32} (hdg : decode cc pc = .ok (.putfield index, 3)) (kk : ∀ (H1 : Heap) (locs1 : List Loc), va_P D clX (wX cI cL ad (ma_allowed_s ma v) ko sh lo de wa me ru) H1 → va_D A (wX cI cL ad (ma_allowed_s ma v) ko sh lo de wa me ru) → va_S A H0 H1 locs1 → W p l e R s m args below meth c H1 locs1 cells slots Q (F0 m (pc + 3) ls (rest))) : W p l e R s m args below meth c H locs cells slots Q (F0 m (pc) ls (.int v :: .ref (ad 0) :: rest)) :=
  va_put (D := D) (ci := 0) (v := .int v) (ty := .int) (C := "ScanMachine") (T := T_Sm_) (N := 13) hx hb hts in_Sm ty_Sm tyok_Sm nm_Sm hown hK hP hD hS 0 ob_Sm rfl 9 (by decide) (hts _ hlink) (fun _ h9 => h9) rfl (by decide +kernel) rfl rfl (Nat.le_of_ble_eq_true rfl) hdg kk
theorem rd_Sm_now (hx : p.tables.exec = Jvm.exec) (hb : c.code = cc) (hts : ∀ w ∈ TB, w.before args s = true) (hown : s.vm.findClass own = some m.cls) (hK : va_K D clX (tyX cI cL) s) (hP : va_P D clX (wX cI cL ad ma ko sh lo de wa me ru) H) (hlink : Cond.fieldLink own index "ScanMachine" "now" "I" ∈ TB) {v : Int32} (hv : ma_now ma = v) (hdg : decode cc pc = .ok (.getfield index, 3)) (kk : W p l e R s m args below meth c H locs cells slots Q (F0 m (pc + 3) ls (.int v :: rest))) : W p l e R s m args below meth c H locs cells slots Q (F0 m (pc) ls (.ref (ad 0) :: rest)) := by
  subst hv
  exact va_get (D := D) (ci := 0) (v := .int (ma_now ma)) (C := "ScanMachine") (T := T_Sm_) (N := 13) hx hb hts in_Sm hown hK hP 0 ob_Sm rfl 10 (by decide) (hts _ hlink) (fun _ h9 => h9) rfl hdg kk
theorem wr_Sm_now (hx : p.tables.exec = Jvm.exec) (hb : c.code = cc) (hts : ∀ w ∈ TB, w.before args s = true) (hown : s.vm.findClass own = some m.cls) (hK : va_K D clX (tyX cI cL) s) (hP : va_P D clX (wX cI cL ad ma ko sh lo de wa me ru) H) (hD : va_D A (wX cI cL ad ma ko sh lo de wa me ru)) (hS : va_S A H0 H locs) (hlink : Cond.fieldLink own index "ScanMachine" "now" "I" ∈ TB) {v : Int32} (hdg : decode cc pc = .ok (.putfield index, 3)) (kk : ∀ (H1 : Heap) (locs1 : List Loc), va_P D clX (wX cI cL ad (ma_now_s ma v) ko sh lo de wa me ru) H1 → va_D A (wX cI cL ad (ma_now_s ma v) ko sh lo de wa me ru) → va_S A H0 H1 locs1 → W p l e R s m args below meth c H1 locs1 cells slots Q (F0 m (pc + 3) ls (rest))) : W p l e R s m args below meth c H locs cells slots Q (F0 m (pc) ls (.int v :: .ref (ad 0) :: rest)) :=
  va_put (D := D) (ci := 0) (v := .int v) (ty := .int) (C := "ScanMachine") (T := T_Sm_) (N := 13) hx hb hts in_Sm ty_Sm tyok_Sm nm_Sm hown hK hP hD hS 0 ob_Sm rfl 10 (by decide) (hts _ hlink) (fun _ h9 => h9) rfl (by decide +kernel) rfl rfl (Nat.le_of_ble_eq_true rfl) hdg kk
theorem rd_Sm_scans (hx : p.tables.exec = Jvm.exec) (hb : c.code = cc) (hts : ∀ w ∈ TB, w.before args s = true) (hown : s.vm.findClass own = some m.cls) (hK : va_K D clX (tyX cI cL) s) (hP : va_P D clX (wX cI cL ad ma ko sh lo de wa me ru) H) (hlink : Cond.fieldLink own index "ScanMachine" "scans" "I" ∈ TB) {v : Int32} (hv : ma_scans ma = v) (hdg : decode cc pc = .ok (.getfield index, 3)) (kk : W p l e R s m args below meth c H locs cells slots Q (F0 m (pc + 3) ls (.int v :: rest))) : W p l e R s m args below meth c H locs cells slots Q (F0 m (pc) ls (.ref (ad 0) :: rest)) := by
  subst hv
  exact va_get (D := D) (ci := 0) (v := .int (ma_scans ma)) (C := "ScanMachine") (T := T_Sm_) (N := 13) hx hb hts in_Sm hown hK hP 0 ob_Sm rfl 11 (by decide) (hts _ hlink) (fun _ h9 => h9) rfl hdg kk
theorem wr_Sm_scans (hx : p.tables.exec = Jvm.exec) (hb : c.code = cc) (hts : ∀ w ∈ TB, w.before args s = true) (hown : s.vm.findClass own = some m.cls) (hK : va_K D clX (tyX cI cL) s) (hP : va_P D clX (wX cI cL ad ma ko sh lo de wa me ru) H) (hD : va_D A (wX cI cL ad ma ko sh lo de wa me ru)) (hS : va_S A H0 H locs) (hlink : Cond.fieldLink own index "ScanMachine" "scans" "I" ∈ TB) {v : Int32} (hdg : decode cc pc = .ok (.putfield index, 3)) (kk : ∀ (H1 : Heap) (locs1 : List Loc), va_P D clX (wX cI cL ad (ma_scans_s ma v) ko sh lo de wa me ru) H1 → va_D A (wX cI cL ad (ma_scans_s ma v) ko sh lo de wa me ru) → va_S A H0 H1 locs1 → W p l e R s m args below meth c H1 locs1 cells slots Q (F0 m (pc + 3) ls (rest))) : W p l e R s m args below meth c H locs cells slots Q (F0 m (pc) ls (.int v :: .ref (ad 0) :: rest)) :=
  va_put (D := D) (ci := 0) (v := .int v) (ty := .int) (C := "ScanMachine") (T := T_Sm_) (N := 13) hx hb hts in_Sm ty_Sm tyok_Sm nm_Sm hown hK hP hD hS 0 ob_Sm rfl 11 (by decide) (hts _ hlink) (fun _ h9 => h9) rfl (by decide +kernel) rfl rfl (Nat.le_of_ble_eq_true rfl) hdg kk
theorem rd_Sm_faults (hx : p.tables.exec = Jvm.exec) (hb : c.code = cc) (hts : ∀ w ∈ TB, w.before args s = true) (hown : s.vm.findClass own = some m.cls) (hK : va_K D clX (tyX cI cL) s) (hP : va_P D clX (wX cI cL ad ma ko sh lo de wa me ru) H) (hlink : Cond.fieldLink own index "ScanMachine" "faults" "I" ∈ TB) {v : Int32} (hv : ma_faults ma = v) (hdg : decode cc pc = .ok (.getfield index, 3)) (kk : W p l e R s m args below meth c H locs cells slots Q (F0 m (pc + 3) ls (.int v :: rest))) : W p l e R s m args below meth c H locs cells slots Q (F0 m (pc) ls (.ref (ad 0) :: rest)) := by
  subst hv
  exact va_get (D := D) (ci := 0) (v := .int (ma_faults ma)) (C := "ScanMachine") (T := T_Sm_) (N := 13) hx hb hts in_Sm hown hK hP 0 ob_Sm rfl 12 (by decide) (hts _ hlink) (fun _ h9 => h9) rfl hdg kk
theorem wr_Sm_faults (hx : p.tables.exec = Jvm.exec) (hb : c.code = cc) (hts : ∀ w ∈ TB, w.before args s = true) (hown : s.vm.findClass own = some m.cls) (hK : va_K D clX (tyX cI cL) s) (hP : va_P D clX (wX cI cL ad ma ko sh lo de wa me ru) H) (hD : va_D A (wX cI cL ad ma ko sh lo de wa me ru)) (hS : va_S A H0 H locs) (hlink : Cond.fieldLink own index "ScanMachine" "faults" "I" ∈ TB) {v : Int32} (hdg : decode cc pc = .ok (.putfield index, 3)) (kk : ∀ (H1 : Heap) (locs1 : List Loc), va_P D clX (wX cI cL ad (ma_faults_s ma v) ko sh lo de wa me ru) H1 → va_D A (wX cI cL ad (ma_faults_s ma v) ko sh lo de wa me ru) → va_S A H0 H1 locs1 → W p l e R s m args below meth c H1 locs1 cells slots Q (F0 m (pc + 3) ls (rest))) : W p l e R s m args below meth c H locs cells slots Q (F0 m (pc) ls (.int v :: .ref (ad 0) :: rest)) :=
  va_put (D := D) (ci := 0) (v := .int v) (ty := .int) (C := "ScanMachine") (T := T_Sm_) (N := 13) hx hb hts in_Sm ty_Sm tyok_Sm nm_Sm hown hK hP hD hS 0 ob_Sm rfl 12 (by decide) (hts _ hlink) (fun _ h9 => h9) rfl (by decide +kernel) rfl rfl (Nat.le_of_ble_eq_true rfl) hdg kk
theorem ob_Co : (wX cI cL ad ma ko sh lo de wa me ru)[1]? = some (ad 1, .inr (1, [.ref (ad 2), .ref (ad 3), .ref (ad 4), .ref (ad 5), .ref (ad 6), .ref (ad 7), .ref (ad 8), .ref (ad 9), .int (ko_units ko), .int (ko_length ko)])) := rfl
theorem rd_Co_frames (hx : p.tables.exec = Jvm.exec) (hb : c.code = cc) (hts : ∀ w ∈ TB, w.before args s = true) (hown : s.vm.findClass own = some m.cls) (hK : va_K D clX (tyX cI cL) s) (hP : va_P D clX (wX cI cL ad ma ko sh lo de wa me ru) H) (hlink : Cond.fieldLink own index "ScanMachine$Code" "frames" "[I" ∈ TB) (hdg : decode cc pc = .ok (.getfield index, 3)) (kk : W p l e R s m args below meth c H locs cells slots Q (F0 m (pc + 3) ls (.ref (ad 2) :: rest))) : W p l e R s m args below meth c H locs cells slots Q (F0 m (pc) ls (.ref (ad 1) :: rest)) :=
  va_get (D := D) (ci := 1) (v := .ref (ad 2)) (C := "ScanMachine$Code") (T := T_Co_) (N := 10) hx hb hts in_Co hown hK hP 1 ob_Co rfl 0 (by decide) (hts _ hlink) (fun _ h9 => h9) rfl hdg kk
theorem rd_Co_places (hx : p.tables.exec = Jvm.exec) (hb : c.code = cc) (hts : ∀ w ∈ TB, w.before args s = true) (hown : s.vm.findClass own = some m.cls) (hK : va_K D clX (tyX cI cL) s) (hP : va_P D clX (wX cI cL ad ma ko sh lo de wa me ru) H) (hlink : Cond.fieldLink own index "ScanMachine$Code" "places" "[I" ∈ TB) (hdg : decode cc pc = .ok (.getfield index, 3)) (kk : W p l e R s m args below meth c H locs cells slots Q (F0 m (pc + 3) ls (.ref (ad 3) :: rest))) : W p l e R s m args below meth c H locs cells slots Q (F0 m (pc) ls (.ref (ad 1) :: rest)) :=
  va_get (D := D) (ci := 1) (v := .ref (ad 3)) (C := "ScanMachine$Code") (T := T_Co_) (N := 10) hx hb hts in_Co hown hK hP 1 ob_Co rfl 1 (by decide) (hts _ hlink) (fun _ h9 => h9) rfl hdg kk
theorem rd_Co_firsts (hx : p.tables.exec = Jvm.exec) (hb : c.code = cc) (hts : ∀ w ∈ TB, w.before args s = true) (hown : s.vm.findClass own = some m.cls) (hK : va_K D clX (tyX cI cL) s) (hP : va_P D clX (wX cI cL ad ma ko sh lo de wa me ru) H) (hlink : Cond.fieldLink own index "ScanMachine$Code" "firsts" "[I" ∈ TB) (hdg : decode cc pc = .ok (.getfield index, 3)) (kk : W p l e R s m args below meth c H locs cells slots Q (F0 m (pc + 3) ls (.ref (ad 4) :: rest))) : W p l e R s m args below meth c H locs cells slots Q (F0 m (pc) ls (.ref (ad 1) :: rest)) :=
  va_get (D := D) (ci := 1) (v := .ref (ad 4)) (C := "ScanMachine$Code") (T := T_Co_) (N := 10) hx hb hts in_Co hown hK hP 1 ob_Co rfl 2 (by decide) (hts _ hlink) (fun _ h9 => h9) rfl hdg kk
theorem rd_Co_sizes (hx : p.tables.exec = Jvm.exec) (hb : c.code = cc) (hts : ∀ w ∈ TB, w.before args s = true) (hown : s.vm.findClass own = some m.cls) (hK : va_K D clX (tyX cI cL) s) (hP : va_P D clX (wX cI cL ad ma ko sh lo de wa me ru) H) (hlink : Cond.fieldLink own index "ScanMachine$Code" "sizes" "[I" ∈ TB) (hdg : decode cc pc = .ok (.getfield index, 3)) (kk : W p l e R s m args below meth c H locs cells slots Q (F0 m (pc + 3) ls (.ref (ad 5) :: rest))) : W p l e R s m args below meth c H locs cells slots Q (F0 m (pc) ls (.ref (ad 1) :: rest)) :=
  va_get (D := D) (ci := 1) (v := .ref (ad 5)) (C := "ScanMachine$Code") (T := T_Co_) (N := 10) hx hb hts in_Co hown hK hP 1 ob_Co rfl 3 (by decide) (hts _ hlink) (fun _ h9 => h9) rfl hdg kk
theorem rd_Co_numbers (hx : p.tables.exec = Jvm.exec) (hb : c.code = cc) (hts : ∀ w ∈ TB, w.before args s = true) (hown : s.vm.findClass own = some m.cls) (hK : va_K D clX (tyX cI cL) s) (hP : va_P D clX (wX cI cL ad ma ko sh lo de wa me ru) H) (hlink : Cond.fieldLink own index "ScanMachine$Code" "numbers" "[I" ∈ TB) (hdg : decode cc pc = .ok (.getfield index, 3)) (kk : W p l e R s m args below meth c H locs cells slots Q (F0 m (pc + 3) ls (.ref (ad 6) :: rest))) : W p l e R s m args below meth c H locs cells slots Q (F0 m (pc) ls (.ref (ad 1) :: rest)) :=
  va_get (D := D) (ci := 1) (v := .ref (ad 6)) (C := "ScanMachine$Code") (T := T_Co_) (N := 10) hx hb hts in_Co hown hK hP 1 ob_Co rfl 4 (by decide) (hts _ hlink) (fun _ h9 => h9) rfl hdg kk
theorem rd_Co_as_ (hx : p.tables.exec = Jvm.exec) (hb : c.code = cc) (hts : ∀ w ∈ TB, w.before args s = true) (hown : s.vm.findClass own = some m.cls) (hK : va_K D clX (tyX cI cL) s) (hP : va_P D clX (wX cI cL ad ma ko sh lo de wa me ru) H) (hlink : Cond.fieldLink own index "ScanMachine$Code" "as" "[I" ∈ TB) (hdg : decode cc pc = .ok (.getfield index, 3)) (kk : W p l e R s m args below meth c H locs cells slots Q (F0 m (pc + 3) ls (.ref (ad 7) :: rest))) : W p l e R s m args below meth c H locs cells slots Q (F0 m (pc) ls (.ref (ad 1) :: rest)) :=
  va_get (D := D) (ci := 1) (v := .ref (ad 7)) (C := "ScanMachine$Code") (T := T_Co_) (N := 10) hx hb hts in_Co hown hK hP 1 ob_Co rfl 5 (by decide) (hts _ hlink) (fun _ h9 => h9) rfl hdg kk
theorem rd_Co_bs (hx : p.tables.exec = Jvm.exec) (hb : c.code = cc) (hts : ∀ w ∈ TB, w.before args s = true) (hown : s.vm.findClass own = some m.cls) (hK : va_K D clX (tyX cI cL) s) (hP : va_P D clX (wX cI cL ad ma ko sh lo de wa me ru) H) (hlink : Cond.fieldLink own index "ScanMachine$Code" "bs" "[I" ∈ TB) (hdg : decode cc pc = .ok (.getfield index, 3)) (kk : W p l e R s m args below meth c H locs cells slots Q (F0 m (pc + 3) ls (.ref (ad 8) :: rest))) : W p l e R s m args below meth c H locs cells slots Q (F0 m (pc) ls (.ref (ad 1) :: rest)) :=
  va_get (D := D) (ci := 1) (v := .ref (ad 8)) (C := "ScanMachine$Code") (T := T_Co_) (N := 10) hx hb hts in_Co hown hK hP 1 ob_Co rfl 6 (by decide) (hts _ hlink) (fun _ h9 => h9) rfl hdg kk
theorem rd_Co_cs (hx : p.tables.exec = Jvm.exec) (hb : c.code = cc) (hts : ∀ w ∈ TB, w.before args s = true) (hown : s.vm.findClass own = some m.cls) (hK : va_K D clX (tyX cI cL) s) (hP : va_P D clX (wX cI cL ad ma ko sh lo de wa me ru) H) (hlink : Cond.fieldLink own index "ScanMachine$Code" "cs" "[I" ∈ TB) (hdg : decode cc pc = .ok (.getfield index, 3)) (kk : W p l e R s m args below meth c H locs cells slots Q (F0 m (pc + 3) ls (.ref (ad 9) :: rest))) : W p l e R s m args below meth c H locs cells slots Q (F0 m (pc) ls (.ref (ad 1) :: rest)) :=
  va_get (D := D) (ci := 1) (v := .ref (ad 9)) (C := "ScanMachine$Code") (T := T_Co_) (N := 10) hx hb hts in_Co hown hK hP 1 ob_Co rfl 7 (by decide) (hts _ hlink) (fun _ h9 => h9) rfl hdg kk
theorem rd_Co_units (hx : p.tables.exec = Jvm.exec) (hb : c.code = cc) (hts : ∀ w ∈ TB, w.before args s = true) (hown : s.vm.findClass own = some m.cls) (hK : va_K D clX (tyX cI cL) s) (hP : va_P D clX (wX cI cL ad ma ko sh lo de wa me ru) H) (hlink : Cond.fieldLink own index "ScanMachine$Code" "units" "I" ∈ TB) {v : Int32} (hv : ko_units ko = v) (hdg : decode cc pc = .ok (.getfield index, 3)) (kk : W p l e R s m args below meth c H locs cells slots Q (F0 m (pc + 3) ls (.int v :: rest))) : W p l e R s m args below meth c H locs cells slots Q (F0 m (pc) ls (.ref (ad 1) :: rest)) := by
  subst hv
  exact va_get (D := D) (ci := 1) (v := .int (ko_units ko)) (C := "ScanMachine$Code") (T := T_Co_) (N := 10) hx hb hts in_Co hown hK hP 1 ob_Co rfl 8 (by decide) (hts _ hlink) (fun _ h9 => h9) rfl hdg kk
theorem wr_Co_units (hx : p.tables.exec = Jvm.exec) (hb : c.code = cc) (hts : ∀ w ∈ TB, w.before args s = true) (hown : s.vm.findClass own = some m.cls) (hK : va_K D clX (tyX cI cL) s) (hP : va_P D clX (wX cI cL ad ma ko sh lo de wa me ru) H) (hD : va_D A (wX cI cL ad ma ko sh lo de wa me ru)) (hS : va_S A H0 H locs) (hlink : Cond.fieldLink own index "ScanMachine$Code" "units" "I" ∈ TB) {v : Int32} (hdg : decode cc pc = .ok (.putfield index, 3)) (kk : ∀ (H1 : Heap) (locs1 : List Loc), va_P D clX (wX cI cL ad ma (ko_units_s ko v) sh lo de wa me ru) H1 → va_D A (wX cI cL ad ma (ko_units_s ko v) sh lo de wa me ru) → va_S A H0 H1 locs1 → W p l e R s m args below meth c H1 locs1 cells slots Q (F0 m (pc + 3) ls (rest))) : W p l e R s m args below meth c H locs cells slots Q (F0 m (pc) ls (.int v :: .ref (ad 1) :: rest)) :=
  va_put (D := D) (ci := 1) (v := .int v) (ty := .int) (C := "ScanMachine$Code") (T := T_Co_) (N := 10) hx hb hts in_Co ty_Co tyok_Co nm_Co hown hK hP hD hS 1 ob_Co rfl 8 (by decide) (hts _ hlink) (fun _ h9 => h9) rfl (by decide +kernel) rfl rfl (Nat.le_of_ble_eq_true rfl) hdg kk
theorem rd_Co_length (hx : p.tables.exec = Jvm.exec) (hb : c.code = cc) (hts : ∀ w ∈ TB, w.before args s = true) (hown : s.vm.findClass own = some m.cls) (hK : va_K D clX (tyX cI cL) s) (hP : va_P D clX (wX cI cL ad ma ko sh lo de wa me ru) H) (hlink : Cond.fieldLink own index "ScanMachine$Code" "length" "I" ∈ TB) {v : Int32} (hv : ko_length ko = v) (hdg : decode cc pc = .ok (.getfield index, 3)) (kk : W p l e R s m args below meth c H locs cells slots Q (F0 m (pc + 3) ls (.int v :: rest))) : W p l e R s m args below meth c H locs cells slots Q (F0 m (pc) ls (.ref (ad 1) :: rest)) := by
  subst hv
  exact va_get (D := D) (ci := 1) (v := .int (ko_length ko)) (C := "ScanMachine$Code") (T := T_Co_) (N := 10) hx hb hts in_Co hown hK hP 1 ob_Co rfl 9 (by decide) (hts _ hlink) (fun _ h9 => h9) rfl hdg kk
theorem wr_Co_length (hx : p.tables.exec = Jvm.exec) (hb : c.code = cc) (hts : ∀ w ∈ TB, w.before args s = true) (hown : s.vm.findClass own = some m.cls) (hK : va_K D clX (tyX cI cL) s) (hP : va_P D clX (wX cI cL ad ma ko sh lo de wa me ru) H) (hD : va_D A (wX cI cL ad ma ko sh lo de wa me ru)) (hS : va_S A H0 H locs) (hlink : Cond.fieldLink own index "ScanMachine$Code" "length" "I" ∈ TB) {v : Int32} (hdg : decode cc pc = .ok (.putfield index, 3)) (kk : ∀ (H1 : Heap) (locs1 : List Loc), va_P D clX (wX cI cL ad ma (ko_length_s ko v) sh lo de wa me ru) H1 → va_D A (wX cI cL ad ma (ko_length_s ko v) sh lo de wa me ru) → va_S A H0 H1 locs1 → W p l e R s m args below meth c H1 locs1 cells slots Q (F0 m (pc + 3) ls (rest))) : W p l e R s m args below meth c H locs cells slots Q (F0 m (pc) ls (.int v :: .ref (ad 1) :: rest)) :=
  va_put (D := D) (ci := 1) (v := .int v) (ty := .int) (C := "ScanMachine$Code") (T := T_Co_) (N := 10) hx hb hts in_Co ty_Co tyok_Co nm_Co hown hK hP hD hS 1 ob_Co rfl 9 (by decide) (hts _ hlink) (fun _ h9 => h9) rfl (by decide +kernel) rfl rfl (Nat.le_of_ble_eq_true rfl) hdg kk
theorem ar_Co_frames : (wX cI cL ad ma ko sh lo de wa me ru)[2]? = some (ad 2, .inl (cI, 16, .inl (ko_frames ko))) := rfl
theorem ld_Co_frames (hx : p.tables.exec = Jvm.exec) (hb : c.code = cc) (hK : va_K D clX (tyX cI cL) s) (hP : va_P D clX (wX cI cL ad ma ko sh lo de wa me ru) H) {i : Int32} (hin : vp_in i 16) {v : Int32} (hv : v = ko_frames ko i.toNatClampNeg) (hdg : decode cc pc = .ok (.iaload, 1)) (kk : W p l e R s m args below meth c H locs cells slots Q (F0 m (pc + 1) ls (.int v :: rest))) : W p l e R s m args below meth c H locs cells slots Q (F0 m (pc) ls (.int i :: .ref (ad 2) :: rest)) := by
  subst hv; exact va_iald hx hb hK hP 2 0 ar_Co_frames rfl hin hdg kk
theorem st_Co_frames (hx : p.tables.exec = Jvm.exec) (hb : c.code = cc) (hK : va_K D clX (tyX cI cL) s) (hP : va_P D clX (wX cI cL ad ma ko sh lo de wa me ru) H) (hD : va_D A (wX cI cL ad ma ko sh lo de wa me ru)) (hS : va_S A H0 H locs) {i : Int32} {x : Int32} (hin : vp_in i 16) (hdg : decode cc pc = .ok (.iastore, 1)) (kk : ∀ (H1 : Heap) (locs1 : List Loc), va_P D clX (wX cI cL ad ma (ko_frames_s ko (upd (ko_frames ko) i.toNatClampNeg x)) sh lo de wa me ru) H1 → va_D A (wX cI cL ad ma (ko_frames_s ko (upd (ko_frames ko) i.toNatClampNeg x)) sh lo de wa me ru) → va_S A H0 H1 locs1 → W p l e R s m args below meth c H1 locs1 cells slots Q (F0 m (pc + 1) ls (rest))) : W p l e R s m args below meth c H locs cells slots Q (F0 m (pc) ls (.int x :: .int i :: .ref (ad 2) :: rest)) :=
  va_iast hx hb hK hP hD hS 2 0 ar_Co_frames rfl hin hdg kk
theorem le_Co_frames (hx : p.tables.exec = Jvm.exec) (hb : c.code = cc) (hK : va_K D clX (tyX cI cL) s) (hP : va_P D clX (wX cI cL ad ma ko sh lo de wa me ru) H) (hdg : decode cc pc = .ok (.arraylength, 1)) (kk : W p l e R s m args below meth c H locs cells slots Q (F0 m (pc + 1) ls (.int 16 :: rest))) : W p l e R s m args below meth c H locs cells slots Q (F0 m (pc) ls (.ref (ad 2) :: rest)) :=
  va_alen hx hb hK hP 2 0 ar_Co_frames rfl rfl hdg kk
theorem ar_Co_places : (wX cI cL ad ma ko sh lo de wa me ru)[3]? = some (ad 3, .inl (cI, 16, .inl (ko_places ko))) := rfl
theorem ld_Co_places (hx : p.tables.exec = Jvm.exec) (hb : c.code = cc) (hK : va_K D clX (tyX cI cL) s) (hP : va_P D clX (wX cI cL ad ma ko sh lo de wa me ru) H) {i : Int32} (hin : vp_in i 16) {v : Int32} (hv : v = ko_places ko i.toNatClampNeg) (hdg : decode cc pc = .ok (.iaload, 1)) (kk : W p l e R s m args below meth c H locs cells slots Q (F0 m (pc + 1) ls (.int v :: rest))) : W p l e R s m args below meth c H locs cells slots Q (F0 m (pc) ls (.int i :: .ref (ad 3) :: rest)) := by
  subst hv; exact va_iald hx hb hK hP 3 0 ar_Co_places rfl hin hdg kk
theorem st_Co_places (hx : p.tables.exec = Jvm.exec) (hb : c.code = cc) (hK : va_K D clX (tyX cI cL) s) (hP : va_P D clX (wX cI cL ad ma ko sh lo de wa me ru) H) (hD : va_D A (wX cI cL ad ma ko sh lo de wa me ru)) (hS : va_S A H0 H locs) {i : Int32} {x : Int32} (hin : vp_in i 16) (hdg : decode cc pc = .ok (.iastore, 1)) (kk : ∀ (H1 : Heap) (locs1 : List Loc), va_P D clX (wX cI cL ad ma (ko_places_s ko (upd (ko_places ko) i.toNatClampNeg x)) sh lo de wa me ru) H1 → va_D A (wX cI cL ad ma (ko_places_s ko (upd (ko_places ko) i.toNatClampNeg x)) sh lo de wa me ru) → va_S A H0 H1 locs1 → W p l e R s m args below meth c H1 locs1 cells slots Q (F0 m (pc + 1) ls (rest))) : W p l e R s m args below meth c H locs cells slots Q (F0 m (pc) ls (.int x :: .int i :: .ref (ad 3) :: rest)) :=
  va_iast hx hb hK hP hD hS 3 0 ar_Co_places rfl hin hdg kk
theorem le_Co_places (hx : p.tables.exec = Jvm.exec) (hb : c.code = cc) (hK : va_K D clX (tyX cI cL) s) (hP : va_P D clX (wX cI cL ad ma ko sh lo de wa me ru) H) (hdg : decode cc pc = .ok (.arraylength, 1)) (kk : W p l e R s m args below meth c H locs cells slots Q (F0 m (pc + 1) ls (.int 16 :: rest))) : W p l e R s m args below meth c H locs cells slots Q (F0 m (pc) ls (.ref (ad 3) :: rest)) :=
  va_alen hx hb hK hP 3 0 ar_Co_places rfl rfl hdg kk
theorem ar_Co_firsts : (wX cI cL ad ma ko sh lo de wa me ru)[4]? = some (ad 4, .inl (cI, 16, .inl (ko_firsts ko))) := rfl
theorem ld_Co_firsts (hx : p.tables.exec = Jvm.exec) (hb : c.code = cc) (hK : va_K D clX (tyX cI cL) s) (hP : va_P D clX (wX cI cL ad ma ko sh lo de wa me ru) H) {i : Int32} (hin : vp_in i 16) {v : Int32} (hv : v = ko_firsts ko i.toNatClampNeg) (hdg : decode cc pc = .ok (.iaload, 1)) (kk : W p l e R s m args below meth c H locs cells slots Q (F0 m (pc + 1) ls (.int v :: rest))) : W p l e R s m args below meth c H locs cells slots Q (F0 m (pc) ls (.int i :: .ref (ad 4) :: rest)) := by
  subst hv; exact va_iald hx hb hK hP 4 0 ar_Co_firsts rfl hin hdg kk
theorem st_Co_firsts (hx : p.tables.exec = Jvm.exec) (hb : c.code = cc) (hK : va_K D clX (tyX cI cL) s) (hP : va_P D clX (wX cI cL ad ma ko sh lo de wa me ru) H) (hD : va_D A (wX cI cL ad ma ko sh lo de wa me ru)) (hS : va_S A H0 H locs) {i : Int32} {x : Int32} (hin : vp_in i 16) (hdg : decode cc pc = .ok (.iastore, 1)) (kk : ∀ (H1 : Heap) (locs1 : List Loc), va_P D clX (wX cI cL ad ma (ko_firsts_s ko (upd (ko_firsts ko) i.toNatClampNeg x)) sh lo de wa me ru) H1 → va_D A (wX cI cL ad ma (ko_firsts_s ko (upd (ko_firsts ko) i.toNatClampNeg x)) sh lo de wa me ru) → va_S A H0 H1 locs1 → W p l e R s m args below meth c H1 locs1 cells slots Q (F0 m (pc + 1) ls (rest))) : W p l e R s m args below meth c H locs cells slots Q (F0 m (pc) ls (.int x :: .int i :: .ref (ad 4) :: rest)) :=
  va_iast hx hb hK hP hD hS 4 0 ar_Co_firsts rfl hin hdg kk
theorem le_Co_firsts (hx : p.tables.exec = Jvm.exec) (hb : c.code = cc) (hK : va_K D clX (tyX cI cL) s) (hP : va_P D clX (wX cI cL ad ma ko sh lo de wa me ru) H) (hdg : decode cc pc = .ok (.arraylength, 1)) (kk : W p l e R s m args below meth c H locs cells slots Q (F0 m (pc + 1) ls (.int 16 :: rest))) : W p l e R s m args below meth c H locs cells slots Q (F0 m (pc) ls (.ref (ad 4) :: rest)) :=
  va_alen hx hb hK hP 4 0 ar_Co_firsts rfl rfl hdg kk
theorem ar_Co_sizes : (wX cI cL ad ma ko sh lo de wa me ru)[5]? = some (ad 5, .inl (cI, 16, .inl (ko_sizes ko))) := rfl
theorem ld_Co_sizes (hx : p.tables.exec = Jvm.exec) (hb : c.code = cc) (hK : va_K D clX (tyX cI cL) s) (hP : va_P D clX (wX cI cL ad ma ko sh lo de wa me ru) H) {i : Int32} (hin : vp_in i 16) {v : Int32} (hv : v = ko_sizes ko i.toNatClampNeg) (hdg : decode cc pc = .ok (.iaload, 1)) (kk : W p l e R s m args below meth c H locs cells slots Q (F0 m (pc + 1) ls (.int v :: rest))) : W p l e R s m args below meth c H locs cells slots Q (F0 m (pc) ls (.int i :: .ref (ad 5) :: rest)) := by
  subst hv; exact va_iald hx hb hK hP 5 0 ar_Co_sizes rfl hin hdg kk
theorem st_Co_sizes (hx : p.tables.exec = Jvm.exec) (hb : c.code = cc) (hK : va_K D clX (tyX cI cL) s) (hP : va_P D clX (wX cI cL ad ma ko sh lo de wa me ru) H) (hD : va_D A (wX cI cL ad ma ko sh lo de wa me ru)) (hS : va_S A H0 H locs) {i : Int32} {x : Int32} (hin : vp_in i 16) (hdg : decode cc pc = .ok (.iastore, 1)) (kk : ∀ (H1 : Heap) (locs1 : List Loc), va_P D clX (wX cI cL ad ma (ko_sizes_s ko (upd (ko_sizes ko) i.toNatClampNeg x)) sh lo de wa me ru) H1 → va_D A (wX cI cL ad ma (ko_sizes_s ko (upd (ko_sizes ko) i.toNatClampNeg x)) sh lo de wa me ru) → va_S A H0 H1 locs1 → W p l e R s m args below meth c H1 locs1 cells slots Q (F0 m (pc + 1) ls (rest))) : W p l e R s m args below meth c H locs cells slots Q (F0 m (pc) ls (.int x :: .int i :: .ref (ad 5) :: rest)) :=
  va_iast hx hb hK hP hD hS 5 0 ar_Co_sizes rfl hin hdg kk
theorem le_Co_sizes (hx : p.tables.exec = Jvm.exec) (hb : c.code = cc) (hK : va_K D clX (tyX cI cL) s) (hP : va_P D clX (wX cI cL ad ma ko sh lo de wa me ru) H) (hdg : decode cc pc = .ok (.arraylength, 1)) (kk : W p l e R s m args below meth c H locs cells slots Q (F0 m (pc + 1) ls (.int 16 :: rest))) : W p l e R s m args below meth c H locs cells slots Q (F0 m (pc) ls (.ref (ad 5) :: rest)) :=
  va_alen hx hb hK hP 5 0 ar_Co_sizes rfl rfl hdg kk
theorem ar_Co_numbers : (wX cI cL ad ma ko sh lo de wa me ru)[6]? = some (ad 6, .inl (cI, 256, .inl (ko_numbers ko))) := rfl
theorem ld_Co_numbers (hx : p.tables.exec = Jvm.exec) (hb : c.code = cc) (hK : va_K D clX (tyX cI cL) s) (hP : va_P D clX (wX cI cL ad ma ko sh lo de wa me ru) H) {i : Int32} (hin : vp_in i 256) {v : Int32} (hv : v = ko_numbers ko i.toNatClampNeg) (hdg : decode cc pc = .ok (.iaload, 1)) (kk : W p l e R s m args below meth c H locs cells slots Q (F0 m (pc + 1) ls (.int v :: rest))) : W p l e R s m args below meth c H locs cells slots Q (F0 m (pc) ls (.int i :: .ref (ad 6) :: rest)) := by
  subst hv; exact va_iald hx hb hK hP 6 0 ar_Co_numbers rfl hin hdg kk
theorem st_Co_numbers (hx : p.tables.exec = Jvm.exec) (hb : c.code = cc) (hK : va_K D clX (tyX cI cL) s) (hP : va_P D clX (wX cI cL ad ma ko sh lo de wa me ru) H) (hD : va_D A (wX cI cL ad ma ko sh lo de wa me ru)) (hS : va_S A H0 H locs) {i : Int32} {x : Int32} (hin : vp_in i 256) (hdg : decode cc pc = .ok (.iastore, 1)) (kk : ∀ (H1 : Heap) (locs1 : List Loc), va_P D clX (wX cI cL ad ma (ko_numbers_s ko (upd (ko_numbers ko) i.toNatClampNeg x)) sh lo de wa me ru) H1 → va_D A (wX cI cL ad ma (ko_numbers_s ko (upd (ko_numbers ko) i.toNatClampNeg x)) sh lo de wa me ru) → va_S A H0 H1 locs1 → W p l e R s m args below meth c H1 locs1 cells slots Q (F0 m (pc + 1) ls (rest))) : W p l e R s m args below meth c H locs cells slots Q (F0 m (pc) ls (.int x :: .int i :: .ref (ad 6) :: rest)) :=
  va_iast hx hb hK hP hD hS 6 0 ar_Co_numbers rfl hin hdg kk
theorem le_Co_numbers (hx : p.tables.exec = Jvm.exec) (hb : c.code = cc) (hK : va_K D clX (tyX cI cL) s) (hP : va_P D clX (wX cI cL ad ma ko sh lo de wa me ru) H) (hdg : decode cc pc = .ok (.arraylength, 1)) (kk : W p l e R s m args below meth c H locs cells slots Q (F0 m (pc + 1) ls (.int 256 :: rest))) : W p l e R s m args below meth c H locs cells slots Q (F0 m (pc) ls (.ref (ad 6) :: rest)) :=
  va_alen hx hb hK hP 6 0 ar_Co_numbers rfl rfl hdg kk
theorem ar_Co_as_ : (wX cI cL ad ma ko sh lo de wa me ru)[7]? = some (ad 7, .inl (cI, 256, .inl (ko_as_ ko))) := rfl
theorem ld_Co_as_ (hx : p.tables.exec = Jvm.exec) (hb : c.code = cc) (hK : va_K D clX (tyX cI cL) s) (hP : va_P D clX (wX cI cL ad ma ko sh lo de wa me ru) H) {i : Int32} (hin : vp_in i 256) {v : Int32} (hv : v = ko_as_ ko i.toNatClampNeg) (hdg : decode cc pc = .ok (.iaload, 1)) (kk : W p l e R s m args below meth c H locs cells slots Q (F0 m (pc + 1) ls (.int v :: rest))) : W p l e R s m args below meth c H locs cells slots Q (F0 m (pc) ls (.int i :: .ref (ad 7) :: rest)) := by
  subst hv; exact va_iald hx hb hK hP 7 0 ar_Co_as_ rfl hin hdg kk
theorem st_Co_as_ (hx : p.tables.exec = Jvm.exec) (hb : c.code = cc) (hK : va_K D clX (tyX cI cL) s) (hP : va_P D clX (wX cI cL ad ma ko sh lo de wa me ru) H) (hD : va_D A (wX cI cL ad ma ko sh lo de wa me ru)) (hS : va_S A H0 H locs) {i : Int32} {x : Int32} (hin : vp_in i 256) (hdg : decode cc pc = .ok (.iastore, 1)) (kk : ∀ (H1 : Heap) (locs1 : List Loc), va_P D clX (wX cI cL ad ma (ko_as__s ko (upd (ko_as_ ko) i.toNatClampNeg x)) sh lo de wa me ru) H1 → va_D A (wX cI cL ad ma (ko_as__s ko (upd (ko_as_ ko) i.toNatClampNeg x)) sh lo de wa me ru) → va_S A H0 H1 locs1 → W p l e R s m args below meth c H1 locs1 cells slots Q (F0 m (pc + 1) ls (rest))) : W p l e R s m args below meth c H locs cells slots Q (F0 m (pc) ls (.int x :: .int i :: .ref (ad 7) :: rest)) :=
  va_iast hx hb hK hP hD hS 7 0 ar_Co_as_ rfl hin hdg kk
theorem le_Co_as_ (hx : p.tables.exec = Jvm.exec) (hb : c.code = cc) (hK : va_K D clX (tyX cI cL) s) (hP : va_P D clX (wX cI cL ad ma ko sh lo de wa me ru) H) (hdg : decode cc pc = .ok (.arraylength, 1)) (kk : W p l e R s m args below meth c H locs cells slots Q (F0 m (pc + 1) ls (.int 256 :: rest))) : W p l e R s m args below meth c H locs cells slots Q (F0 m (pc) ls (.ref (ad 7) :: rest)) :=
  va_alen hx hb hK hP 7 0 ar_Co_as_ rfl rfl hdg kk
theorem ar_Co_bs : (wX cI cL ad ma ko sh lo de wa me ru)[8]? = some (ad 8, .inl (cI, 256, .inl (ko_bs ko))) := rfl
theorem ld_Co_bs (hx : p.tables.exec = Jvm.exec) (hb : c.code = cc) (hK : va_K D clX (tyX cI cL) s) (hP : va_P D clX (wX cI cL ad ma ko sh lo de wa me ru) H) {i : Int32} (hin : vp_in i 256) {v : Int32} (hv : v = ko_bs ko i.toNatClampNeg) (hdg : decode cc pc = .ok (.iaload, 1)) (kk : W p l e R s m args below meth c H locs cells slots Q (F0 m (pc + 1) ls (.int v :: rest))) : W p l e R s m args below meth c H locs cells slots Q (F0 m (pc) ls (.int i :: .ref (ad 8) :: rest)) := by
  subst hv; exact va_iald hx hb hK hP 8 0 ar_Co_bs rfl hin hdg kk
theorem st_Co_bs (hx : p.tables.exec = Jvm.exec) (hb : c.code = cc) (hK : va_K D clX (tyX cI cL) s) (hP : va_P D clX (wX cI cL ad ma ko sh lo de wa me ru) H) (hD : va_D A (wX cI cL ad ma ko sh lo de wa me ru)) (hS : va_S A H0 H locs) {i : Int32} {x : Int32} (hin : vp_in i 256) (hdg : decode cc pc = .ok (.iastore, 1)) (kk : ∀ (H1 : Heap) (locs1 : List Loc), va_P D clX (wX cI cL ad ma (ko_bs_s ko (upd (ko_bs ko) i.toNatClampNeg x)) sh lo de wa me ru) H1 → va_D A (wX cI cL ad ma (ko_bs_s ko (upd (ko_bs ko) i.toNatClampNeg x)) sh lo de wa me ru) → va_S A H0 H1 locs1 → W p l e R s m args below meth c H1 locs1 cells slots Q (F0 m (pc + 1) ls (rest))) : W p l e R s m args below meth c H locs cells slots Q (F0 m (pc) ls (.int x :: .int i :: .ref (ad 8) :: rest)) :=
  va_iast hx hb hK hP hD hS 8 0 ar_Co_bs rfl hin hdg kk
theorem le_Co_bs (hx : p.tables.exec = Jvm.exec) (hb : c.code = cc) (hK : va_K D clX (tyX cI cL) s) (hP : va_P D clX (wX cI cL ad ma ko sh lo de wa me ru) H) (hdg : decode cc pc = .ok (.arraylength, 1)) (kk : W p l e R s m args below meth c H locs cells slots Q (F0 m (pc + 1) ls (.int 256 :: rest))) : W p l e R s m args below meth c H locs cells slots Q (F0 m (pc) ls (.ref (ad 8) :: rest)) :=
  va_alen hx hb hK hP 8 0 ar_Co_bs rfl rfl hdg kk
theorem ar_Co_cs : (wX cI cL ad ma ko sh lo de wa me ru)[9]? = some (ad 9, .inl (cI, 256, .inl (ko_cs ko))) := rfl
theorem ld_Co_cs (hx : p.tables.exec = Jvm.exec) (hb : c.code = cc) (hK : va_K D clX (tyX cI cL) s) (hP : va_P D clX (wX cI cL ad ma ko sh lo de wa me ru) H) {i : Int32} (hin : vp_in i 256) {v : Int32} (hv : v = ko_cs ko i.toNatClampNeg) (hdg : decode cc pc = .ok (.iaload, 1)) (kk : W p l e R s m args below meth c H locs cells slots Q (F0 m (pc + 1) ls (.int v :: rest))) : W p l e R s m args below meth c H locs cells slots Q (F0 m (pc) ls (.int i :: .ref (ad 9) :: rest)) := by
  subst hv; exact va_iald hx hb hK hP 9 0 ar_Co_cs rfl hin hdg kk
theorem st_Co_cs (hx : p.tables.exec = Jvm.exec) (hb : c.code = cc) (hK : va_K D clX (tyX cI cL) s) (hP : va_P D clX (wX cI cL ad ma ko sh lo de wa me ru) H) (hD : va_D A (wX cI cL ad ma ko sh lo de wa me ru)) (hS : va_S A H0 H locs) {i : Int32} {x : Int32} (hin : vp_in i 256) (hdg : decode cc pc = .ok (.iastore, 1)) (kk : ∀ (H1 : Heap) (locs1 : List Loc), va_P D clX (wX cI cL ad ma (ko_cs_s ko (upd (ko_cs ko) i.toNatClampNeg x)) sh lo de wa me ru) H1 → va_D A (wX cI cL ad ma (ko_cs_s ko (upd (ko_cs ko) i.toNatClampNeg x)) sh lo de wa me ru) → va_S A H0 H1 locs1 → W p l e R s m args below meth c H1 locs1 cells slots Q (F0 m (pc + 1) ls (rest))) : W p l e R s m args below meth c H locs cells slots Q (F0 m (pc) ls (.int x :: .int i :: .ref (ad 9) :: rest)) :=
  va_iast hx hb hK hP hD hS 9 0 ar_Co_cs rfl hin hdg kk
theorem le_Co_cs (hx : p.tables.exec = Jvm.exec) (hb : c.code = cc) (hK : va_K D clX (tyX cI cL) s) (hP : va_P D clX (wX cI cL ad ma ko sh lo de wa me ru) H) (hdg : decode cc pc = .ok (.arraylength, 1)) (kk : W p l e R s m args below meth c H locs cells slots Q (F0 m (pc + 1) ls (.int 256 :: rest))) : W p l e R s m args below meth c H locs cells slots Q (F0 m (pc) ls (.ref (ad 9) :: rest)) :=
  va_alen hx hb hK hP 9 0 ar_Co_cs rfl rfl hdg kk
theorem ob_Sh : (wX cI cL ad ma ko sh lo de wa me ru)[10]? = some (ad 10, .inr (2, [.ref (ad 1), .int (sh_unit sh), .int (sh_i sh), .int (sh_number sh), .int (sh_a sh), .int (sh_b sh), .int (sh_c sh)])) := rfl
theorem rd_Sh_code (hx : p.tables.exec = Jvm.exec) (hb : c.code = cc) (hts : ∀ w ∈ TB, w.before args s = true) (hown : s.vm.findClass own = some m.cls) (hK : va_K D clX (tyX cI cL) s) (hP : va_P D clX (wX cI cL ad ma ko sh lo de wa me ru) H) (hlink : Cond.fieldLink own index "ScanMachine$Shape" "code" "LScanMachine$Code;" ∈ TB) (hdg : decode cc pc = .ok (.getfield index, 3)) (kk : W p l e R s m args below meth c H locs cells slots Q (F0 m (pc + 3) ls (.ref (ad 1) :: rest))) : W p l e R s m args below meth c H locs cells slots Q (F0 m (pc) ls (.ref (ad 10) :: rest)) :=
  va_get (D := D) (ci := 2) (v := .ref (ad 1)) (C := "ScanMachine$Shape") (T := T_Sh_) (N := 7) hx hb hts in_Sh hown hK hP 10 ob_Sh rfl 0 (by decide) (hts _ hlink) (fun _ h9 => h9) rfl hdg kk
theorem rd_Sh_unit (hx : p.tables.exec = Jvm.exec) (hb : c.code = cc) (hts : ∀ w ∈ TB, w.before args s = true) (hown : s.vm.findClass own = some m.cls) (hK : va_K D clX (tyX cI cL) s) (hP : va_P D clX (wX cI cL ad ma ko sh lo de wa me ru) H) (hlink : Cond.fieldLink own index "ScanMachine$Shape" "unit" "I" ∈ TB) {v : Int32} (hv : sh_unit sh = v) (hdg : decode cc pc = .ok (.getfield index, 3)) (kk : W p l e R s m args below meth c H locs cells slots Q (F0 m (pc + 3) ls (.int v :: rest))) : W p l e R s m args below meth c H locs cells slots Q (F0 m (pc) ls (.ref (ad 10) :: rest)) := by
  subst hv
  exact va_get (D := D) (ci := 2) (v := .int (sh_unit sh)) (C := "ScanMachine$Shape") (T := T_Sh_) (N := 7) hx hb hts in_Sh hown hK hP 10 ob_Sh rfl 1 (by decide) (hts _ hlink) (fun _ h9 => h9) rfl hdg kk
theorem wr_Sh_unit (hx : p.tables.exec = Jvm.exec) (hb : c.code = cc) (hts : ∀ w ∈ TB, w.before args s = true) (hown : s.vm.findClass own = some m.cls) (hK : va_K D clX (tyX cI cL) s) (hP : va_P D clX (wX cI cL ad ma ko sh lo de wa me ru) H) (hD : va_D A (wX cI cL ad ma ko sh lo de wa me ru)) (hS : va_S A H0 H locs) (hlink : Cond.fieldLink own index "ScanMachine$Shape" "unit" "I" ∈ TB) {v : Int32} (hdg : decode cc pc = .ok (.putfield index, 3)) (kk : ∀ (H1 : Heap) (locs1 : List Loc), va_P D clX (wX cI cL ad ma ko (sh_unit_s sh v) lo de wa me ru) H1 → va_D A (wX cI cL ad ma ko (sh_unit_s sh v) lo de wa me ru) → va_S A H0 H1 locs1 → W p l e R s m args below meth c H1 locs1 cells slots Q (F0 m (pc + 3) ls (rest))) : W p l e R s m args below meth c H locs cells slots Q (F0 m (pc) ls (.int v :: .ref (ad 10) :: rest)) :=
  va_put (D := D) (ci := 2) (v := .int v) (ty := .int) (C := "ScanMachine$Shape") (T := T_Sh_) (N := 7) hx hb hts in_Sh ty_Sh tyok_Sh nm_Sh hown hK hP hD hS 10 ob_Sh rfl 1 (by decide) (hts _ hlink) (fun _ h9 => h9) rfl (by decide +kernel) rfl rfl (Nat.le_of_ble_eq_true rfl) hdg kk
theorem rd_Sh_i (hx : p.tables.exec = Jvm.exec) (hb : c.code = cc) (hts : ∀ w ∈ TB, w.before args s = true) (hown : s.vm.findClass own = some m.cls) (hK : va_K D clX (tyX cI cL) s) (hP : va_P D clX (wX cI cL ad ma ko sh lo de wa me ru) H) (hlink : Cond.fieldLink own index "ScanMachine$Shape" "i" "I" ∈ TB) {v : Int32} (hv : sh_i sh = v) (hdg : decode cc pc = .ok (.getfield index, 3)) (kk : W p l e R s m args below meth c H locs cells slots Q (F0 m (pc + 3) ls (.int v :: rest))) : W p l e R s m args below meth c H locs cells slots Q (F0 m (pc) ls (.ref (ad 10) :: rest)) := by
  subst hv
  exact va_get (D := D) (ci := 2) (v := .int (sh_i sh)) (C := "ScanMachine$Shape") (T := T_Sh_) (N := 7) hx hb hts in_Sh hown hK hP 10 ob_Sh rfl 2 (by decide) (hts _ hlink) (fun _ h9 => h9) rfl hdg kk
theorem wr_Sh_i (hx : p.tables.exec = Jvm.exec) (hb : c.code = cc) (hts : ∀ w ∈ TB, w.before args s = true) (hown : s.vm.findClass own = some m.cls) (hK : va_K D clX (tyX cI cL) s) (hP : va_P D clX (wX cI cL ad ma ko sh lo de wa me ru) H) (hD : va_D A (wX cI cL ad ma ko sh lo de wa me ru)) (hS : va_S A H0 H locs) (hlink : Cond.fieldLink own index "ScanMachine$Shape" "i" "I" ∈ TB) {v : Int32} (hdg : decode cc pc = .ok (.putfield index, 3)) (kk : ∀ (H1 : Heap) (locs1 : List Loc), va_P D clX (wX cI cL ad ma ko (sh_i_s sh v) lo de wa me ru) H1 → va_D A (wX cI cL ad ma ko (sh_i_s sh v) lo de wa me ru) → va_S A H0 H1 locs1 → W p l e R s m args below meth c H1 locs1 cells slots Q (F0 m (pc + 3) ls (rest))) : W p l e R s m args below meth c H locs cells slots Q (F0 m (pc) ls (.int v :: .ref (ad 10) :: rest)) :=
  va_put (D := D) (ci := 2) (v := .int v) (ty := .int) (C := "ScanMachine$Shape") (T := T_Sh_) (N := 7) hx hb hts in_Sh ty_Sh tyok_Sh nm_Sh hown hK hP hD hS 10 ob_Sh rfl 2 (by decide) (hts _ hlink) (fun _ h9 => h9) rfl (by decide +kernel) rfl rfl (Nat.le_of_ble_eq_true rfl) hdg kk
theorem rd_Sh_number (hx : p.tables.exec = Jvm.exec) (hb : c.code = cc) (hts : ∀ w ∈ TB, w.before args s = true) (hown : s.vm.findClass own = some m.cls) (hK : va_K D clX (tyX cI cL) s) (hP : va_P D clX (wX cI cL ad ma ko sh lo de wa me ru) H) (hlink : Cond.fieldLink own index "ScanMachine$Shape" "number" "I" ∈ TB) {v : Int32} (hv : sh_number sh = v) (hdg : decode cc pc = .ok (.getfield index, 3)) (kk : W p l e R s m args below meth c H locs cells slots Q (F0 m (pc + 3) ls (.int v :: rest))) : W p l e R s m args below meth c H locs cells slots Q (F0 m (pc) ls (.ref (ad 10) :: rest)) := by
  subst hv
  exact va_get (D := D) (ci := 2) (v := .int (sh_number sh)) (C := "ScanMachine$Shape") (T := T_Sh_) (N := 7) hx hb hts in_Sh hown hK hP 10 ob_Sh rfl 3 (by decide) (hts _ hlink) (fun _ h9 => h9) rfl hdg kk
theorem wr_Sh_number (hx : p.tables.exec = Jvm.exec) (hb : c.code = cc) (hts : ∀ w ∈ TB, w.before args s = true) (hown : s.vm.findClass own = some m.cls) (hK : va_K D clX (tyX cI cL) s) (hP : va_P D clX (wX cI cL ad ma ko sh lo de wa me ru) H) (hD : va_D A (wX cI cL ad ma ko sh lo de wa me ru)) (hS : va_S A H0 H locs) (hlink : Cond.fieldLink own index "ScanMachine$Shape" "number" "I" ∈ TB) {v : Int32} (hdg : decode cc pc = .ok (.putfield index, 3)) (kk : ∀ (H1 : Heap) (locs1 : List Loc), va_P D clX (wX cI cL ad ma ko (sh_number_s sh v) lo de wa me ru) H1 → va_D A (wX cI cL ad ma ko (sh_number_s sh v) lo de wa me ru) → va_S A H0 H1 locs1 → W p l e R s m args below meth c H1 locs1 cells slots Q (F0 m (pc + 3) ls (rest))) : W p l e R s m args below meth c H locs cells slots Q (F0 m (pc) ls (.int v :: .ref (ad 10) :: rest)) :=
  va_put (D := D) (ci := 2) (v := .int v) (ty := .int) (C := "ScanMachine$Shape") (T := T_Sh_) (N := 7) hx hb hts in_Sh ty_Sh tyok_Sh nm_Sh hown hK hP hD hS 10 ob_Sh rfl 3 (by decide) (hts _ hlink) (fun _ h9 => h9) rfl (by decide +kernel) rfl rfl (Nat.le_of_ble_eq_true rfl) hdg kk
theorem rd_Sh_a (hx : p.tables.exec = Jvm.exec) (hb : c.code = cc) (hts : ∀ w ∈ TB, w.before args s = true) (hown : s.vm.findClass own = some m.cls) (hK : va_K D clX (tyX cI cL) s) (hP : va_P D clX (wX cI cL ad ma ko sh lo de wa me ru) H) (hlink : Cond.fieldLink own index "ScanMachine$Shape" "a" "I" ∈ TB) {v : Int32} (hv : sh_a sh = v) (hdg : decode cc pc = .ok (.getfield index, 3)) (kk : W p l e R s m args below meth c H locs cells slots Q (F0 m (pc + 3) ls (.int v :: rest))) : W p l e R s m args below meth c H locs cells slots Q (F0 m (pc) ls (.ref (ad 10) :: rest)) := by
  subst hv
  exact va_get (D := D) (ci := 2) (v := .int (sh_a sh)) (C := "ScanMachine$Shape") (T := T_Sh_) (N := 7) hx hb hts in_Sh hown hK hP 10 ob_Sh rfl 4 (by decide) (hts _ hlink) (fun _ h9 => h9) rfl hdg kk
theorem wr_Sh_a (hx : p.tables.exec = Jvm.exec) (hb : c.code = cc) (hts : ∀ w ∈ TB, w.before args s = true) (hown : s.vm.findClass own = some m.cls) (hK : va_K D clX (tyX cI cL) s) (hP : va_P D clX (wX cI cL ad ma ko sh lo de wa me ru) H) (hD : va_D A (wX cI cL ad ma ko sh lo de wa me ru)) (hS : va_S A H0 H locs) (hlink : Cond.fieldLink own index "ScanMachine$Shape" "a" "I" ∈ TB) {v : Int32} (hdg : decode cc pc = .ok (.putfield index, 3)) (kk : ∀ (H1 : Heap) (locs1 : List Loc), va_P D clX (wX cI cL ad ma ko (sh_a_s sh v) lo de wa me ru) H1 → va_D A (wX cI cL ad ma ko (sh_a_s sh v) lo de wa me ru) → va_S A H0 H1 locs1 → W p l e R s m args below meth c H1 locs1 cells slots Q (F0 m (pc + 3) ls (rest))) : W p l e R s m args below meth c H locs cells slots Q (F0 m (pc) ls (.int v :: .ref (ad 10) :: rest)) :=
  va_put (D := D) (ci := 2) (v := .int v) (ty := .int) (C := "ScanMachine$Shape") (T := T_Sh_) (N := 7) hx hb hts in_Sh ty_Sh tyok_Sh nm_Sh hown hK hP hD hS 10 ob_Sh rfl 4 (by decide) (hts _ hlink) (fun _ h9 => h9) rfl (by decide +kernel) rfl rfl (Nat.le_of_ble_eq_true rfl) hdg kk
theorem rd_Sh_b (hx : p.tables.exec = Jvm.exec) (hb : c.code = cc) (hts : ∀ w ∈ TB, w.before args s = true) (hown : s.vm.findClass own = some m.cls) (hK : va_K D clX (tyX cI cL) s) (hP : va_P D clX (wX cI cL ad ma ko sh lo de wa me ru) H) (hlink : Cond.fieldLink own index "ScanMachine$Shape" "b" "I" ∈ TB) {v : Int32} (hv : sh_b sh = v) (hdg : decode cc pc = .ok (.getfield index, 3)) (kk : W p l e R s m args below meth c H locs cells slots Q (F0 m (pc + 3) ls (.int v :: rest))) : W p l e R s m args below meth c H locs cells slots Q (F0 m (pc) ls (.ref (ad 10) :: rest)) := by
  subst hv
  exact va_get (D := D) (ci := 2) (v := .int (sh_b sh)) (C := "ScanMachine$Shape") (T := T_Sh_) (N := 7) hx hb hts in_Sh hown hK hP 10 ob_Sh rfl 5 (by decide) (hts _ hlink) (fun _ h9 => h9) rfl hdg kk
theorem wr_Sh_b (hx : p.tables.exec = Jvm.exec) (hb : c.code = cc) (hts : ∀ w ∈ TB, w.before args s = true) (hown : s.vm.findClass own = some m.cls) (hK : va_K D clX (tyX cI cL) s) (hP : va_P D clX (wX cI cL ad ma ko sh lo de wa me ru) H) (hD : va_D A (wX cI cL ad ma ko sh lo de wa me ru)) (hS : va_S A H0 H locs) (hlink : Cond.fieldLink own index "ScanMachine$Shape" "b" "I" ∈ TB) {v : Int32} (hdg : decode cc pc = .ok (.putfield index, 3)) (kk : ∀ (H1 : Heap) (locs1 : List Loc), va_P D clX (wX cI cL ad ma ko (sh_b_s sh v) lo de wa me ru) H1 → va_D A (wX cI cL ad ma ko (sh_b_s sh v) lo de wa me ru) → va_S A H0 H1 locs1 → W p l e R s m args below meth c H1 locs1 cells slots Q (F0 m (pc + 3) ls (rest))) : W p l e R s m args below meth c H locs cells slots Q (F0 m (pc) ls (.int v :: .ref (ad 10) :: rest)) :=
  va_put (D := D) (ci := 2) (v := .int v) (ty := .int) (C := "ScanMachine$Shape") (T := T_Sh_) (N := 7) hx hb hts in_Sh ty_Sh tyok_Sh nm_Sh hown hK hP hD hS 10 ob_Sh rfl 5 (by decide) (hts _ hlink) (fun _ h9 => h9) rfl (by decide +kernel) rfl rfl (Nat.le_of_ble_eq_true rfl) hdg kk
theorem rd_Sh_c (hx : p.tables.exec = Jvm.exec) (hb : c.code = cc) (hts : ∀ w ∈ TB, w.before args s = true) (hown : s.vm.findClass own = some m.cls) (hK : va_K D clX (tyX cI cL) s) (hP : va_P D clX (wX cI cL ad ma ko sh lo de wa me ru) H) (hlink : Cond.fieldLink own index "ScanMachine$Shape" "c" "I" ∈ TB) {v : Int32} (hv : sh_c sh = v) (hdg : decode cc pc = .ok (.getfield index, 3)) (kk : W p l e R s m args below meth c H locs cells slots Q (F0 m (pc + 3) ls (.int v :: rest))) : W p l e R s m args below meth c H locs cells slots Q (F0 m (pc) ls (.ref (ad 10) :: rest)) := by
  subst hv
  exact va_get (D := D) (ci := 2) (v := .int (sh_c sh)) (C := "ScanMachine$Shape") (T := T_Sh_) (N := 7) hx hb hts in_Sh hown hK hP 10 ob_Sh rfl 6 (by decide) (hts _ hlink) (fun _ h9 => h9) rfl hdg kk
theorem wr_Sh_c (hx : p.tables.exec = Jvm.exec) (hb : c.code = cc) (hts : ∀ w ∈ TB, w.before args s = true) (hown : s.vm.findClass own = some m.cls) (hK : va_K D clX (tyX cI cL) s) (hP : va_P D clX (wX cI cL ad ma ko sh lo de wa me ru) H) (hD : va_D A (wX cI cL ad ma ko sh lo de wa me ru)) (hS : va_S A H0 H locs) (hlink : Cond.fieldLink own index "ScanMachine$Shape" "c" "I" ∈ TB) {v : Int32} (hdg : decode cc pc = .ok (.putfield index, 3)) (kk : ∀ (H1 : Heap) (locs1 : List Loc), va_P D clX (wX cI cL ad ma ko (sh_c_s sh v) lo de wa me ru) H1 → va_D A (wX cI cL ad ma ko (sh_c_s sh v) lo de wa me ru) → va_S A H0 H1 locs1 → W p l e R s m args below meth c H1 locs1 cells slots Q (F0 m (pc + 3) ls (rest))) : W p l e R s m args below meth c H locs cells slots Q (F0 m (pc) ls (.int v :: .ref (ad 10) :: rest)) :=
  va_put (D := D) (ci := 2) (v := .int v) (ty := .int) (C := "ScanMachine$Shape") (T := T_Sh_) (N := 7) hx hb hts in_Sh ty_Sh tyok_Sh nm_Sh hown hK hP hD hS 10 ob_Sh rfl 6 (by decide) (hts _ hlink) (fun _ h9 => h9) rfl (by decide +kernel) rfl rfl (Nat.le_of_ble_eq_true rfl) hdg kk
theorem ob_Lo : (wX cI cL ad ma ko sh lo de wa me ru)[11]? = some (ad 11, .inr (3, [.ref (ad 1), .ref (ad 12), .int (lo_loops lo), .int (lo_unit lo)])) := rfl
theorem rd_Lo_code (hx : p.tables.exec = Jvm.exec) (hb : c.code = cc) (hts : ∀ w ∈ TB, w.before args s = true) (hown : s.vm.findClass own = some m.cls) (hK : va_K D clX (tyX cI cL) s) (hP : va_P D clX (wX cI cL ad ma ko sh lo de wa me ru) H) (hlink : Cond.fieldLink own index "ScanMachine$Loops" "code" "LScanMachine$Code;" ∈ TB) (hdg : decode cc pc = .ok (.getfield index, 3)) (kk : W p l e R s m args below meth c H locs cells slots Q (F0 m (pc + 3) ls (.ref (ad 1) :: rest))) : W p l e R s m args below meth c H locs cells slots Q (F0 m (pc) ls (.ref (ad 11) :: rest)) :=
  va_get (D := D) (ci := 3) (v := .ref (ad 1)) (C := "ScanMachine$Loops") (T := T_Lo_) (N := 4) hx hb hts in_Lo hown hK hP 11 ob_Lo rfl 0 (by decide) (hts _ hlink) (fun _ h9 => h9) rfl hdg kk
theorem rd_Lo_nexts (hx : p.tables.exec = Jvm.exec) (hb : c.code = cc) (hts : ∀ w ∈ TB, w.before args s = true) (hown : s.vm.findClass own = some m.cls) (hK : va_K D clX (tyX cI cL) s) (hP : va_P D clX (wX cI cL ad ma ko sh lo de wa me ru) H) (hlink : Cond.fieldLink own index "ScanMachine$Loops" "nexts" "[I" ∈ TB) (hdg : decode cc pc = .ok (.getfield index, 3)) (kk : W p l e R s m args below meth c H locs cells slots Q (F0 m (pc + 3) ls (.ref (ad 12) :: rest))) : W p l e R s m args below meth c H locs cells slots Q (F0 m (pc) ls (.ref (ad 11) :: rest)) :=
  va_get (D := D) (ci := 3) (v := .ref (ad 12)) (C := "ScanMachine$Loops") (T := T_Lo_) (N := 4) hx hb hts in_Lo hown hK hP 11 ob_Lo rfl 1 (by decide) (hts _ hlink) (fun _ h9 => h9) rfl hdg kk
theorem rd_Lo_loops (hx : p.tables.exec = Jvm.exec) (hb : c.code = cc) (hts : ∀ w ∈ TB, w.before args s = true) (hown : s.vm.findClass own = some m.cls) (hK : va_K D clX (tyX cI cL) s) (hP : va_P D clX (wX cI cL ad ma ko sh lo de wa me ru) H) (hlink : Cond.fieldLink own index "ScanMachine$Loops" "loops" "I" ∈ TB) {v : Int32} (hv : lo_loops lo = v) (hdg : decode cc pc = .ok (.getfield index, 3)) (kk : W p l e R s m args below meth c H locs cells slots Q (F0 m (pc + 3) ls (.int v :: rest))) : W p l e R s m args below meth c H locs cells slots Q (F0 m (pc) ls (.ref (ad 11) :: rest)) := by
  subst hv
  exact va_get (D := D) (ci := 3) (v := .int (lo_loops lo)) (C := "ScanMachine$Loops") (T := T_Lo_) (N := 4) hx hb hts in_Lo hown hK hP 11 ob_Lo rfl 2 (by decide) (hts _ hlink) (fun _ h9 => h9) rfl hdg kk
theorem wr_Lo_loops (hx : p.tables.exec = Jvm.exec) (hb : c.code = cc) (hts : ∀ w ∈ TB, w.before args s = true) (hown : s.vm.findClass own = some m.cls) (hK : va_K D clX (tyX cI cL) s) (hP : va_P D clX (wX cI cL ad ma ko sh lo de wa me ru) H) (hD : va_D A (wX cI cL ad ma ko sh lo de wa me ru)) (hS : va_S A H0 H locs) (hlink : Cond.fieldLink own index "ScanMachine$Loops" "loops" "I" ∈ TB) {v : Int32} (hdg : decode cc pc = .ok (.putfield index, 3)) (kk : ∀ (H1 : Heap) (locs1 : List Loc), va_P D clX (wX cI cL ad ma ko sh (lo_loops_s lo v) de wa me ru) H1 → va_D A (wX cI cL ad ma ko sh (lo_loops_s lo v) de wa me ru) → va_S A H0 H1 locs1 → W p l e R s m args below meth c H1 locs1 cells slots Q (F0 m (pc + 3) ls (rest))) : W p l e R s m args below meth c H locs cells slots Q (F0 m (pc) ls (.int v :: .ref (ad 11) :: rest)) :=
  va_put (D := D) (ci := 3) (v := .int v) (ty := .int) (C := "ScanMachine$Loops") (T := T_Lo_) (N := 4) hx hb hts in_Lo ty_Lo tyok_Lo nm_Lo hown hK hP hD hS 11 ob_Lo rfl 2 (by decide) (hts _ hlink) (fun _ h9 => h9) rfl (by decide +kernel) rfl rfl (Nat.le_of_ble_eq_true rfl) hdg kk
theorem rd_Lo_unit (hx : p.tables.exec = Jvm.exec) (hb : c.code = cc) (hts : ∀ w ∈ TB, w.before args s = true) (hown : s.vm.findClass own = some m.cls) (hK : va_K D clX (tyX cI cL) s) (hP : va_P D clX (wX cI cL ad ma ko sh lo de wa me ru) H) (hlink : Cond.fieldLink own index "ScanMachine$Loops" "unit" "I" ∈ TB) {v : Int32} (hv : lo_unit lo = v) (hdg : decode cc pc = .ok (.getfield index, 3)) (kk : W p l e R s m args below meth c H locs cells slots Q (F0 m (pc + 3) ls (.int v :: rest))) : W p l e R s m args below meth c H locs cells slots Q (F0 m (pc) ls (.ref (ad 11) :: rest)) := by
  subst hv
  exact va_get (D := D) (ci := 3) (v := .int (lo_unit lo)) (C := "ScanMachine$Loops") (T := T_Lo_) (N := 4) hx hb hts in_Lo hown hK hP 11 ob_Lo rfl 3 (by decide) (hts _ hlink) (fun _ h9 => h9) rfl hdg kk
theorem wr_Lo_unit (hx : p.tables.exec = Jvm.exec) (hb : c.code = cc) (hts : ∀ w ∈ TB, w.before args s = true) (hown : s.vm.findClass own = some m.cls) (hK : va_K D clX (tyX cI cL) s) (hP : va_P D clX (wX cI cL ad ma ko sh lo de wa me ru) H) (hD : va_D A (wX cI cL ad ma ko sh lo de wa me ru)) (hS : va_S A H0 H locs) (hlink : Cond.fieldLink own index "ScanMachine$Loops" "unit" "I" ∈ TB) {v : Int32} (hdg : decode cc pc = .ok (.putfield index, 3)) (kk : ∀ (H1 : Heap) (locs1 : List Loc), va_P D clX (wX cI cL ad ma ko sh (lo_unit_s lo v) de wa me ru) H1 → va_D A (wX cI cL ad ma ko sh (lo_unit_s lo v) de wa me ru) → va_S A H0 H1 locs1 → W p l e R s m args below meth c H1 locs1 cells slots Q (F0 m (pc + 3) ls (rest))) : W p l e R s m args below meth c H locs cells slots Q (F0 m (pc) ls (.int v :: .ref (ad 11) :: rest)) :=
  va_put (D := D) (ci := 3) (v := .int v) (ty := .int) (C := "ScanMachine$Loops") (T := T_Lo_) (N := 4) hx hb hts in_Lo ty_Lo tyok_Lo nm_Lo hown hK hP hD hS 11 ob_Lo rfl 3 (by decide) (hts _ hlink) (fun _ h9 => h9) rfl (by decide +kernel) rfl rfl (Nat.le_of_ble_eq_true rfl) hdg kk
theorem ar_Lo_nexts : (wX cI cL ad ma ko sh lo de wa me ru)[12]? = some (ad 12, .inl (cI, 256, .inl (lo_nexts lo))) := rfl
theorem ld_Lo_nexts (hx : p.tables.exec = Jvm.exec) (hb : c.code = cc) (hK : va_K D clX (tyX cI cL) s) (hP : va_P D clX (wX cI cL ad ma ko sh lo de wa me ru) H) {i : Int32} (hin : vp_in i 256) {v : Int32} (hv : v = lo_nexts lo i.toNatClampNeg) (hdg : decode cc pc = .ok (.iaload, 1)) (kk : W p l e R s m args below meth c H locs cells slots Q (F0 m (pc + 1) ls (.int v :: rest))) : W p l e R s m args below meth c H locs cells slots Q (F0 m (pc) ls (.int i :: .ref (ad 12) :: rest)) := by
  subst hv; exact va_iald hx hb hK hP 12 0 ar_Lo_nexts rfl hin hdg kk
theorem st_Lo_nexts (hx : p.tables.exec = Jvm.exec) (hb : c.code = cc) (hK : va_K D clX (tyX cI cL) s) (hP : va_P D clX (wX cI cL ad ma ko sh lo de wa me ru) H) (hD : va_D A (wX cI cL ad ma ko sh lo de wa me ru)) (hS : va_S A H0 H locs) {i : Int32} {x : Int32} (hin : vp_in i 256) (hdg : decode cc pc = .ok (.iastore, 1)) (kk : ∀ (H1 : Heap) (locs1 : List Loc), va_P D clX (wX cI cL ad ma ko sh (lo_nexts_s lo (upd (lo_nexts lo) i.toNatClampNeg x)) de wa me ru) H1 → va_D A (wX cI cL ad ma ko sh (lo_nexts_s lo (upd (lo_nexts lo) i.toNatClampNeg x)) de wa me ru) → va_S A H0 H1 locs1 → W p l e R s m args below meth c H1 locs1 cells slots Q (F0 m (pc + 1) ls (rest))) : W p l e R s m args below meth c H locs cells slots Q (F0 m (pc) ls (.int x :: .int i :: .ref (ad 12) :: rest)) :=
  va_iast hx hb hK hP hD hS 12 0 ar_Lo_nexts rfl hin hdg kk
theorem le_Lo_nexts (hx : p.tables.exec = Jvm.exec) (hb : c.code = cc) (hK : va_K D clX (tyX cI cL) s) (hP : va_P D clX (wX cI cL ad ma ko sh lo de wa me ru) H) (hdg : decode cc pc = .ok (.arraylength, 1)) (kk : W p l e R s m args below meth c H locs cells slots Q (F0 m (pc + 1) ls (.int 256 :: rest))) : W p l e R s m args below meth c H locs cells slots Q (F0 m (pc) ls (.ref (ad 12) :: rest)) :=
  va_alen hx hb hK hP 12 0 ar_Lo_nexts rfl rfl hdg kk
theorem ob_De : (wX cI cL ad ma ko sh lo de wa me ru)[13]? = some (ad 13, .inr (4, [.ref (ad 1), .ref (ad 14)])) := rfl
theorem rd_De_code (hx : p.tables.exec = Jvm.exec) (hb : c.code = cc) (hts : ∀ w ∈ TB, w.before args s = true) (hown : s.vm.findClass own = some m.cls) (hK : va_K D clX (tyX cI cL) s) (hP : va_P D clX (wX cI cL ad ma ko sh lo de wa me ru) H) (hlink : Cond.fieldLink own index "ScanMachine$Depths" "code" "LScanMachine$Code;" ∈ TB) (hdg : decode cc pc = .ok (.getfield index, 3)) (kk : W p l e R s m args below meth c H locs cells slots Q (F0 m (pc + 3) ls (.ref (ad 1) :: rest))) : W p l e R s m args below meth c H locs cells slots Q (F0 m (pc) ls (.ref (ad 13) :: rest)) :=
  va_get (D := D) (ci := 4) (v := .ref (ad 1)) (C := "ScanMachine$Depths") (T := T_De_) (N := 2) hx hb hts in_De hown hK hP 13 ob_De rfl 0 (by decide) (hts _ hlink) (fun _ h9 => h9) rfl hdg kk
theorem rd_De_depths (hx : p.tables.exec = Jvm.exec) (hb : c.code = cc) (hts : ∀ w ∈ TB, w.before args s = true) (hown : s.vm.findClass own = some m.cls) (hK : va_K D clX (tyX cI cL) s) (hP : va_P D clX (wX cI cL ad ma ko sh lo de wa me ru) H) (hlink : Cond.fieldLink own index "ScanMachine$Depths" "depths" "[I" ∈ TB) (hdg : decode cc pc = .ok (.getfield index, 3)) (kk : W p l e R s m args below meth c H locs cells slots Q (F0 m (pc + 3) ls (.ref (ad 14) :: rest))) : W p l e R s m args below meth c H locs cells slots Q (F0 m (pc) ls (.ref (ad 13) :: rest)) :=
  va_get (D := D) (ci := 4) (v := .ref (ad 14)) (C := "ScanMachine$Depths") (T := T_De_) (N := 2) hx hb hts in_De hown hK hP 13 ob_De rfl 1 (by decide) (hts _ hlink) (fun _ h9 => h9) rfl hdg kk
theorem ar_De_depths : (wX cI cL ad ma ko sh lo de wa me ru)[14]? = some (ad 14, .inl (cI, 257, .inl (de_depths de))) := rfl
theorem ld_De_depths (hx : p.tables.exec = Jvm.exec) (hb : c.code = cc) (hK : va_K D clX (tyX cI cL) s) (hP : va_P D clX (wX cI cL ad ma ko sh lo de wa me ru) H) {i : Int32} (hin : vp_in i 257) {v : Int32} (hv : v = de_depths de i.toNatClampNeg) (hdg : decode cc pc = .ok (.iaload, 1)) (kk : W p l e R s m args below meth c H locs cells slots Q (F0 m (pc + 1) ls (.int v :: rest))) : W p l e R s m args below meth c H locs cells slots Q (F0 m (pc) ls (.int i :: .ref (ad 14) :: rest)) := by
  subst hv; exact va_iald hx hb hK hP 14 0 ar_De_depths rfl hin hdg kk
theorem st_De_depths (hx : p.tables.exec = Jvm.exec) (hb : c.code = cc) (hK : va_K D clX (tyX cI cL) s) (hP : va_P D clX (wX cI cL ad ma ko sh lo de wa me ru) H) (hD : va_D A (wX cI cL ad ma ko sh lo de wa me ru)) (hS : va_S A H0 H locs) {i : Int32} {x : Int32} (hin : vp_in i 257) (hdg : decode cc pc = .ok (.iastore, 1)) (kk : ∀ (H1 : Heap) (locs1 : List Loc), va_P D clX (wX cI cL ad ma ko sh lo (de_depths_s de (upd (de_depths de) i.toNatClampNeg x)) wa me ru) H1 → va_D A (wX cI cL ad ma ko sh lo (de_depths_s de (upd (de_depths de) i.toNatClampNeg x)) wa me ru) → va_S A H0 H1 locs1 → W p l e R s m args below meth c H1 locs1 cells slots Q (F0 m (pc + 1) ls (rest))) : W p l e R s m args below meth c H locs cells slots Q (F0 m (pc) ls (.int x :: .int i :: .ref (ad 14) :: rest)) :=
  va_iast hx hb hK hP hD hS 14 0 ar_De_depths rfl hin hdg kk
theorem le_De_depths (hx : p.tables.exec = Jvm.exec) (hb : c.code = cc) (hK : va_K D clX (tyX cI cL) s) (hP : va_P D clX (wX cI cL ad ma ko sh lo de wa me ru) H) (hdg : decode cc pc = .ok (.arraylength, 1)) (kk : W p l e R s m args below meth c H locs cells slots Q (F0 m (pc + 1) ls (.int 257 :: rest))) : W p l e R s m args below meth c H locs cells slots Q (F0 m (pc) ls (.ref (ad 14) :: rest)) :=
  va_alen hx hb hK hP 14 0 ar_De_depths rfl rfl hdg kk
theorem ob_Wa : (wX cI cL ad ma ko sh lo de wa me ru)[15]? = some (ad 15, .inr (5, [.ref (ad 1), .ref (ad 16), .ref (ad 17), .ref (ad 18), .int (wa_unit wa), .int (wa_end_ wa)])) := rfl
theorem rd_Wa_code (hx : p.tables.exec = Jvm.exec) (hb : c.code = cc) (hts : ∀ w ∈ TB, w.before args s = true) (hown : s.vm.findClass own = some m.cls) (hK : va_K D clX (tyX cI cL) s) (hP : va_P D clX (wX cI cL ad ma ko sh lo de wa me ru) H) (hlink : Cond.fieldLink own index "ScanMachine$Ways" "code" "LScanMachine$Code;" ∈ TB) (hdg : decode cc pc = .ok (.getfield index, 3)) (kk : W p l e R s m args below meth c H locs cells slots Q (F0 m (pc + 3) ls (.ref (ad 1) :: rest))) : W p l e R s m args below meth c H locs cells slots Q (F0 m (pc) ls (.ref (ad 15) :: rest)) :=
  va_get (D := D) (ci := 5) (v := .ref (ad 1)) (C := "ScanMachine$Ways") (T := T_Wa_) (N := 6) hx hb hts in_Wa hown hK hP 15 ob_Wa rfl 0 (by decide) (hts _ hlink) (fun _ h9 => h9) rfl hdg kk
theorem rd_Wa_reached (hx : p.tables.exec = Jvm.exec) (hb : c.code = cc) (hts : ∀ w ∈ TB, w.before args s = true) (hown : s.vm.findClass own = some m.cls) (hK : va_K D clX (tyX cI cL) s) (hP : va_P D clX (wX cI cL ad ma ko sh lo de wa me ru) H) (hlink : Cond.fieldLink own index "ScanMachine$Ways" "reached" "[J" ∈ TB) (hdg : decode cc pc = .ok (.getfield index, 3)) (kk : W p l e R s m args below meth c H locs cells slots Q (F0 m (pc + 3) ls (.ref (ad 16) :: rest))) : W p l e R s m args below meth c H locs cells slots Q (F0 m (pc) ls (.ref (ad 15) :: rest)) :=
  va_get (D := D) (ci := 5) (v := .ref (ad 16)) (C := "ScanMachine$Ways") (T := T_Wa_) (N := 6) hx hb hts in_Wa hown hK hP 15 ob_Wa rfl 1 (by decide) (hts _ hlink) (fun _ h9 => h9) rfl hdg kk
theorem rd_Wa_rounds (hx : p.tables.exec = Jvm.exec) (hb : c.code = cc) (hts : ∀ w ∈ TB, w.before args s = true) (hown : s.vm.findClass own = some m.cls) (hK : va_K D clX (tyX cI cL) s) (hP : va_P D clX (wX cI cL ad ma ko sh lo de wa me ru) H) (hlink : Cond.fieldLink own index "ScanMachine$Ways" "rounds" "[J" ∈ TB) (hdg : decode cc pc = .ok (.getfield index, 3)) (kk : W p l e R s m args below meth c H locs cells slots Q (F0 m (pc + 3) ls (.ref (ad 17) :: rest))) : W p l e R s m args below meth c H locs cells slots Q (F0 m (pc) ls (.ref (ad 15) :: rest)) :=
  va_get (D := D) (ci := 5) (v := .ref (ad 17)) (C := "ScanMachine$Ways") (T := T_Wa_) (N := 6) hx hb hts in_Wa hown hK hP 15 ob_Wa rfl 2 (by decide) (hts _ hlink) (fun _ h9 => h9) rfl hdg kk
theorem rd_Wa_steps (hx : p.tables.exec = Jvm.exec) (hb : c.code = cc) (hts : ∀ w ∈ TB, w.before args s = true) (hown : s.vm.findClass own = some m.cls) (hK : va_K D clX (tyX cI cL) s) (hP : va_P D clX (wX cI cL ad ma ko sh lo de wa me ru) H) (hlink : Cond.fieldLink own index "ScanMachine$Ways" "steps" "[J" ∈ TB) (hdg : decode cc pc = .ok (.getfield index, 3)) (kk : W p l e R s m args below meth c H locs cells slots Q (F0 m (pc + 3) ls (.ref (ad 18) :: rest))) : W p l e R s m args below meth c H locs cells slots Q (F0 m (pc) ls (.ref (ad 15) :: rest)) :=
  va_get (D := D) (ci := 5) (v := .ref (ad 18)) (C := "ScanMachine$Ways") (T := T_Wa_) (N := 6) hx hb hts in_Wa hown hK hP 15 ob_Wa rfl 3 (by decide) (hts _ hlink) (fun _ h9 => h9) rfl hdg kk
theorem rd_Wa_unit (hx : p.tables.exec = Jvm.exec) (hb : c.code = cc) (hts : ∀ w ∈ TB, w.before args s = true) (hown : s.vm.findClass own = some m.cls) (hK : va_K D clX (tyX cI cL) s) (hP : va_P D clX (wX cI cL ad ma ko sh lo de wa me ru) H) (hlink : Cond.fieldLink own index "ScanMachine$Ways" "unit" "I" ∈ TB) {v : Int32} (hv : wa_unit wa = v) (hdg : decode cc pc = .ok (.getfield index, 3)) (kk : W p l e R s m args below meth c H locs cells slots Q (F0 m (pc + 3) ls (.int v :: rest))) : W p l e R s m args below meth c H locs cells slots Q (F0 m (pc) ls (.ref (ad 15) :: rest)) := by
  subst hv
  exact va_get (D := D) (ci := 5) (v := .int (wa_unit wa)) (C := "ScanMachine$Ways") (T := T_Wa_) (N := 6) hx hb hts in_Wa hown hK hP 15 ob_Wa rfl 4 (by decide) (hts _ hlink) (fun _ h9 => h9) rfl hdg kk
theorem wr_Wa_unit (hx : p.tables.exec = Jvm.exec) (hb : c.code = cc) (hts : ∀ w ∈ TB, w.before args s = true) (hown : s.vm.findClass own = some m.cls) (hK : va_K D clX (tyX cI cL) s) (hP : va_P D clX (wX cI cL ad ma ko sh lo de wa me ru) H) (hD : va_D A (wX cI cL ad ma ko sh lo de wa me ru)) (hS : va_S A H0 H locs) (hlink : Cond.fieldLink own index "ScanMachine$Ways" "unit" "I" ∈ TB) {v : Int32} (hdg : decode cc pc = .ok (.putfield index, 3)) (kk : ∀ (H1 : Heap) (locs1 : List Loc), va_P D clX (wX cI cL ad ma ko sh lo de (wa_unit_s wa v) me ru) H1 → va_D A (wX cI cL ad ma ko sh lo de (wa_unit_s wa v) me ru) → va_S A H0 H1 locs1 → W p l e R s m args below meth c H1 locs1 cells slots Q (F0 m (pc + 3) ls (rest))) : W p l e R s m args below meth c H locs cells slots Q (F0 m (pc) ls (.int v :: .ref (ad 15) :: rest)) :=
  va_put (D := D) (ci := 5) (v := .int v) (ty := .int) (C := "ScanMachine$Ways") (T := T_Wa_) (N := 6) hx hb hts in_Wa ty_Wa tyok_Wa nm_Wa hown hK hP hD hS 15 ob_Wa rfl 4 (by decide) (hts _ hlink) (fun _ h9 => h9) rfl (by decide +kernel) rfl rfl (Nat.le_of_ble_eq_true rfl) hdg kk
theorem rd_Wa_end_ (hx : p.tables.exec = Jvm.exec) (hb : c.code = cc) (hts : ∀ w ∈ TB, w.before args s = true) (hown : s.vm.findClass own = some m.cls) (hK : va_K D clX (tyX cI cL) s) (hP : va_P D clX (wX cI cL ad ma ko sh lo de wa me ru) H) (hlink : Cond.fieldLink own index "ScanMachine$Ways" "end" "I" ∈ TB) {v : Int32} (hv : wa_end_ wa = v) (hdg : decode cc pc = .ok (.getfield index, 3)) (kk : W p l e R s m args below meth c H locs cells slots Q (F0 m (pc + 3) ls (.int v :: rest))) : W p l e R s m args below meth c H locs cells slots Q (F0 m (pc) ls (.ref (ad 15) :: rest)) := by
  subst hv
  exact va_get (D := D) (ci := 5) (v := .int (wa_end_ wa)) (C := "ScanMachine$Ways") (T := T_Wa_) (N := 6) hx hb hts in_Wa hown hK hP 15 ob_Wa rfl 5 (by decide) (hts _ hlink) (fun _ h9 => h9) rfl hdg kk
theorem wr_Wa_end_ (hx : p.tables.exec = Jvm.exec) (hb : c.code = cc) (hts : ∀ w ∈ TB, w.before args s = true) (hown : s.vm.findClass own = some m.cls) (hK : va_K D clX (tyX cI cL) s) (hP : va_P D clX (wX cI cL ad ma ko sh lo de wa me ru) H) (hD : va_D A (wX cI cL ad ma ko sh lo de wa me ru)) (hS : va_S A H0 H locs) (hlink : Cond.fieldLink own index "ScanMachine$Ways" "end" "I" ∈ TB) {v : Int32} (hdg : decode cc pc = .ok (.putfield index, 3)) (kk : ∀ (H1 : Heap) (locs1 : List Loc), va_P D clX (wX cI cL ad ma ko sh lo de (wa_end__s wa v) me ru) H1 → va_D A (wX cI cL ad ma ko sh lo de (wa_end__s wa v) me ru) → va_S A H0 H1 locs1 → W p l e R s m args below meth c H1 locs1 cells slots Q (F0 m (pc + 3) ls (rest))) : W p l e R s m args below meth c H locs cells slots Q (F0 m (pc) ls (.int v :: .ref (ad 15) :: rest)) :=
  va_put (D := D) (ci := 5) (v := .int v) (ty := .int) (C := "ScanMachine$Ways") (T := T_Wa_) (N := 6) hx hb hts in_Wa ty_Wa tyok_Wa nm_Wa hown hK hP hD hS 15 ob_Wa rfl 5 (by decide) (hts _ hlink) (fun _ h9 => h9) rfl (by decide +kernel) rfl rfl (Nat.le_of_ble_eq_true rfl) hdg kk
theorem ar_Wa_reached : (wX cI cL ad ma ko sh lo de wa me ru)[16]? = some (ad 16, .inl (cL, 257, .inr (.inl (wa_reached wa)))) := rfl
theorem ld_Wa_reached (hx : p.tables.exec = Jvm.exec) (hb : c.code = cc) (hK : va_K D clX (tyX cI cL) s) (hP : va_P D clX (wX cI cL ad ma ko sh lo de wa me ru) H) {i : Int32} (hin : vp_in i 257) {v : Int64} (hv : v = wa_reached wa i.toNatClampNeg) (hdg : decode cc pc = .ok (.laload, 1)) (kk : W p l e R s m args below meth c H locs cells slots Q (F0 m (pc + 1) ls (.long v :: rest))) : W p l e R s m args below meth c H locs cells slots Q (F0 m (pc) ls (.int i :: .ref (ad 16) :: rest)) := by
  subst hv; exact va_lald hx hb hK hP 16 1 ar_Wa_reached rfl hin hdg kk
theorem st_Wa_reached (hx : p.tables.exec = Jvm.exec) (hb : c.code = cc) (hK : va_K D clX (tyX cI cL) s) (hP : va_P D clX (wX cI cL ad ma ko sh lo de wa me ru) H) (hD : va_D A (wX cI cL ad ma ko sh lo de wa me ru)) (hS : va_S A H0 H locs) {i : Int32} {x : Int64} (hin : vp_in i 257) (hdg : decode cc pc = .ok (.lastore, 1)) (kk : ∀ (H1 : Heap) (locs1 : List Loc), va_P D clX (wX cI cL ad ma ko sh lo de (wa_reached_s wa (vp_updL (wa_reached wa) i.toNatClampNeg x)) me ru) H1 → va_D A (wX cI cL ad ma ko sh lo de (wa_reached_s wa (vp_updL (wa_reached wa) i.toNatClampNeg x)) me ru) → va_S A H0 H1 locs1 → W p l e R s m args below meth c H1 locs1 cells slots Q (F0 m (pc + 1) ls (rest))) : W p l e R s m args below meth c H locs cells slots Q (F0 m (pc) ls (.long x :: .int i :: .ref (ad 16) :: rest)) :=
  va_last hx hb hK hP hD hS 16 1 ar_Wa_reached rfl hin hdg kk
theorem le_Wa_reached (hx : p.tables.exec = Jvm.exec) (hb : c.code = cc) (hK : va_K D clX (tyX cI cL) s) (hP : va_P D clX (wX cI cL ad ma ko sh lo de wa me ru) H) (hdg : decode cc pc = .ok (.arraylength, 1)) (kk : W p l e R s m args below meth c H locs cells slots Q (F0 m (pc + 1) ls (.int 257 :: rest))) : W p l e R s m args below meth c H locs cells slots Q (F0 m (pc) ls (.ref (ad 16) :: rest)) :=
  va_alen hx hb hK hP 16 1 ar_Wa_reached rfl rfl hdg kk
theorem ar_Wa_rounds : (wX cI cL ad ma ko sh lo de wa me ru)[17]? = some (ad 17, .inl (cL, 256, .inr (.inl (wa_rounds wa)))) := rfl
theorem ld_Wa_rounds (hx : p.tables.exec = Jvm.exec) (hb : c.code = cc) (hK : va_K D clX (tyX cI cL) s) (hP : va_P D clX (wX cI cL ad ma ko sh lo de wa me ru) H) {i : Int32} (hin : vp_in i 256) {v : Int64} (hv : v = wa_rounds wa i.toNatClampNeg) (hdg : decode cc pc = .ok (.laload, 1)) (kk : W p l e R s m args below meth c H locs cells slots Q (F0 m (pc + 1) ls (.long v :: rest))) : W p l e R s m args below meth c H locs cells slots Q (F0 m (pc) ls (.int i :: .ref (ad 17) :: rest)) := by
  subst hv; exact va_lald hx hb hK hP 17 1 ar_Wa_rounds rfl hin hdg kk
theorem st_Wa_rounds (hx : p.tables.exec = Jvm.exec) (hb : c.code = cc) (hK : va_K D clX (tyX cI cL) s) (hP : va_P D clX (wX cI cL ad ma ko sh lo de wa me ru) H) (hD : va_D A (wX cI cL ad ma ko sh lo de wa me ru)) (hS : va_S A H0 H locs) {i : Int32} {x : Int64} (hin : vp_in i 256) (hdg : decode cc pc = .ok (.lastore, 1)) (kk : ∀ (H1 : Heap) (locs1 : List Loc), va_P D clX (wX cI cL ad ma ko sh lo de (wa_rounds_s wa (vp_updL (wa_rounds wa) i.toNatClampNeg x)) me ru) H1 → va_D A (wX cI cL ad ma ko sh lo de (wa_rounds_s wa (vp_updL (wa_rounds wa) i.toNatClampNeg x)) me ru) → va_S A H0 H1 locs1 → W p l e R s m args below meth c H1 locs1 cells slots Q (F0 m (pc + 1) ls (rest))) : W p l e R s m args below meth c H locs cells slots Q (F0 m (pc) ls (.long x :: .int i :: .ref (ad 17) :: rest)) :=
  va_last hx hb hK hP hD hS 17 1 ar_Wa_rounds rfl hin hdg kk
theorem le_Wa_rounds (hx : p.tables.exec = Jvm.exec) (hb : c.code = cc) (hK : va_K D clX (tyX cI cL) s) (hP : va_P D clX (wX cI cL ad ma ko sh lo de wa me ru) H) (hdg : decode cc pc = .ok (.arraylength, 1)) (kk : W p l e R s m args below meth c H locs cells slots Q (F0 m (pc + 1) ls (.int 256 :: rest))) : W p l e R s m args below meth c H locs cells slots Q (F0 m (pc) ls (.ref (ad 17) :: rest)) :=
  va_alen hx hb hK hP 17 1 ar_Wa_rounds rfl rfl hdg kk
theorem ar_Wa_steps : (wX cI cL ad ma ko sh lo de wa me ru)[18]? = some (ad 18, .inl (cL, 16, .inr (.inl (wa_steps wa)))) := rfl
theorem ld_Wa_steps (hx : p.tables.exec = Jvm.exec) (hb : c.code = cc) (hK : va_K D clX (tyX cI cL) s) (hP : va_P D clX (wX cI cL ad ma ko sh lo de wa me ru) H) {i : Int32} (hin : vp_in i 16) {v : Int64} (hv : v = wa_steps wa i.toNatClampNeg) (hdg : decode cc pc = .ok (.laload, 1)) (kk : W p l e R s m args below meth c H locs cells slots Q (F0 m (pc + 1) ls (.long v :: rest))) : W p l e R s m args below meth c H locs cells slots Q (F0 m (pc) ls (.int i :: .ref (ad 18) :: rest)) := by
  subst hv; exact va_lald hx hb hK hP 18 1 ar_Wa_steps rfl hin hdg kk
theorem st_Wa_steps (hx : p.tables.exec = Jvm.exec) (hb : c.code = cc) (hK : va_K D clX (tyX cI cL) s) (hP : va_P D clX (wX cI cL ad ma ko sh lo de wa me ru) H) (hD : va_D A (wX cI cL ad ma ko sh lo de wa me ru)) (hS : va_S A H0 H locs) {i : Int32} {x : Int64} (hin : vp_in i 16) (hdg : decode cc pc = .ok (.lastore, 1)) (kk : ∀ (H1 : Heap) (locs1 : List Loc), va_P D clX (wX cI cL ad ma ko sh lo de (wa_steps_s wa (vp_updL (wa_steps wa) i.toNatClampNeg x)) me ru) H1 → va_D A (wX cI cL ad ma ko sh lo de (wa_steps_s wa (vp_updL (wa_steps wa) i.toNatClampNeg x)) me ru) → va_S A H0 H1 locs1 → W p l e R s m args below meth c H1 locs1 cells slots Q (F0 m (pc + 1) ls (rest))) : W p l e R s m args below meth c H locs cells slots Q (F0 m (pc) ls (.long x :: .int i :: .ref (ad 18) :: rest)) :=
  va_last hx hb hK hP hD hS 18 1 ar_Wa_steps rfl hin hdg kk
theorem le_Wa_steps (hx : p.tables.exec = Jvm.exec) (hb : c.code = cc) (hK : va_K D clX (tyX cI cL) s) (hP : va_P D clX (wX cI cL ad ma ko sh lo de wa me ru) H) (hdg : decode cc pc = .ok (.arraylength, 1)) (kk : W p l e R s m args below meth c H locs cells slots Q (F0 m (pc + 1) ls (.int 16 :: rest))) : W p l e R s m args below meth c H locs cells slots Q (F0 m (pc) ls (.ref (ad 18) :: rest)) :=
  va_alen hx hb hK hP 18 1 ar_Wa_steps rfl rfl hdg kk
theorem ob_Me : (wX cI cL ad ma ko sh lo de wa me ru)[19]? = some (ad 19, .inr (6, [.ref (ad 20), .ref (ad 21), .int (me_depth me), .int (me_deepest me)])) := rfl
theorem rd_Me_cells (hx : p.tables.exec = Jvm.exec) (hb : c.code = cc) (hts : ∀ w ∈ TB, w.before args s = true) (hown : s.vm.findClass own = some m.cls) (hK : va_K D clX (tyX cI cL) s) (hP : va_P D clX (wX cI cL ad ma ko sh lo de wa me ru) H) (hlink : Cond.fieldLink own index "ScanMachine$Memory" "cells" "[I" ∈ TB) (hdg : decode cc pc = .ok (.getfield index, 3)) (kk : W p l e R s m args below meth c H locs cells slots Q (F0 m (pc + 3) ls (.ref (ad 20) :: rest))) : W p l e R s m args below meth c H locs cells slots Q (F0 m (pc) ls (.ref (ad 19) :: rest)) :=
  va_get (D := D) (ci := 6) (v := .ref (ad 20)) (C := "ScanMachine$Memory") (T := T_Me_) (N := 4) hx hb hts in_Me hown hK hP 19 ob_Me rfl 0 (by decide) (hts _ hlink) (fun _ h9 => h9) rfl hdg kk
theorem rd_Me_stack (hx : p.tables.exec = Jvm.exec) (hb : c.code = cc) (hts : ∀ w ∈ TB, w.before args s = true) (hown : s.vm.findClass own = some m.cls) (hK : va_K D clX (tyX cI cL) s) (hP : va_P D clX (wX cI cL ad ma ko sh lo de wa me ru) H) (hlink : Cond.fieldLink own index "ScanMachine$Memory" "stack" "[I" ∈ TB) (hdg : decode cc pc = .ok (.getfield index, 3)) (kk : W p l e R s m args below meth c H locs cells slots Q (F0 m (pc + 3) ls (.ref (ad 21) :: rest))) : W p l e R s m args below meth c H locs cells slots Q (F0 m (pc) ls (.ref (ad 19) :: rest)) :=
  va_get (D := D) (ci := 6) (v := .ref (ad 21)) (C := "ScanMachine$Memory") (T := T_Me_) (N := 4) hx hb hts in_Me hown hK hP 19 ob_Me rfl 1 (by decide) (hts _ hlink) (fun _ h9 => h9) rfl hdg kk
theorem rd_Me_depth (hx : p.tables.exec = Jvm.exec) (hb : c.code = cc) (hts : ∀ w ∈ TB, w.before args s = true) (hown : s.vm.findClass own = some m.cls) (hK : va_K D clX (tyX cI cL) s) (hP : va_P D clX (wX cI cL ad ma ko sh lo de wa me ru) H) (hlink : Cond.fieldLink own index "ScanMachine$Memory" "depth" "I" ∈ TB) {v : Int32} (hv : me_depth me = v) (hdg : decode cc pc = .ok (.getfield index, 3)) (kk : W p l e R s m args below meth c H locs cells slots Q (F0 m (pc + 3) ls (.int v :: rest))) : W p l e R s m args below meth c H locs cells slots Q (F0 m (pc) ls (.ref (ad 19) :: rest)) := by
  subst hv
  exact va_get (D := D) (ci := 6) (v := .int (me_depth me)) (C := "ScanMachine$Memory") (T := T_Me_) (N := 4) hx hb hts in_Me hown hK hP 19 ob_Me rfl 2 (by decide) (hts _ hlink) (fun _ h9 => h9) rfl hdg kk
theorem wr_Me_depth (hx : p.tables.exec = Jvm.exec) (hb : c.code = cc) (hts : ∀ w ∈ TB, w.before args s = true) (hown : s.vm.findClass own = some m.cls) (hK : va_K D clX (tyX cI cL) s) (hP : va_P D clX (wX cI cL ad ma ko sh lo de wa me ru) H) (hD : va_D A (wX cI cL ad ma ko sh lo de wa me ru)) (hS : va_S A H0 H locs) (hlink : Cond.fieldLink own index "ScanMachine$Memory" "depth" "I" ∈ TB) {v : Int32} (hdg : decode cc pc = .ok (.putfield index, 3)) (kk : ∀ (H1 : Heap) (locs1 : List Loc), va_P D clX (wX cI cL ad ma ko sh lo de wa (me_depth_s me v) ru) H1 → va_D A (wX cI cL ad ma ko sh lo de wa (me_depth_s me v) ru) → va_S A H0 H1 locs1 → W p l e R s m args below meth c H1 locs1 cells slots Q (F0 m (pc + 3) ls (rest))) : W p l e R s m args below meth c H locs cells slots Q (F0 m (pc) ls (.int v :: .ref (ad 19) :: rest)) :=
  va_put (D := D) (ci := 6) (v := .int v) (ty := .int) (C := "ScanMachine$Memory") (T := T_Me_) (N := 4) hx hb hts in_Me ty_Me tyok_Me nm_Me hown hK hP hD hS 19 ob_Me rfl 2 (by decide) (hts _ hlink) (fun _ h9 => h9) rfl (by decide +kernel) rfl rfl (Nat.le_of_ble_eq_true rfl) hdg kk
theorem rd_Me_deepest (hx : p.tables.exec = Jvm.exec) (hb : c.code = cc) (hts : ∀ w ∈ TB, w.before args s = true) (hown : s.vm.findClass own = some m.cls) (hK : va_K D clX (tyX cI cL) s) (hP : va_P D clX (wX cI cL ad ma ko sh lo de wa me ru) H) (hlink : Cond.fieldLink own index "ScanMachine$Memory" "deepest" "I" ∈ TB) {v : Int32} (hv : me_deepest me = v) (hdg : decode cc pc = .ok (.getfield index, 3)) (kk : W p l e R s m args below meth c H locs cells slots Q (F0 m (pc + 3) ls (.int v :: rest))) : W p l e R s m args below meth c H locs cells slots Q (F0 m (pc) ls (.ref (ad 19) :: rest)) := by
  subst hv
  exact va_get (D := D) (ci := 6) (v := .int (me_deepest me)) (C := "ScanMachine$Memory") (T := T_Me_) (N := 4) hx hb hts in_Me hown hK hP 19 ob_Me rfl 3 (by decide) (hts _ hlink) (fun _ h9 => h9) rfl hdg kk
theorem wr_Me_deepest (hx : p.tables.exec = Jvm.exec) (hb : c.code = cc) (hts : ∀ w ∈ TB, w.before args s = true) (hown : s.vm.findClass own = some m.cls) (hK : va_K D clX (tyX cI cL) s) (hP : va_P D clX (wX cI cL ad ma ko sh lo de wa me ru) H) (hD : va_D A (wX cI cL ad ma ko sh lo de wa me ru)) (hS : va_S A H0 H locs) (hlink : Cond.fieldLink own index "ScanMachine$Memory" "deepest" "I" ∈ TB) {v : Int32} (hdg : decode cc pc = .ok (.putfield index, 3)) (kk : ∀ (H1 : Heap) (locs1 : List Loc), va_P D clX (wX cI cL ad ma ko sh lo de wa (me_deepest_s me v) ru) H1 → va_D A (wX cI cL ad ma ko sh lo de wa (me_deepest_s me v) ru) → va_S A H0 H1 locs1 → W p l e R s m args below meth c H1 locs1 cells slots Q (F0 m (pc + 3) ls (rest))) : W p l e R s m args below meth c H locs cells slots Q (F0 m (pc) ls (.int v :: .ref (ad 19) :: rest)) :=
  va_put (D := D) (ci := 6) (v := .int v) (ty := .int) (C := "ScanMachine$Memory") (T := T_Me_) (N := 4) hx hb hts in_Me ty_Me tyok_Me nm_Me hown hK hP hD hS 19 ob_Me rfl 3 (by decide) (hts _ hlink) (fun _ h9 => h9) rfl (by decide +kernel) rfl rfl (Nat.le_of_ble_eq_true rfl) hdg kk
theorem rdN_Me_deepest (hx : p.tables.exec = Jvm.exec) (hb : c.code = cc) (hts : ∀ w ∈ TB, w.before args s = true) (hown : s.vm.findClass own = some m.cls) (hK : va_K D clX (tyX cI cL) s) (hP : va_P D clX (wX cI cL ad ma ko sh lo de wa me ru) H) (hnw : nw s) (hlink : Cond.fieldLinkNest own index "ScanMachine$Memory" "deepest" "I" host ∈ NWL) {v : Int32} (hv : me_deepest me = v) (hdg : decode cc pc = .ok (.getfield index, 3)) (kk : W p l e R s m args below meth c H locs cells slots Q (F0 m (pc + 3) ls (.int v :: rest))) : W p l e R s m args below meth c H locs cells slots Q (F0 m (pc) ls (.ref (ad 19) :: rest)) := by
  subst hv
  exact va_getN (D := D) (ci := 6) (v := .int (me_deepest me)) (C := "ScanMachine$Memory") (T := T_Me_) (N := 4) hx hb hts in_Me hown hK hP 19 ob_Me rfl 3 (by decide) (va_Nw.use rfl (hnw _ hlink)) (fun _ h9 => h9) rfl hdg kk
theorem wrN_Me_deepest (hx : p.tables.exec = Jvm.exec) (hb : c.code = cc) (hts : ∀ w ∈ TB, w.before args s = true) (hown : s.vm.findClass own = some m.cls) (hK : va_K D clX (tyX cI cL) s) (hP : va_P D clX (wX cI cL ad ma ko sh lo de wa me ru) H) (hD : va_D A (wX cI cL ad ma ko sh lo de wa me ru)) (hS : va_S A H0 H locs) (hnw : nw s) (hlink : Cond.fieldLinkNest own index "ScanMachine$Memory" "deepest" "I" host ∈ NWL) {v : Int32} (hdg : decode cc pc = .ok (.putfield index, 3)) (kk : ∀ (H1 : Heap) (locs1 : List Loc), va_P D clX (wX cI cL ad ma ko sh lo de wa (me_deepest_s me v) ru) H1 → va_D A (wX cI cL ad ma ko sh lo de wa (me_deepest_s me v) ru) → va_S A H0 H1 locs1 → W p l e R s m args below meth c H1 locs1 cells slots Q (F0 m (pc + 3) ls (rest))) : W p l e R s m args below meth c H locs cells slots Q (F0 m (pc) ls (.int v :: .ref (ad 19) :: rest)) :=
  va_putN (D := D) (ci := 6) (v := .int v) (ty := .int) (C := "ScanMachine$Memory") (T := T_Me_) (N := 4) hx hb hts in_Me ty_Me tyok_Me nm_Me hown hK hP hD hS 19 ob_Me rfl 3 (by decide) (va_Nw.use rfl (hnw _ hlink)) (fun _ h9 => h9) rfl (by decide +kernel) rfl rfl (Nat.le_of_ble_eq_true rfl) hdg kk
theorem ar_Me_cells : (wX cI cL ad ma ko sh lo de wa me ru)[20]? = some (ad 20, .inl (cI, 4096, .inl (me_cells me))) := rfl
theorem ld_Me_cells (hx : p.tables.exec = Jvm.exec) (hb : c.code = cc) (hK : va_K D clX (tyX cI cL) s) (hP : va_P D clX (wX cI cL ad ma ko sh lo de wa me ru) H) {i : Int32} (hin : vp_in i 4096) {v : Int32} (hv : v = me_cells me i.toNatClampNeg) (hdg : decode cc pc = .ok (.iaload, 1)) (kk : W p l e R s m args below meth c H locs cells slots Q (F0 m (pc + 1) ls (.int v :: rest))) : W p l e R s m args below meth c H locs cells slots Q (F0 m (pc) ls (.int i :: .ref (ad 20) :: rest)) := by
  subst hv; exact va_iald hx hb hK hP 20 0 ar_Me_cells rfl hin hdg kk
theorem st_Me_cells (hx : p.tables.exec = Jvm.exec) (hb : c.code = cc) (hK : va_K D clX (tyX cI cL) s) (hP : va_P D clX (wX cI cL ad ma ko sh lo de wa me ru) H) (hD : va_D A (wX cI cL ad ma ko sh lo de wa me ru)) (hS : va_S A H0 H locs) {i : Int32} {x : Int32} (hin : vp_in i 4096) (hdg : decode cc pc = .ok (.iastore, 1)) (kk : ∀ (H1 : Heap) (locs1 : List Loc), va_P D clX (wX cI cL ad ma ko sh lo de wa (me_cells_s me (upd (me_cells me) i.toNatClampNeg x)) ru) H1 → va_D A (wX cI cL ad ma ko sh lo de wa (me_cells_s me (upd (me_cells me) i.toNatClampNeg x)) ru) → va_S A H0 H1 locs1 → W p l e R s m args below meth c H1 locs1 cells slots Q (F0 m (pc + 1) ls (rest))) : W p l e R s m args below meth c H locs cells slots Q (F0 m (pc) ls (.int x :: .int i :: .ref (ad 20) :: rest)) :=
  va_iast hx hb hK hP hD hS 20 0 ar_Me_cells rfl hin hdg kk
theorem le_Me_cells (hx : p.tables.exec = Jvm.exec) (hb : c.code = cc) (hK : va_K D clX (tyX cI cL) s) (hP : va_P D clX (wX cI cL ad ma ko sh lo de wa me ru) H) (hdg : decode cc pc = .ok (.arraylength, 1)) (kk : W p l e R s m args below meth c H locs cells slots Q (F0 m (pc + 1) ls (.int 4096 :: rest))) : W p l e R s m args below meth c H locs cells slots Q (F0 m (pc) ls (.ref (ad 20) :: rest)) :=
  va_alen hx hb hK hP 20 0 ar_Me_cells rfl rfl hdg kk
theorem ar_Me_stack : (wX cI cL ad ma ko sh lo de wa me ru)[21]? = some (ad 21, .inl (cI, 1024, .inl (me_stack me))) := rfl
theorem ld_Me_stack (hx : p.tables.exec = Jvm.exec) (hb : c.code = cc) (hK : va_K D clX (tyX cI cL) s) (hP : va_P D clX (wX cI cL ad ma ko sh lo de wa me ru) H) {i : Int32} (hin : vp_in i 1024) {v : Int32} (hv : v = me_stack me i.toNatClampNeg) (hdg : decode cc pc = .ok (.iaload, 1)) (kk : W p l e R s m args below meth c H locs cells slots Q (F0 m (pc + 1) ls (.int v :: rest))) : W p l e R s m args below meth c H locs cells slots Q (F0 m (pc) ls (.int i :: .ref (ad 21) :: rest)) := by
  subst hv; exact va_iald hx hb hK hP 21 0 ar_Me_stack rfl hin hdg kk
theorem st_Me_stack (hx : p.tables.exec = Jvm.exec) (hb : c.code = cc) (hK : va_K D clX (tyX cI cL) s) (hP : va_P D clX (wX cI cL ad ma ko sh lo de wa me ru) H) (hD : va_D A (wX cI cL ad ma ko sh lo de wa me ru)) (hS : va_S A H0 H locs) {i : Int32} {x : Int32} (hin : vp_in i 1024) (hdg : decode cc pc = .ok (.iastore, 1)) (kk : ∀ (H1 : Heap) (locs1 : List Loc), va_P D clX (wX cI cL ad ma ko sh lo de wa (me_stack_s me (upd (me_stack me) i.toNatClampNeg x)) ru) H1 → va_D A (wX cI cL ad ma ko sh lo de wa (me_stack_s me (upd (me_stack me) i.toNatClampNeg x)) ru) → va_S A H0 H1 locs1 → W p l e R s m args below meth c H1 locs1 cells slots Q (F0 m (pc + 1) ls (rest))) : W p l e R s m args below meth c H locs cells slots Q (F0 m (pc) ls (.int x :: .int i :: .ref (ad 21) :: rest)) :=
  va_iast hx hb hK hP hD hS 21 0 ar_Me_stack rfl hin hdg kk
theorem le_Me_stack (hx : p.tables.exec = Jvm.exec) (hb : c.code = cc) (hK : va_K D clX (tyX cI cL) s) (hP : va_P D clX (wX cI cL ad ma ko sh lo de wa me ru) H) (hdg : decode cc pc = .ok (.arraylength, 1)) (kk : W p l e R s m args below meth c H locs cells slots Q (F0 m (pc + 1) ls (.int 1024 :: rest))) : W p l e R s m args below meth c H locs cells slots Q (F0 m (pc) ls (.ref (ad 21) :: rest)) :=
  va_alen hx hb hK hP 21 0 ar_Me_stack rfl rfl hdg kk
theorem ob_Ru : (wX cI cL ad ma ko sh lo de wa me ru)[22]? = some (ad 22, .inr (7, [.ref (ad 1), .ref (ad 19), .ref (ad 26), .ref (ad 23), .ref (ad 24), .ref (ad 25), .int (ru_waiting ru), .int (ru_unit ru), .int (ru_next ru), .int (ru_base ru), .int (ru_steps ru), .int (ru_fault ru), .int (ru_now ru)])) := rfl
theorem rd_Ru_code (hx : p.tables.exec = Jvm.exec) (hb : c.code = cc) (hts : ∀ w ∈ TB, w.before args s = true) (hown : s.vm.findClass own = some m.cls) (hK : va_K D clX (tyX cI cL) s) (hP : va_P D clX (wX cI cL ad ma ko sh lo de wa me ru) H) (hlink : Cond.fieldLink own index "ScanMachine$Runner" "code" "LScanMachine$Code;" ∈ TB) (hdg : decode cc pc = .ok (.getfield index, 3)) (kk : W p l e R s m args below meth c H locs cells slots Q (F0 m (pc + 3) ls (.ref (ad 1) :: rest))) : W p l e R s m args below meth c H locs cells slots Q (F0 m (pc) ls (.ref (ad 22) :: rest)) :=
  va_get (D := D) (ci := 7) (v := .ref (ad 1)) (C := "ScanMachine$Runner") (T := T_Ru_) (N := 13) hx hb hts in_Ru hown hK hP 22 ob_Ru rfl 0 (by decide) (hts _ hlink) (fun _ h9 => h9) rfl hdg kk
theorem rd_Ru_memory (hx : p.tables.exec = Jvm.exec) (hb : c.code = cc) (hts : ∀ w ∈ TB, w.before args s = true) (hown : s.vm.findClass own = some m.cls) (hK : va_K D clX (tyX cI cL) s) (hP : va_P D clX (wX cI cL ad ma ko sh lo de wa me ru) H) (hlink : Cond.fieldLink own index "ScanMachine$Runner" "memory" "LScanMachine$Memory;" ∈ TB) (hdg : decode cc pc = .ok (.getfield index, 3)) (kk : W p l e R s m args below meth c H locs cells slots Q (F0 m (pc + 3) ls (.ref (ad 19) :: rest))) : W p l e R s m args below meth c H locs cells slots Q (F0 m (pc) ls (.ref (ad 22) :: rest)) :=
  va_get (D := D) (ci := 7) (v := .ref (ad 19)) (C := "ScanMachine$Runner") (T := T_Ru_) (N := 13) hx hb hts in_Ru hown hK hP 22 ob_Ru rfl 1 (by decide) (hts _ hlink) (fun _ h9 => h9) rfl hdg kk
theorem rd_Ru_blocks (hx : p.tables.exec = Jvm.exec) (hb : c.code = cc) (hts : ∀ w ∈ TB, w.before args s = true) (hown : s.vm.findClass own = some m.cls) (hK : va_K D clX (tyX cI cL) s) (hP : va_P D clX (wX cI cL ad ma ko sh lo de wa me ru) H) (hlink : Cond.fieldLink own index "ScanMachine$Runner" "blocks" "LScanMachine$Blocks;" ∈ TB) (hdg : decode cc pc = .ok (.getfield index, 3)) (kk : W p l e R s m args below meth c H locs cells slots Q (F0 m (pc + 3) ls (.ref (ad 26) :: rest))) : W p l e R s m args below meth c H locs cells slots Q (F0 m (pc) ls (.ref (ad 22) :: rest)) :=
  va_get (D := D) (ci := 7) (v := .ref (ad 26)) (C := "ScanMachine$Runner") (T := T_Ru_) (N := 13) hx hb hts in_Ru hown hK hP 22 ob_Ru rfl 2 (by decide) (hts _ hlink) (fun _ h9 => h9) rfl hdg kk
theorem rd_Ru_waitingUnits (hx : p.tables.exec = Jvm.exec) (hb : c.code = cc) (hts : ∀ w ∈ TB, w.before args s = true) (hown : s.vm.findClass own = some m.cls) (hK : va_K D clX (tyX cI cL) s) (hP : va_P D clX (wX cI cL ad ma ko sh lo de wa me ru) H) (hlink : Cond.fieldLink own index "ScanMachine$Runner" "waitingUnits" "[I" ∈ TB) (hdg : decode cc pc = .ok (.getfield index, 3)) (kk : W p l e R s m args below meth c H locs cells slots Q (F0 m (pc + 3) ls (.ref (ad 23) :: rest))) : W p l e R s m args below meth c H locs cells slots Q (F0 m (pc) ls (.ref (ad 22) :: rest)) :=
  va_get (D := D) (ci := 7) (v := .ref (ad 23)) (C := "ScanMachine$Runner") (T := T_Ru_) (N := 13) hx hb hts in_Ru hown hK hP 22 ob_Ru rfl 3 (by decide) (hts _ hlink) (fun _ h9 => h9) rfl hdg kk
theorem rd_Ru_waitingNexts (hx : p.tables.exec = Jvm.exec) (hb : c.code = cc) (hts : ∀ w ∈ TB, w.before args s = true) (hown : s.vm.findClass own = some m.cls) (hK : va_K D clX (tyX cI cL) s) (hP : va_P D clX (wX cI cL ad ma ko sh lo de wa me ru) H) (hlink : Cond.fieldLink own index "ScanMachine$Runner" "waitingNexts" "[I" ∈ TB) (hdg : decode cc pc = .ok (.getfield index, 3)) (kk : W p l e R s m args below meth c H locs cells slots Q (F0 m (pc + 3) ls (.ref (ad 24) :: rest))) : W p l e R s m args below meth c H locs cells slots Q (F0 m (pc) ls (.ref (ad 22) :: rest)) :=
  va_get (D := D) (ci := 7) (v := .ref (ad 24)) (C := "ScanMachine$Runner") (T := T_Ru_) (N := 13) hx hb hts in_Ru hown hK hP 22 ob_Ru rfl 4 (by decide) (hts _ hlink) (fun _ h9 => h9) rfl hdg kk
theorem rd_Ru_waitingBases (hx : p.tables.exec = Jvm.exec) (hb : c.code = cc) (hts : ∀ w ∈ TB, w.before args s = true) (hown : s.vm.findClass own = some m.cls) (hK : va_K D clX (tyX cI cL) s) (hP : va_P D clX (wX cI cL ad ma ko sh lo de wa me ru) H) (hlink : Cond.fieldLink own index "ScanMachine$Runner" "waitingBases" "[I" ∈ TB) (hdg : decode cc pc = .ok (.getfield index, 3)) (kk : W p l e R s m args below meth c H locs cells slots Q (F0 m (pc + 3) ls (.ref (ad 25) :: rest))) : W p l e R s m args below meth c H locs cells slots Q (F0 m (pc) ls (.ref (ad 22) :: rest)) :=
  va_get (D := D) (ci := 7) (v := .ref (ad 25)) (C := "ScanMachine$Runner") (T := T_Ru_) (N := 13) hx hb hts in_Ru hown hK hP 22 ob_Ru rfl 5 (by decide) (hts _ hlink) (fun _ h9 => h9) rfl hdg kk
theorem rd_Ru_waiting (hx : p.tables.exec = Jvm.exec) (hb : c.code = cc) (hts : ∀ w ∈ TB, w.before args s = true) (hown : s.vm.findClass own = some m.cls) (hK : va_K D clX (tyX cI cL) s) (hP : va_P D clX (wX cI cL ad ma ko sh lo de wa me ru) H) (hlink : Cond.fieldLink own index "ScanMachine$Runner" "waiting" "I" ∈ TB) {v : Int32} (hv : ru_waiting ru = v) (hdg : decode cc pc = .ok (.getfield index, 3)) (kk : W p l e R s m args below meth c H locs cells slots Q (F0 m (pc + 3) ls (.int v :: rest))) : W p l e R s m args below meth c H locs cells slots Q (F0 m (pc) ls (.ref (ad 22) :: rest)) := by
  subst hv
  exact va_get (D := D) (ci := 7) (v := .int (ru_waiting ru)) (C := "ScanMachine$Runner") (T := T_Ru_) (N := 13) hx hb hts in_Ru hown hK hP 22 ob_Ru rfl 6 (by decide) (hts _ hlink) (fun _ h9 => h9) rfl hdg kk
theorem wr_Ru_waiting (hx : p.tables.exec = Jvm.exec) (hb : c.code = cc) (hts : ∀ w ∈ TB, w.before args s = true) (hown : s.vm.findClass own = some m.cls) (hK : va_K D clX (tyX cI cL) s) (hP : va_P D clX (wX cI cL ad ma ko sh lo de wa me ru) H) (hD : va_D A (wX cI cL ad ma ko sh lo de wa me ru)) (hS : va_S A H0 H locs) (hlink : Cond.fieldLink own index "ScanMachine$Runner" "waiting" "I" ∈ TB) {v : Int32} (hdg : decode cc pc = .ok (.putfield index, 3)) (kk : ∀ (H1 : Heap) (locs1 : List Loc), va_P D clX (wX cI cL ad ma ko sh lo de wa me (ru_waiting_s ru v)) H1 → va_D A (wX cI cL ad ma ko sh lo de wa me (ru_waiting_s ru v)) → va_S A H0 H1 locs1 → W p l e R s m args below meth c H1 locs1 cells slots Q (F0 m (pc + 3) ls (rest))) : W p l e R s m args below meth c H locs cells slots Q (F0 m (pc) ls (.int v :: .ref (ad 22) :: rest)) :=
  va_put (D := D) (ci := 7) (v := .int v) (ty := .int) (C := "ScanMachine$Runner") (T := T_Ru_) (N := 13) hx hb hts in_Ru ty_Ru tyok_Ru nm_Ru hown hK hP hD hS 22 ob_Ru rfl 6 (by decide) (hts _ hlink) (fun _ h9 => h9) rfl (by decide +kernel) rfl rfl (Nat.le_of_ble_eq_true rfl) hdg kk
theorem rd_Ru_unit (hx : p.tables.exec = Jvm.exec) (hb : c.code = cc) (hts : ∀ w ∈ TB, w.before args s = true) (hown : s.vm.findClass own = some m.cls) (hK : va_K D clX (tyX cI cL) s) (hP : va_P D clX (wX cI cL ad ma ko sh lo de wa me ru) H) (hlink : Cond.fieldLink own index "ScanMachine$Runner" "unit" "I" ∈ TB) {v : Int32} (hv : ru_unit ru = v) (hdg : decode cc pc = .ok (.getfield index, 3)) (kk : W p l e R s m args below meth c H locs cells slots Q (F0 m (pc + 3) ls (.int v :: rest))) : W p l e R s m args below meth c H locs cells slots Q (F0 m (pc) ls (.ref (ad 22) :: rest)) := by
  subst hv
  exact va_get (D := D) (ci := 7) (v := .int (ru_unit ru)) (C := "ScanMachine$Runner") (T := T_Ru_) (N := 13) hx hb hts in_Ru hown hK hP 22 ob_Ru rfl 7 (by decide) (hts _ hlink) (fun _ h9 => h9) rfl hdg kk
theorem wr_Ru_unit (hx : p.tables.exec = Jvm.exec) (hb : c.code = cc) (hts : ∀ w ∈ TB, w.before args s = true) (hown : s.vm.findClass own = some m.cls) (hK : va_K D clX (tyX cI cL) s) (hP : va_P D clX (wX cI cL ad ma ko sh lo de wa me ru) H) (hD : va_D A (wX cI cL ad ma ko sh lo de wa me ru)) (hS : va_S A H0 H locs) (hlink : Cond.fieldLink own index "ScanMachine$Runner" "unit" "I" ∈ TB) {v : Int32} (hdg : decode cc pc = .ok (.putfield index, 3)) (kk : ∀ (H1 : Heap) (locs1 : List Loc), va_P D clX (wX cI cL ad ma ko sh lo de wa me (ru_unit_s ru v)) H1 → va_D A (wX cI cL ad ma ko sh lo de wa me (ru_unit_s ru v)) → va_S A H0 H1 locs1 → W p l e R s m args below meth c H1 locs1 cells slots Q (F0 m (pc + 3) ls (rest))) : W p l e R s m args below meth c H locs cells slots Q (F0 m (pc) ls (.int v :: .ref (ad 22) :: rest)) :=
  va_put (D := D) (ci := 7) (v := .int v) (ty := .int) (C := "ScanMachine$Runner") (T := T_Ru_) (N := 13) hx hb hts in_Ru ty_Ru tyok_Ru nm_Ru hown hK hP hD hS 22 ob_Ru rfl 7 (by decide) (hts _ hlink) (fun _ h9 => h9) rfl (by decide +kernel) rfl rfl (Nat.le_of_ble_eq_true rfl) hdg kk
theorem rd_Ru_next (hx : p.tables.exec = Jvm.exec) (hb : c.code = cc) (hts : ∀ w ∈ TB, w.before args s = true) (hown : s.vm.findClass own = some m.cls) (hK : va_K D clX (tyX cI cL) s) (hP : va_P D clX (wX cI cL ad ma ko sh lo de wa me ru) H) (hlink : Cond.fieldLink own index "ScanMachine$Runner" "next" "I" ∈ TB) {v : Int32} (hv : ru_next ru = v) (hdg : decode cc pc = .ok (.getfield index, 3)) (kk : W p l e R s m args below meth c H locs cells slots Q (F0 m (pc + 3) ls (.int v :: rest))) : W p l e R s m args below meth c H locs cells slots Q (F0 m (pc) ls (.ref (ad 22) :: rest)) := by
  subst hv
  exact va_get (D := D) (ci := 7) (v := .int (ru_next ru)) (C := "ScanMachine$Runner") (T := T_Ru_) (N := 13) hx hb hts in_Ru hown hK hP 22 ob_Ru rfl 8 (by decide) (hts _ hlink) (fun _ h9 => h9) rfl hdg kk
theorem wr_Ru_next (hx : p.tables.exec = Jvm.exec) (hb : c.code = cc) (hts : ∀ w ∈ TB, w.before args s = true) (hown : s.vm.findClass own = some m.cls) (hK : va_K D clX (tyX cI cL) s) (hP : va_P D clX (wX cI cL ad ma ko sh lo de wa me ru) H) (hD : va_D A (wX cI cL ad ma ko sh lo de wa me ru)) (hS : va_S A H0 H locs) (hlink : Cond.fieldLink own index "ScanMachine$Runner" "next" "I" ∈ TB) {v : Int32} (hdg : decode cc pc = .ok (.putfield index, 3)) (kk : ∀ (H1 : Heap) (locs1 : List Loc), va_P D clX (wX cI cL ad ma ko sh lo de wa me (ru_next_s ru v)) H1 → va_D A (wX cI cL ad ma ko sh lo de wa me (ru_next_s ru v)) → va_S A H0 H1 locs1 → W p l e R s m args below meth c H1 locs1 cells slots Q (F0 m (pc + 3) ls (rest))) : W p l e R s m args below meth c H locs cells slots Q (F0 m (pc) ls (.int v :: .ref (ad 22) :: rest)) :=
  va_put (D := D) (ci := 7) (v := .int v) (ty := .int) (C := "ScanMachine$Runner") (T := T_Ru_) (N := 13) hx hb hts in_Ru ty_Ru tyok_Ru nm_Ru hown hK hP hD hS 22 ob_Ru rfl 8 (by decide) (hts _ hlink) (fun _ h9 => h9) rfl (by decide +kernel) rfl rfl (Nat.le_of_ble_eq_true rfl) hdg kk
theorem rd_Ru_base (hx : p.tables.exec = Jvm.exec) (hb : c.code = cc) (hts : ∀ w ∈ TB, w.before args s = true) (hown : s.vm.findClass own = some m.cls) (hK : va_K D clX (tyX cI cL) s) (hP : va_P D clX (wX cI cL ad ma ko sh lo de wa me ru) H) (hlink : Cond.fieldLink own index "ScanMachine$Runner" "base" "I" ∈ TB) {v : Int32} (hv : ru_base ru = v) (hdg : decode cc pc = .ok (.getfield index, 3)) (kk : W p l e R s m args below meth c H locs cells slots Q (F0 m (pc + 3) ls (.int v :: rest))) : W p l e R s m args below meth c H locs cells slots Q (F0 m (pc) ls (.ref (ad 22) :: rest)) := by
  subst hv
  exact va_get (D := D) (ci := 7) (v := .int (ru_base ru)) (C := "ScanMachine$Runner") (T := T_Ru_) (N := 13) hx hb hts in_Ru hown hK hP 22 ob_Ru rfl 9 (by decide) (hts _ hlink) (fun _ h9 => h9) rfl hdg kk
theorem wr_Ru_base (hx : p.tables.exec = Jvm.exec) (hb : c.code = cc) (hts : ∀ w ∈ TB, w.before args s = true) (hown : s.vm.findClass own = some m.cls) (hK : va_K D clX (tyX cI cL) s) (hP : va_P D clX (wX cI cL ad ma ko sh lo de wa me ru) H) (hD : va_D A (wX cI cL ad ma ko sh lo de wa me ru)) (hS : va_S A H0 H locs) (hlink : Cond.fieldLink own index "ScanMachine$Runner" "base" "I" ∈ TB) {v : Int32} (hdg : decode cc pc = .ok (.putfield index, 3)) (kk : ∀ (H1 : Heap) (locs1 : List Loc), va_P D clX (wX cI cL ad ma ko sh lo de wa me (ru_base_s ru v)) H1 → va_D A (wX cI cL ad ma ko sh lo de wa me (ru_base_s ru v)) → va_S A H0 H1 locs1 → W p l e R s m args below meth c H1 locs1 cells slots Q (F0 m (pc + 3) ls (rest))) : W p l e R s m args below meth c H locs cells slots Q (F0 m (pc) ls (.int v :: .ref (ad 22) :: rest)) :=
  va_put (D := D) (ci := 7) (v := .int v) (ty := .int) (C := "ScanMachine$Runner") (T := T_Ru_) (N := 13) hx hb hts in_Ru ty_Ru tyok_Ru nm_Ru hown hK hP hD hS 22 ob_Ru rfl 9 (by decide) (hts _ hlink) (fun _ h9 => h9) rfl (by decide +kernel) rfl rfl (Nat.le_of_ble_eq_true rfl) hdg kk
theorem rd_Ru_steps (hx : p.tables.exec = Jvm.exec) (hb : c.code = cc) (hts : ∀ w ∈ TB, w.before args s = true) (hown : s.vm.findClass own = some m.cls) (hK : va_K D clX (tyX cI cL) s) (hP : va_P D clX (wX cI cL ad ma ko sh lo de wa me ru) H) (hlink : Cond.fieldLink own index "ScanMachine$Runner" "steps" "I" ∈ TB) {v : Int32} (hv : ru_steps ru = v) (hdg : decode cc pc = .ok (.getfield index, 3)) (kk : W p l e R s m args below meth c H locs cells slots Q (F0 m (pc + 3) ls (.int v :: rest))) : W p l e R s m args below meth c H locs cells slots Q (F0 m (pc) ls (.ref (ad 22) :: rest)) := by
  subst hv
  exact va_get (D := D) (ci := 7) (v := .int (ru_steps ru)) (C := "ScanMachine$Runner") (T := T_Ru_) (N := 13) hx hb hts in_Ru hown hK hP 22 ob_Ru rfl 10 (by decide) (hts _ hlink) (fun _ h9 => h9) rfl hdg kk
theorem wr_Ru_steps (hx : p.tables.exec = Jvm.exec) (hb : c.code = cc) (hts : ∀ w ∈ TB, w.before args s = true) (hown : s.vm.findClass own = some m.cls) (hK : va_K D clX (tyX cI cL) s) (hP : va_P D clX (wX cI cL ad ma ko sh lo de wa me ru) H) (hD : va_D A (wX cI cL ad ma ko sh lo de wa me ru)) (hS : va_S A H0 H locs) (hlink : Cond.fieldLink own index "ScanMachine$Runner" "steps" "I" ∈ TB) {v : Int32} (hdg : decode cc pc = .ok (.putfield index, 3)) (kk : ∀ (H1 : Heap) (locs1 : List Loc), va_P D clX (wX cI cL ad ma ko sh lo de wa me (ru_steps_s ru v)) H1 → va_D A (wX cI cL ad ma ko sh lo de wa me (ru_steps_s ru v)) → va_S A H0 H1 locs1 → W p l e R s m args below meth c H1 locs1 cells slots Q (F0 m (pc + 3) ls (rest))) : W p l e R s m args below meth c H locs cells slots Q (F0 m (pc) ls (.int v :: .ref (ad 22) :: rest)) :=
  va_put (D := D) (ci := 7) (v := .int v) (ty := .int) (C := "ScanMachine$Runner") (T := T_Ru_) (N := 13) hx hb hts in_Ru ty_Ru tyok_Ru nm_Ru hown hK hP hD hS 22 ob_Ru rfl 10 (by decide) (hts _ hlink) (fun _ h9 => h9) rfl (by decide +kernel) rfl rfl (Nat.le_of_ble_eq_true rfl) hdg kk
theorem rdN_Ru_steps (hx : p.tables.exec = Jvm.exec) (hb : c.code = cc) (hts : ∀ w ∈ TB, w.before args s = true) (hown : s.vm.findClass own = some m.cls) (hK : va_K D clX (tyX cI cL) s) (hP : va_P D clX (wX cI cL ad ma ko sh lo de wa me ru) H) (hnw : nw s) (hlink : Cond.fieldLinkNest own index "ScanMachine$Runner" "steps" "I" host ∈ NWL) {v : Int32} (hv : ru_steps ru = v) (hdg : decode cc pc = .ok (.getfield index, 3)) (kk : W p l e R s m args below meth c H locs cells slots Q (F0 m (pc + 3) ls (.int v :: rest))) : W p l e R s m args below meth c H locs cells slots Q (F0 m (pc) ls (.ref (ad 22) :: rest)) := by
  subst hv
  exact va_getN (D := D) (ci := 7) (v := .int (ru_steps ru)) (C := "ScanMachine$Runner") (T := T_Ru_) (N := 13) hx hb hts in_Ru hown hK hP 22 ob_Ru rfl 10 (by decide) (va_Nw.use rfl (hnw _ hlink)) (fun _ h9 => h9) rfl hdg kk
theorem wrN_Ru_steps (hx : p.tables.exec = Jvm.exec) (hb : c.code = cc) (hts : ∀ w ∈ TB, w.before args s = true) (hown : s.vm.findClass own = some m.cls) (hK : va_K D clX (tyX cI cL) s) (hP : va_P D clX (wX cI cL ad ma ko sh lo de wa me ru) H) (hD : va_D A (wX cI cL ad ma ko sh lo de wa me ru)) (hS : va_S A H0 H locs) (hnw : nw s) (hlink : Cond.fieldLinkNest own index "ScanMachine$Runner" "steps" "I" host ∈ NWL) {v : Int32} (hdg : decode cc pc = .ok (.putfield index, 3)) (kk : ∀ (H1 : Heap) (locs1 : List Loc), va_P D clX (wX cI cL ad ma ko sh lo de wa me (ru_steps_s ru v)) H1 → va_D A (wX cI cL ad ma ko sh lo de wa me (ru_steps_s ru v)) → va_S A H0 H1 locs1 → W p l e R s m args below meth c H1 locs1 cells slots Q (F0 m (pc + 3) ls (rest))) : W p l e R s m args below meth c H locs cells slots Q (F0 m (pc) ls (.int v :: .ref (ad 22) :: rest)) :=
  va_putN (D := D) (ci := 7) (v := .int v) (ty := .int) (C := "ScanMachine$Runner") (T := T_Ru_) (N := 13) hx hb hts in_Ru ty_Ru tyok_Ru nm_Ru hown hK hP hD hS 22 ob_Ru rfl 10 (by decide) (va_Nw.use rfl (hnw _ hlink)) (fun _ h9 => h9) rfl (by decide +kernel) rfl rfl (Nat.le_of_ble_eq_true rfl) hdg kk
theorem rd_Ru_fault (hx : p.tables.exec = Jvm.exec) (hb : c.code = cc) (hts : ∀ w ∈ TB, w.before args s = true) (hown : s.vm.findClass own = some m.cls) (hK : va_K D clX (tyX cI cL) s) (hP : va_P D clX (wX cI cL ad ma ko sh lo de wa me ru) H) (hlink : Cond.fieldLink own index "ScanMachine$Runner" "fault" "I" ∈ TB) {v : Int32} (hv : ru_fault ru = v) (hdg : decode cc pc = .ok (.getfield index, 3)) (kk : W p l e R s m args below meth c H locs cells slots Q (F0 m (pc + 3) ls (.int v :: rest))) : W p l e R s m args below meth c H locs cells slots Q (F0 m (pc) ls (.ref (ad 22) :: rest)) := by
  subst hv
  exact va_get (D := D) (ci := 7) (v := .int (ru_fault ru)) (C := "ScanMachine$Runner") (T := T_Ru_) (N := 13) hx hb hts in_Ru hown hK hP 22 ob_Ru rfl 11 (by decide) (hts _ hlink) (fun _ h9 => h9) rfl hdg kk
theorem wr_Ru_fault (hx : p.tables.exec = Jvm.exec) (hb : c.code = cc) (hts : ∀ w ∈ TB, w.before args s = true) (hown : s.vm.findClass own = some m.cls) (hK : va_K D clX (tyX cI cL) s) (hP : va_P D clX (wX cI cL ad ma ko sh lo de wa me ru) H) (hD : va_D A (wX cI cL ad ma ko sh lo de wa me ru)) (hS : va_S A H0 H locs) (hlink : Cond.fieldLink own index "ScanMachine$Runner" "fault" "I" ∈ TB) {v : Int32} (hdg : decode cc pc = .ok (.putfield index, 3)) (kk : ∀ (H1 : Heap) (locs1 : List Loc), va_P D clX (wX cI cL ad ma ko sh lo de wa me (ru_fault_s ru v)) H1 → va_D A (wX cI cL ad ma ko sh lo de wa me (ru_fault_s ru v)) → va_S A H0 H1 locs1 → W p l e R s m args below meth c H1 locs1 cells slots Q (F0 m (pc + 3) ls (rest))) : W p l e R s m args below meth c H locs cells slots Q (F0 m (pc) ls (.int v :: .ref (ad 22) :: rest)) :=
  va_put (D := D) (ci := 7) (v := .int v) (ty := .int) (C := "ScanMachine$Runner") (T := T_Ru_) (N := 13) hx hb hts in_Ru ty_Ru tyok_Ru nm_Ru hown hK hP hD hS 22 ob_Ru rfl 11 (by decide) (hts _ hlink) (fun _ h9 => h9) rfl (by decide +kernel) rfl rfl (Nat.le_of_ble_eq_true rfl) hdg kk
theorem rd_Ru_now (hx : p.tables.exec = Jvm.exec) (hb : c.code = cc) (hts : ∀ w ∈ TB, w.before args s = true) (hown : s.vm.findClass own = some m.cls) (hK : va_K D clX (tyX cI cL) s) (hP : va_P D clX (wX cI cL ad ma ko sh lo de wa me ru) H) (hlink : Cond.fieldLink own index "ScanMachine$Runner" "now" "I" ∈ TB) {v : Int32} (hv : ru_now ru = v) (hdg : decode cc pc = .ok (.getfield index, 3)) (kk : W p l e R s m args below meth c H locs cells slots Q (F0 m (pc + 3) ls (.int v :: rest))) : W p l e R s m args below meth c H locs cells slots Q (F0 m (pc) ls (.ref (ad 22) :: rest)) := by
  subst hv
  exact va_get (D := D) (ci := 7) (v := .int (ru_now ru)) (C := "ScanMachine$Runner") (T := T_Ru_) (N := 13) hx hb hts in_Ru hown hK hP 22 ob_Ru rfl 12 (by decide) (hts _ hlink) (fun _ h9 => h9) rfl hdg kk
theorem wr_Ru_now (hx : p.tables.exec = Jvm.exec) (hb : c.code = cc) (hts : ∀ w ∈ TB, w.before args s = true) (hown : s.vm.findClass own = some m.cls) (hK : va_K D clX (tyX cI cL) s) (hP : va_P D clX (wX cI cL ad ma ko sh lo de wa me ru) H) (hD : va_D A (wX cI cL ad ma ko sh lo de wa me ru)) (hS : va_S A H0 H locs) (hlink : Cond.fieldLink own index "ScanMachine$Runner" "now" "I" ∈ TB) {v : Int32} (hdg : decode cc pc = .ok (.putfield index, 3)) (kk : ∀ (H1 : Heap) (locs1 : List Loc), va_P D clX (wX cI cL ad ma ko sh lo de wa me (ru_now_s ru v)) H1 → va_D A (wX cI cL ad ma ko sh lo de wa me (ru_now_s ru v)) → va_S A H0 H1 locs1 → W p l e R s m args below meth c H1 locs1 cells slots Q (F0 m (pc + 3) ls (rest))) : W p l e R s m args below meth c H locs cells slots Q (F0 m (pc) ls (.int v :: .ref (ad 22) :: rest)) :=
  va_put (D := D) (ci := 7) (v := .int v) (ty := .int) (C := "ScanMachine$Runner") (T := T_Ru_) (N := 13) hx hb hts in_Ru ty_Ru tyok_Ru nm_Ru hown hK hP hD hS 22 ob_Ru rfl 12 (by decide) (hts _ hlink) (fun _ h9 => h9) rfl (by decide +kernel) rfl rfl (Nat.le_of_ble_eq_true rfl) hdg kk
theorem ar_Ru_waitingUnits : (wX cI cL ad ma ko sh lo de wa me ru)[23]? = some (ad 23, .inl (cI, 16, .inl (ru_waitingUnits ru))) := rfl
theorem ld_Ru_waitingUnits (hx : p.tables.exec = Jvm.exec) (hb : c.code = cc) (hK : va_K D clX (tyX cI cL) s) (hP : va_P D clX (wX cI cL ad ma ko sh lo de wa me ru) H) {i : Int32} (hin : vp_in i 16) {v : Int32} (hv : v = ru_waitingUnits ru i.toNatClampNeg) (hdg : decode cc pc = .ok (.iaload, 1)) (kk : W p l e R s m args below meth c H locs cells slots Q (F0 m (pc + 1) ls (.int v :: rest))) : W p l e R s m args below meth c H locs cells slots Q (F0 m (pc) ls (.int i :: .ref (ad 23) :: rest)) := by
  subst hv; exact va_iald hx hb hK hP 23 0 ar_Ru_waitingUnits rfl hin hdg kk
theorem st_Ru_waitingUnits (hx : p.tables.exec = Jvm.exec) (hb : c.code = cc) (hK : va_K D clX (tyX cI cL) s) (hP : va_P D clX (wX cI cL ad ma ko sh lo de wa me ru) H) (hD : va_D A (wX cI cL ad ma ko sh lo de wa me ru)) (hS : va_S A H0 H locs) {i : Int32} {x : Int32} (hin : vp_in i 16) (hdg : decode cc pc = .ok (.iastore, 1)) (kk : ∀ (H1 : Heap) (locs1 : List Loc), va_P D clX (wX cI cL ad ma ko sh lo de wa me (ru_waitingUnits_s ru (upd (ru_waitingUnits ru) i.toNatClampNeg x))) H1 → va_D A (wX cI cL ad ma ko sh lo de wa me (ru_waitingUnits_s ru (upd (ru_waitingUnits ru) i.toNatClampNeg x))) → va_S A H0 H1 locs1 → W p l e R s m args below meth c H1 locs1 cells slots Q (F0 m (pc + 1) ls (rest))) : W p l e R s m args below meth c H locs cells slots Q (F0 m (pc) ls (.int x :: .int i :: .ref (ad 23) :: rest)) :=
  va_iast hx hb hK hP hD hS 23 0 ar_Ru_waitingUnits rfl hin hdg kk
theorem le_Ru_waitingUnits (hx : p.tables.exec = Jvm.exec) (hb : c.code = cc) (hK : va_K D clX (tyX cI cL) s) (hP : va_P D clX (wX cI cL ad ma ko sh lo de wa me ru) H) (hdg : decode cc pc = .ok (.arraylength, 1)) (kk : W p l e R s m args below meth c H locs cells slots Q (F0 m (pc + 1) ls (.int 16 :: rest))) : W p l e R s m args below meth c H locs cells slots Q (F0 m (pc) ls (.ref (ad 23) :: rest)) :=
  va_alen hx hb hK hP 23 0 ar_Ru_waitingUnits rfl rfl hdg kk
theorem ar_Ru_waitingNexts : (wX cI cL ad ma ko sh lo de wa me ru)[24]? = some (ad 24, .inl (cI, 16, .inl (ru_waitingNexts ru))) := rfl
theorem ld_Ru_waitingNexts (hx : p.tables.exec = Jvm.exec) (hb : c.code = cc) (hK : va_K D clX (tyX cI cL) s) (hP : va_P D clX (wX cI cL ad ma ko sh lo de wa me ru) H) {i : Int32} (hin : vp_in i 16) {v : Int32} (hv : v = ru_waitingNexts ru i.toNatClampNeg) (hdg : decode cc pc = .ok (.iaload, 1)) (kk : W p l e R s m args below meth c H locs cells slots Q (F0 m (pc + 1) ls (.int v :: rest))) : W p l e R s m args below meth c H locs cells slots Q (F0 m (pc) ls (.int i :: .ref (ad 24) :: rest)) := by
  subst hv; exact va_iald hx hb hK hP 24 0 ar_Ru_waitingNexts rfl hin hdg kk
theorem st_Ru_waitingNexts (hx : p.tables.exec = Jvm.exec) (hb : c.code = cc) (hK : va_K D clX (tyX cI cL) s) (hP : va_P D clX (wX cI cL ad ma ko sh lo de wa me ru) H) (hD : va_D A (wX cI cL ad ma ko sh lo de wa me ru)) (hS : va_S A H0 H locs) {i : Int32} {x : Int32} (hin : vp_in i 16) (hdg : decode cc pc = .ok (.iastore, 1)) (kk : ∀ (H1 : Heap) (locs1 : List Loc), va_P D clX (wX cI cL ad ma ko sh lo de wa me (ru_waitingNexts_s ru (upd (ru_waitingNexts ru) i.toNatClampNeg x))) H1 → va_D A (wX cI cL ad ma ko sh lo de wa me (ru_waitingNexts_s ru (upd (ru_waitingNexts ru) i.toNatClampNeg x))) → va_S A H0 H1 locs1 → W p l e R s m args below meth c H1 locs1 cells slots Q (F0 m (pc + 1) ls (rest))) : W p l e R s m args below meth c H locs cells slots Q (F0 m (pc) ls (.int x :: .int i :: .ref (ad 24) :: rest)) :=
  va_iast hx hb hK hP hD hS 24 0 ar_Ru_waitingNexts rfl hin hdg kk
theorem le_Ru_waitingNexts (hx : p.tables.exec = Jvm.exec) (hb : c.code = cc) (hK : va_K D clX (tyX cI cL) s) (hP : va_P D clX (wX cI cL ad ma ko sh lo de wa me ru) H) (hdg : decode cc pc = .ok (.arraylength, 1)) (kk : W p l e R s m args below meth c H locs cells slots Q (F0 m (pc + 1) ls (.int 16 :: rest))) : W p l e R s m args below meth c H locs cells slots Q (F0 m (pc) ls (.ref (ad 24) :: rest)) :=
  va_alen hx hb hK hP 24 0 ar_Ru_waitingNexts rfl rfl hdg kk
theorem ar_Ru_waitingBases : (wX cI cL ad ma ko sh lo de wa me ru)[25]? = some (ad 25, .inl (cI, 16, .inl (ru_waitingBases ru))) := rfl
theorem ld_Ru_waitingBases (hx : p.tables.exec = Jvm.exec) (hb : c.code = cc) (hK : va_K D clX (tyX cI cL) s) (hP : va_P D clX (wX cI cL ad ma ko sh lo de wa me ru) H) {i : Int32} (hin : vp_in i 16) {v : Int32} (hv : v = ru_waitingBases ru i.toNatClampNeg) (hdg : decode cc pc = .ok (.iaload, 1)) (kk : W p l e R s m args below meth c H locs cells slots Q (F0 m (pc + 1) ls (.int v :: rest))) : W p l e R s m args below meth c H locs cells slots Q (F0 m (pc) ls (.int i :: .ref (ad 25) :: rest)) := by
  subst hv; exact va_iald hx hb hK hP 25 0 ar_Ru_waitingBases rfl hin hdg kk
theorem st_Ru_waitingBases (hx : p.tables.exec = Jvm.exec) (hb : c.code = cc) (hK : va_K D clX (tyX cI cL) s) (hP : va_P D clX (wX cI cL ad ma ko sh lo de wa me ru) H) (hD : va_D A (wX cI cL ad ma ko sh lo de wa me ru)) (hS : va_S A H0 H locs) {i : Int32} {x : Int32} (hin : vp_in i 16) (hdg : decode cc pc = .ok (.iastore, 1)) (kk : ∀ (H1 : Heap) (locs1 : List Loc), va_P D clX (wX cI cL ad ma ko sh lo de wa me (ru_waitingBases_s ru (upd (ru_waitingBases ru) i.toNatClampNeg x))) H1 → va_D A (wX cI cL ad ma ko sh lo de wa me (ru_waitingBases_s ru (upd (ru_waitingBases ru) i.toNatClampNeg x))) → va_S A H0 H1 locs1 → W p l e R s m args below meth c H1 locs1 cells slots Q (F0 m (pc + 1) ls (rest))) : W p l e R s m args below meth c H locs cells slots Q (F0 m (pc) ls (.int x :: .int i :: .ref (ad 25) :: rest)) :=
  va_iast hx hb hK hP hD hS 25 0 ar_Ru_waitingBases rfl hin hdg kk
theorem le_Ru_waitingBases (hx : p.tables.exec = Jvm.exec) (hb : c.code = cc) (hK : va_K D clX (tyX cI cL) s) (hP : va_P D clX (wX cI cL ad ma ko sh lo de wa me ru) H) (hdg : decode cc pc = .ok (.arraylength, 1)) (kk : W p l e R s m args below meth c H locs cells slots Q (F0 m (pc + 1) ls (.int 16 :: rest))) : W p l e R s m args below meth c H locs cells slots Q (F0 m (pc) ls (.ref (ad 25) :: rest)) :=
  va_alen hx hb hK hP 25 0 ar_Ru_waitingBases rfl rfl hdg kk
theorem ob_Bl : (wX cI cL ad ma ko sh lo de wa me ru)[26]? = some (ad 26, .inr (8, [.ref (ad 19)])) := rfl
theorem rd_Bl_memory (hx : p.tables.exec = Jvm.exec) (hb : c.code = cc) (hts : ∀ w ∈ TB, w.before args s = true) (hown : s.vm.findClass own = some m.cls) (hK : va_K D clX (tyX cI cL) s) (hP : va_P D clX (wX cI cL ad ma ko sh lo de wa me ru) H) (hlink : Cond.fieldLink own index "ScanMachine$Blocks" "memory" "LScanMachine$Memory;" ∈ TB) (hdg : decode cc pc = .ok (.getfield index, 3)) (kk : W p l e R s m args below meth c H locs cells slots Q (F0 m (pc + 3) ls (.ref (ad 19) :: rest))) : W p l e R s m args below meth c H locs cells slots Q (F0 m (pc) ls (.ref (ad 26) :: rest)) :=
  va_get (D := D) (ci := 8) (v := .ref (ad 19)) (C := "ScanMachine$Blocks") (T := T_Bl_) (N := 1) hx hb hts in_Bl hown hK hP 26 ob_Bl rfl 0 (by decide) (hts _ hlink) (fun _ h9 => h9) rfl hdg kk
theorem ob_Mo : (wM cI cL ad mc mk mr)[0]? = some (ad 0, .inr (9, [.int (mc_size mc), .ref (ad 1), .int (mc_units mc), .ref (ad 2), .ref (ad 3), .ref (ad 4), .int (mc_total mc), .ref (ad 5), .ref (ad 6), .ref (ad 7), .ref (ad 8), .int (mk_from_ mk), .int (mk_many mk), .ref (ad 9), .ref (ad 10), .ref (ad 11), .ref (ad 12), .int (mr_runs mr), .int (mr_now mr), .int (mr_lastSteps mr), .int (mr_scans mr), .int (mr_faults mr), .int (mr_deepest mr), .ref (ad 13), .int (mr_depth mr), .ref (ad 14), .ref (ad 15), .ref (ad 16)])) := rfl
theorem rd_Mo_size (hx : p.tables.exec = Jvm.exec) (hb : c.code = cc) (hts : ∀ w ∈ TB, w.before args s = true) (hown : s.vm.findClass own = some m.cls) (hK : va_K D clX (tyX cI cL) s) (hP : va_P D clX (wM cI cL ad mc mk mr) H) (hlink : Cond.fieldLink own index "ScanMachineModel" "size" "I" ∈ TB) {v : Int32} (hv : mc_size mc = v) (hdg : decode cc pc = .ok (.getfield index, 3)) (kk : W p l e R s m args below meth c H locs cells slots Q (F0 m (pc + 3) ls (.int v :: rest))) : W p l e R s m args below meth c H locs cells slots Q (F0 m (pc) ls (.ref (ad 0) :: rest)) := by
  subst hv
  exact va_get (D := D) (ci := 9) (v := .int (mc_size mc)) (C := "ScanMachineModel") (T := T_Mo_) (N := 28) hx hb hts in_Mo hown hK hP 0 ob_Mo rfl 0 (by decide) (hts _ hlink) (fun _ h9 => h9) rfl hdg kk
theorem wr_Mo_size (hx : p.tables.exec = Jvm.exec) (hb : c.code = cc) (hts : ∀ w ∈ TB, w.before args s = true) (hown : s.vm.findClass own = some m.cls) (hK : va_K D clX (tyX cI cL) s) (hP : va_P D clX (wM cI cL ad mc mk mr) H) (hD : va_D A (wM cI cL ad mc mk mr)) (hS : va_S A H0 H locs) (hlink : Cond.fieldLink own index "ScanMachineModel" "size" "I" ∈ TB) {v : Int32} (hdg : decode cc pc = .ok (.putfield index, 3)) (kk : ∀ (H1 : Heap) (locs1 : List Loc), va_P D clX (wM cI cL ad (mc_size_s mc v) mk mr) H1 → va_D A (wM cI cL ad (mc_size_s mc v) mk mr) → va_S A H0 H1 locs1 → W p l e R s m args below meth c H1 locs1 cells slots Q (F0 m (pc + 3) ls (rest))) : W p l e R s m args below meth c H locs cells slots Q (F0 m (pc) ls (.int v :: .ref (ad 0) :: rest)) :=
  va_put (D := D) (ci := 9) (v := .int v) (ty := .int) (C := "ScanMachineModel") (T := T_Mo_) (N := 28) hx hb hts in_Mo ty_Mo tyok_Mo nm_Mo hown hK hP hD hS 0 ob_Mo rfl 0 (by decide) (hts _ hlink) (fun _ h9 => h9) rfl (by decide +kernel) rfl rfl (Nat.le_of_ble_eq_true rfl) hdg kk
theorem rd_Mo_cells (hx : p.tables.exec = Jvm.exec) (hb : c.code = cc) (hts : ∀ w ∈ TB, w.before args s = true) (hown : s.vm.findClass own = some m.cls) (hK : va_K D clX (tyX cI cL) s) (hP : va_P D clX (wM cI cL ad mc mk mr) H) (hlink : Cond.fieldLink own index "ScanMachineModel" "cells" "[I" ∈ TB) (hdg : decode cc pc = .ok (.getfield index, 3)) (kk : W p l e R s m args below meth c H locs cells slots Q (F0 m (pc + 3) ls (.ref (ad 1) :: rest))) : W p l e R s m args below meth c H locs cells slots Q (F0 m (pc) ls (.ref (ad 0) :: rest)) :=
  va_get (D := D) (ci := 9) (v := .ref (ad 1)) (C := "ScanMachineModel") (T := T_Mo_) (N := 28) hx hb hts in_Mo hown hK hP 0 ob_Mo rfl 1 (by decide) (hts _ hlink) (fun _ h9 => h9) rfl hdg kk
theorem rd_Mo_units (hx : p.tables.exec = Jvm.exec) (hb : c.code = cc) (hts : ∀ w ∈ TB, w.before args s = true) (hown : s.vm.findClass own = some m.cls) (hK : va_K D clX (tyX cI cL) s) (hP : va_P D clX (wM cI cL ad mc mk mr) H) (hlink : Cond.fieldLink own index "ScanMachineModel" "units" "I" ∈ TB) {v : Int32} (hv : mc_units mc = v) (hdg : decode cc pc = .ok (.getfield index, 3)) (kk : W p l e R s m args below meth c H locs cells slots Q (F0 m (pc + 3) ls (.int v :: rest))) : W p l e R s m args below meth c H locs cells slots Q (F0 m (pc) ls (.ref (ad 0) :: rest)) := by
  subst hv
  exact va_get (D := D) (ci := 9) (v := .int (mc_units mc)) (C := "ScanMachineModel") (T := T_Mo_) (N := 28) hx hb hts in_Mo hown hK hP 0 ob_Mo rfl 2 (by decide) (hts _ hlink) (fun _ h9 => h9) rfl hdg kk
theorem wr_Mo_units (hx : p.tables.exec = Jvm.exec) (hb : c.code = cc) (hts : ∀ w ∈ TB, w.before args s = true) (hown : s.vm.findClass own = some m.cls) (hK : va_K D clX (tyX cI cL) s) (hP : va_P D clX (wM cI cL ad mc mk mr) H) (hD : va_D A (wM cI cL ad mc mk mr)) (hS : va_S A H0 H locs) (hlink : Cond.fieldLink own index "ScanMachineModel" "units" "I" ∈ TB) {v : Int32} (hdg : decode cc pc = .ok (.putfield index, 3)) (kk : ∀ (H1 : Heap) (locs1 : List Loc), va_P D clX (wM cI cL ad (mc_units_s mc v) mk mr) H1 → va_D A (wM cI cL ad (mc_units_s mc v) mk mr) → va_S A H0 H1 locs1 → W p l e R s m args below meth c H1 locs1 cells slots Q (F0 m (pc + 3) ls (rest))) : W p l e R s m args below meth c H locs cells slots Q (F0 m (pc) ls (.int v :: .ref (ad 0) :: rest)) :=
  va_put (D := D) (ci := 9) (v := .int v) (ty := .int) (C := "ScanMachineModel") (T := T_Mo_) (N := 28) hx hb hts in_Mo ty_Mo tyok_Mo nm_Mo hown hK hP hD hS 0 ob_Mo rfl 2 (by decide) (hts _ hlink) (fun _ h9 => h9) rfl (by decide +kernel) rfl rfl (Nat.le_of_ble_eq_true rfl) hdg kk
theorem rd_Mo_frames (hx : p.tables.exec = Jvm.exec) (hb : c.code = cc) (hts : ∀ w ∈ TB, w.before args s = true) (hown : s.vm.findClass own = some m.cls) (hK : va_K D clX (tyX cI cL) s) (hP : va_P D clX (wM cI cL ad mc mk mr) H) (hlink : Cond.fieldLink own index "ScanMachineModel" "frames" "[I" ∈ TB) (hdg : decode cc pc = .ok (.getfield index, 3)) (kk : W p l e R s m args below meth c H locs cells slots Q (F0 m (pc + 3) ls (.ref (ad 2) :: rest))) : W p l e R s m args below meth c H locs cells slots Q (F0 m (pc) ls (.ref (ad 0) :: rest)) :=
  va_get (D := D) (ci := 9) (v := .ref (ad 2)) (C := "ScanMachineModel") (T := T_Mo_) (N := 28) hx hb hts in_Mo hown hK hP 0 ob_Mo rfl 3 (by decide) (hts _ hlink) (fun _ h9 => h9) rfl hdg kk
theorem rd_Mo_places (hx : p.tables.exec = Jvm.exec) (hb : c.code = cc) (hts : ∀ w ∈ TB, w.before args s = true) (hown : s.vm.findClass own = some m.cls) (hK : va_K D clX (tyX cI cL) s) (hP : va_P D clX (wM cI cL ad mc mk mr) H) (hlink : Cond.fieldLink own index "ScanMachineModel" "places" "[I" ∈ TB) (hdg : decode cc pc = .ok (.getfield index, 3)) (kk : W p l e R s m args below meth c H locs cells slots Q (F0 m (pc + 3) ls (.ref (ad 3) :: rest))) : W p l e R s m args below meth c H locs cells slots Q (F0 m (pc) ls (.ref (ad 0) :: rest)) :=
  va_get (D := D) (ci := 9) (v := .ref (ad 3)) (C := "ScanMachineModel") (T := T_Mo_) (N := 28) hx hb hts in_Mo hown hK hP 0 ob_Mo rfl 4 (by decide) (hts _ hlink) (fun _ h9 => h9) rfl hdg kk
theorem rd_Mo_firsts (hx : p.tables.exec = Jvm.exec) (hb : c.code = cc) (hts : ∀ w ∈ TB, w.before args s = true) (hown : s.vm.findClass own = some m.cls) (hK : va_K D clX (tyX cI cL) s) (hP : va_P D clX (wM cI cL ad mc mk mr) H) (hlink : Cond.fieldLink own index "ScanMachineModel" "firsts" "[I" ∈ TB) (hdg : decode cc pc = .ok (.getfield index, 3)) (kk : W p l e R s m args below meth c H locs cells slots Q (F0 m (pc + 3) ls (.ref (ad 4) :: rest))) : W p l e R s m args below meth c H locs cells slots Q (F0 m (pc) ls (.ref (ad 0) :: rest)) :=
  va_get (D := D) (ci := 9) (v := .ref (ad 4)) (C := "ScanMachineModel") (T := T_Mo_) (N := 28) hx hb hts in_Mo hown hK hP 0 ob_Mo rfl 5 (by decide) (hts _ hlink) (fun _ h9 => h9) rfl hdg kk
theorem rd_Mo_total (hx : p.tables.exec = Jvm.exec) (hb : c.code = cc) (hts : ∀ w ∈ TB, w.before args s = true) (hown : s.vm.findClass own = some m.cls) (hK : va_K D clX (tyX cI cL) s) (hP : va_P D clX (wM cI cL ad mc mk mr) H) (hlink : Cond.fieldLink own index "ScanMachineModel" "total" "I" ∈ TB) {v : Int32} (hv : mc_total mc = v) (hdg : decode cc pc = .ok (.getfield index, 3)) (kk : W p l e R s m args below meth c H locs cells slots Q (F0 m (pc + 3) ls (.int v :: rest))) : W p l e R s m args below meth c H locs cells slots Q (F0 m (pc) ls (.ref (ad 0) :: rest)) := by
  subst hv
  exact va_get (D := D) (ci := 9) (v := .int (mc_total mc)) (C := "ScanMachineModel") (T := T_Mo_) (N := 28) hx hb hts in_Mo hown hK hP 0 ob_Mo rfl 6 (by decide) (hts _ hlink) (fun _ h9 => h9) rfl hdg kk
theorem wr_Mo_total (hx : p.tables.exec = Jvm.exec) (hb : c.code = cc) (hts : ∀ w ∈ TB, w.before args s = true) (hown : s.vm.findClass own = some m.cls) (hK : va_K D clX (tyX cI cL) s) (hP : va_P D clX (wM cI cL ad mc mk mr) H) (hD : va_D A (wM cI cL ad mc mk mr)) (hS : va_S A H0 H locs) (hlink : Cond.fieldLink own index "ScanMachineModel" "total" "I" ∈ TB) {v : Int32} (hdg : decode cc pc = .ok (.putfield index, 3)) (kk : ∀ (H1 : Heap) (locs1 : List Loc), va_P D clX (wM cI cL ad (mc_total_s mc v) mk mr) H1 → va_D A (wM cI cL ad (mc_total_s mc v) mk mr) → va_S A H0 H1 locs1 → W p l e R s m args below meth c H1 locs1 cells slots Q (F0 m (pc + 3) ls (rest))) : W p l e R s m args below meth c H locs cells slots Q (F0 m (pc) ls (.int v :: .ref (ad 0) :: rest)) :=
  va_put (D := D) (ci := 9) (v := .int v) (ty := .int) (C := "ScanMachineModel") (T := T_Mo_) (N := 28) hx hb hts in_Mo ty_Mo tyok_Mo nm_Mo hown hK hP hD hS 0 ob_Mo rfl 6 (by decide) (hts _ hlink) (fun _ h9 => h9) rfl (by decide +kernel) rfl rfl (Nat.le_of_ble_eq_true rfl) hdg kk
theorem rd_Mo_numbers (hx : p.tables.exec = Jvm.exec) (hb : c.code = cc) (hts : ∀ w ∈ TB, w.before args s = true) (hown : s.vm.findClass own = some m.cls) (hK : va_K D clX (tyX cI cL) s) (hP : va_P D clX (wM cI cL ad mc mk mr) H) (hlink : Cond.fieldLink own index "ScanMachineModel" "numbers" "[I" ∈ TB) (hdg : decode cc pc = .ok (.getfield index, 3)) (kk : W p l e R s m args below meth c H locs cells slots Q (F0 m (pc + 3) ls (.ref (ad 5) :: rest))) : W p l e R s m args below meth c H locs cells slots Q (F0 m (pc) ls (.ref (ad 0) :: rest)) :=
  va_get (D := D) (ci := 9) (v := .ref (ad 5)) (C := "ScanMachineModel") (T := T_Mo_) (N := 28) hx hb hts in_Mo hown hK hP 0 ob_Mo rfl 7 (by decide) (hts _ hlink) (fun _ h9 => h9) rfl hdg kk
theorem rd_Mo_as_ (hx : p.tables.exec = Jvm.exec) (hb : c.code = cc) (hts : ∀ w ∈ TB, w.before args s = true) (hown : s.vm.findClass own = some m.cls) (hK : va_K D clX (tyX cI cL) s) (hP : va_P D clX (wM cI cL ad mc mk mr) H) (hlink : Cond.fieldLink own index "ScanMachineModel" "as" "[I" ∈ TB) (hdg : decode cc pc = .ok (.getfield index, 3)) (kk : W p l e R s m args below meth c H locs cells slots Q (F0 m (pc + 3) ls (.ref (ad 6) :: rest))) : W p l e R s m args below meth c H locs cells slots Q (F0 m (pc) ls (.ref (ad 0) :: rest)) :=
  va_get (D := D) (ci := 9) (v := .ref (ad 6)) (C := "ScanMachineModel") (T := T_Mo_) (N := 28) hx hb hts in_Mo hown hK hP 0 ob_Mo rfl 8 (by decide) (hts _ hlink) (fun _ h9 => h9) rfl hdg kk
theorem rd_Mo_bs (hx : p.tables.exec = Jvm.exec) (hb : c.code = cc) (hts : ∀ w ∈ TB, w.before args s = true) (hown : s.vm.findClass own = some m.cls) (hK : va_K D clX (tyX cI cL) s) (hP : va_P D clX (wM cI cL ad mc mk mr) H) (hlink : Cond.fieldLink own index "ScanMachineModel" "bs" "[I" ∈ TB) (hdg : decode cc pc = .ok (.getfield index, 3)) (kk : W p l e R s m args below meth c H locs cells slots Q (F0 m (pc + 3) ls (.ref (ad 7) :: rest))) : W p l e R s m args below meth c H locs cells slots Q (F0 m (pc) ls (.ref (ad 0) :: rest)) :=
  va_get (D := D) (ci := 9) (v := .ref (ad 7)) (C := "ScanMachineModel") (T := T_Mo_) (N := 28) hx hb hts in_Mo hown hK hP 0 ob_Mo rfl 9 (by decide) (hts _ hlink) (fun _ h9 => h9) rfl hdg kk
theorem rd_Mo_cs (hx : p.tables.exec = Jvm.exec) (hb : c.code = cc) (hts : ∀ w ∈ TB, w.before args s = true) (hown : s.vm.findClass own = some m.cls) (hK : va_K D clX (tyX cI cL) s) (hP : va_P D clX (wM cI cL ad mc mk mr) H) (hlink : Cond.fieldLink own index "ScanMachineModel" "cs" "[I" ∈ TB) (hdg : decode cc pc = .ok (.getfield index, 3)) (kk : W p l e R s m args below meth c H locs cells slots Q (F0 m (pc + 3) ls (.ref (ad 8) :: rest))) : W p l e R s m args below meth c H locs cells slots Q (F0 m (pc) ls (.ref (ad 0) :: rest)) :=
  va_get (D := D) (ci := 9) (v := .ref (ad 8)) (C := "ScanMachineModel") (T := T_Mo_) (N := 28) hx hb hts in_Mo hown hK hP 0 ob_Mo rfl 10 (by decide) (hts _ hlink) (fun _ h9 => h9) rfl hdg kk
theorem rd_Mo_from_ (hx : p.tables.exec = Jvm.exec) (hb : c.code = cc) (hts : ∀ w ∈ TB, w.before args s = true) (hown : s.vm.findClass own = some m.cls) (hK : va_K D clX (tyX cI cL) s) (hP : va_P D clX (wM cI cL ad mc mk mr) H) (hlink : Cond.fieldLink own index "ScanMachineModel" "from" "I" ∈ TB) {v : Int32} (hv : mk_from_ mk = v) (hdg : decode cc pc = .ok (.getfield index, 3)) (kk : W p l e R s m args below meth c H locs cells slots Q (F0 m (pc + 3) ls (.int v :: rest))) : W p l e R s m args below meth c H locs cells slots Q (F0 m (pc) ls (.ref (ad 0) :: rest)) := by
  subst hv
  exact va_get (D := D) (ci := 9) (v := .int (mk_from_ mk)) (C := "ScanMachineModel") (T := T_Mo_) (N := 28) hx hb hts in_Mo hown hK hP 0 ob_Mo rfl 11 (by decide) (hts _ hlink) (fun _ h9 => h9) rfl hdg kk
theorem wr_Mo_from_ (hx : p.tables.exec = Jvm.exec) (hb : c.code = cc) (hts : ∀ w ∈ TB, w.before args s = true) (hown : s.vm.findClass own = some m.cls) (hK : va_K D clX (tyX cI cL) s) (hP : va_P D clX (wM cI cL ad mc mk mr) H) (hD : va_D A (wM cI cL ad mc mk mr)) (hS : va_S A H0 H locs) (hlink : Cond.fieldLink own index "ScanMachineModel" "from" "I" ∈ TB) {v : Int32} (hdg : decode cc pc = .ok (.putfield index, 3)) (kk : ∀ (H1 : Heap) (locs1 : List Loc), va_P D clX (wM cI cL ad mc (mk_from__s mk v) mr) H1 → va_D A (wM cI cL ad mc (mk_from__s mk v) mr) → va_S A H0 H1 locs1 → W p l e R s m args below meth c H1 locs1 cells slots Q (F0 m (pc + 3) ls (rest))) : W p l e R s m args below meth c H locs cells slots Q (F0 m (pc) ls (.int v :: .ref (ad 0) :: rest)) :=
  va_put (D := D) (ci := 9) (v := .int v) (ty := .int) (C := "ScanMachineModel") (T := T_Mo_) (N := 28) hx hb hts in_Mo ty_Mo tyok_Mo nm_Mo hown hK hP hD hS 0 ob_Mo rfl 11 (by decide) (hts _ hlink) (fun _ h9 => h9) rfl (by decide +kernel) rfl rfl (Nat.le_of_ble_eq_true rfl) hdg kk
theorem rd_Mo_many (hx : p.tables.exec = Jvm.exec) (hb : c.code = cc) (hts : ∀ w ∈ TB, w.before args s = true) (hown : s.vm.findClass own = some m.cls) (hK : va_K D clX (tyX cI cL) s) (hP : va_P D clX (wM cI cL ad mc mk mr) H) (hlink : Cond.fieldLink own index "ScanMachineModel" "many" "I" ∈ TB) {v : Int32} (hv : mk_many mk = v) (hdg : decode cc pc = .ok (.getfield index, 3)) (kk : W p l e R s m args below meth c H locs cells slots Q (F0 m (pc + 3) ls (.int v :: rest))) : W p l e R s m args below meth c H locs cells slots Q (F0 m (pc) ls (.ref (ad 0) :: rest)) := by
  subst hv
  exact va_get (D := D) (ci := 9) (v := .int (mk_many mk)) (C := "ScanMachineModel") (T := T_Mo_) (N := 28) hx hb hts in_Mo hown hK hP 0 ob_Mo rfl 12 (by decide) (hts _ hlink) (fun _ h9 => h9) rfl hdg kk
theorem wr_Mo_many (hx : p.tables.exec = Jvm.exec) (hb : c.code = cc) (hts : ∀ w ∈ TB, w.before args s = true) (hown : s.vm.findClass own = some m.cls) (hK : va_K D clX (tyX cI cL) s) (hP : va_P D clX (wM cI cL ad mc mk mr) H) (hD : va_D A (wM cI cL ad mc mk mr)) (hS : va_S A H0 H locs) (hlink : Cond.fieldLink own index "ScanMachineModel" "many" "I" ∈ TB) {v : Int32} (hdg : decode cc pc = .ok (.putfield index, 3)) (kk : ∀ (H1 : Heap) (locs1 : List Loc), va_P D clX (wM cI cL ad mc (mk_many_s mk v) mr) H1 → va_D A (wM cI cL ad mc (mk_many_s mk v) mr) → va_S A H0 H1 locs1 → W p l e R s m args below meth c H1 locs1 cells slots Q (F0 m (pc + 3) ls (rest))) : W p l e R s m args below meth c H locs cells slots Q (F0 m (pc) ls (.int v :: .ref (ad 0) :: rest)) :=
  va_put (D := D) (ci := 9) (v := .int v) (ty := .int) (C := "ScanMachineModel") (T := T_Mo_) (N := 28) hx hb hts in_Mo ty_Mo tyok_Mo nm_Mo hown hK hP hD hS 0 ob_Mo rfl 12 (by decide) (hts _ hlink) (fun _ h9 => h9) rfl (by decide +kernel) rfl rfl (Nat.le_of_ble_eq_true rfl) hdg kk
theorem rd_Mo_depths (hx : p.tables.exec = Jvm.exec) (hb : c.code = cc) (hts : ∀ w ∈ TB, w.before args s = true) (hown : s.vm.findClass own = some m.cls) (hK : va_K D clX (tyX cI cL) s) (hP : va_P D clX (wM cI cL ad mc mk mr) H) (hlink : Cond.fieldLink own index "ScanMachineModel" "depths" "[I" ∈ TB) (hdg : decode cc pc = .ok (.getfield index, 3)) (kk : W p l e R s m args below meth c H locs cells slots Q (F0 m (pc + 3) ls (.ref (ad 9) :: rest))) : W p l e R s m args below meth c H locs cells slots Q (F0 m (pc) ls (.ref (ad 0) :: rest)) :=
  va_get (D := D) (ci := 9) (v := .ref (ad 9)) (C := "ScanMachineModel") (T := T_Mo_) (N := 28) hx hb hts in_Mo hown hK hP 0 ob_Mo rfl 13 (by decide) (hts _ hlink) (fun _ h9 => h9) rfl hdg kk
theorem rd_Mo_ways (hx : p.tables.exec = Jvm.exec) (hb : c.code = cc) (hts : ∀ w ∈ TB, w.before args s = true) (hown : s.vm.findClass own = some m.cls) (hK : va_K D clX (tyX cI cL) s) (hP : va_P D clX (wM cI cL ad mc mk mr) H) (hlink : Cond.fieldLink own index "ScanMachineModel" "ways" "[J" ∈ TB) (hdg : decode cc pc = .ok (.getfield index, 3)) (kk : W p l e R s m args below meth c H locs cells slots Q (F0 m (pc + 3) ls (.ref (ad 10) :: rest))) : W p l e R s m args below meth c H locs cells slots Q (F0 m (pc) ls (.ref (ad 0) :: rest)) :=
  va_get (D := D) (ci := 9) (v := .ref (ad 10)) (C := "ScanMachineModel") (T := T_Mo_) (N := 28) hx hb hts in_Mo hown hK hP 0 ob_Mo rfl 14 (by decide) (hts _ hlink) (fun _ h9 => h9) rfl hdg kk
theorem rd_Mo_rounds (hx : p.tables.exec = Jvm.exec) (hb : c.code = cc) (hts : ∀ w ∈ TB, w.before args s = true) (hown : s.vm.findClass own = some m.cls) (hK : va_K D clX (tyX cI cL) s) (hP : va_P D clX (wM cI cL ad mc mk mr) H) (hlink : Cond.fieldLink own index "ScanMachineModel" "rounds" "[J" ∈ TB) (hdg : decode cc pc = .ok (.getfield index, 3)) (kk : W p l e R s m args below meth c H locs cells slots Q (F0 m (pc + 3) ls (.ref (ad 11) :: rest))) : W p l e R s m args below meth c H locs cells slots Q (F0 m (pc) ls (.ref (ad 0) :: rest)) :=
  va_get (D := D) (ci := 9) (v := .ref (ad 11)) (C := "ScanMachineModel") (T := T_Mo_) (N := 28) hx hb hts in_Mo hown hK hP 0 ob_Mo rfl 15 (by decide) (hts _ hlink) (fun _ h9 => h9) rfl hdg kk
theorem rd_Mo_steps (hx : p.tables.exec = Jvm.exec) (hb : c.code = cc) (hts : ∀ w ∈ TB, w.before args s = true) (hown : s.vm.findClass own = some m.cls) (hK : va_K D clX (tyX cI cL) s) (hP : va_P D clX (wM cI cL ad mc mk mr) H) (hlink : Cond.fieldLink own index "ScanMachineModel" "steps" "[J" ∈ TB) (hdg : decode cc pc = .ok (.getfield index, 3)) (kk : W p l e R s m args below meth c H locs cells slots Q (F0 m (pc + 3) ls (.ref (ad 12) :: rest))) : W p l e R s m args below meth c H locs cells slots Q (F0 m (pc) ls (.ref (ad 0) :: rest)) :=
  va_get (D := D) (ci := 9) (v := .ref (ad 12)) (C := "ScanMachineModel") (T := T_Mo_) (N := 28) hx hb hts in_Mo hown hK hP 0 ob_Mo rfl 16 (by decide) (hts _ hlink) (fun _ h9 => h9) rfl hdg kk
theorem rd_Mo_runs (hx : p.tables.exec = Jvm.exec) (hb : c.code = cc) (hts : ∀ w ∈ TB, w.before args s = true) (hown : s.vm.findClass own = some m.cls) (hK : va_K D clX (tyX cI cL) s) (hP : va_P D clX (wM cI cL ad mc mk mr) H) (hlink : Cond.fieldLink own index "ScanMachineModel" "runs" "Z" ∈ TB) {v : Int32} (hv : mr_runs mr = v) (hdg : decode cc pc = .ok (.getfield index, 3)) (kk : W p l e R s m args below meth c H locs cells slots Q (F0 m (pc + 3) ls (.int v :: rest))) : W p l e R s m args below meth c H locs cells slots Q (F0 m (pc) ls (.ref (ad 0) :: rest)) := by
  subst hv
  exact va_get (D := D) (ci := 9) (v := .int (mr_runs mr)) (C := "ScanMachineModel") (T := T_Mo_) (N := 28) hx hb hts in_Mo hown hK hP 0 ob_Mo rfl 17 (by decide) (hts _ hlink) (fun _ h9 => h9) rfl hdg kk
theorem wr_Mo_runs (hx : p.tables.exec = Jvm.exec) (hb : c.code = cc) (hts : ∀ w ∈ TB, w.before args s = true) (hown : s.vm.findClass own = some m.cls) (hK : va_K D clX (tyX cI cL) s) (hP : va_P D clX (wM cI cL ad mc mk mr) H) (hD : va_D A (wM cI cL ad mc mk mr)) (hS : va_S A H0 H locs) (hlink : Cond.fieldLink own index "ScanMachineModel" "runs" "Z" ∈ TB) {v : Int32} (h01 : v = 0 ∨ v = 1) (hdg : decode cc pc = .ok (.putfield index, 3)) (kk : ∀ (H1 : Heap) (locs1 : List Loc), va_P D clX (wM cI cL ad mc mk (mr_runs_s mr v)) H1 → va_D A (wM cI cL ad mc mk (mr_runs_s mr v)) → va_S A H0 H1 locs1 → W p l e R s m args below meth c H1 locs1 cells slots Q (F0 m (pc + 3) ls (rest))) : W p l e R s m args below meth c H locs cells slots Q (F0 m (pc) ls (.int v :: .ref (ad 0) :: rest)) :=
  va_put (D := D) (ci := 9) (v := .int v) (ty := .boolean) (C := "ScanMachineModel") (T := T_Mo_) (N := 28) hx hb hts in_Mo ty_Mo tyok_Mo nm_Mo hown hK hP hD hS 0 ob_Mo rfl 17 (by decide) (hts _ hlink) (fun _ h9 => h9) rfl (by decide +kernel) (by rcases h01 with rfl | rfl <;> rfl) (by rcases h01 with rfl | rfl <;> rfl) (Nat.le_of_ble_eq_true rfl) hdg kk
theorem rd_Mo_now (hx : p.tables.exec = Jvm.exec) (hb : c.code = cc) (hts : ∀ w ∈ TB, w.before args s = true) (hown : s.vm.findClass own = some m.cls) (hK : va_K D clX (tyX cI cL) s) (hP : va_P D clX (wM cI cL ad mc mk mr) H) (hlink : Cond.fieldLink own index "ScanMachineModel" "now" "I" ∈ TB) {v : Int32} (hv : mr_now mr = v) (hdg : decode cc pc = .ok (.getfield index, 3)) (kk : W p l e R s m args below meth c H locs cells slots Q (F0 m (pc + 3) ls (.int v :: rest))) : W p l e R s m args below meth c H locs cells slots Q (F0 m (pc) ls (.ref (ad 0) :: rest)) := by
  subst hv
  exact va_get (D := D) (ci := 9) (v := .int (mr_now mr)) (C := "ScanMachineModel") (T := T_Mo_) (N := 28) hx hb hts in_Mo hown hK hP 0 ob_Mo rfl 18 (by decide) (hts _ hlink) (fun _ h9 => h9) rfl hdg kk
theorem wr_Mo_now (hx : p.tables.exec = Jvm.exec) (hb : c.code = cc) (hts : ∀ w ∈ TB, w.before args s = true) (hown : s.vm.findClass own = some m.cls) (hK : va_K D clX (tyX cI cL) s) (hP : va_P D clX (wM cI cL ad mc mk mr) H) (hD : va_D A (wM cI cL ad mc mk mr)) (hS : va_S A H0 H locs) (hlink : Cond.fieldLink own index "ScanMachineModel" "now" "I" ∈ TB) {v : Int32} (hdg : decode cc pc = .ok (.putfield index, 3)) (kk : ∀ (H1 : Heap) (locs1 : List Loc), va_P D clX (wM cI cL ad mc mk (mr_now_s mr v)) H1 → va_D A (wM cI cL ad mc mk (mr_now_s mr v)) → va_S A H0 H1 locs1 → W p l e R s m args below meth c H1 locs1 cells slots Q (F0 m (pc + 3) ls (rest))) : W p l e R s m args below meth c H locs cells slots Q (F0 m (pc) ls (.int v :: .ref (ad 0) :: rest)) :=
  va_put (D := D) (ci := 9) (v := .int v) (ty := .int) (C := "ScanMachineModel") (T := T_Mo_) (N := 28) hx hb hts in_Mo ty_Mo tyok_Mo nm_Mo hown hK hP hD hS 0 ob_Mo rfl 18 (by decide) (hts _ hlink) (fun _ h9 => h9) rfl (by decide +kernel) rfl rfl (Nat.le_of_ble_eq_true rfl) hdg kk
theorem rd_Mo_lastSteps (hx : p.tables.exec = Jvm.exec) (hb : c.code = cc) (hts : ∀ w ∈ TB, w.before args s = true) (hown : s.vm.findClass own = some m.cls) (hK : va_K D clX (tyX cI cL) s) (hP : va_P D clX (wM cI cL ad mc mk mr) H) (hlink : Cond.fieldLink own index "ScanMachineModel" "lastSteps" "I" ∈ TB) {v : Int32} (hv : mr_lastSteps mr = v) (hdg : decode cc pc = .ok (.getfield index, 3)) (kk : W p l e R s m args below meth c H locs cells slots Q (F0 m (pc + 3) ls (.int v :: rest))) : W p l e R s m args below meth c H locs cells slots Q (F0 m (pc) ls (.ref (ad 0) :: rest)) := by
  subst hv
  exact va_get (D := D) (ci := 9) (v := .int (mr_lastSteps mr)) (C := "ScanMachineModel") (T := T_Mo_) (N := 28) hx hb hts in_Mo hown hK hP 0 ob_Mo rfl 19 (by decide) (hts _ hlink) (fun _ h9 => h9) rfl hdg kk
theorem wr_Mo_lastSteps (hx : p.tables.exec = Jvm.exec) (hb : c.code = cc) (hts : ∀ w ∈ TB, w.before args s = true) (hown : s.vm.findClass own = some m.cls) (hK : va_K D clX (tyX cI cL) s) (hP : va_P D clX (wM cI cL ad mc mk mr) H) (hD : va_D A (wM cI cL ad mc mk mr)) (hS : va_S A H0 H locs) (hlink : Cond.fieldLink own index "ScanMachineModel" "lastSteps" "I" ∈ TB) {v : Int32} (hdg : decode cc pc = .ok (.putfield index, 3)) (kk : ∀ (H1 : Heap) (locs1 : List Loc), va_P D clX (wM cI cL ad mc mk (mr_lastSteps_s mr v)) H1 → va_D A (wM cI cL ad mc mk (mr_lastSteps_s mr v)) → va_S A H0 H1 locs1 → W p l e R s m args below meth c H1 locs1 cells slots Q (F0 m (pc + 3) ls (rest))) : W p l e R s m args below meth c H locs cells slots Q (F0 m (pc) ls (.int v :: .ref (ad 0) :: rest)) :=
  va_put (D := D) (ci := 9) (v := .int v) (ty := .int) (C := "ScanMachineModel") (T := T_Mo_) (N := 28) hx hb hts in_Mo ty_Mo tyok_Mo nm_Mo hown hK hP hD hS 0 ob_Mo rfl 19 (by decide) (hts _ hlink) (fun _ h9 => h9) rfl (by decide +kernel) rfl rfl (Nat.le_of_ble_eq_true rfl) hdg kk
theorem rd_Mo_scans (hx : p.tables.exec = Jvm.exec) (hb : c.code = cc) (hts : ∀ w ∈ TB, w.before args s = true) (hown : s.vm.findClass own = some m.cls) (hK : va_K D clX (tyX cI cL) s) (hP : va_P D clX (wM cI cL ad mc mk mr) H) (hlink : Cond.fieldLink own index "ScanMachineModel" "scans" "I" ∈ TB) {v : Int32} (hv : mr_scans mr = v) (hdg : decode cc pc = .ok (.getfield index, 3)) (kk : W p l e R s m args below meth c H locs cells slots Q (F0 m (pc + 3) ls (.int v :: rest))) : W p l e R s m args below meth c H locs cells slots Q (F0 m (pc) ls (.ref (ad 0) :: rest)) := by
  subst hv
  exact va_get (D := D) (ci := 9) (v := .int (mr_scans mr)) (C := "ScanMachineModel") (T := T_Mo_) (N := 28) hx hb hts in_Mo hown hK hP 0 ob_Mo rfl 20 (by decide) (hts _ hlink) (fun _ h9 => h9) rfl hdg kk
theorem wr_Mo_scans (hx : p.tables.exec = Jvm.exec) (hb : c.code = cc) (hts : ∀ w ∈ TB, w.before args s = true) (hown : s.vm.findClass own = some m.cls) (hK : va_K D clX (tyX cI cL) s) (hP : va_P D clX (wM cI cL ad mc mk mr) H) (hD : va_D A (wM cI cL ad mc mk mr)) (hS : va_S A H0 H locs) (hlink : Cond.fieldLink own index "ScanMachineModel" "scans" "I" ∈ TB) {v : Int32} (hdg : decode cc pc = .ok (.putfield index, 3)) (kk : ∀ (H1 : Heap) (locs1 : List Loc), va_P D clX (wM cI cL ad mc mk (mr_scans_s mr v)) H1 → va_D A (wM cI cL ad mc mk (mr_scans_s mr v)) → va_S A H0 H1 locs1 → W p l e R s m args below meth c H1 locs1 cells slots Q (F0 m (pc + 3) ls (rest))) : W p l e R s m args below meth c H locs cells slots Q (F0 m (pc) ls (.int v :: .ref (ad 0) :: rest)) :=
  va_put (D := D) (ci := 9) (v := .int v) (ty := .int) (C := "ScanMachineModel") (T := T_Mo_) (N := 28) hx hb hts in_Mo ty_Mo tyok_Mo nm_Mo hown hK hP hD hS 0 ob_Mo rfl 20 (by decide) (hts _ hlink) (fun _ h9 => h9) rfl (by decide +kernel) rfl rfl (Nat.le_of_ble_eq_true rfl) hdg kk
theorem rd_Mo_faults (hx : p.tables.exec = Jvm.exec) (hb : c.code = cc) (hts : ∀ w ∈ TB, w.before args s = true) (hown : s.vm.findClass own = some m.cls) (hK : va_K D clX (tyX cI cL) s) (hP : va_P D clX (wM cI cL ad mc mk mr) H) (hlink : Cond.fieldLink own index "ScanMachineModel" "faults" "I" ∈ TB) {v : Int32} (hv : mr_faults mr = v) (hdg : decode cc pc = .ok (.getfield index, 3)) (kk : W p l e R s m args below meth c H locs cells slots Q (F0 m (pc + 3) ls (.int v :: rest))) : W p l e R s m args below meth c H locs cells slots Q (F0 m (pc) ls (.ref (ad 0) :: rest)) := by
  subst hv
  exact va_get (D := D) (ci := 9) (v := .int (mr_faults mr)) (C := "ScanMachineModel") (T := T_Mo_) (N := 28) hx hb hts in_Mo hown hK hP 0 ob_Mo rfl 21 (by decide) (hts _ hlink) (fun _ h9 => h9) rfl hdg kk
theorem wr_Mo_faults (hx : p.tables.exec = Jvm.exec) (hb : c.code = cc) (hts : ∀ w ∈ TB, w.before args s = true) (hown : s.vm.findClass own = some m.cls) (hK : va_K D clX (tyX cI cL) s) (hP : va_P D clX (wM cI cL ad mc mk mr) H) (hD : va_D A (wM cI cL ad mc mk mr)) (hS : va_S A H0 H locs) (hlink : Cond.fieldLink own index "ScanMachineModel" "faults" "I" ∈ TB) {v : Int32} (hdg : decode cc pc = .ok (.putfield index, 3)) (kk : ∀ (H1 : Heap) (locs1 : List Loc), va_P D clX (wM cI cL ad mc mk (mr_faults_s mr v)) H1 → va_D A (wM cI cL ad mc mk (mr_faults_s mr v)) → va_S A H0 H1 locs1 → W p l e R s m args below meth c H1 locs1 cells slots Q (F0 m (pc + 3) ls (rest))) : W p l e R s m args below meth c H locs cells slots Q (F0 m (pc) ls (.int v :: .ref (ad 0) :: rest)) :=
  va_put (D := D) (ci := 9) (v := .int v) (ty := .int) (C := "ScanMachineModel") (T := T_Mo_) (N := 28) hx hb hts in_Mo ty_Mo tyok_Mo nm_Mo hown hK hP hD hS 0 ob_Mo rfl 21 (by decide) (hts _ hlink) (fun _ h9 => h9) rfl (by decide +kernel) rfl rfl (Nat.le_of_ble_eq_true rfl) hdg kk
theorem rd_Mo_deepest (hx : p.tables.exec = Jvm.exec) (hb : c.code = cc) (hts : ∀ w ∈ TB, w.before args s = true) (hown : s.vm.findClass own = some m.cls) (hK : va_K D clX (tyX cI cL) s) (hP : va_P D clX (wM cI cL ad mc mk mr) H) (hlink : Cond.fieldLink own index "ScanMachineModel" "deepest" "I" ∈ TB) {v : Int32} (hv : mr_deepest mr = v) (hdg : decode cc pc = .ok (.getfield index, 3)) (kk : W p l e R s m args below meth c H locs cells slots Q (F0 m (pc + 3) ls (.int v :: rest))) : W p l e R s m args below meth c H locs cells slots Q (F0 m (pc) ls (.ref (ad 0) :: rest)) := by
  subst hv
  exact va_get (D := D) (ci := 9) (v := .int (mr_deepest mr)) (C := "ScanMachineModel") (T := T_Mo_) (N := 28) hx hb hts in_Mo hown hK hP 0 ob_Mo rfl 22 (by decide) (hts _ hlink) (fun _ h9 => h9) rfl hdg kk
theorem wr_Mo_deepest (hx : p.tables.exec = Jvm.exec) (hb : c.code = cc) (hts : ∀ w ∈ TB, w.before args s = true) (hown : s.vm.findClass own = some m.cls) (hK : va_K D clX (tyX cI cL) s) (hP : va_P D clX (wM cI cL ad mc mk mr) H) (hD : va_D A (wM cI cL ad mc mk mr)) (hS : va_S A H0 H locs) (hlink : Cond.fieldLink own index "ScanMachineModel" "deepest" "I" ∈ TB) {v : Int32} (hdg : decode cc pc = .ok (.putfield index, 3)) (kk : ∀ (H1 : Heap) (locs1 : List Loc), va_P D clX (wM cI cL ad mc mk (mr_deepest_s mr v)) H1 → va_D A (wM cI cL ad mc mk (mr_deepest_s mr v)) → va_S A H0 H1 locs1 → W p l e R s m args below meth c H1 locs1 cells slots Q (F0 m (pc + 3) ls (rest))) : W p l e R s m args below meth c H locs cells slots Q (F0 m (pc) ls (.int v :: .ref (ad 0) :: rest)) :=
  va_put (D := D) (ci := 9) (v := .int v) (ty := .int) (C := "ScanMachineModel") (T := T_Mo_) (N := 28) hx hb hts in_Mo ty_Mo tyok_Mo nm_Mo hown hK hP hD hS 0 ob_Mo rfl 22 (by decide) (hts _ hlink) (fun _ h9 => h9) rfl (by decide +kernel) rfl rfl (Nat.le_of_ble_eq_true rfl) hdg kk
theorem rd_Mo_stack (hx : p.tables.exec = Jvm.exec) (hb : c.code = cc) (hts : ∀ w ∈ TB, w.before args s = true) (hown : s.vm.findClass own = some m.cls) (hK : va_K D clX (tyX cI cL) s) (hP : va_P D clX (wM cI cL ad mc mk mr) H) (hlink : Cond.fieldLink own index "ScanMachineModel" "stack" "[I" ∈ TB) (hdg : decode cc pc = .ok (.getfield index, 3)) (kk : W p l e R s m args below meth c H locs cells slots Q (F0 m (pc + 3) ls (.ref (ad 13) :: rest))) : W p l e R s m args below meth c H locs cells slots Q (F0 m (pc) ls (.ref (ad 0) :: rest)) :=
  va_get (D := D) (ci := 9) (v := .ref (ad 13)) (C := "ScanMachineModel") (T := T_Mo_) (N := 28) hx hb hts in_Mo hown hK hP 0 ob_Mo rfl 23 (by decide) (hts _ hlink) (fun _ h9 => h9) rfl hdg kk
theorem rd_Mo_depth (hx : p.tables.exec = Jvm.exec) (hb : c.code = cc) (hts : ∀ w ∈ TB, w.before args s = true) (hown : s.vm.findClass own = some m.cls) (hK : va_K D clX (tyX cI cL) s) (hP : va_P D clX (wM cI cL ad mc mk mr) H) (hlink : Cond.fieldLink own index "ScanMachineModel" "depth" "I" ∈ TB) {v : Int32} (hv : mr_depth mr = v) (hdg : decode cc pc = .ok (.getfield index, 3)) (kk : W p l e R s m args below meth c H locs cells slots Q (F0 m (pc + 3) ls (.int v :: rest))) : W p l e R s m args below meth c H locs cells slots Q (F0 m (pc) ls (.ref (ad 0) :: rest)) := by
  subst hv
  exact va_get (D := D) (ci := 9) (v := .int (mr_depth mr)) (C := "ScanMachineModel") (T := T_Mo_) (N := 28) hx hb hts in_Mo hown hK hP 0 ob_Mo rfl 24 (by decide) (hts _ hlink) (fun _ h9 => h9) rfl hdg kk
theorem wr_Mo_depth (hx : p.tables.exec = Jvm.exec) (hb : c.code = cc) (hts : ∀ w ∈ TB, w.before args s = true) (hown : s.vm.findClass own = some m.cls) (hK : va_K D clX (tyX cI cL) s) (hP : va_P D clX (wM cI cL ad mc mk mr) H) (hD : va_D A (wM cI cL ad mc mk mr)) (hS : va_S A H0 H locs) (hlink : Cond.fieldLink own index "ScanMachineModel" "depth" "I" ∈ TB) {v : Int32} (hdg : decode cc pc = .ok (.putfield index, 3)) (kk : ∀ (H1 : Heap) (locs1 : List Loc), va_P D clX (wM cI cL ad mc mk (mr_depth_s mr v)) H1 → va_D A (wM cI cL ad mc mk (mr_depth_s mr v)) → va_S A H0 H1 locs1 → W p l e R s m args below meth c H1 locs1 cells slots Q (F0 m (pc + 3) ls (rest))) : W p l e R s m args below meth c H locs cells slots Q (F0 m (pc) ls (.int v :: .ref (ad 0) :: rest)) :=
  va_put (D := D) (ci := 9) (v := .int v) (ty := .int) (C := "ScanMachineModel") (T := T_Mo_) (N := 28) hx hb hts in_Mo ty_Mo tyok_Mo nm_Mo hown hK hP hD hS 0 ob_Mo rfl 24 (by decide) (hts _ hlink) (fun _ h9 => h9) rfl (by decide +kernel) rfl rfl (Nat.le_of_ble_eq_true rfl) hdg kk
theorem rd_Mo_unitOf (hx : p.tables.exec = Jvm.exec) (hb : c.code = cc) (hts : ∀ w ∈ TB, w.before args s = true) (hown : s.vm.findClass own = some m.cls) (hK : va_K D clX (tyX cI cL) s) (hP : va_P D clX (wM cI cL ad mc mk mr) H) (hlink : Cond.fieldLink own index "ScanMachineModel" "unitOf" "[I" ∈ TB) (hdg : decode cc pc = .ok (.getfield index, 3)) (kk : W p l e R s m args below meth c H locs cells slots Q (F0 m (pc + 3) ls (.ref (ad 14) :: rest))) : W p l e R s m args below meth c H locs cells slots Q (F0 m (pc) ls (.ref (ad 0) :: rest)) :=
  va_get (D := D) (ci := 9) (v := .ref (ad 14)) (C := "ScanMachineModel") (T := T_Mo_) (N := 28) hx hb hts in_Mo hown hK hP 0 ob_Mo rfl 25 (by decide) (hts _ hlink) (fun _ h9 => h9) rfl hdg kk
theorem rd_Mo_baseOf (hx : p.tables.exec = Jvm.exec) (hb : c.code = cc) (hts : ∀ w ∈ TB, w.before args s = true) (hown : s.vm.findClass own = some m.cls) (hK : va_K D clX (tyX cI cL) s) (hP : va_P D clX (wM cI cL ad mc mk mr) H) (hlink : Cond.fieldLink own index "ScanMachineModel" "baseOf" "[I" ∈ TB) (hdg : decode cc pc = .ok (.getfield index, 3)) (kk : W p l e R s m args below meth c H locs cells slots Q (F0 m (pc + 3) ls (.ref (ad 15) :: rest))) : W p l e R s m args below meth c H locs cells slots Q (F0 m (pc) ls (.ref (ad 0) :: rest)) :=
  va_get (D := D) (ci := 9) (v := .ref (ad 15)) (C := "ScanMachineModel") (T := T_Mo_) (N := 28) hx hb hts in_Mo hown hK hP 0 ob_Mo rfl 26 (by decide) (hts _ hlink) (fun _ h9 => h9) rfl hdg kk
theorem rd_Mo_nextOf (hx : p.tables.exec = Jvm.exec) (hb : c.code = cc) (hts : ∀ w ∈ TB, w.before args s = true) (hown : s.vm.findClass own = some m.cls) (hK : va_K D clX (tyX cI cL) s) (hP : va_P D clX (wM cI cL ad mc mk mr) H) (hlink : Cond.fieldLink own index "ScanMachineModel" "nextOf" "[I" ∈ TB) (hdg : decode cc pc = .ok (.getfield index, 3)) (kk : W p l e R s m args below meth c H locs cells slots Q (F0 m (pc + 3) ls (.ref (ad 16) :: rest))) : W p l e R s m args below meth c H locs cells slots Q (F0 m (pc) ls (.ref (ad 0) :: rest)) :=
  va_get (D := D) (ci := 9) (v := .ref (ad 16)) (C := "ScanMachineModel") (T := T_Mo_) (N := 28) hx hb hts in_Mo hown hK hP 0 ob_Mo rfl 27 (by decide) (hts _ hlink) (fun _ h9 => h9) rfl hdg kk
theorem ar_Mo_cells : (wM cI cL ad mc mk mr)[1]? = some (ad 1, .inl (cI, 4096, .inl (mr_cells mr))) := rfl
theorem ld_Mo_cells (hx : p.tables.exec = Jvm.exec) (hb : c.code = cc) (hK : va_K D clX (tyX cI cL) s) (hP : va_P D clX (wM cI cL ad mc mk mr) H) {i : Int32} (hin : vp_in i 4096) {v : Int32} (hv : v = mr_cells mr i.toNatClampNeg) (hdg : decode cc pc = .ok (.iaload, 1)) (kk : W p l e R s m args below meth c H locs cells slots Q (F0 m (pc + 1) ls (.int v :: rest))) : W p l e R s m args below meth c H locs cells slots Q (F0 m (pc) ls (.int i :: .ref (ad 1) :: rest)) := by
  subst hv; exact va_iald hx hb hK hP 1 0 ar_Mo_cells rfl hin hdg kk
theorem st_Mo_cells (hx : p.tables.exec = Jvm.exec) (hb : c.code = cc) (hK : va_K D clX (tyX cI cL) s) (hP : va_P D clX (wM cI cL ad mc mk mr) H) (hD : va_D A (wM cI cL ad mc mk mr)) (hS : va_S A H0 H locs) {i : Int32} {x : Int32} (hin : vp_in i 4096) (hdg : decode cc pc = .ok (.iastore, 1)) (kk : ∀ (H1 : Heap) (locs1 : List Loc), va_P D clX (wM cI cL ad mc mk (mr_cells_s mr (upd (mr_cells mr) i.toNatClampNeg x))) H1 → va_D A (wM cI cL ad mc mk (mr_cells_s mr (upd (mr_cells mr) i.toNatClampNeg x))) → va_S A H0 H1 locs1 → W p l e R s m args below meth c H1 locs1 cells slots Q (F0 m (pc + 1) ls (rest))) : W p l e R s m args below meth c H locs cells slots Q (F0 m (pc) ls (.int x :: .int i :: .ref (ad 1) :: rest)) :=
  va_iast hx hb hK hP hD hS 1 0 ar_Mo_cells rfl hin hdg kk
theorem le_Mo_cells (hx : p.tables.exec = Jvm.exec) (hb : c.code = cc) (hK : va_K D clX (tyX cI cL) s) (hP : va_P D clX (wM cI cL ad mc mk mr) H) (hdg : decode cc pc = .ok (.arraylength, 1)) (kk : W p l e R s m args below meth c H locs cells slots Q (F0 m (pc + 1) ls (.int 4096 :: rest))) : W p l e R s m args below meth c H locs cells slots Q (F0 m (pc) ls (.ref (ad 1) :: rest)) :=
  va_alen hx hb hK hP 1 0 ar_Mo_cells rfl rfl hdg kk
theorem ar_Mo_frames : (wM cI cL ad mc mk mr)[2]? = some (ad 2, .inl (cI, 16, .inl (mc_frames mc))) := rfl
theorem ld_Mo_frames (hx : p.tables.exec = Jvm.exec) (hb : c.code = cc) (hK : va_K D clX (tyX cI cL) s) (hP : va_P D clX (wM cI cL ad mc mk mr) H) {i : Int32} (hin : vp_in i 16) {v : Int32} (hv : v = mc_frames mc i.toNatClampNeg) (hdg : decode cc pc = .ok (.iaload, 1)) (kk : W p l e R s m args below meth c H locs cells slots Q (F0 m (pc + 1) ls (.int v :: rest))) : W p l e R s m args below meth c H locs cells slots Q (F0 m (pc) ls (.int i :: .ref (ad 2) :: rest)) := by
  subst hv; exact va_iald hx hb hK hP 2 0 ar_Mo_frames rfl hin hdg kk
theorem st_Mo_frames (hx : p.tables.exec = Jvm.exec) (hb : c.code = cc) (hK : va_K D clX (tyX cI cL) s) (hP : va_P D clX (wM cI cL ad mc mk mr) H) (hD : va_D A (wM cI cL ad mc mk mr)) (hS : va_S A H0 H locs) {i : Int32} {x : Int32} (hin : vp_in i 16) (hdg : decode cc pc = .ok (.iastore, 1)) (kk : ∀ (H1 : Heap) (locs1 : List Loc), va_P D clX (wM cI cL ad (mc_frames_s mc (upd (mc_frames mc) i.toNatClampNeg x)) mk mr) H1 → va_D A (wM cI cL ad (mc_frames_s mc (upd (mc_frames mc) i.toNatClampNeg x)) mk mr) → va_S A H0 H1 locs1 → W p l e R s m args below meth c H1 locs1 cells slots Q (F0 m (pc + 1) ls (rest))) : W p l e R s m args below meth c H locs cells slots Q (F0 m (pc) ls (.int x :: .int i :: .ref (ad 2) :: rest)) :=
  va_iast hx hb hK hP hD hS 2 0 ar_Mo_frames rfl hin hdg kk
theorem le_Mo_frames (hx : p.tables.exec = Jvm.exec) (hb : c.code = cc) (hK : va_K D clX (tyX cI cL) s) (hP : va_P D clX (wM cI cL ad mc mk mr) H) (hdg : decode cc pc = .ok (.arraylength, 1)) (kk : W p l e R s m args below meth c H locs cells slots Q (F0 m (pc + 1) ls (.int 16 :: rest))) : W p l e R s m args below meth c H locs cells slots Q (F0 m (pc) ls (.ref (ad 2) :: rest)) :=
  va_alen hx hb hK hP 2 0 ar_Mo_frames rfl rfl hdg kk
theorem ar_Mo_places : (wM cI cL ad mc mk mr)[3]? = some (ad 3, .inl (cI, 16, .inl (mc_places mc))) := rfl
theorem ld_Mo_places (hx : p.tables.exec = Jvm.exec) (hb : c.code = cc) (hK : va_K D clX (tyX cI cL) s) (hP : va_P D clX (wM cI cL ad mc mk mr) H) {i : Int32} (hin : vp_in i 16) {v : Int32} (hv : v = mc_places mc i.toNatClampNeg) (hdg : decode cc pc = .ok (.iaload, 1)) (kk : W p l e R s m args below meth c H locs cells slots Q (F0 m (pc + 1) ls (.int v :: rest))) : W p l e R s m args below meth c H locs cells slots Q (F0 m (pc) ls (.int i :: .ref (ad 3) :: rest)) := by
  subst hv; exact va_iald hx hb hK hP 3 0 ar_Mo_places rfl hin hdg kk
theorem st_Mo_places (hx : p.tables.exec = Jvm.exec) (hb : c.code = cc) (hK : va_K D clX (tyX cI cL) s) (hP : va_P D clX (wM cI cL ad mc mk mr) H) (hD : va_D A (wM cI cL ad mc mk mr)) (hS : va_S A H0 H locs) {i : Int32} {x : Int32} (hin : vp_in i 16) (hdg : decode cc pc = .ok (.iastore, 1)) (kk : ∀ (H1 : Heap) (locs1 : List Loc), va_P D clX (wM cI cL ad (mc_places_s mc (upd (mc_places mc) i.toNatClampNeg x)) mk mr) H1 → va_D A (wM cI cL ad (mc_places_s mc (upd (mc_places mc) i.toNatClampNeg x)) mk mr) → va_S A H0 H1 locs1 → W p l e R s m args below meth c H1 locs1 cells slots Q (F0 m (pc + 1) ls (rest))) : W p l e R s m args below meth c H locs cells slots Q (F0 m (pc) ls (.int x :: .int i :: .ref (ad 3) :: rest)) :=
  va_iast hx hb hK hP hD hS 3 0 ar_Mo_places rfl hin hdg kk
theorem le_Mo_places (hx : p.tables.exec = Jvm.exec) (hb : c.code = cc) (hK : va_K D clX (tyX cI cL) s) (hP : va_P D clX (wM cI cL ad mc mk mr) H) (hdg : decode cc pc = .ok (.arraylength, 1)) (kk : W p l e R s m args below meth c H locs cells slots Q (F0 m (pc + 1) ls (.int 16 :: rest))) : W p l e R s m args below meth c H locs cells slots Q (F0 m (pc) ls (.ref (ad 3) :: rest)) :=
  va_alen hx hb hK hP 3 0 ar_Mo_places rfl rfl hdg kk
theorem ar_Mo_firsts : (wM cI cL ad mc mk mr)[4]? = some (ad 4, .inl (cI, 17, .inl (mc_firsts mc))) := rfl
theorem ld_Mo_firsts (hx : p.tables.exec = Jvm.exec) (hb : c.code = cc) (hK : va_K D clX (tyX cI cL) s) (hP : va_P D clX (wM cI cL ad mc mk mr) H) {i : Int32} (hin : vp_in i 17) {v : Int32} (hv : v = mc_firsts mc i.toNatClampNeg) (hdg : decode cc pc = .ok (.iaload, 1)) (kk : W p l e R s m args below meth c H locs cells slots Q (F0 m (pc + 1) ls (.int v :: rest))) : W p l e R s m args below meth c H locs cells slots Q (F0 m (pc) ls (.int i :: .ref (ad 4) :: rest)) := by
  subst hv; exact va_iald hx hb hK hP 4 0 ar_Mo_firsts rfl hin hdg kk
theorem st_Mo_firsts (hx : p.tables.exec = Jvm.exec) (hb : c.code = cc) (hK : va_K D clX (tyX cI cL) s) (hP : va_P D clX (wM cI cL ad mc mk mr) H) (hD : va_D A (wM cI cL ad mc mk mr)) (hS : va_S A H0 H locs) {i : Int32} {x : Int32} (hin : vp_in i 17) (hdg : decode cc pc = .ok (.iastore, 1)) (kk : ∀ (H1 : Heap) (locs1 : List Loc), va_P D clX (wM cI cL ad (mc_firsts_s mc (upd (mc_firsts mc) i.toNatClampNeg x)) mk mr) H1 → va_D A (wM cI cL ad (mc_firsts_s mc (upd (mc_firsts mc) i.toNatClampNeg x)) mk mr) → va_S A H0 H1 locs1 → W p l e R s m args below meth c H1 locs1 cells slots Q (F0 m (pc + 1) ls (rest))) : W p l e R s m args below meth c H locs cells slots Q (F0 m (pc) ls (.int x :: .int i :: .ref (ad 4) :: rest)) :=
  va_iast hx hb hK hP hD hS 4 0 ar_Mo_firsts rfl hin hdg kk
theorem le_Mo_firsts (hx : p.tables.exec = Jvm.exec) (hb : c.code = cc) (hK : va_K D clX (tyX cI cL) s) (hP : va_P D clX (wM cI cL ad mc mk mr) H) (hdg : decode cc pc = .ok (.arraylength, 1)) (kk : W p l e R s m args below meth c H locs cells slots Q (F0 m (pc + 1) ls (.int 17 :: rest))) : W p l e R s m args below meth c H locs cells slots Q (F0 m (pc) ls (.ref (ad 4) :: rest)) :=
  va_alen hx hb hK hP 4 0 ar_Mo_firsts rfl rfl hdg kk
theorem ar_Mo_numbers : (wM cI cL ad mc mk mr)[5]? = some (ad 5, .inl (cI, 256, .inl (mc_numbers mc))) := rfl
theorem ld_Mo_numbers (hx : p.tables.exec = Jvm.exec) (hb : c.code = cc) (hK : va_K D clX (tyX cI cL) s) (hP : va_P D clX (wM cI cL ad mc mk mr) H) {i : Int32} (hin : vp_in i 256) {v : Int32} (hv : v = mc_numbers mc i.toNatClampNeg) (hdg : decode cc pc = .ok (.iaload, 1)) (kk : W p l e R s m args below meth c H locs cells slots Q (F0 m (pc + 1) ls (.int v :: rest))) : W p l e R s m args below meth c H locs cells slots Q (F0 m (pc) ls (.int i :: .ref (ad 5) :: rest)) := by
  subst hv; exact va_iald hx hb hK hP 5 0 ar_Mo_numbers rfl hin hdg kk
theorem st_Mo_numbers (hx : p.tables.exec = Jvm.exec) (hb : c.code = cc) (hK : va_K D clX (tyX cI cL) s) (hP : va_P D clX (wM cI cL ad mc mk mr) H) (hD : va_D A (wM cI cL ad mc mk mr)) (hS : va_S A H0 H locs) {i : Int32} {x : Int32} (hin : vp_in i 256) (hdg : decode cc pc = .ok (.iastore, 1)) (kk : ∀ (H1 : Heap) (locs1 : List Loc), va_P D clX (wM cI cL ad (mc_numbers_s mc (upd (mc_numbers mc) i.toNatClampNeg x)) mk mr) H1 → va_D A (wM cI cL ad (mc_numbers_s mc (upd (mc_numbers mc) i.toNatClampNeg x)) mk mr) → va_S A H0 H1 locs1 → W p l e R s m args below meth c H1 locs1 cells slots Q (F0 m (pc + 1) ls (rest))) : W p l e R s m args below meth c H locs cells slots Q (F0 m (pc) ls (.int x :: .int i :: .ref (ad 5) :: rest)) :=
  va_iast hx hb hK hP hD hS 5 0 ar_Mo_numbers rfl hin hdg kk
theorem le_Mo_numbers (hx : p.tables.exec = Jvm.exec) (hb : c.code = cc) (hK : va_K D clX (tyX cI cL) s) (hP : va_P D clX (wM cI cL ad mc mk mr) H) (hdg : decode cc pc = .ok (.arraylength, 1)) (kk : W p l e R s m args below meth c H locs cells slots Q (F0 m (pc + 1) ls (.int 256 :: rest))) : W p l e R s m args below meth c H locs cells slots Q (F0 m (pc) ls (.ref (ad 5) :: rest)) :=
  va_alen hx hb hK hP 5 0 ar_Mo_numbers rfl rfl hdg kk
theorem ar_Mo_as_ : (wM cI cL ad mc mk mr)[6]? = some (ad 6, .inl (cI, 256, .inl (mc_as_ mc))) := rfl
theorem ld_Mo_as_ (hx : p.tables.exec = Jvm.exec) (hb : c.code = cc) (hK : va_K D clX (tyX cI cL) s) (hP : va_P D clX (wM cI cL ad mc mk mr) H) {i : Int32} (hin : vp_in i 256) {v : Int32} (hv : v = mc_as_ mc i.toNatClampNeg) (hdg : decode cc pc = .ok (.iaload, 1)) (kk : W p l e R s m args below meth c H locs cells slots Q (F0 m (pc + 1) ls (.int v :: rest))) : W p l e R s m args below meth c H locs cells slots Q (F0 m (pc) ls (.int i :: .ref (ad 6) :: rest)) := by
  subst hv; exact va_iald hx hb hK hP 6 0 ar_Mo_as_ rfl hin hdg kk
theorem st_Mo_as_ (hx : p.tables.exec = Jvm.exec) (hb : c.code = cc) (hK : va_K D clX (tyX cI cL) s) (hP : va_P D clX (wM cI cL ad mc mk mr) H) (hD : va_D A (wM cI cL ad mc mk mr)) (hS : va_S A H0 H locs) {i : Int32} {x : Int32} (hin : vp_in i 256) (hdg : decode cc pc = .ok (.iastore, 1)) (kk : ∀ (H1 : Heap) (locs1 : List Loc), va_P D clX (wM cI cL ad (mc_as__s mc (upd (mc_as_ mc) i.toNatClampNeg x)) mk mr) H1 → va_D A (wM cI cL ad (mc_as__s mc (upd (mc_as_ mc) i.toNatClampNeg x)) mk mr) → va_S A H0 H1 locs1 → W p l e R s m args below meth c H1 locs1 cells slots Q (F0 m (pc + 1) ls (rest))) : W p l e R s m args below meth c H locs cells slots Q (F0 m (pc) ls (.int x :: .int i :: .ref (ad 6) :: rest)) :=
  va_iast hx hb hK hP hD hS 6 0 ar_Mo_as_ rfl hin hdg kk
theorem le_Mo_as_ (hx : p.tables.exec = Jvm.exec) (hb : c.code = cc) (hK : va_K D clX (tyX cI cL) s) (hP : va_P D clX (wM cI cL ad mc mk mr) H) (hdg : decode cc pc = .ok (.arraylength, 1)) (kk : W p l e R s m args below meth c H locs cells slots Q (F0 m (pc + 1) ls (.int 256 :: rest))) : W p l e R s m args below meth c H locs cells slots Q (F0 m (pc) ls (.ref (ad 6) :: rest)) :=
  va_alen hx hb hK hP 6 0 ar_Mo_as_ rfl rfl hdg kk
theorem ar_Mo_bs : (wM cI cL ad mc mk mr)[7]? = some (ad 7, .inl (cI, 256, .inl (mc_bs mc))) := rfl
theorem ld_Mo_bs (hx : p.tables.exec = Jvm.exec) (hb : c.code = cc) (hK : va_K D clX (tyX cI cL) s) (hP : va_P D clX (wM cI cL ad mc mk mr) H) {i : Int32} (hin : vp_in i 256) {v : Int32} (hv : v = mc_bs mc i.toNatClampNeg) (hdg : decode cc pc = .ok (.iaload, 1)) (kk : W p l e R s m args below meth c H locs cells slots Q (F0 m (pc + 1) ls (.int v :: rest))) : W p l e R s m args below meth c H locs cells slots Q (F0 m (pc) ls (.int i :: .ref (ad 7) :: rest)) := by
  subst hv; exact va_iald hx hb hK hP 7 0 ar_Mo_bs rfl hin hdg kk
theorem st_Mo_bs (hx : p.tables.exec = Jvm.exec) (hb : c.code = cc) (hK : va_K D clX (tyX cI cL) s) (hP : va_P D clX (wM cI cL ad mc mk mr) H) (hD : va_D A (wM cI cL ad mc mk mr)) (hS : va_S A H0 H locs) {i : Int32} {x : Int32} (hin : vp_in i 256) (hdg : decode cc pc = .ok (.iastore, 1)) (kk : ∀ (H1 : Heap) (locs1 : List Loc), va_P D clX (wM cI cL ad (mc_bs_s mc (upd (mc_bs mc) i.toNatClampNeg x)) mk mr) H1 → va_D A (wM cI cL ad (mc_bs_s mc (upd (mc_bs mc) i.toNatClampNeg x)) mk mr) → va_S A H0 H1 locs1 → W p l e R s m args below meth c H1 locs1 cells slots Q (F0 m (pc + 1) ls (rest))) : W p l e R s m args below meth c H locs cells slots Q (F0 m (pc) ls (.int x :: .int i :: .ref (ad 7) :: rest)) :=
  va_iast hx hb hK hP hD hS 7 0 ar_Mo_bs rfl hin hdg kk
theorem le_Mo_bs (hx : p.tables.exec = Jvm.exec) (hb : c.code = cc) (hK : va_K D clX (tyX cI cL) s) (hP : va_P D clX (wM cI cL ad mc mk mr) H) (hdg : decode cc pc = .ok (.arraylength, 1)) (kk : W p l e R s m args below meth c H locs cells slots Q (F0 m (pc + 1) ls (.int 256 :: rest))) : W p l e R s m args below meth c H locs cells slots Q (F0 m (pc) ls (.ref (ad 7) :: rest)) :=
  va_alen hx hb hK hP 7 0 ar_Mo_bs rfl rfl hdg kk
theorem ar_Mo_cs : (wM cI cL ad mc mk mr)[8]? = some (ad 8, .inl (cI, 256, .inl (mc_cs mc))) := rfl
theorem ld_Mo_cs (hx : p.tables.exec = Jvm.exec) (hb : c.code = cc) (hK : va_K D clX (tyX cI cL) s) (hP : va_P D clX (wM cI cL ad mc mk mr) H) {i : Int32} (hin : vp_in i 256) {v : Int32} (hv : v = mc_cs mc i.toNatClampNeg) (hdg : decode cc pc = .ok (.iaload, 1)) (kk : W p l e R s m args below meth c H locs cells slots Q (F0 m (pc + 1) ls (.int v :: rest))) : W p l e R s m args below meth c H locs cells slots Q (F0 m (pc) ls (.int i :: .ref (ad 8) :: rest)) := by
  subst hv; exact va_iald hx hb hK hP 8 0 ar_Mo_cs rfl hin hdg kk
theorem st_Mo_cs (hx : p.tables.exec = Jvm.exec) (hb : c.code = cc) (hK : va_K D clX (tyX cI cL) s) (hP : va_P D clX (wM cI cL ad mc mk mr) H) (hD : va_D A (wM cI cL ad mc mk mr)) (hS : va_S A H0 H locs) {i : Int32} {x : Int32} (hin : vp_in i 256) (hdg : decode cc pc = .ok (.iastore, 1)) (kk : ∀ (H1 : Heap) (locs1 : List Loc), va_P D clX (wM cI cL ad (mc_cs_s mc (upd (mc_cs mc) i.toNatClampNeg x)) mk mr) H1 → va_D A (wM cI cL ad (mc_cs_s mc (upd (mc_cs mc) i.toNatClampNeg x)) mk mr) → va_S A H0 H1 locs1 → W p l e R s m args below meth c H1 locs1 cells slots Q (F0 m (pc + 1) ls (rest))) : W p l e R s m args below meth c H locs cells slots Q (F0 m (pc) ls (.int x :: .int i :: .ref (ad 8) :: rest)) :=
  va_iast hx hb hK hP hD hS 8 0 ar_Mo_cs rfl hin hdg kk
theorem le_Mo_cs (hx : p.tables.exec = Jvm.exec) (hb : c.code = cc) (hK : va_K D clX (tyX cI cL) s) (hP : va_P D clX (wM cI cL ad mc mk mr) H) (hdg : decode cc pc = .ok (.arraylength, 1)) (kk : W p l e R s m args below meth c H locs cells slots Q (F0 m (pc + 1) ls (.int 256 :: rest))) : W p l e R s m args below meth c H locs cells slots Q (F0 m (pc) ls (.ref (ad 8) :: rest)) :=
  va_alen hx hb hK hP 8 0 ar_Mo_cs rfl rfl hdg kk
theorem ar_Mo_depths : (wM cI cL ad mc mk mr)[9]? = some (ad 9, .inl (cI, 257, .inl (mk_depths mk))) := rfl
theorem ld_Mo_depths (hx : p.tables.exec = Jvm.exec) (hb : c.code = cc) (hK : va_K D clX (tyX cI cL) s) (hP : va_P D clX (wM cI cL ad mc mk mr) H) {i : Int32} (hin : vp_in i 257) {v : Int32} (hv : v = mk_depths mk i.toNatClampNeg) (hdg : decode cc pc = .ok (.iaload, 1)) (kk : W p l e R s m args below meth c H locs cells slots Q (F0 m (pc + 1) ls (.int v :: rest))) : W p l e R s m args below meth c H locs cells slots Q (F0 m (pc) ls (.int i :: .ref (ad 9) :: rest)) := by
  subst hv; exact va_iald hx hb hK hP 9 0 ar_Mo_depths rfl hin hdg kk
theorem st_Mo_depths (hx : p.tables.exec = Jvm.exec) (hb : c.code = cc) (hK : va_K D clX (tyX cI cL) s) (hP : va_P D clX (wM cI cL ad mc mk mr) H) (hD : va_D A (wM cI cL ad mc mk mr)) (hS : va_S A H0 H locs) {i : Int32} {x : Int32} (hin : vp_in i 257) (hdg : decode cc pc = .ok (.iastore, 1)) (kk : ∀ (H1 : Heap) (locs1 : List Loc), va_P D clX (wM cI cL ad mc (mk_depths_s mk (upd (mk_depths mk) i.toNatClampNeg x)) mr) H1 → va_D A (wM cI cL ad mc (mk_depths_s mk (upd (mk_depths mk) i.toNatClampNeg x)) mr) → va_S A H0 H1 locs1 → W p l e R s m args below meth c H1 locs1 cells slots Q (F0 m (pc + 1) ls (rest))) : W p l e R s m args below meth c H locs cells slots Q (F0 m (pc) ls (.int x :: .int i :: .ref (ad 9) :: rest)) :=
  va_iast hx hb hK hP hD hS 9 0 ar_Mo_depths rfl hin hdg kk
theorem le_Mo_depths (hx : p.tables.exec = Jvm.exec) (hb : c.code = cc) (hK : va_K D clX (tyX cI cL) s) (hP : va_P D clX (wM cI cL ad mc mk mr) H) (hdg : decode cc pc = .ok (.arraylength, 1)) (kk : W p l e R s m args below meth c H locs cells slots Q (F0 m (pc + 1) ls (.int 257 :: rest))) : W p l e R s m args below meth c H locs cells slots Q (F0 m (pc) ls (.ref (ad 9) :: rest)) :=
  va_alen hx hb hK hP 9 0 ar_Mo_depths rfl rfl hdg kk
theorem ar_Mo_ways : (wM cI cL ad mc mk mr)[10]? = some (ad 10, .inl (cL, 257, .inr (.inl (mk_ways mk)))) := rfl
theorem ld_Mo_ways (hx : p.tables.exec = Jvm.exec) (hb : c.code = cc) (hK : va_K D clX (tyX cI cL) s) (hP : va_P D clX (wM cI cL ad mc mk mr) H) {i : Int32} (hin : vp_in i 257) {v : Int64} (hv : v = mk_ways mk i.toNatClampNeg) (hdg : decode cc pc = .ok (.laload, 1)) (kk : W p l e R s m args below meth c H locs cells slots Q (F0 m (pc + 1) ls (.long v :: rest))) : W p l e R s m args below meth c H locs cells slots Q (F0 m (pc) ls (.int i :: .ref (ad 10) :: rest)) := by
  subst hv; exact va_lald hx hb hK hP 10 1 ar_Mo_ways rfl hin hdg kk
theorem st_Mo_ways (hx : p.tables.exec = Jvm.exec) (hb : c.code = cc) (hK : va_K D clX (tyX cI cL) s) (hP : va_P D clX (wM cI cL ad mc mk mr) H) (hD : va_D A (wM cI cL ad mc mk mr)) (hS : va_S A H0 H locs) {i : Int32} {x : Int64} (hin : vp_in i 257) (hdg : decode cc pc = .ok (.lastore, 1)) (kk : ∀ (H1 : Heap) (locs1 : List Loc), va_P D clX (wM cI cL ad mc (mk_ways_s mk (vp_updL (mk_ways mk) i.toNatClampNeg x)) mr) H1 → va_D A (wM cI cL ad mc (mk_ways_s mk (vp_updL (mk_ways mk) i.toNatClampNeg x)) mr) → va_S A H0 H1 locs1 → W p l e R s m args below meth c H1 locs1 cells slots Q (F0 m (pc + 1) ls (rest))) : W p l e R s m args below meth c H locs cells slots Q (F0 m (pc) ls (.long x :: .int i :: .ref (ad 10) :: rest)) :=
  va_last hx hb hK hP hD hS 10 1 ar_Mo_ways rfl hin hdg kk
theorem le_Mo_ways (hx : p.tables.exec = Jvm.exec) (hb : c.code = cc) (hK : va_K D clX (tyX cI cL) s) (hP : va_P D clX (wM cI cL ad mc mk mr) H) (hdg : decode cc pc = .ok (.arraylength, 1)) (kk : W p l e R s m args below meth c H locs cells slots Q (F0 m (pc + 1) ls (.int 257 :: rest))) : W p l e R s m args below meth c H locs cells slots Q (F0 m (pc) ls (.ref (ad 10) :: rest)) :=
  va_alen hx hb hK hP 10 1 ar_Mo_ways rfl rfl hdg kk
theorem ar_Mo_rounds : (wM cI cL ad mc mk mr)[11]? = some (ad 11, .inl (cL, 256, .inr (.inl (mk_rounds mk)))) := rfl
theorem ld_Mo_rounds (hx : p.tables.exec = Jvm.exec) (hb : c.code = cc) (hK : va_K D clX (tyX cI cL) s) (hP : va_P D clX (wM cI cL ad mc mk mr) H) {i : Int32} (hin : vp_in i 256) {v : Int64} (hv : v = mk_rounds mk i.toNatClampNeg) (hdg : decode cc pc = .ok (.laload, 1)) (kk : W p l e R s m args below meth c H locs cells slots Q (F0 m (pc + 1) ls (.long v :: rest))) : W p l e R s m args below meth c H locs cells slots Q (F0 m (pc) ls (.int i :: .ref (ad 11) :: rest)) := by
  subst hv; exact va_lald hx hb hK hP 11 1 ar_Mo_rounds rfl hin hdg kk
theorem st_Mo_rounds (hx : p.tables.exec = Jvm.exec) (hb : c.code = cc) (hK : va_K D clX (tyX cI cL) s) (hP : va_P D clX (wM cI cL ad mc mk mr) H) (hD : va_D A (wM cI cL ad mc mk mr)) (hS : va_S A H0 H locs) {i : Int32} {x : Int64} (hin : vp_in i 256) (hdg : decode cc pc = .ok (.lastore, 1)) (kk : ∀ (H1 : Heap) (locs1 : List Loc), va_P D clX (wM cI cL ad mc (mk_rounds_s mk (vp_updL (mk_rounds mk) i.toNatClampNeg x)) mr) H1 → va_D A (wM cI cL ad mc (mk_rounds_s mk (vp_updL (mk_rounds mk) i.toNatClampNeg x)) mr) → va_S A H0 H1 locs1 → W p l e R s m args below meth c H1 locs1 cells slots Q (F0 m (pc + 1) ls (rest))) : W p l e R s m args below meth c H locs cells slots Q (F0 m (pc) ls (.long x :: .int i :: .ref (ad 11) :: rest)) :=
  va_last hx hb hK hP hD hS 11 1 ar_Mo_rounds rfl hin hdg kk
theorem le_Mo_rounds (hx : p.tables.exec = Jvm.exec) (hb : c.code = cc) (hK : va_K D clX (tyX cI cL) s) (hP : va_P D clX (wM cI cL ad mc mk mr) H) (hdg : decode cc pc = .ok (.arraylength, 1)) (kk : W p l e R s m args below meth c H locs cells slots Q (F0 m (pc + 1) ls (.int 256 :: rest))) : W p l e R s m args below meth c H locs cells slots Q (F0 m (pc) ls (.ref (ad 11) :: rest)) :=
  va_alen hx hb hK hP 11 1 ar_Mo_rounds rfl rfl hdg kk
theorem ar_Mo_steps : (wM cI cL ad mc mk mr)[12]? = some (ad 12, .inl (cL, 16, .inr (.inl (mk_steps mk)))) := rfl
theorem ld_Mo_steps (hx : p.tables.exec = Jvm.exec) (hb : c.code = cc) (hK : va_K D clX (tyX cI cL) s) (hP : va_P D clX (wM cI cL ad mc mk mr) H) {i : Int32} (hin : vp_in i 16) {v : Int64} (hv : v = mk_steps mk i.toNatClampNeg) (hdg : decode cc pc = .ok (.laload, 1)) (kk : W p l e R s m args below meth c H locs cells slots Q (F0 m (pc + 1) ls (.long v :: rest))) : W p l e R s m args below meth c H locs cells slots Q (F0 m (pc) ls (.int i :: .ref (ad 12) :: rest)) := by
  subst hv; exact va_lald hx hb hK hP 12 1 ar_Mo_steps rfl hin hdg kk
theorem st_Mo_steps (hx : p.tables.exec = Jvm.exec) (hb : c.code = cc) (hK : va_K D clX (tyX cI cL) s) (hP : va_P D clX (wM cI cL ad mc mk mr) H) (hD : va_D A (wM cI cL ad mc mk mr)) (hS : va_S A H0 H locs) {i : Int32} {x : Int64} (hin : vp_in i 16) (hdg : decode cc pc = .ok (.lastore, 1)) (kk : ∀ (H1 : Heap) (locs1 : List Loc), va_P D clX (wM cI cL ad mc (mk_steps_s mk (vp_updL (mk_steps mk) i.toNatClampNeg x)) mr) H1 → va_D A (wM cI cL ad mc (mk_steps_s mk (vp_updL (mk_steps mk) i.toNatClampNeg x)) mr) → va_S A H0 H1 locs1 → W p l e R s m args below meth c H1 locs1 cells slots Q (F0 m (pc + 1) ls (rest))) : W p l e R s m args below meth c H locs cells slots Q (F0 m (pc) ls (.long x :: .int i :: .ref (ad 12) :: rest)) :=
  va_last hx hb hK hP hD hS 12 1 ar_Mo_steps rfl hin hdg kk
theorem le_Mo_steps (hx : p.tables.exec = Jvm.exec) (hb : c.code = cc) (hK : va_K D clX (tyX cI cL) s) (hP : va_P D clX (wM cI cL ad mc mk mr) H) (hdg : decode cc pc = .ok (.arraylength, 1)) (kk : W p l e R s m args below meth c H locs cells slots Q (F0 m (pc + 1) ls (.int 16 :: rest))) : W p l e R s m args below meth c H locs cells slots Q (F0 m (pc) ls (.ref (ad 12) :: rest)) :=
  va_alen hx hb hK hP 12 1 ar_Mo_steps rfl rfl hdg kk
theorem ar_Mo_stack : (wM cI cL ad mc mk mr)[13]? = some (ad 13, .inl (cI, 2048, .inl (mr_stack mr))) := rfl
theorem ld_Mo_stack (hx : p.tables.exec = Jvm.exec) (hb : c.code = cc) (hK : va_K D clX (tyX cI cL) s) (hP : va_P D clX (wM cI cL ad mc mk mr) H) {i : Int32} (hin : vp_in i 2048) {v : Int32} (hv : v = mr_stack mr i.toNatClampNeg) (hdg : decode cc pc = .ok (.iaload, 1)) (kk : W p l e R s m args below meth c H locs cells slots Q (F0 m (pc + 1) ls (.int v :: rest))) : W p l e R s m args below meth c H locs cells slots Q (F0 m (pc) ls (.int i :: .ref (ad 13) :: rest)) := by
  subst hv; exact va_iald hx hb hK hP 13 0 ar_Mo_stack rfl hin hdg kk
theorem st_Mo_stack (hx : p.tables.exec = Jvm.exec) (hb : c.code = cc) (hK : va_K D clX (tyX cI cL) s) (hP : va_P D clX (wM cI cL ad mc mk mr) H) (hD : va_D A (wM cI cL ad mc mk mr)) (hS : va_S A H0 H locs) {i : Int32} {x : Int32} (hin : vp_in i 2048) (hdg : decode cc pc = .ok (.iastore, 1)) (kk : ∀ (H1 : Heap) (locs1 : List Loc), va_P D clX (wM cI cL ad mc mk (mr_stack_s mr (upd (mr_stack mr) i.toNatClampNeg x))) H1 → va_D A (wM cI cL ad mc mk (mr_stack_s mr (upd (mr_stack mr) i.toNatClampNeg x))) → va_S A H0 H1 locs1 → W p l e R s m args below meth c H1 locs1 cells slots Q (F0 m (pc + 1) ls (rest))) : W p l e R s m args below meth c H locs cells slots Q (F0 m (pc) ls (.int x :: .int i :: .ref (ad 13) :: rest)) :=
  va_iast hx hb hK hP hD hS 13 0 ar_Mo_stack rfl hin hdg kk
theorem le_Mo_stack (hx : p.tables.exec = Jvm.exec) (hb : c.code = cc) (hK : va_K D clX (tyX cI cL) s) (hP : va_P D clX (wM cI cL ad mc mk mr) H) (hdg : decode cc pc = .ok (.arraylength, 1)) (kk : W p l e R s m args below meth c H locs cells slots Q (F0 m (pc + 1) ls (.int 2048 :: rest))) : W p l e R s m args below meth c H locs cells slots Q (F0 m (pc) ls (.ref (ad 13) :: rest)) :=
  va_alen hx hb hK hP 13 0 ar_Mo_stack rfl rfl hdg kk
theorem ar_Mo_unitOf : (wM cI cL ad mc mk mr)[14]? = some (ad 14, .inl (cI, 20, .inl (mr_unitOf mr))) := rfl
theorem ld_Mo_unitOf (hx : p.tables.exec = Jvm.exec) (hb : c.code = cc) (hK : va_K D clX (tyX cI cL) s) (hP : va_P D clX (wM cI cL ad mc mk mr) H) {i : Int32} (hin : vp_in i 20) {v : Int32} (hv : v = mr_unitOf mr i.toNatClampNeg) (hdg : decode cc pc = .ok (.iaload, 1)) (kk : W p l e R s m args below meth c H locs cells slots Q (F0 m (pc + 1) ls (.int v :: rest))) : W p l e R s m args below meth c H locs cells slots Q (F0 m (pc) ls (.int i :: .ref (ad 14) :: rest)) := by
  subst hv; exact va_iald hx hb hK hP 14 0 ar_Mo_unitOf rfl hin hdg kk
theorem st_Mo_unitOf (hx : p.tables.exec = Jvm.exec) (hb : c.code = cc) (hK : va_K D clX (tyX cI cL) s) (hP : va_P D clX (wM cI cL ad mc mk mr) H) (hD : va_D A (wM cI cL ad mc mk mr)) (hS : va_S A H0 H locs) {i : Int32} {x : Int32} (hin : vp_in i 20) (hdg : decode cc pc = .ok (.iastore, 1)) (kk : ∀ (H1 : Heap) (locs1 : List Loc), va_P D clX (wM cI cL ad mc mk (mr_unitOf_s mr (upd (mr_unitOf mr) i.toNatClampNeg x))) H1 → va_D A (wM cI cL ad mc mk (mr_unitOf_s mr (upd (mr_unitOf mr) i.toNatClampNeg x))) → va_S A H0 H1 locs1 → W p l e R s m args below meth c H1 locs1 cells slots Q (F0 m (pc + 1) ls (rest))) : W p l e R s m args below meth c H locs cells slots Q (F0 m (pc) ls (.int x :: .int i :: .ref (ad 14) :: rest)) :=
  va_iast hx hb hK hP hD hS 14 0 ar_Mo_unitOf rfl hin hdg kk
theorem le_Mo_unitOf (hx : p.tables.exec = Jvm.exec) (hb : c.code = cc) (hK : va_K D clX (tyX cI cL) s) (hP : va_P D clX (wM cI cL ad mc mk mr) H) (hdg : decode cc pc = .ok (.arraylength, 1)) (kk : W p l e R s m args below meth c H locs cells slots Q (F0 m (pc + 1) ls (.int 20 :: rest))) : W p l e R s m args below meth c H locs cells slots Q (F0 m (pc) ls (.ref (ad 14) :: rest)) :=
  va_alen hx hb hK hP 14 0 ar_Mo_unitOf rfl rfl hdg kk
theorem ar_Mo_baseOf : (wM cI cL ad mc mk mr)[15]? = some (ad 15, .inl (cI, 20, .inl (mr_baseOf mr))) := rfl
theorem ld_Mo_baseOf (hx : p.tables.exec = Jvm.exec) (hb : c.code = cc) (hK : va_K D clX (tyX cI cL) s) (hP : va_P D clX (wM cI cL ad mc mk mr) H) {i : Int32} (hin : vp_in i 20) {v : Int32} (hv : v = mr_baseOf mr i.toNatClampNeg) (hdg : decode cc pc = .ok (.iaload, 1)) (kk : W p l e R s m args below meth c H locs cells slots Q (F0 m (pc + 1) ls (.int v :: rest))) : W p l e R s m args below meth c H locs cells slots Q (F0 m (pc) ls (.int i :: .ref (ad 15) :: rest)) := by
  subst hv; exact va_iald hx hb hK hP 15 0 ar_Mo_baseOf rfl hin hdg kk
theorem st_Mo_baseOf (hx : p.tables.exec = Jvm.exec) (hb : c.code = cc) (hK : va_K D clX (tyX cI cL) s) (hP : va_P D clX (wM cI cL ad mc mk mr) H) (hD : va_D A (wM cI cL ad mc mk mr)) (hS : va_S A H0 H locs) {i : Int32} {x : Int32} (hin : vp_in i 20) (hdg : decode cc pc = .ok (.iastore, 1)) (kk : ∀ (H1 : Heap) (locs1 : List Loc), va_P D clX (wM cI cL ad mc mk (mr_baseOf_s mr (upd (mr_baseOf mr) i.toNatClampNeg x))) H1 → va_D A (wM cI cL ad mc mk (mr_baseOf_s mr (upd (mr_baseOf mr) i.toNatClampNeg x))) → va_S A H0 H1 locs1 → W p l e R s m args below meth c H1 locs1 cells slots Q (F0 m (pc + 1) ls (rest))) : W p l e R s m args below meth c H locs cells slots Q (F0 m (pc) ls (.int x :: .int i :: .ref (ad 15) :: rest)) :=
  va_iast hx hb hK hP hD hS 15 0 ar_Mo_baseOf rfl hin hdg kk
theorem le_Mo_baseOf (hx : p.tables.exec = Jvm.exec) (hb : c.code = cc) (hK : va_K D clX (tyX cI cL) s) (hP : va_P D clX (wM cI cL ad mc mk mr) H) (hdg : decode cc pc = .ok (.arraylength, 1)) (kk : W p l e R s m args below meth c H locs cells slots Q (F0 m (pc + 1) ls (.int 20 :: rest))) : W p l e R s m args below meth c H locs cells slots Q (F0 m (pc) ls (.ref (ad 15) :: rest)) :=
  va_alen hx hb hK hP 15 0 ar_Mo_baseOf rfl rfl hdg kk
theorem ar_Mo_nextOf : (wM cI cL ad mc mk mr)[16]? = some (ad 16, .inl (cI, 20, .inl (mr_nextOf mr))) := rfl
theorem ld_Mo_nextOf (hx : p.tables.exec = Jvm.exec) (hb : c.code = cc) (hK : va_K D clX (tyX cI cL) s) (hP : va_P D clX (wM cI cL ad mc mk mr) H) {i : Int32} (hin : vp_in i 20) {v : Int32} (hv : v = mr_nextOf mr i.toNatClampNeg) (hdg : decode cc pc = .ok (.iaload, 1)) (kk : W p l e R s m args below meth c H locs cells slots Q (F0 m (pc + 1) ls (.int v :: rest))) : W p l e R s m args below meth c H locs cells slots Q (F0 m (pc) ls (.int i :: .ref (ad 16) :: rest)) := by
  subst hv; exact va_iald hx hb hK hP 16 0 ar_Mo_nextOf rfl hin hdg kk
theorem st_Mo_nextOf (hx : p.tables.exec = Jvm.exec) (hb : c.code = cc) (hK : va_K D clX (tyX cI cL) s) (hP : va_P D clX (wM cI cL ad mc mk mr) H) (hD : va_D A (wM cI cL ad mc mk mr)) (hS : va_S A H0 H locs) {i : Int32} {x : Int32} (hin : vp_in i 20) (hdg : decode cc pc = .ok (.iastore, 1)) (kk : ∀ (H1 : Heap) (locs1 : List Loc), va_P D clX (wM cI cL ad mc mk (mr_nextOf_s mr (upd (mr_nextOf mr) i.toNatClampNeg x))) H1 → va_D A (wM cI cL ad mc mk (mr_nextOf_s mr (upd (mr_nextOf mr) i.toNatClampNeg x))) → va_S A H0 H1 locs1 → W p l e R s m args below meth c H1 locs1 cells slots Q (F0 m (pc + 1) ls (rest))) : W p l e R s m args below meth c H locs cells slots Q (F0 m (pc) ls (.int x :: .int i :: .ref (ad 16) :: rest)) :=
  va_iast hx hb hK hP hD hS 16 0 ar_Mo_nextOf rfl hin hdg kk
theorem le_Mo_nextOf (hx : p.tables.exec = Jvm.exec) (hb : c.code = cc) (hK : va_K D clX (tyX cI cL) s) (hP : va_P D clX (wM cI cL ad mc mk mr) H) (hdg : decode cc pc = .ok (.arraylength, 1)) (kk : W p l e R s m args below meth c H locs cells slots Q (F0 m (pc + 1) ls (.int 20 :: rest))) : W p l e R s m args below meth c H locs cells slots Q (F0 m (pc) ls (.ref (ad 16) :: rest)) :=
  va_alen hx hb hK hP 16 0 ar_Mo_nextOf rfl rfl hdg kk
end WROWS
end
section
/-! printed by wip/gen/gen2.py: methods' names and what the tables say of them; the links -/
def y_Sm_init : MethodName := ⟨"ScanMachine", "<init>", "()V"⟩
abbrev b_Sm_init : ByteArray := prog_1_method_1_code
set_option maxRecDepth 20000 in
theorem ok_Sm_init : MOK y_Sm_init b_Sm_init 1 none 0 := ⟨tb_at (lt_s1 18 rfl) rfl, tb_at (lt_s1 1 rfl) rfl, by decide +kernel, by decide +kernel, by decide +kernel⟩
set_option maxRecDepth 20000 in
theorem is_Sm_init : Cond.instanceMethod y_Sm_init ∈ TB := tb_at (lt_s1 17 rfl) rfl
def y_Sm_begin : MethodName := ⟨"ScanMachine", "begin", "(I)I"⟩
abbrev b_Sm_begin : ByteArray := prog_1_method_2_code
set_option maxRecDepth 20000 in
theorem ok_Sm_begin : MOK y_Sm_begin b_Sm_begin 2 (some .int) 1 := ⟨tb_at (lt_s2 26 rfl) rfl, tb_at (lt_s1 1 rfl) rfl, by decide +kernel, by decide +kernel, by decide +kernel⟩
set_option maxRecDepth 20000 in
theorem is_Sm_begin : MIN y_Sm_begin := ⟨tb_at (lt_s2 24 rfl) rfl, tb_at (lt_s2 25 rfl) rfl⟩
def y_Sm_unit : MethodName := ⟨"ScanMachine", "unit", "(II)I"⟩
abbrev b_Sm_unit : ByteArray := prog_1_method_3_code
set_option maxRecDepth 20000 in
theorem ok_Sm_unit : MOK y_Sm_unit b_Sm_unit 4 (some .int) 2 := ⟨tb_at (lt_s2 49 rfl) rfl, tb_at (lt_s1 1 rfl) rfl, by decide +kernel, by decide +kernel, by decide +kernel⟩
set_option maxRecDepth 20000 in
theorem is_Sm_unit : MIN y_Sm_unit := ⟨tb_at (lt_s2 47 rfl) rfl, tb_at (lt_s2 48 rfl) rfl⟩
def y_Sm_add : MethodName := ⟨"ScanMachine", "add", "(IIII)I"⟩
abbrev b_Sm_add : ByteArray := prog_1_method_4_code
set_option maxRecDepth 20000 in
theorem ok_Sm_add : MOK y_Sm_add b_Sm_add 5 (some .int) 4 := ⟨tb_at (lt_s2 62 rfl) rfl, tb_at (lt_s1 1 rfl) rfl, by decide +kernel, by decide +kernel, by decide +kernel⟩
set_option maxRecDepth 20000 in
theorem is_Sm_add : MIN y_Sm_add := ⟨tb_at (lt_s2 60 rfl) rfl, tb_at (lt_s2 61 rfl) rfl⟩
def y_Sm_start : MethodName := ⟨"ScanMachine", "start", "()I"⟩
abbrev b_Sm_start : ByteArray := prog_1_method_5_code
set_option maxRecDepth 20000 in
theorem ok_Sm_start : MOK y_Sm_start b_Sm_start 4 (some .int) 0 := ⟨tb_at (lt_s2 75 rfl) rfl, tb_at (lt_s1 1 rfl) rfl, by decide +kernel, by decide +kernel, by decide +kernel⟩
set_option maxRecDepth 20000 in
theorem is_Sm_start : MIN y_Sm_start := ⟨tb_at (lt_s2 73 rfl) rfl, tb_at (lt_s2 74 rfl) rfl⟩
def y_Sm_scan : MethodName := ⟨"ScanMachine", "scan", "(I)I"⟩
abbrev b_Sm_scan : ByteArray := prog_1_method_6_code
set_option maxRecDepth 20000 in
theorem ok_Sm_scan : MOK y_Sm_scan b_Sm_scan 3 (some .int) 1 := ⟨tb_at (lt_s3 41 rfl) rfl, tb_at (lt_s1 1 rfl) rfl, by decide +kernel, by decide +kernel, by decide +kernel⟩
set_option maxRecDepth 20000 in
theorem is_Sm_scan : MIN y_Sm_scan := ⟨tb_at (lt_s3 39 rfl) rfl, tb_at (lt_s3 40 rfl) rfl⟩
def y_Sm_set : MethodName := ⟨"ScanMachine", "set", "(II)I"⟩
abbrev b_Sm_set : ByteArray := prog_1_method_7_code
set_option maxRecDepth 20000 in
theorem ok_Sm_set : MOK y_Sm_set b_Sm_set 4 (some .int) 2 := ⟨tb_at (lt_s3 178 rfl) rfl, tb_at (lt_s1 1 rfl) rfl, by decide +kernel, by decide +kernel, by decide +kernel⟩
set_option maxRecDepth 20000 in
theorem is_Sm_set : MIN y_Sm_set := ⟨tb_at (lt_s3 176 rfl) rfl, tb_at (lt_s3 177 rfl) rfl⟩
def y_Sm_get : MethodName := ⟨"ScanMachine", "get", "(I)I"⟩
abbrev b_Sm_get : ByteArray := prog_1_method_8_code
set_option maxRecDepth 20000 in
theorem ok_Sm_get : MOK y_Sm_get b_Sm_get 2 (some .int) 1 := ⟨tb_at (lt_s3 188 rfl) rfl, tb_at (lt_s1 1 rfl) rfl, by decide +kernel, by decide +kernel, by decide +kernel⟩
set_option maxRecDepth 20000 in
theorem is_Sm_get : MIN y_Sm_get := ⟨tb_at (lt_s3 186 rfl) rfl, tb_at (lt_s3 187 rfl) rfl⟩
def y_Sm_count : MethodName := ⟨"ScanMachine", "count", "(I)I"⟩
abbrev b_Sm_count : ByteArray := prog_1_method_9_code
set_option maxRecDepth 20000 in
theorem ok_Sm_count : MOK y_Sm_count b_Sm_count 2 (some .int) 1 := ⟨tb_at (lt_s3 192 rfl) rfl, tb_at (lt_s1 1 rfl) rfl, by decide +kernel, by decide +kernel, by decide +kernel⟩
set_option maxRecDepth 20000 in
theorem is_Sm_count : MIN y_Sm_count := ⟨tb_at (lt_s3 190 rfl) rfl, tb_at (lt_s3 191 rfl) rfl⟩
def y_Sm_mayTouch : MethodName := ⟨"ScanMachine", "mayTouch", "(I)Z"⟩
abbrev b_Sm_mayTouch : ByteArray := prog_1_method_10_code
set_option maxRecDepth 20000 in
theorem ok_Sm_mayTouch : MOK y_Sm_mayTouch b_Sm_mayTouch 2 (some .boolean) 1 := ⟨tb_at (lt_s3 182 rfl) rfl, tb_at (lt_s1 1 rfl) rfl, by decide +kernel, by decide +kernel, by decide +kernel⟩
set_option maxRecDepth 20000 in
theorem is_Sm_mayTouch : MIN y_Sm_mayTouch := ⟨tb_at (lt_s3 181 rfl) rfl, tb_at (lt_s0 72 rfl) rfl⟩
def y_Sm_halt : MethodName := ⟨"ScanMachine", "halt", "()V"⟩
abbrev b_Sm_halt : ByteArray := prog_1_method_11_code
set_option maxRecDepth 20000 in
theorem ok_Sm_halt : MOK y_Sm_halt b_Sm_halt 1 none 0 := ⟨tb_at (lt_s2 30 rfl) rfl, tb_at (lt_s1 1 rfl) rfl, by decide +kernel, by decide +kernel, by decide +kernel⟩
set_option maxRecDepth 20000 in
theorem is_Sm_halt : MIN y_Sm_halt := ⟨tb_at (lt_s2 29 rfl) rfl, tb_at (lt_s0 0 rfl) rfl⟩
def y_Sm_firstFault : MethodName := ⟨"ScanMachine", "firstFault", "(I)I"⟩
abbrev b_Sm_firstFault : ByteArray := prog_1_method_12_code
set_option maxRecDepth 20000 in
theorem ok_Sm_firstFault : MOK y_Sm_firstFault b_Sm_firstFault 3 (some .int) 1 := ⟨tb_at (lt_s2 83 rfl) rfl, tb_at (lt_s1 1 rfl) rfl, by decide +kernel, by decide +kernel, by decide +kernel⟩
set_option maxRecDepth 20000 in
theorem is_Sm_firstFault : MIN y_Sm_firstFault := ⟨tb_at (lt_s2 82 rfl) rfl, tb_at (lt_s0 9 rfl) rfl⟩
def y_Mo_init : MethodName := ⟨"ScanMachineModel", "<init>", "()V"⟩
abbrev b_Mo_init : ByteArray := prog_12_method_1_code
set_option maxRecDepth 20000 in
theorem ok_Mo_init : MOK y_Mo_init b_Mo_init 1 none 0 := ⟨tb_at (lt_s3 197 rfl) rfl, tb_at (lt_s1 10 rfl) rfl, by decide +kernel, by decide +kernel, by decide +kernel⟩
set_option maxRecDepth 20000 in
theorem is_Mo_init : Cond.instanceMethod y_Mo_init ∈ TB := tb_at (lt_s3 196 rfl) rfl
def y_Mo_stop : MethodName := ⟨"ScanMachineModel", "stop", "()V"⟩
abbrev b_Mo_stop : ByteArray := prog_12_method_3_code
set_option maxRecDepth 20000 in
theorem ok_Mo_stop : MOK y_Mo_stop b_Mo_stop 2 none 0 := ⟨tb_at (lt_s3 206 rfl) rfl, tb_at (lt_s1 10 rfl) rfl, by decide +kernel, by decide +kernel, by decide +kernel⟩
set_option maxRecDepth 20000 in
theorem is_Mo_stop : MIN y_Mo_stop := ⟨tb_at (lt_s3 205 rfl) rfl, tb_at (lt_s0 73 rfl) rfl⟩
def y_Mo_begin : MethodName := ⟨"ScanMachineModel", "begin", "(I)I"⟩
abbrev b_Mo_begin : ByteArray := prog_12_method_4_code
set_option maxRecDepth 20000 in
theorem ok_Mo_begin : MOK y_Mo_begin b_Mo_begin 2 (some .int) 1 := ⟨tb_at (lt_s3 202 rfl) rfl, tb_at (lt_s1 10 rfl) rfl, by decide +kernel, by decide +kernel, by decide +kernel⟩
set_option maxRecDepth 20000 in
theorem is_Mo_begin : MIN y_Mo_begin := ⟨tb_at (lt_s3 200 rfl) rfl, tb_at (lt_s3 201 rfl) rfl⟩
def y_Mo_unit : MethodName := ⟨"ScanMachineModel", "unit", "(II)I"⟩
abbrev b_Mo_unit : ByteArray := prog_12_method_5_code
set_option maxRecDepth 20000 in
theorem ok_Mo_unit : MOK y_Mo_unit b_Mo_unit 3 (some .int) 2 := ⟨tb_at (lt_s4 56 rfl) rfl, tb_at (lt_s1 10 rfl) rfl, by decide +kernel, by decide +kernel, by decide +kernel⟩
set_option maxRecDepth 20000 in
theorem is_Mo_unit : MIN y_Mo_unit := ⟨tb_at (lt_s4 54 rfl) rfl, tb_at (lt_s4 55 rfl) rfl⟩
def y_Mo_add : MethodName := ⟨"ScanMachineModel", "add", "(IIII)I"⟩
abbrev b_Mo_add : ByteArray := prog_12_method_6_code
set_option maxRecDepth 20000 in
theorem ok_Mo_add : MOK y_Mo_add b_Mo_add 5 (some .int) 4 := ⟨tb_at (lt_s4 60 rfl) rfl, tb_at (lt_s1 10 rfl) rfl, by decide +kernel, by decide +kernel, by decide +kernel⟩
set_option maxRecDepth 20000 in
theorem is_Mo_add : MIN y_Mo_add := ⟨tb_at (lt_s4 58 rfl) rfl, tb_at (lt_s4 59 rfl) rfl⟩
def y_Mo_isIn : MethodName := ⟨"ScanMachineModel", "isIn", "(JJJ)Z"⟩
abbrev b_Mo_isIn : ByteArray := prog_12_method_7_code
set_option maxRecDepth 20000 in
theorem ok_Mo_isIn : MOK y_Mo_isIn b_Mo_isIn 6 (some .boolean) 3 := ⟨tb_at (lt_s4 84 rfl) rfl, tb_at (lt_s1 10 rfl) rfl, by decide +kernel, by decide +kernel, by decide +kernel⟩
set_option maxRecDepth 20000 in
theorem is_Mo_isIn : Cond.static y_Mo_isIn ∈ TB := tb_at (lt_s4 83 rfl) rfl
def y_Mo_placeIsWrong : MethodName := ⟨"ScanMachineModel", "placeIsWrong", "(I)Z"⟩
abbrev b_Mo_placeIsWrong : ByteArray := prog_12_method_8_code
set_option maxRecDepth 20000 in
theorem ok_Mo_placeIsWrong : MOK y_Mo_placeIsWrong b_Mo_placeIsWrong 5 (some .boolean) 1 := ⟨tb_at (lt_s4 72 rfl) rfl, tb_at (lt_s1 10 rfl) rfl, by decide +kernel, by decide +kernel, by decide +kernel⟩
set_option maxRecDepth 20000 in
theorem is_Mo_placeIsWrong : MIN y_Mo_placeIsWrong := ⟨tb_at (lt_s4 71 rfl) rfl, tb_at (lt_s0 75 rfl) rfl⟩
def y_Mo_isWrongNumber : MethodName := ⟨"ScanMachineModel", "isWrongNumber", "(I)Z"⟩
abbrev b_Mo_isWrongNumber : ByteArray := prog_12_method_9_code
set_option maxRecDepth 20000 in
theorem ok_Mo_isWrongNumber : MOK y_Mo_isWrongNumber b_Mo_isWrongNumber 2 (some .boolean) 1 := ⟨tb_at (lt_s4 80 rfl) rfl, tb_at (lt_s1 10 rfl) rfl, by decide +kernel, by decide +kernel, by decide +kernel⟩
set_option maxRecDepth 20000 in
theorem is_Mo_isWrongNumber : MIN y_Mo_isWrongNumber := ⟨tb_at (lt_s4 79 rfl) rfl, tb_at (lt_s0 77 rfl) rfl⟩
def y_Mo_namesUnit : MethodName := ⟨"ScanMachineModel", "namesUnit", "(I)Z"⟩
abbrev b_Mo_namesUnit : ByteArray := prog_12_method_10_code
set_option maxRecDepth 20000 in
theorem ok_Mo_namesUnit : MOK y_Mo_namesUnit b_Mo_namesUnit 3 (some .boolean) 1 := ⟨tb_at (lt_s4 96 rfl) rfl, tb_at (lt_s1 10 rfl) rfl, by decide +kernel, by decide +kernel, by decide +kernel⟩
set_option maxRecDepth 20000 in
theorem is_Mo_namesUnit : MIN y_Mo_namesUnit := ⟨tb_at (lt_s4 95 rfl) rfl, tb_at (lt_s0 79 rfl) rfl⟩
def y_Mo_isWrongUnit : MethodName := ⟨"ScanMachineModel", "isWrongUnit", "(II)Z"⟩
abbrev b_Mo_isWrongUnit : ByteArray := prog_12_method_11_code
set_option maxRecDepth 20000 in
theorem ok_Mo_isWrongUnit : MOK y_Mo_isWrongUnit b_Mo_isWrongUnit 3 (some .boolean) 2 := ⟨tb_at (lt_s4 92 rfl) rfl, tb_at (lt_s1 10 rfl) rfl, by decide +kernel, by decide +kernel, by decide +kernel⟩
set_option maxRecDepth 20000 in
theorem is_Mo_isWrongUnit : MIN y_Mo_isWrongUnit := ⟨tb_at (lt_s4 91 rfl) rfl, tb_at (lt_s0 78 rfl) rfl⟩
def y_Mo_firstCell : MethodName := ⟨"ScanMachineModel", "firstCell", "(I)J"⟩
abbrev b_Mo_firstCell : ByteArray := prog_12_method_12_code
set_option maxRecDepth 20000 in
theorem ok_Mo_firstCell : MOK y_Mo_firstCell b_Mo_firstCell 3 (some .long) 1 := ⟨tb_at (lt_s4 108 rfl) rfl, tb_at (lt_s1 10 rfl) rfl, by decide +kernel, by decide +kernel, by decide +kernel⟩
set_option maxRecDepth 20000 in
theorem is_Mo_firstCell : MIN y_Mo_firstCell := ⟨tb_at (lt_s4 107 rfl) rfl, tb_at (lt_s0 82 rfl) rfl⟩
def y_Mo_cellsOf : MethodName := ⟨"ScanMachineModel", "cellsOf", "(I)I"⟩
abbrev b_Mo_cellsOf : ByteArray := prog_12_method_13_code
set_option maxRecDepth 20000 in
theorem ok_Mo_cellsOf : MOK y_Mo_cellsOf b_Mo_cellsOf 2 (some .int) 1 := ⟨tb_at (lt_s4 104 rfl) rfl, tb_at (lt_s1 10 rfl) rfl, by decide +kernel, by decide +kernel, by decide +kernel⟩
set_option maxRecDepth 20000 in
theorem is_Mo_cellsOf : MIN y_Mo_cellsOf := ⟨tb_at (lt_s4 103 rfl) rfl, tb_at (lt_s0 81 rfl) rfl⟩
def y_Mo_isWrongCell : MethodName := ⟨"ScanMachineModel", "isWrongCell", "(II)Z"⟩
abbrev b_Mo_isWrongCell : ByteArray := prog_12_method_14_code
set_option maxRecDepth 20000 in
theorem ok_Mo_isWrongCell : MOK y_Mo_isWrongCell b_Mo_isWrongCell 5 (some .boolean) 2 := ⟨tb_at (lt_s4 100 rfl) rfl, tb_at (lt_s1 10 rfl) rfl, by decide +kernel, by decide +kernel, by decide +kernel⟩
set_option maxRecDepth 20000 in
theorem is_Mo_isWrongCell : MIN y_Mo_isWrongCell := ⟨tb_at (lt_s4 99 rfl) rfl, tb_at (lt_s0 80 rfl) rfl⟩
def y_Mo_isCounter : MethodName := ⟨"ScanMachineModel", "isCounter", "(IJ)Z"⟩
abbrev b_Mo_isCounter : ByteArray := prog_12_method_15_code
set_option maxRecDepth 20000 in
theorem ok_Mo_isCounter : MOK y_Mo_isCounter b_Mo_isCounter 6 (some .boolean) 2 := ⟨tb_at (lt_s4 116 rfl) rfl, tb_at (lt_s1 10 rfl) rfl, by decide +kernel, by decide +kernel, by decide +kernel⟩
set_option maxRecDepth 20000 in
theorem is_Mo_isCounter : MIN y_Mo_isCounter := ⟨tb_at (lt_s4 115 rfl) rfl, tb_at (lt_s0 84 rfl) rfl⟩
def y_Mo_touchesCounter : MethodName := ⟨"ScanMachineModel", "touchesCounter", "(II)Z"⟩
abbrev b_Mo_touchesCounter : ByteArray := prog_12_method_16_code
set_option maxRecDepth 20000 in
theorem ok_Mo_touchesCounter : MOK y_Mo_touchesCounter b_Mo_touchesCounter 7 (some .boolean) 2 := ⟨tb_at (lt_s4 112 rfl) rfl, tb_at (lt_s1 10 rfl) rfl, by decide +kernel, by decide +kernel, by decide +kernel⟩
set_option maxRecDepth 20000 in
theorem is_Mo_touchesCounter : MIN y_Mo_touchesCounter := ⟨tb_at (lt_s4 111 rfl) rfl, tb_at (lt_s0 83 rfl) rfl⟩
def y_Mo_numberAt : MethodName := ⟨"ScanMachineModel", "numberAt", "(I)I"⟩
abbrev b_Mo_numberAt : ByteArray := prog_12_method_17_code
set_option maxRecDepth 20000 in
theorem ok_Mo_numberAt : MOK y_Mo_numberAt b_Mo_numberAt 2 (some .int) 1 := ⟨tb_at (lt_s4 124 rfl) rfl, tb_at (lt_s1 10 rfl) rfl, by decide +kernel, by decide +kernel, by decide +kernel⟩
set_option maxRecDepth 20000 in
theorem is_Mo_numberAt : MIN y_Mo_numberAt := ⟨tb_at (lt_s4 123 rfl) rfl, tb_at (lt_s0 86 rfl) rfl⟩
def y_Mo_goesWrong : MethodName := ⟨"ScanMachineModel", "goesWrong", "(I)Z"⟩
abbrev b_Mo_goesWrong : ByteArray := prog_12_method_18_code
set_option maxRecDepth 20000 in
theorem ok_Mo_goesWrong : MOK y_Mo_goesWrong b_Mo_goesWrong 2 (some .boolean) 1 := ⟨tb_at (lt_s4 120 rfl) rfl, tb_at (lt_s1 10 rfl) rfl, by decide +kernel, by decide +kernel, by decide +kernel⟩
set_option maxRecDepth 20000 in
theorem is_Mo_goesWrong : MIN y_Mo_goesWrong := ⟨tb_at (lt_s4 119 rfl) rfl, tb_at (lt_s0 85 rfl) rfl⟩
def y_Mo_lineFault : MethodName := ⟨"ScanMachineModel", "lineFault", "(II)I"⟩
abbrev b_Mo_lineFault : ByteArray := prog_12_method_19_code
set_option maxRecDepth 20000 in
theorem ok_Mo_lineFault : MOK y_Mo_lineFault b_Mo_lineFault 4 (some .int) 2 := ⟨tb_at (lt_s4 76 rfl) rfl, tb_at (lt_s1 10 rfl) rfl, by decide +kernel, by decide +kernel, by decide +kernel⟩
set_option maxRecDepth 20000 in
theorem is_Mo_lineFault : MIN y_Mo_lineFault := ⟨tb_at (lt_s4 75 rfl) rfl, tb_at (lt_s0 76 rfl) rfl⟩
def y_Mo_lastOf : MethodName := ⟨"ScanMachineModel", "lastOf", "(I)I"⟩
abbrev b_Mo_lastOf : ByteArray := prog_12_method_20_code
set_option maxRecDepth 20000 in
theorem ok_Mo_lastOf : MOK y_Mo_lastOf b_Mo_lastOf 2 (some .int) 1 := ⟨tb_at (lt_s4 140 rfl) rfl, tb_at (lt_s1 10 rfl) rfl, by decide +kernel, by decide +kernel, by decide +kernel⟩
set_option maxRecDepth 20000 in
theorem is_Mo_lastOf : MIN y_Mo_lastOf := ⟨tb_at (lt_s4 139 rfl) rfl, tb_at (lt_s0 90 rfl) rfl⟩
def y_Mo_isInLoop : MethodName := ⟨"ScanMachineModel", "isInLoop", "(II)Z"⟩
abbrev b_Mo_isInLoop : ByteArray := prog_12_method_21_code
set_option maxRecDepth 20000 in
theorem ok_Mo_isInLoop : MOK y_Mo_isInLoop b_Mo_isInLoop 3 (some .boolean) 2 := ⟨tb_at (lt_s4 136 rfl) rfl, tb_at (lt_s1 10 rfl) rfl, by decide +kernel, by decide +kernel, by decide +kernel⟩
set_option maxRecDepth 20000 in
theorem is_Mo_isInLoop : MIN y_Mo_isInLoop := ⟨tb_at (lt_s4 135 rfl) rfl, tb_at (lt_s0 89 rfl) rfl⟩
def y_Mo_hasSame : MethodName := ⟨"ScanMachineModel", "hasSame", "(III)Z"⟩
abbrev b_Mo_hasSame : ByteArray := prog_12_method_22_code
set_option maxRecDepth 20000 in
theorem ok_Mo_hasSame : MOK y_Mo_hasSame b_Mo_hasSame 4 (some .boolean) 3 := ⟨tb_at (lt_s4 132 rfl) rfl, tb_at (lt_s1 10 rfl) rfl, by decide +kernel, by decide +kernel, by decide +kernel⟩
set_option maxRecDepth 20000 in
theorem is_Mo_hasSame : MIN y_Mo_hasSame := ⟨tb_at (lt_s4 131 rfl) rfl, tb_at (lt_s0 88 rfl) rfl⟩
def y_Mo_isWrongLoop : MethodName := ⟨"ScanMachineModel", "isWrongLoop", "(I)Z"⟩
abbrev b_Mo_isWrongLoop : ByteArray := prog_12_method_23_code
set_option maxRecDepth 20000 in
theorem ok_Mo_isWrongLoop : MOK y_Mo_isWrongLoop b_Mo_isWrongLoop 8 (some .boolean) 1 := ⟨tb_at (lt_s4 128 rfl) rfl, tb_at (lt_s1 10 rfl) rfl, by decide +kernel, by decide +kernel, by decide +kernel⟩
set_option maxRecDepth 20000 in
theorem is_Mo_isWrongLoop : MIN y_Mo_isWrongLoop := ⟨tb_at (lt_s4 127 rfl) rfl, tb_at (lt_s0 87 rfl) rfl⟩
def y_Mo_taken : MethodName := ⟨"ScanMachineModel", "taken", "(I)I"⟩
abbrev b_Mo_taken : ByteArray := prog_12_method_24_code
set_option maxRecDepth 20000 in
theorem ok_Mo_taken : MOK y_Mo_taken b_Mo_taken 1 (some .int) 1 := ⟨tb_at (lt_s4 147 rfl) rfl, tb_at (lt_s1 10 rfl) rfl, by decide +kernel, by decide +kernel, by decide +kernel⟩
set_option maxRecDepth 20000 in
theorem is_Mo_taken : Cond.static y_Mo_taken ∈ TB := tb_at (lt_s4 146 rfl) rfl
def y_Mo_left : MethodName := ⟨"ScanMachineModel", "left", "(I)I"⟩
abbrev b_Mo_left : ByteArray := prog_12_method_25_code
set_option maxRecDepth 20000 in
theorem ok_Mo_left : MOK y_Mo_left b_Mo_left 2 (some .int) 1 := ⟨tb_at (lt_s4 150 rfl) rfl, tb_at (lt_s1 10 rfl) rfl, by decide +kernel, by decide +kernel, by decide +kernel⟩
set_option maxRecDepth 20000 in
theorem is_Mo_left : Cond.static y_Mo_left ∈ TB := tb_at (lt_s4 149 rfl) rfl
def y_Mo_comes : MethodName := ⟨"ScanMachineModel", "comes", "(II)Z"⟩
abbrev b_Mo_comes : ByteArray := prog_12_method_26_code
set_option maxRecDepth 20000 in
theorem ok_Mo_comes : MOK y_Mo_comes b_Mo_comes 3 (some .boolean) 2 := ⟨tb_at (lt_s4 154 rfl) rfl, tb_at (lt_s1 10 rfl) rfl, by decide +kernel, by decide +kernel, by decide +kernel⟩
set_option maxRecDepth 20000 in
theorem is_Mo_comes : MIN y_Mo_comes := ⟨tb_at (lt_s4 153 rfl) rfl, tb_at (lt_s0 92 rfl) rfl⟩
def y_Mo_stackFault : MethodName := ⟨"ScanMachineModel", "stackFault", "(I)I"⟩
abbrev b_Mo_stackFault : ByteArray := prog_12_method_27_code
set_option maxRecDepth 20000 in
theorem ok_Mo_stackFault : MOK y_Mo_stackFault b_Mo_stackFault 5 (some .int) 1 := ⟨tb_at (lt_s4 144 rfl) rfl, tb_at (lt_s1 10 rfl) rfl, by decide +kernel, by decide +kernel, by decide +kernel⟩
set_option maxRecDepth 20000 in
theorem is_Mo_stackFault : MIN y_Mo_stackFault := ⟨tb_at (lt_s4 143 rfl) rfl, tb_at (lt_s0 91 rfl) rfl⟩
def y_Mo_cut : MethodName := ⟨"ScanMachineModel", "cut", "(J)J"⟩
abbrev b_Mo_cut : ByteArray := prog_12_method_28_code
set_option maxRecDepth 20000 in
theorem ok_Mo_cut : MOK y_Mo_cut b_Mo_cut 2 (some .long) 1 := ⟨tb_at (lt_s4 173 rfl) rfl, tb_at (lt_s1 10 rfl) rfl, by decide +kernel, by decide +kernel, by decide +kernel⟩
set_option maxRecDepth 20000 in
theorem is_Mo_cut : Cond.static y_Mo_cut ∈ TB := tb_at (lt_s4 172 rfl) rfl
def y_Mo_greater : MethodName := ⟨"ScanMachineModel", "greater", "(JJ)J"⟩
abbrev b_Mo_greater : ByteArray := prog_12_method_29_code
set_option maxRecDepth 20000 in
theorem ok_Mo_greater : MOK y_Mo_greater b_Mo_greater 4 (some .long) 2 := ⟨tb_at (lt_s4 177 rfl) rfl, tb_at (lt_s1 10 rfl) rfl, by decide +kernel, by decide +kernel, by decide +kernel⟩
set_option maxRecDepth 20000 in
theorem is_Mo_greater : Cond.static y_Mo_greater ∈ TB := tb_at (lt_s4 176 rfl) rfl
def y_Mo_behind : MethodName := ⟨"ScanMachineModel", "behind", "(JJ)J"⟩
abbrev b_Mo_behind : ByteArray := prog_12_method_30_code
set_option maxRecDepth 20000 in
theorem ok_Mo_behind : MOK y_Mo_behind b_Mo_behind 4 (some .long) 2 := ⟨tb_at (lt_s4 170 rfl) rfl, tb_at (lt_s1 10 rfl) rfl, by decide +kernel, by decide +kernel, by decide +kernel⟩
set_option maxRecDepth 20000 in
theorem is_Mo_behind : Cond.static y_Mo_behind ∈ TB := tb_at (lt_s4 169 rfl) rfl
def y_Mo_times : MethodName := ⟨"ScanMachineModel", "times", "(IJ)J"⟩
abbrev b_Mo_times : ByteArray := prog_12_method_31_code
set_option maxRecDepth 20000 in
theorem ok_Mo_times : MOK y_Mo_times b_Mo_times 4 (some .long) 2 := ⟨tb_at (lt_s4 181 rfl) rfl, tb_at (lt_s1 10 rfl) rfl, by decide +kernel, by decide +kernel, by decide +kernel⟩
set_option maxRecDepth 20000 in
theorem is_Mo_times : MIN y_Mo_times := ⟨tb_at (lt_s4 180 rfl) rfl, tb_at (lt_s0 96 rfl) rfl⟩
def y_Mo_way : MethodName := ⟨"ScanMachineModel", "way", "(II)J"⟩
abbrev b_Mo_way : ByteArray := prog_12_method_32_code
set_option maxRecDepth 20000 in
theorem ok_Mo_way : MOK y_Mo_way b_Mo_way 12 (some .long) 2 := ⟨tb_at (lt_s4 162 rfl) rfl, tb_at (lt_s1 10 rfl) rfl, by decide +kernel, by decide +kernel, by decide +kernel⟩
set_option maxRecDepth 20000 in
theorem is_Mo_way : MIN y_Mo_way := ⟨tb_at (lt_s4 161 rfl) rfl, tb_at (lt_s0 94 rfl) rfl⟩
def y_Mo_wayTo : MethodName := ⟨"ScanMachineModel", "wayTo", "(II)J"⟩
abbrev b_Mo_wayTo : ByteArray := prog_12_method_33_code
set_option maxRecDepth 20000 in
theorem ok_Mo_wayTo : MOK y_Mo_wayTo b_Mo_wayTo 3 (some .long) 2 := ⟨tb_at (lt_s4 166 rfl) rfl, tb_at (lt_s1 10 rfl) rfl, by decide +kernel, by decide +kernel, by decide +kernel⟩
set_option maxRecDepth 20000 in
theorem is_Mo_wayTo : MIN y_Mo_wayTo := ⟨tb_at (lt_s4 165 rfl) rfl, tb_at (lt_s0 95 rfl) rfl⟩
def y_Mo_stepsOf : MethodName := ⟨"ScanMachineModel", "stepsOf", "()J"⟩
abbrev b_Mo_stepsOf : ByteArray := prog_12_method_34_code
set_option maxRecDepth 20000 in
theorem ok_Mo_stepsOf : MOK y_Mo_stepsOf b_Mo_stepsOf 3 (some .long) 0 := ⟨tb_at (lt_s4 158 rfl) rfl, tb_at (lt_s1 10 rfl) rfl, by decide +kernel, by decide +kernel, by decide +kernel⟩
set_option maxRecDepth 20000 in
theorem is_Mo_stepsOf : MIN y_Mo_stepsOf := ⟨tb_at (lt_s4 157 rfl) rfl, tb_at (lt_s0 93 rfl) rfl⟩
def y_Mo_unitFault : MethodName := ⟨"ScanMachineModel", "unitFault", "(I)I"⟩
abbrev b_Mo_unitFault : ByteArray := prog_12_method_35_code
set_option maxRecDepth 20000 in
theorem ok_Mo_unitFault : MOK y_Mo_unitFault b_Mo_unitFault 4 (some .int) 1 := ⟨tb_at (lt_s4 68 rfl) rfl, tb_at (lt_s1 10 rfl) rfl, by decide +kernel, by decide +kernel, by decide +kernel⟩
set_option maxRecDepth 20000 in
theorem is_Mo_unitFault : MIN y_Mo_unitFault := ⟨tb_at (lt_s4 67 rfl) rfl, tb_at (lt_s0 74 rfl) rfl⟩
def y_Mo_start : MethodName := ⟨"ScanMachineModel", "start", "()I"⟩
abbrev b_Mo_start : ByteArray := prog_12_method_36_code
set_option maxRecDepth 20000 in
theorem ok_Mo_start : MOK y_Mo_start b_Mo_start 3 (some .int) 0 := ⟨tb_at (lt_s4 64 rfl) rfl, tb_at (lt_s1 10 rfl) rfl, by decide +kernel, by decide +kernel, by decide +kernel⟩
set_option maxRecDepth 20000 in
theorem is_Mo_start : MIN y_Mo_start := ⟨tb_at (lt_s4 62 rfl) rfl, tb_at (lt_s4 63 rfl) rfl⟩
def y_Mo_w16 : MethodName := ⟨"ScanMachineModel", "w16", "(I)I"⟩
abbrev b_Mo_w16 : ByteArray := prog_12_method_37_code
set_option maxRecDepth 20000 in
theorem ok_Mo_w16 : MOK y_Mo_w16 b_Mo_w16 1 (some .int) 1 := ⟨tb_at (lt_s4 210 rfl) rfl, tb_at (lt_s1 10 rfl) rfl, by decide +kernel, by decide +kernel, by decide +kernel⟩
set_option maxRecDepth 20000 in
theorem is_Mo_w16 : Cond.static y_Mo_w16 ∈ TB := tb_at (lt_s4 209 rfl) rfl
def y_Mo_pop : MethodName := ⟨"ScanMachineModel", "pop", "()I"⟩
abbrev b_Mo_pop : ByteArray := prog_12_method_38_code
set_option maxRecDepth 20000 in
theorem ok_Mo_pop : MOK y_Mo_pop b_Mo_pop 1 (some .int) 0 := ⟨tb_at (lt_s4 200 rfl) rfl, tb_at (lt_s1 10 rfl) rfl, by decide +kernel, by decide +kernel, by decide +kernel⟩
set_option maxRecDepth 20000 in
theorem is_Mo_pop : MIN y_Mo_pop := ⟨tb_at (lt_s4 199 rfl) rfl, tb_at (lt_s0 99 rfl) rfl⟩
def y_Mo_push : MethodName := ⟨"ScanMachineModel", "push", "(I)V"⟩
abbrev b_Mo_push : ByteArray := prog_12_method_39_code
set_option maxRecDepth 20000 in
theorem ok_Mo_push : MOK y_Mo_push b_Mo_push 2 none 1 := ⟨tb_at (lt_s4 196 rfl) rfl, tb_at (lt_s1 10 rfl) rfl, by decide +kernel, by decide +kernel, by decide +kernel⟩
set_option maxRecDepth 20000 in
theorem is_Mo_push : MIN y_Mo_push := ⟨tb_at (lt_s4 195 rfl) rfl, tb_at (lt_s0 98 rfl) rfl⟩
def y_Mo_truth : MethodName := ⟨"ScanMachineModel", "truth", "(Z)I"⟩
abbrev b_Mo_truth : ByteArray := prog_12_method_40_code
set_option maxRecDepth 20000 in
theorem ok_Mo_truth : MOK y_Mo_truth b_Mo_truth 1 (some .int) 1 := ⟨tb_at (lt_s4 213 rfl) rfl, tb_at (lt_s1 10 rfl) rfl, by decide +kernel, by decide +kernel, by decide +kernel⟩
set_option maxRecDepth 20000 in
theorem is_Mo_truth : Cond.static y_Mo_truth ∈ TB := tb_at (lt_s4 212 rfl) rfl
def y_Mo_two : MethodName := ⟨"ScanMachineModel", "two", "(III)I"⟩
abbrev b_Mo_two : ByteArray := prog_12_method_41_code
set_option maxRecDepth 20000 in
theorem ok_Mo_two : MOK y_Mo_two b_Mo_two 3 (some .int) 3 := ⟨tb_at (lt_s4 207 rfl) rfl, tb_at (lt_s1 10 rfl) rfl, by decide +kernel, by decide +kernel, by decide +kernel⟩
set_option maxRecDepth 20000 in
theorem is_Mo_two : Cond.static y_Mo_two ∈ TB := tb_at (lt_s4 206 rfl) rfl
def y_Mo_one : MethodName := ⟨"ScanMachineModel", "one", "(II)I"⟩
abbrev b_Mo_one : ByteArray := prog_12_method_42_code
set_option maxRecDepth 20000 in
theorem ok_Mo_one : MOK y_Mo_one b_Mo_one 2 (some .int) 2 := ⟨tb_at (lt_s4 217 rfl) rfl, tb_at (lt_s1 10 rfl) rfl, by decide +kernel, by decide +kernel, by decide +kernel⟩
set_option maxRecDepth 20000 in
theorem is_Mo_one : Cond.static y_Mo_one ∈ TB := tb_at (lt_s4 216 rfl) rfl
def y_Mo_grown : MethodName := ⟨"ScanMachineModel", "grown", "(II)I"⟩
abbrev b_Mo_grown : ByteArray := prog_12_method_43_code
set_option maxRecDepth 20000 in
theorem ok_Mo_grown : MOK y_Mo_grown b_Mo_grown 5 (some .int) 2 := ⟨tb_at (lt_s4 229 rfl) rfl, tb_at (lt_s1 10 rfl) rfl, by decide +kernel, by decide +kernel, by decide +kernel⟩
set_option maxRecDepth 20000 in
theorem is_Mo_grown : MIN y_Mo_grown := ⟨tb_at (lt_s4 228 rfl) rfl, tb_at (lt_s0 103 rfl) rfl⟩
def y_Mo_timer : MethodName := ⟨"ScanMachineModel", "timer", "(II)V"⟩
abbrev b_Mo_timer : ByteArray := prog_12_method_44_code
set_option maxRecDepth 20000 in
theorem ok_Mo_timer : MOK y_Mo_timer b_Mo_timer 6 none 2 := ⟨tb_at (lt_s4 225 rfl) rfl, tb_at (lt_s1 10 rfl) rfl, by decide +kernel, by decide +kernel, by decide +kernel⟩
set_option maxRecDepth 20000 in
theorem is_Mo_timer : MIN y_Mo_timer := ⟨tb_at (lt_s4 224 rfl) rfl, tb_at (lt_s0 102 rfl) rfl⟩
def y_Mo_counter : MethodName := ⟨"ScanMachineModel", "counter", "(II)V"⟩
abbrev b_Mo_counter : ByteArray := prog_12_method_45_code
set_option maxRecDepth 20000 in
theorem ok_Mo_counter : MOK y_Mo_counter b_Mo_counter 6 none 2 := ⟨tb_at (lt_s4 233 rfl) rfl, tb_at (lt_s1 10 rfl) rfl, by decide +kernel, by decide +kernel, by decide +kernel⟩
set_option maxRecDepth 20000 in
theorem is_Mo_counter : MIN y_Mo_counter := ⟨tb_at (lt_s4 232 rfl) rfl, tb_at (lt_s0 104 rfl) rfl⟩
def y_Mo_block : MethodName := ⟨"ScanMachineModel", "block", "(II)V"⟩
abbrev b_Mo_block : ByteArray := prog_12_method_46_code
set_option maxRecDepth 20000 in
theorem ok_Mo_block : MOK y_Mo_block b_Mo_block 6 none 2 := ⟨tb_at (lt_s4 221 rfl) rfl, tb_at (lt_s1 10 rfl) rfl, by decide +kernel, by decide +kernel, by decide +kernel⟩
set_option maxRecDepth 20000 in
theorem is_Mo_block : MIN y_Mo_block := ⟨tb_at (lt_s4 220 rfl) rfl, tb_at (lt_s0 101 rfl) rfl⟩
def y_Mo_index : MethodName := ⟨"ScanMachineModel", "index", "(III)I"⟩
abbrev b_Mo_index : ByteArray := prog_12_method_47_code
set_option maxRecDepth 20000 in
theorem ok_Mo_index : MOK y_Mo_index b_Mo_index 6 (some .int) 3 := ⟨tb_at (lt_s4 204 rfl) rfl, tb_at (lt_s1 10 rfl) rfl, by decide +kernel, by decide +kernel, by decide +kernel⟩
set_option maxRecDepth 20000 in
theorem is_Mo_index : MIN y_Mo_index := ⟨tb_at (lt_s4 203 rfl) rfl, tb_at (lt_s0 100 rfl) rfl⟩
def y_Mo_scan : MethodName := ⟨"ScanMachineModel", "scan", "(I)I"⟩
abbrev b_Mo_scan : ByteArray := prog_12_method_48_code
set_option maxRecDepth 20000 in
theorem ok_Mo_scan : MOK y_Mo_scan b_Mo_scan 7 (some .int) 1 := ⟨tb_at (lt_s4 187 rfl) rfl, tb_at (lt_s1 10 rfl) rfl, by decide +kernel, by decide +kernel, by decide +kernel⟩
set_option maxRecDepth 20000 in
theorem is_Mo_scan : MIN y_Mo_scan := ⟨tb_at (lt_s4 185 rfl) rfl, tb_at (lt_s4 186 rfl) rfl⟩
def y_Mo_act : MethodName := ⟨"ScanMachineModel", "act", "(II)I"⟩
abbrev b_Mo_act : ByteArray := prog_12_method_49_code
set_option maxRecDepth 20000 in
theorem ok_Mo_act : MOK y_Mo_act b_Mo_act 13 (some .int) 2 := ⟨tb_at (lt_s4 192 rfl) rfl, tb_at (lt_s1 10 rfl) rfl, by decide +kernel, by decide +kernel, by decide +kernel⟩
set_option maxRecDepth 20000 in
theorem is_Mo_act : MIN y_Mo_act := ⟨tb_at (lt_s4 191 rfl) rfl, tb_at (lt_s0 97 rfl) rfl⟩
def y_Mo_set : MethodName := ⟨"ScanMachineModel", "set", "(II)I"⟩
abbrev b_Mo_set : ByteArray := prog_12_method_50_code
set_option maxRecDepth 20000 in
theorem ok_Mo_set : MOK y_Mo_set b_Mo_set 4 (some .int) 2 := ⟨tb_at (lt_s4 237 rfl) rfl, tb_at (lt_s1 10 rfl) rfl, by decide +kernel, by decide +kernel, by decide +kernel⟩
set_option maxRecDepth 20000 in
theorem is_Mo_set : MIN y_Mo_set := ⟨tb_at (lt_s4 235 rfl) rfl, tb_at (lt_s4 236 rfl) rfl⟩
def y_Mo_get : MethodName := ⟨"ScanMachineModel", "get", "(I)I"⟩
abbrev b_Mo_get : ByteArray := prog_12_method_51_code
set_option maxRecDepth 20000 in
theorem ok_Mo_get : MOK y_Mo_get b_Mo_get 2 (some .int) 1 := ⟨tb_at (lt_s5 1 rfl) rfl, tb_at (lt_s1 10 rfl) rfl, by decide +kernel, by decide +kernel, by decide +kernel⟩
set_option maxRecDepth 20000 in
theorem is_Mo_get : MIN y_Mo_get := ⟨tb_at (lt_s4 239 rfl) rfl, tb_at (lt_s5 0 rfl) rfl⟩
def y_Mo_count : MethodName := ⟨"ScanMachineModel", "count", "(I)I"⟩
abbrev b_Mo_count : ByteArray := prog_12_method_52_code
set_option maxRecDepth 20000 in
theorem ok_Mo_count : MOK y_Mo_count b_Mo_count 2 (some .int) 1 := ⟨tb_at (lt_s5 5 rfl) rfl, tb_at (lt_s1 10 rfl) rfl, by decide +kernel, by decide +kernel, by decide +kernel⟩
set_option maxRecDepth 20000 in
theorem is_Mo_count : MIN y_Mo_count := ⟨tb_at (lt_s5 3 rfl) rfl, tb_at (lt_s5 4 rfl) rfl⟩
def y_Bl_init : MethodName := ⟨"ScanMachine$Blocks", "<init>", "(LScanMachine$Memory;)V"⟩
abbrev b_Bl_init : ByteArray := prog_2_method_1_code
set_option maxRecDepth 20000 in
theorem ok_Bl_init : MOK y_Bl_init b_Bl_init 2 none 1 := ⟨tb_at (lt_s1 176 rfl) rfl, tb_at (lt_s1 9 rfl) rfl, by decide +kernel, by decide +kernel, by decide +kernel⟩
set_option maxRecDepth 20000 in
theorem is_Bl_init : Cond.instanceMethod y_Bl_init ∈ TB := tb_at (lt_s1 175 rfl) rfl
def y_Bl_run : MethodName := ⟨"ScanMachine$Blocks", "run", "(III)V"⟩
abbrev b_Bl_run : ByteArray := prog_2_method_2_code
set_option maxRecDepth 20000 in
theorem ok_Bl_run : MOK y_Bl_run b_Bl_run 6 none 3 := ⟨tb_at (lt_s3 124 rfl) rfl, tb_at (lt_s1 9 rfl) rfl, by decide +kernel, by decide +kernel, by decide +kernel⟩
set_option maxRecDepth 20000 in
theorem is_Bl_run : MIN y_Bl_run := ⟨tb_at (lt_s3 123 rfl) rfl, tb_at (lt_s0 60 rfl) rfl⟩
def y_Bl_runTimer : MethodName := ⟨"ScanMachine$Blocks", "runTimer", "(IIZI)V"⟩
abbrev b_Bl_runTimer : ByteArray := prog_2_method_3_code
set_option maxRecDepth 20000 in
theorem ok_Bl_runTimer : MOK y_Bl_runTimer b_Bl_runTimer 11 none 4 := ⟨tb_at (lt_s3 129 rfl) rfl, tb_at (lt_s1 9 rfl) rfl, by decide +kernel, by decide +kernel, by decide +kernel⟩
set_option maxRecDepth 20000 in
theorem is_Bl_runTimer : MIN y_Bl_runTimer := ⟨tb_at (lt_s3 128 rfl) rfl, tb_at (lt_s0 61 rfl) rfl⟩
def y_Bl_runOffDelay : MethodName := ⟨"ScanMachine$Blocks", "runOffDelay", "(IZZII)V"⟩
abbrev b_Bl_runOffDelay : ByteArray := prog_2_method_4_code
set_option maxRecDepth 20000 in
theorem ok_Bl_runOffDelay : MOK y_Bl_runOffDelay b_Bl_runOffDelay 6 none 5 := ⟨tb_at (lt_s3 146 rfl) rfl, tb_at (lt_s1 9 rfl) rfl, by decide +kernel, by decide +kernel, by decide +kernel⟩
set_option maxRecDepth 20000 in
theorem is_Bl_runOffDelay : MIN y_Bl_runOffDelay := ⟨tb_at (lt_s3 145 rfl) rfl, tb_at (lt_s0 64 rfl) rfl⟩
def y_Bl_runPulse : MethodName := ⟨"ScanMachine$Blocks", "runPulse", "(IZZII)V"⟩
abbrev b_Bl_runPulse : ByteArray := prog_2_method_5_code
set_option maxRecDepth 20000 in
theorem ok_Bl_runPulse : MOK y_Bl_runPulse b_Bl_runPulse 6 none 5 := ⟨tb_at (lt_s3 150 rfl) rfl, tb_at (lt_s1 9 rfl) rfl, by decide +kernel, by decide +kernel, by decide +kernel⟩
set_option maxRecDepth 20000 in
theorem is_Bl_runPulse : MIN y_Bl_runPulse := ⟨tb_at (lt_s3 149 rfl) rfl, tb_at (lt_s0 65 rfl) rfl⟩
def y_Bl_runCounter : MethodName := ⟨"ScanMachine$Blocks", "runCounter", "(IIZ)V"⟩
abbrev b_Bl_runCounter : ByteArray := prog_2_method_6_code
set_option maxRecDepth 20000 in
theorem ok_Bl_runCounter : MOK y_Bl_runCounter b_Bl_runCounter 7 none 3 := ⟨tb_at (lt_s3 154 rfl) rfl, tb_at (lt_s1 9 rfl) rfl, by decide +kernel, by decide +kernel, by decide +kernel⟩
set_option maxRecDepth 20000 in
theorem is_Bl_runCounter : MIN y_Bl_runCounter := ⟨tb_at (lt_s3 153 rfl) rfl, tb_at (lt_s0 66 rfl) rfl⟩
def y_Bl_runLatch : MethodName := ⟨"ScanMachine$Blocks", "runLatch", "(IIZ)V"⟩
abbrev b_Bl_runLatch : ByteArray := prog_2_method_7_code
set_option maxRecDepth 20000 in
theorem ok_Bl_runLatch : MOK y_Bl_runLatch b_Bl_runLatch 6 none 3 := ⟨tb_at (lt_s3 158 rfl) rfl, tb_at (lt_s1 9 rfl) rfl, by decide +kernel, by decide +kernel, by decide +kernel⟩
set_option maxRecDepth 20000 in
theorem is_Bl_runLatch : MIN y_Bl_runLatch := ⟨tb_at (lt_s3 157 rfl) rfl, tb_at (lt_s0 67 rfl) rfl⟩
def y_Bl_isSet : MethodName := ⟨"ScanMachine$Blocks", "isSet", "(I)Z"⟩
abbrev b_Bl_isSet : ByteArray := prog_2_method_8_code
set_option maxRecDepth 20000 in
theorem ok_Bl_isSet : MOK y_Bl_isSet b_Bl_isSet 2 (some .boolean) 1 := ⟨tb_at (lt_s3 134 rfl) rfl, tb_at (lt_s1 9 rfl) rfl, by decide +kernel, by decide +kernel, by decide +kernel⟩
set_option maxRecDepth 20000 in
theorem is_Bl_isSet : MIN y_Bl_isSet := ⟨tb_at (lt_s3 133 rfl) rfl, tb_at (lt_s0 62 rfl) rfl⟩
def y_Bl_putFlag : MethodName := ⟨"ScanMachine$Blocks", "putFlag", "(IZ)V"⟩
abbrev b_Bl_putFlag : ByteArray := prog_2_method_9_code
set_option maxRecDepth 20000 in
theorem ok_Bl_putFlag : MOK y_Bl_putFlag b_Bl_putFlag 3 none 2 := ⟨tb_at (lt_s3 142 rfl) rfl, tb_at (lt_s1 9 rfl) rfl, by decide +kernel, by decide +kernel, by decide +kernel⟩
set_option maxRecDepth 20000 in
theorem is_Bl_putFlag : MIN y_Bl_putFlag := ⟨tb_at (lt_s3 141 rfl) rfl, tb_at (lt_s0 63 rfl) rfl⟩
def y_Co_init : MethodName := ⟨"ScanMachine$Code", "<init>", "()V"⟩
abbrev b_Co_init : ByteArray := prog_3_method_1_code
set_option maxRecDepth 20000 in
theorem ok_Co_init : MOK y_Co_init b_Co_init 1 none 0 := ⟨tb_at (lt_s1 26 rfl) rfl, tb_at (lt_s1 2 rfl) rfl, by decide +kernel, by decide +kernel, by decide +kernel⟩
set_option maxRecDepth 20000 in
theorem is_Co_init : Cond.instanceMethod y_Co_init ∈ TB := tb_at (lt_s1 25 rfl) rfl
def y_Co_forget : MethodName := ⟨"ScanMachine$Code", "forget", "()V"⟩
abbrev b_Co_forget : ByteArray := prog_3_method_2_code
set_option maxRecDepth 20000 in
theorem ok_Co_forget : MOK y_Co_forget b_Co_forget 1 none 0 := ⟨tb_at (lt_s2 45 rfl) rfl, tb_at (lt_s1 2 rfl) rfl, by decide +kernel, by decide +kernel, by decide +kernel⟩
set_option maxRecDepth 20000 in
theorem is_Co_forget : MIN y_Co_forget := ⟨tb_at (lt_s2 44 rfl) rfl, tb_at (lt_s0 3 rfl) rfl⟩
def y_Co_hasRoomForUnit : MethodName := ⟨"ScanMachine$Code", "hasRoomForUnit", "()Z"⟩
abbrev b_Co_hasRoomForUnit : ByteArray := prog_3_method_3_code
set_option maxRecDepth 20000 in
theorem ok_Co_hasRoomForUnit : MOK y_Co_hasRoomForUnit b_Co_hasRoomForUnit 1 (some .boolean) 0 := ⟨tb_at (lt_s2 53 rfl) rfl, tb_at (lt_s1 2 rfl) rfl, by decide +kernel, by decide +kernel, by decide +kernel⟩
set_option maxRecDepth 20000 in
theorem is_Co_hasRoomForUnit : MIN y_Co_hasRoomForUnit := ⟨tb_at (lt_s2 52 rfl) rfl, tb_at (lt_s0 4 rfl) rfl⟩
def y_Co_hasRoomForInstruction : MethodName := ⟨"ScanMachine$Code", "hasRoomForInstruction", "()Z"⟩
abbrev b_Co_hasRoomForInstruction : ByteArray := prog_3_method_4_code
set_option maxRecDepth 20000 in
theorem ok_Co_hasRoomForInstruction : MOK y_Co_hasRoomForInstruction b_Co_hasRoomForInstruction 1 (some .boolean) 0 := ⟨tb_at (lt_s2 66 rfl) rfl, tb_at (lt_s1 2 rfl) rfl, by decide +kernel, by decide +kernel, by decide +kernel⟩
set_option maxRecDepth 20000 in
theorem is_Co_hasRoomForInstruction : MIN y_Co_hasRoomForInstruction := ⟨tb_at (lt_s2 65 rfl) rfl, tb_at (lt_s0 6 rfl) rfl⟩
def y_Co_appendUnit : MethodName := ⟨"ScanMachine$Code", "appendUnit", "(II)I"⟩
abbrev b_Co_appendUnit : ByteArray := prog_3_method_5_code
set_option maxRecDepth 20000 in
theorem ok_Co_appendUnit : MOK y_Co_appendUnit b_Co_appendUnit 3 (some .int) 2 := ⟨tb_at (lt_s2 57 rfl) rfl, tb_at (lt_s1 2 rfl) rfl, by decide +kernel, by decide +kernel, by decide +kernel⟩
set_option maxRecDepth 20000 in
theorem is_Co_appendUnit : MIN y_Co_appendUnit := ⟨tb_at (lt_s2 56 rfl) rfl, tb_at (lt_s0 5 rfl) rfl⟩
def y_Co_appendInstruction : MethodName := ⟨"ScanMachine$Code", "appendInstruction", "(IIII)I"⟩
abbrev b_Co_appendInstruction : ByteArray := prog_3_method_6_code
set_option maxRecDepth 20000 in
theorem ok_Co_appendInstruction : MOK y_Co_appendInstruction b_Co_appendInstruction 5 (some .int) 4 := ⟨tb_at (lt_s2 70 rfl) rfl, tb_at (lt_s1 2 rfl) rfl, by decide +kernel, by decide +kernel, by decide +kernel⟩
set_option maxRecDepth 20000 in
theorem is_Co_appendInstruction : MIN y_Co_appendInstruction := ⟨tb_at (lt_s2 69 rfl) rfl, tb_at (lt_s0 7 rfl) rfl⟩
def y_Co_unitCount : MethodName := ⟨"ScanMachine$Code", "unitCount", "()I"⟩
abbrev b_Co_unitCount : ByteArray := prog_3_method_7_code
set_option maxRecDepth 20000 in
theorem ok_Co_unitCount : MOK y_Co_unitCount b_Co_unitCount 1 (some .int) 0 := ⟨tb_at (lt_s2 79 rfl) rfl, tb_at (lt_s1 2 rfl) rfl, by decide +kernel, by decide +kernel, by decide +kernel⟩
set_option maxRecDepth 20000 in
theorem is_Co_unitCount : MIN y_Co_unitCount := ⟨tb_at (lt_s2 78 rfl) rfl, tb_at (lt_s0 8 rfl) rfl⟩
def y_Co_hasUnit : MethodName := ⟨"ScanMachine$Code", "hasUnit", "(I)Z"⟩
abbrev b_Co_hasUnit : ByteArray := prog_3_method_8_code
set_option maxRecDepth 20000 in
theorem ok_Co_hasUnit : MOK y_Co_hasUnit b_Co_hasUnit 2 (some .boolean) 1 := ⟨tb_at (lt_s2 99 rfl) rfl, tb_at (lt_s1 2 rfl) rfl, by decide +kernel, by decide +kernel, by decide +kernel⟩
set_option maxRecDepth 20000 in
theorem is_Co_hasUnit : MIN y_Co_hasUnit := ⟨tb_at (lt_s2 98 rfl) rfl, tb_at (lt_s0 13 rfl) rfl⟩
def y_Co_frameOf : MethodName := ⟨"ScanMachine$Code", "frameOf", "(I)I"⟩
abbrev b_Co_frameOf : ByteArray := prog_3_method_9_code
set_option maxRecDepth 20000 in
theorem ok_Co_frameOf : MOK y_Co_frameOf b_Co_frameOf 2 (some .int) 1 := ⟨tb_at (lt_s2 103 rfl) rfl, tb_at (lt_s1 2 rfl) rfl, by decide +kernel, by decide +kernel, by decide +kernel⟩
set_option maxRecDepth 20000 in
theorem is_Co_frameOf : MIN y_Co_frameOf := ⟨tb_at (lt_s2 102 rfl) rfl, tb_at (lt_s0 14 rfl) rfl⟩
def y_Co_placeOf : MethodName := ⟨"ScanMachine$Code", "placeOf", "(I)I"⟩
abbrev b_Co_placeOf : ByteArray := prog_3_method_10_code
set_option maxRecDepth 20000 in
theorem ok_Co_placeOf : MOK y_Co_placeOf b_Co_placeOf 2 (some .int) 1 := ⟨tb_at (lt_s2 95 rfl) rfl, tb_at (lt_s1 2 rfl) rfl, by decide +kernel, by decide +kernel, by decide +kernel⟩
set_option maxRecDepth 20000 in
theorem is_Co_placeOf : MIN y_Co_placeOf := ⟨tb_at (lt_s2 94 rfl) rfl, tb_at (lt_s0 12 rfl) rfl⟩
def y_Co_sizeOf : MethodName := ⟨"ScanMachine$Code", "sizeOf", "(I)I"⟩
abbrev b_Co_sizeOf : ByteArray := prog_3_method_11_code
set_option maxRecDepth 20000 in
theorem ok_Co_sizeOf : MOK y_Co_sizeOf b_Co_sizeOf 2 (some .int) 1 := ⟨tb_at (lt_s2 118 rfl) rfl, tb_at (lt_s1 2 rfl) rfl, by decide +kernel, by decide +kernel, by decide +kernel⟩
set_option maxRecDepth 20000 in
theorem is_Co_sizeOf : MIN y_Co_sizeOf := ⟨tb_at (lt_s2 117 rfl) rfl, tb_at (lt_s0 16 rfl) rfl⟩
def y_Co_numberAt : MethodName := ⟨"ScanMachine$Code", "numberAt", "(II)I"⟩
abbrev b_Co_numberAt : ByteArray := prog_3_method_12_code
set_option maxRecDepth 20000 in
theorem ok_Co_numberAt : MOK y_Co_numberAt b_Co_numberAt 3 (some .int) 2 := ⟨tb_at (lt_s2 126 rfl) rfl, tb_at (lt_s1 2 rfl) rfl, by decide +kernel, by decide +kernel, by decide +kernel⟩
set_option maxRecDepth 20000 in
theorem is_Co_numberAt : MIN y_Co_numberAt := ⟨tb_at (lt_s2 125 rfl) rfl, tb_at (lt_s0 18 rfl) rfl⟩
def y_Co_aAt : MethodName := ⟨"ScanMachine$Code", "aAt", "(II)I"⟩
abbrev b_Co_aAt : ByteArray := prog_3_method_13_code
set_option maxRecDepth 20000 in
theorem ok_Co_aAt : MOK y_Co_aAt b_Co_aAt 3 (some .int) 2 := ⟨tb_at (lt_s2 134 rfl) rfl, tb_at (lt_s1 2 rfl) rfl, by decide +kernel, by decide +kernel, by decide +kernel⟩
set_option maxRecDepth 20000 in
theorem is_Co_aAt : MIN y_Co_aAt := ⟨tb_at (lt_s2 133 rfl) rfl, tb_at (lt_s0 20 rfl) rfl⟩
def y_Co_bAt : MethodName := ⟨"ScanMachine$Code", "bAt", "(II)I"⟩
abbrev b_Co_bAt : ByteArray := prog_3_method_14_code
set_option maxRecDepth 20000 in
theorem ok_Co_bAt : MOK y_Co_bAt b_Co_bAt 3 (some .int) 2 := ⟨tb_at (lt_s2 138 rfl) rfl, tb_at (lt_s1 2 rfl) rfl, by decide +kernel, by decide +kernel, by decide +kernel⟩
set_option maxRecDepth 20000 in
theorem is_Co_bAt : MIN y_Co_bAt := ⟨tb_at (lt_s2 137 rfl) rfl, tb_at (lt_s0 21 rfl) rfl⟩
def y_Co_cAt : MethodName := ⟨"ScanMachine$Code", "cAt", "(II)I"⟩
abbrev b_Co_cAt : ByteArray := prog_3_method_15_code
set_option maxRecDepth 20000 in
theorem ok_Co_cAt : MOK y_Co_cAt b_Co_cAt 3 (some .int) 2 := ⟨tb_at (lt_s2 142 rfl) rfl, tb_at (lt_s1 2 rfl) rfl, by decide +kernel, by decide +kernel, by decide +kernel⟩
set_option maxRecDepth 20000 in
theorem is_Co_cAt : MIN y_Co_cAt := ⟨tb_at (lt_s2 141 rfl) rfl, tb_at (lt_s0 22 rfl) rfl⟩
def y_Co_entry : MethodName := ⟨"ScanMachine$Code", "entry", "([III)I"⟩
abbrev b_Co_entry : ByteArray := prog_3_method_16_code
set_option maxRecDepth 20000 in
theorem ok_Co_entry : MOK y_Co_entry b_Co_entry 5 (some .int) 3 := ⟨tb_at (lt_s2 130 rfl) rfl, tb_at (lt_s1 2 rfl) rfl, by decide +kernel, by decide +kernel, by decide +kernel⟩
set_option maxRecDepth 20000 in
theorem is_Co_entry : MIN y_Co_entry := ⟨tb_at (lt_s2 129 rfl) rfl, tb_at (lt_s0 19 rfl) rfl⟩
def y_De_init : MethodName := ⟨"ScanMachine$Depths", "<init>", "(LScanMachine$Code;)V"⟩
abbrev b_De_init : ByteArray := prog_4_method_1_code
set_option maxRecDepth 20000 in
theorem ok_De_init : MOK y_De_init b_De_init 2 none 1 := ⟨tb_at (lt_s1 111 rfl) rfl, tb_at (lt_s1 5 rfl) rfl, by decide +kernel, by decide +kernel, by decide +kernel⟩
set_option maxRecDepth 20000 in
theorem is_De_init : Cond.instanceMethod y_De_init ∈ TB := tb_at (lt_s1 110 rfl) rfl
def y_De_faultOf : MethodName := ⟨"ScanMachine$Depths", "faultOf", "(I)I"⟩
abbrev b_De_faultOf : ByteArray := prog_4_method_2_code
set_option maxRecDepth 20000 in
theorem ok_De_faultOf : MOK y_De_faultOf b_De_faultOf 5 (some .int) 1 := ⟨tb_at (lt_s2 219 rfl) rfl, tb_at (lt_s1 5 rfl) rfl, by decide +kernel, by decide +kernel, by decide +kernel⟩
set_option maxRecDepth 20000 in
theorem is_De_faultOf : MIN y_De_faultOf := ⟨tb_at (lt_s2 218 rfl) rfl, tb_at (lt_s0 40 rfl) rfl⟩
def y_De_faultAt : MethodName := ⟨"ScanMachine$Depths", "faultAt", "(III)I"⟩
abbrev b_De_faultAt : ByteArray := prog_4_method_3_code
set_option maxRecDepth 20000 in
theorem ok_De_faultAt : MOK y_De_faultAt b_De_faultAt 8 (some .int) 3 := ⟨tb_at (lt_s2 225 rfl) rfl, tb_at (lt_s1 5 rfl) rfl, by decide +kernel, by decide +kernel, by decide +kernel⟩
set_option maxRecDepth 20000 in
theorem is_De_faultAt : MIN y_De_faultAt := ⟨tb_at (lt_s2 224 rfl) rfl, tb_at (lt_s0 41 rfl) rfl⟩
def y_De_targetOf : MethodName := ⟨"ScanMachine$Depths", "targetOf", "(III)I"⟩
abbrev b_De_targetOf : ByteArray := prog_4_method_4_code
set_option maxRecDepth 20000 in
theorem ok_De_targetOf : MOK y_De_targetOf b_De_targetOf 4 (some .int) 3 := ⟨tb_at (lt_s2 238 rfl) rfl, tb_at (lt_s1 5 rfl) rfl, by decide +kernel, by decide +kernel, by decide +kernel⟩
set_option maxRecDepth 20000 in
theorem is_De_targetOf : MIN y_De_targetOf := ⟨tb_at (lt_s2 237 rfl) rfl, tb_at (lt_s0 43 rfl) rfl⟩
def y_De_agrees : MethodName := ⟨"ScanMachine$Depths", "agrees", "(II)Z"⟩
abbrev b_De_agrees : ByteArray := prog_4_method_5_code
set_option maxRecDepth 20000 in
theorem ok_De_agrees : MOK y_De_agrees b_De_agrees 3 (some .boolean) 2 := ⟨tb_at (lt_s2 234 rfl) rfl, tb_at (lt_s1 5 rfl) rfl, by decide +kernel, by decide +kernel, by decide +kernel⟩
set_option maxRecDepth 20000 in
theorem is_De_agrees : MIN y_De_agrees := ⟨tb_at (lt_s2 233 rfl) rfl, tb_at (lt_s0 42 rfl) rfl⟩
def y_Lo_init : MethodName := ⟨"ScanMachine$Loops", "<init>", "(LScanMachine$Code;)V"⟩
abbrev b_Lo_init : ByteArray := prog_5_method_1_code
set_option maxRecDepth 20000 in
theorem ok_Lo_init : MOK y_Lo_init b_Lo_init 2 none 1 := ⟨tb_at (lt_s1 92 rfl) rfl, tb_at (lt_s1 4 rfl) rfl, by decide +kernel, by decide +kernel, by decide +kernel⟩
set_option maxRecDepth 20000 in
theorem is_Lo_init : Cond.instanceMethod y_Lo_init ∈ TB := tb_at (lt_s1 91 rfl) rfl
def y_Lo_faultOf : MethodName := ⟨"ScanMachine$Loops", "faultOf", "(I)I"⟩
abbrev b_Lo_faultOf : ByteArray := prog_5_method_2_code
set_option maxRecDepth 20000 in
theorem ok_Lo_faultOf : MOK y_Lo_faultOf b_Lo_faultOf 4 (some .int) 1 := ⟨tb_at (lt_s2 183 rfl) rfl, tb_at (lt_s1 4 rfl) rfl, by decide +kernel, by decide +kernel, by decide +kernel⟩
set_option maxRecDepth 20000 in
theorem is_Lo_faultOf : MIN y_Lo_faultOf := ⟨tb_at (lt_s2 182 rfl) rfl, tb_at (lt_s0 32 rfl) rfl⟩
def y_Lo_gatherLoops : MethodName := ⟨"ScanMachine$Loops", "gatherLoops", "()V"⟩
abbrev b_Lo_gatherLoops : ByteArray := prog_5_method_3_code
set_option maxRecDepth 20000 in
theorem ok_Lo_gatherLoops : MOK y_Lo_gatherLoops b_Lo_gatherLoops 3 none 0 := ⟨tb_at (lt_s2 187 rfl) rfl, tb_at (lt_s1 4 rfl) rfl, by decide +kernel, by decide +kernel, by decide +kernel⟩
set_option maxRecDepth 20000 in
theorem is_Lo_gatherLoops : MIN y_Lo_gatherLoops := ⟨tb_at (lt_s2 186 rfl) rfl, tb_at (lt_s0 33 rfl) rfl⟩
def y_Lo_isWrong : MethodName := ⟨"ScanMachine$Loops", "isWrong", "(I)Z"⟩
abbrev b_Lo_isWrong : ByteArray := prog_5_method_4_code
set_option maxRecDepth 20000 in
theorem ok_Lo_isWrong : MOK y_Lo_isWrong b_Lo_isWrong 2 (some .boolean) 1 := ⟨tb_at (lt_s2 193 rfl) rfl, tb_at (lt_s1 4 rfl) rfl, by decide +kernel, by decide +kernel, by decide +kernel⟩
set_option maxRecDepth 20000 in
theorem is_Lo_isWrong : MIN y_Lo_isWrong := ⟨tb_at (lt_s2 192 rfl) rfl, tb_at (lt_s0 34 rfl) rfl⟩
def y_Lo_isWrongCount : MethodName := ⟨"ScanMachine$Loops", "isWrongCount", "(I)Z"⟩
abbrev b_Lo_isWrongCount : ByteArray := prog_5_method_5_code
set_option maxRecDepth 20000 in
theorem ok_Lo_isWrongCount : MOK y_Lo_isWrongCount b_Lo_isWrongCount 4 (some .boolean) 1 := ⟨tb_at (lt_s2 197 rfl) rfl, tb_at (lt_s1 4 rfl) rfl, by decide +kernel, by decide +kernel, by decide +kernel⟩
set_option maxRecDepth 20000 in
theorem is_Lo_isWrongCount : MIN y_Lo_isWrongCount := ⟨tb_at (lt_s2 196 rfl) rfl, tb_at (lt_s0 35 rfl) rfl⟩
def y_Lo_isWrongNext : MethodName := ⟨"ScanMachine$Loops", "isWrongNext", "(I)Z"⟩
abbrev b_Lo_isWrongNext : ByteArray := prog_5_method_6_code
set_option maxRecDepth 20000 in
theorem ok_Lo_isWrongNext : MOK y_Lo_isWrongNext b_Lo_isWrongNext 4 (some .boolean) 1 := ⟨tb_at (lt_s2 207 rfl) rfl, tb_at (lt_s1 4 rfl) rfl, by decide +kernel, by decide +kernel, by decide +kernel⟩
set_option maxRecDepth 20000 in
theorem is_Lo_isWrongNext : MIN y_Lo_isWrongNext := ⟨tb_at (lt_s2 206 rfl) rfl, tb_at (lt_s0 37 rfl) rfl⟩
def y_Lo_isWrongBack : MethodName := ⟨"ScanMachine$Loops", "isWrongBack", "(I)Z"⟩
abbrev b_Lo_isWrongBack : ByteArray := prog_5_method_7_code
set_option maxRecDepth 20000 in
theorem ok_Lo_isWrongBack : MOK y_Lo_isWrongBack b_Lo_isWrongBack 3 (some .boolean) 1 := ⟨tb_at (lt_s2 211 rfl) rfl, tb_at (lt_s1 4 rfl) rfl, by decide +kernel, by decide +kernel, by decide +kernel⟩
set_option maxRecDepth 20000 in
theorem is_Lo_isWrongBack : MIN y_Lo_isWrongBack := ⟨tb_at (lt_s2 210 rfl) rfl, tb_at (lt_s0 38 rfl) rfl⟩
def y_Lo_goesIntoLoop : MethodName := ⟨"ScanMachine$Loops", "goesIntoLoop", "(II)Z"⟩
abbrev b_Lo_goesIntoLoop : ByteArray := prog_5_method_8_code
set_option maxRecDepth 20000 in
theorem ok_Lo_goesIntoLoop : MOK y_Lo_goesIntoLoop b_Lo_goesIntoLoop 5 (some .boolean) 2 := ⟨tb_at (lt_s2 215 rfl) rfl, tb_at (lt_s1 4 rfl) rfl, by decide +kernel, by decide +kernel, by decide +kernel⟩
set_option maxRecDepth 20000 in
theorem is_Lo_goesIntoLoop : MIN y_Lo_goesIntoLoop := ⟨tb_at (lt_s2 214 rfl) rfl, tb_at (lt_s0 39 rfl) rfl⟩
def y_Lo_isIn : MethodName := ⟨"ScanMachine$Loops", "isIn", "(II)Z"⟩
abbrev b_Lo_isIn : ByteArray := prog_5_method_9_code
set_option maxRecDepth 20000 in
theorem ok_Lo_isIn : MOK y_Lo_isIn b_Lo_isIn 3 (some .boolean) 2 := ⟨tb_at (lt_s2 202 rfl) rfl, tb_at (lt_s1 4 rfl) rfl, by decide +kernel, by decide +kernel, by decide +kernel⟩
set_option maxRecDepth 20000 in
theorem is_Lo_isIn : MIN y_Lo_isIn := ⟨tb_at (lt_s2 201 rfl) rfl, tb_at (lt_s0 36 rfl) rfl⟩
def y_Me_init : MethodName := ⟨"ScanMachine$Memory", "<init>", "()V"⟩
abbrev b_Me_init : ByteArray := prog_6_method_1_code
set_option maxRecDepth 20000 in
theorem ok_Me_init : MOK y_Me_init b_Me_init 1 none 0 := ⟨tb_at (lt_s1 150 rfl) rfl, tb_at (lt_s1 7 rfl) rfl, by decide +kernel, by decide +kernel, by decide +kernel⟩
set_option maxRecDepth 20000 in
theorem is_Me_init : Cond.instanceMethod y_Me_init ∈ TB := tb_at (lt_s1 149 rfl) rfl
def y_Me_clear : MethodName := ⟨"ScanMachine$Memory", "clear", "()V"⟩
abbrev b_Me_clear : ByteArray := prog_6_method_2_code
set_option maxRecDepth 20000 in
theorem ok_Me_clear : MOK y_Me_clear b_Me_clear 1 none 0 := ⟨tb_at (lt_s2 34 rfl) rfl, tb_at (lt_s1 7 rfl) rfl, by decide +kernel, by decide +kernel, by decide +kernel⟩
set_option maxRecDepth 20000 in
theorem is_Me_clear : MIN y_Me_clear := ⟨tb_at (lt_s2 33 rfl) rfl, tb_at (lt_s0 1 rfl) rfl⟩
def y_Me_emptyStack : MethodName := ⟨"ScanMachine$Memory", "emptyStack", "()V"⟩
abbrev b_Me_emptyStack : ByteArray := prog_6_method_3_code
set_option maxRecDepth 20000 in
theorem ok_Me_emptyStack : MOK y_Me_emptyStack b_Me_emptyStack 1 none 0 := ⟨tb_at (lt_s2 41 rfl) rfl, tb_at (lt_s1 7 rfl) rfl, by decide +kernel, by decide +kernel, by decide +kernel⟩
set_option maxRecDepth 20000 in
theorem is_Me_emptyStack : MIN y_Me_emptyStack := ⟨tb_at (lt_s2 40 rfl) rfl, tb_at (lt_s0 2 rfl) rfl⟩
def y_Me_cell : MethodName := ⟨"ScanMachine$Memory", "cell", "(I)I"⟩
abbrev b_Me_cell : ByteArray := prog_6_method_4_code
set_option maxRecDepth 20000 in
theorem ok_Me_cell : MOK y_Me_cell b_Me_cell 2 (some .int) 1 := ⟨tb_at (lt_s3 72 rfl) rfl, tb_at (lt_s1 7 rfl) rfl, by decide +kernel, by decide +kernel, by decide +kernel⟩
set_option maxRecDepth 20000 in
theorem is_Me_cell : MIN y_Me_cell := ⟨tb_at (lt_s3 71 rfl) rfl, tb_at (lt_s0 54 rfl) rfl⟩
def y_Me_change : MethodName := ⟨"ScanMachine$Memory", "change", "(II)V"⟩
abbrev b_Me_change : ByteArray := prog_6_method_5_code
set_option maxRecDepth 20000 in
theorem ok_Me_change : MOK y_Me_change b_Me_change 3 none 2 := ⟨tb_at (lt_s3 80 rfl) rfl, tb_at (lt_s1 7 rfl) rfl, by decide +kernel, by decide +kernel, by decide +kernel⟩
set_option maxRecDepth 20000 in
theorem is_Me_change : MIN y_Me_change := ⟨tb_at (lt_s3 79 rfl) rfl, tb_at (lt_s0 56 rfl) rfl⟩
def y_Me_push : MethodName := ⟨"ScanMachine$Memory", "push", "(I)V"⟩
abbrev b_Me_push : ByteArray := prog_6_method_6_code
set_option maxRecDepth 20000 in
theorem ok_Me_push : MOK y_Me_push b_Me_push 2 none 1 := ⟨tb_at (lt_s3 67 rfl) rfl, tb_at (lt_s1 7 rfl) rfl, by decide +kernel, by decide +kernel, by decide +kernel⟩
set_option maxRecDepth 20000 in
theorem is_Me_push : MIN y_Me_push := ⟨tb_at (lt_s3 66 rfl) rfl, tb_at (lt_s0 53 rfl) rfl⟩
def y_Me_pop : MethodName := ⟨"ScanMachine$Memory", "pop", "()I"⟩
abbrev b_Me_pop : ByteArray := prog_6_method_7_code
set_option maxRecDepth 20000 in
theorem ok_Me_pop : MOK y_Me_pop b_Me_pop 1 (some .int) 0 := ⟨tb_at (lt_s3 76 rfl) rfl, tb_at (lt_s1 7 rfl) rfl, by decide +kernel, by decide +kernel, by decide +kernel⟩
set_option maxRecDepth 20000 in
theorem is_Me_pop : MIN y_Me_pop := ⟨tb_at (lt_s3 75 rfl) rfl, tb_at (lt_s0 55 rfl) rfl⟩
def y_Re_narrow : MethodName := ⟨"ScanMachine$Reckoning", "narrow", "(I)I"⟩
abbrev b_Re_narrow : ByteArray := prog_7_method_2_code
set_option maxRecDepth 20000 in
theorem ok_Re_narrow : MOK y_Re_narrow b_Re_narrow 1 (some .int) 1 := ⟨tb_at (lt_s3 99 rfl) rfl, tb_at (lt_s1 13 rfl) rfl, by decide +kernel, by decide +kernel, by decide +kernel⟩
set_option maxRecDepth 20000 in
theorem is_Re_narrow : Cond.static y_Re_narrow ∈ TB := tb_at (lt_s3 98 rfl) rfl
def y_Re_flag : MethodName := ⟨"ScanMachine$Reckoning", "flag", "(Z)I"⟩
abbrev b_Re_flag : ByteArray := prog_7_method_3_code
set_option maxRecDepth 20000 in
theorem ok_Re_flag : MOK y_Re_flag b_Re_flag 1 (some .int) 1 := ⟨tb_at (lt_s3 102 rfl) rfl, tb_at (lt_s1 13 rfl) rfl, by decide +kernel, by decide +kernel, by decide +kernel⟩
set_option maxRecDepth 20000 in
theorem is_Re_flag : Cond.static y_Re_flag ∈ TB := tb_at (lt_s3 101 rfl) rfl
def y_Re_divides : MethodName := ⟨"ScanMachine$Reckoning", "divides", "(I)Z"⟩
abbrev b_Re_divides : ByteArray := prog_7_method_4_code
set_option maxRecDepth 20000 in
theorem ok_Re_divides : MOK y_Re_divides b_Re_divides 1 (some .boolean) 1 := ⟨tb_at (lt_s3 105 rfl) rfl, tb_at (lt_s1 13 rfl) rfl, by decide +kernel, by decide +kernel, by decide +kernel⟩
set_option maxRecDepth 20000 in
theorem is_Re_divides : Cond.static y_Re_divides ∈ TB := tb_at (lt_s3 104 rfl) rfl
def y_Re_ofTwo : MethodName := ⟨"ScanMachine$Reckoning", "ofTwo", "(III)I"⟩
abbrev b_Re_ofTwo : ByteArray := prog_7_method_5_code
set_option maxRecDepth 20000 in
theorem ok_Re_ofTwo : MOK y_Re_ofTwo b_Re_ofTwo 3 (some .int) 3 := ⟨tb_at (lt_s3 108 rfl) rfl, tb_at (lt_s1 13 rfl) rfl, by decide +kernel, by decide +kernel, by decide +kernel⟩
set_option maxRecDepth 20000 in
theorem is_Re_ofTwo : Cond.static y_Re_ofTwo ∈ TB := tb_at (lt_s3 107 rfl) rfl
def y_Re_ofArithmetic : MethodName := ⟨"ScanMachine$Reckoning", "ofArithmetic", "(III)I"⟩
abbrev b_Re_ofArithmetic : ByteArray := prog_7_method_6_code
set_option maxRecDepth 20000 in
theorem ok_Re_ofArithmetic : MOK y_Re_ofArithmetic b_Re_ofArithmetic 3 (some .int) 3 := ⟨tb_at (lt_s3 111 rfl) rfl, tb_at (lt_s1 13 rfl) rfl, by decide +kernel, by decide +kernel, by decide +kernel⟩
set_option maxRecDepth 20000 in
theorem is_Re_ofArithmetic : Cond.static y_Re_ofArithmetic ∈ TB := tb_at (lt_s3 110 rfl) rfl
def y_Re_ofBitsAndOrder : MethodName := ⟨"ScanMachine$Reckoning", "ofBitsAndOrder", "(III)I"⟩
abbrev b_Re_ofBitsAndOrder : ByteArray := prog_7_method_7_code
set_option maxRecDepth 20000 in
theorem ok_Re_ofBitsAndOrder : MOK y_Re_ofBitsAndOrder b_Re_ofBitsAndOrder 3 (some .int) 3 := ⟨tb_at (lt_s3 114 rfl) rfl, tb_at (lt_s1 13 rfl) rfl, by decide +kernel, by decide +kernel, by decide +kernel⟩
set_option maxRecDepth 20000 in
theorem is_Re_ofBitsAndOrder : Cond.static y_Re_ofBitsAndOrder ∈ TB := tb_at (lt_s3 113 rfl) rfl
def y_Re_ofShifts : MethodName := ⟨"ScanMachine$Reckoning", "ofShifts", "(III)I"⟩
abbrev b_Re_ofShifts : ByteArray := prog_7_method_8_code
set_option maxRecDepth 20000 in
theorem ok_Re_ofShifts : MOK y_Re_ofShifts b_Re_ofShifts 5 (some .int) 3 := ⟨tb_at (lt_s3 117 rfl) rfl, tb_at (lt_s1 13 rfl) rfl, by decide +kernel, by decide +kernel, by decide +kernel⟩
set_option maxRecDepth 20000 in
theorem is_Re_ofShifts : Cond.static y_Re_ofShifts ∈ TB := tb_at (lt_s3 116 rfl) rfl
def y_Re_ofOne : MethodName := ⟨"ScanMachine$Reckoning", "ofOne", "(II)I"⟩
abbrev b_Re_ofOne : ByteArray := prog_7_method_9_code
set_option maxRecDepth 20000 in
theorem ok_Re_ofOne : MOK y_Re_ofOne b_Re_ofOne 2 (some .int) 2 := ⟨tb_at (lt_s3 96 rfl) rfl, tb_at (lt_s1 13 rfl) rfl, by decide +kernel, by decide +kernel, by decide +kernel⟩
set_option maxRecDepth 20000 in
theorem is_Re_ofOne : Cond.static y_Re_ofOne ∈ TB := tb_at (lt_s3 95 rfl) rfl
def y_Ru_init : MethodName := ⟨"ScanMachine$Runner", "<init>", "(LScanMachine$Code;LScanMachine$Memory;)V"⟩
abbrev b_Ru_init : ByteArray := prog_8_method_1_code
set_option maxRecDepth 20000 in
theorem ok_Ru_init : MOK y_Ru_init b_Ru_init 3 none 2 := ⟨tb_at (lt_s1 170 rfl) rfl, tb_at (lt_s1 8 rfl) rfl, by decide +kernel, by decide +kernel, by decide +kernel⟩
set_option maxRecDepth 20000 in
theorem is_Ru_init : Cond.instanceMethod y_Ru_init ∈ TB := tb_at (lt_s1 169 rfl) rfl
def y_Ru_run : MethodName := ⟨"ScanMachine$Runner", "run", "(I)I"⟩
abbrev b_Ru_run : ByteArray := prog_8_method_2_code
set_option maxRecDepth 20000 in
theorem ok_Ru_run : MOK y_Ru_run b_Ru_run 3 (some .int) 1 := ⟨tb_at (lt_s3 47 rfl) rfl, tb_at (lt_s1 8 rfl) rfl, by decide +kernel, by decide +kernel, by decide +kernel⟩
set_option maxRecDepth 20000 in
theorem is_Ru_run : MIN y_Ru_run := ⟨tb_at (lt_s3 46 rfl) rfl, tb_at (lt_s0 50 rfl) rfl⟩
def y_Ru_step : MethodName := ⟨"ScanMachine$Runner", "step", "()V"⟩
abbrev b_Ru_step : ByteArray := prog_8_method_3_code
set_option maxRecDepth 20000 in
theorem ok_Ru_step : MOK y_Ru_step b_Ru_step 5 none 0 := ⟨tb_at (lt_s3 55 rfl) rfl, tb_at (lt_s1 8 rfl) rfl, by decide +kernel, by decide +kernel, by decide +kernel⟩
set_option maxRecDepth 20000 in
theorem is_Ru_step : MIN y_Ru_step := ⟨tb_at (lt_s3 54 rfl) rfl, tb_at (lt_s0 51 rfl) rfl⟩
def y_Ru_move : MethodName := ⟨"ScanMachine$Runner", "move", "(IIII)V"⟩
abbrev b_Ru_move : ByteArray := prog_8_method_4_code
set_option maxRecDepth 20000 in
theorem ok_Ru_move : MOK y_Ru_move b_Ru_move 5 none 4 := ⟨tb_at (lt_s3 63 rfl) rfl, tb_at (lt_s1 8 rfl) rfl, by decide +kernel, by decide +kernel, by decide +kernel⟩
set_option maxRecDepth 20000 in
theorem is_Ru_move : MIN y_Ru_move := ⟨tb_at (lt_s3 62 rfl) rfl, tb_at (lt_s0 52 rfl) rfl⟩
def y_Ru_take : MethodName := ⟨"ScanMachine$Runner", "take", "(III)V"⟩
abbrev b_Ru_take : ByteArray := prog_8_method_5_code
set_option maxRecDepth 20000 in
theorem ok_Ru_take : MOK y_Ru_take b_Ru_take 6 none 3 := ⟨tb_at (lt_s3 84 rfl) rfl, tb_at (lt_s1 8 rfl) rfl, by decide +kernel, by decide +kernel, by decide +kernel⟩
set_option maxRecDepth 20000 in
theorem is_Ru_take : MIN y_Ru_take := ⟨tb_at (lt_s3 83 rfl) rfl, tb_at (lt_s0 57 rfl) rfl⟩
def y_Ru_put : MethodName := ⟨"ScanMachine$Runner", "put", "(III)V"⟩
abbrev b_Ru_put : ByteArray := prog_8_method_6_code
set_option maxRecDepth 20000 in
theorem ok_Ru_put : MOK y_Ru_put b_Ru_put 7 none 3 := ⟨tb_at (lt_s3 88 rfl) rfl, tb_at (lt_s1 8 rfl) rfl, by decide +kernel, by decide +kernel, by decide +kernel⟩
set_option maxRecDepth 20000 in
theorem is_Ru_put : MIN y_Ru_put := ⟨tb_at (lt_s3 87 rfl) rfl, tb_at (lt_s0 58 rfl) rfl⟩
def y_Ru_reckon : MethodName := ⟨"ScanMachine$Runner", "reckon", "(II)V"⟩
abbrev b_Ru_reckon : ByteArray := prog_8_method_7_code
set_option maxRecDepth 20000 in
theorem ok_Ru_reckon : MOK y_Ru_reckon b_Ru_reckon 5 none 2 := ⟨tb_at (lt_s3 93 rfl) rfl, tb_at (lt_s1 8 rfl) rfl, by decide +kernel, by decide +kernel, by decide +kernel⟩
set_option maxRecDepth 20000 in
theorem is_Ru_reckon : MIN y_Ru_reckon := ⟨tb_at (lt_s3 92 rfl) rfl, tb_at (lt_s0 59 rfl) rfl⟩
def y_Ru_go : MethodName := ⟨"ScanMachine$Runner", "go", "(III)V"⟩
abbrev b_Ru_go : ByteArray := prog_8_method_8_code
set_option maxRecDepth 20000 in
theorem ok_Ru_go : MOK y_Ru_go b_Ru_go 4 none 3 := ⟨tb_at (lt_s3 162 rfl) rfl, tb_at (lt_s1 8 rfl) rfl, by decide +kernel, by decide +kernel, by decide +kernel⟩
set_option maxRecDepth 20000 in
theorem is_Ru_go : MIN y_Ru_go := ⟨tb_at (lt_s3 161 rfl) rfl, tb_at (lt_s0 68 rfl) rfl⟩
def y_Ru_countDown : MethodName := ⟨"ScanMachine$Runner", "countDown", "(II)V"⟩
abbrev b_Ru_countDown : ByteArray := prog_8_method_9_code
set_option maxRecDepth 20000 in
theorem ok_Ru_countDown : MOK y_Ru_countDown b_Ru_countDown 4 none 2 := ⟨tb_at (lt_s3 166 rfl) rfl, tb_at (lt_s1 8 rfl) rfl, by decide +kernel, by decide +kernel, by decide +kernel⟩
set_option maxRecDepth 20000 in
theorem is_Ru_countDown : MIN y_Ru_countDown := ⟨tb_at (lt_s3 165 rfl) rfl, tb_at (lt_s0 69 rfl) rfl⟩
def y_Ru_descend : MethodName := ⟨"ScanMachine$Runner", "descend", "(II)V"⟩
abbrev b_Ru_descend : ByteArray := prog_8_method_10_code
set_option maxRecDepth 20000 in
theorem ok_Ru_descend : MOK y_Ru_descend b_Ru_descend 3 none 2 := ⟨tb_at (lt_s3 170 rfl) rfl, tb_at (lt_s1 8 rfl) rfl, by decide +kernel, by decide +kernel, by decide +kernel⟩
set_option maxRecDepth 20000 in
theorem is_Ru_descend : MIN y_Ru_descend := ⟨tb_at (lt_s3 169 rfl) rfl, tb_at (lt_s0 70 rfl) rfl⟩
def y_Ru_goBack : MethodName := ⟨"ScanMachine$Runner", "goBack", "()V"⟩
abbrev b_Ru_goBack : ByteArray := prog_8_method_11_code
set_option maxRecDepth 20000 in
theorem ok_Ru_goBack : MOK y_Ru_goBack b_Ru_goBack 1 none 0 := ⟨tb_at (lt_s3 174 rfl) rfl, tb_at (lt_s1 8 rfl) rfl, by decide +kernel, by decide +kernel, by decide +kernel⟩
set_option maxRecDepth 20000 in
theorem is_Ru_goBack : MIN y_Ru_goBack := ⟨tb_at (lt_s3 173 rfl) rfl, tb_at (lt_s0 71 rfl) rfl⟩
def y_Sh_init : MethodName := ⟨"ScanMachine$Shape", "<init>", "(LScanMachine$Code;)V"⟩
abbrev b_Sh_init : ByteArray := prog_9_method_1_code
set_option maxRecDepth 20000 in
theorem ok_Sh_init : MOK y_Sh_init b_Sh_init 2 none 1 := ⟨tb_at (lt_s1 64 rfl) rfl, tb_at (lt_s1 3 rfl) rfl, by decide +kernel, by decide +kernel, by decide +kernel⟩
set_option maxRecDepth 20000 in
theorem is_Sh_init : Cond.instanceMethod y_Sh_init ∈ TB := tb_at (lt_s1 63 rfl) rfl
def y_Sh_faultOf : MethodName := ⟨"ScanMachine$Shape", "faultOf", "(II)I"⟩
abbrev b_Sh_faultOf : ByteArray := prog_9_method_2_code
set_option maxRecDepth 20000 in
theorem ok_Sh_faultOf : MOK y_Sh_faultOf b_Sh_faultOf 6 (some .int) 2 := ⟨tb_at (lt_s2 87 rfl) rfl, tb_at (lt_s1 3 rfl) rfl, by decide +kernel, by decide +kernel, by decide +kernel⟩
set_option maxRecDepth 20000 in
theorem is_Sh_faultOf : MIN y_Sh_faultOf := ⟨tb_at (lt_s2 86 rfl) rfl, tb_at (lt_s0 10 rfl) rfl⟩
def y_Sh_isPlacedWrong : MethodName := ⟨"ScanMachine$Shape", "isPlacedWrong", "(I)Z"⟩
abbrev b_Sh_isPlacedWrong : ByteArray := prog_9_method_3_code
set_option maxRecDepth 20000 in
theorem ok_Sh_isPlacedWrong : MOK y_Sh_isPlacedWrong b_Sh_isPlacedWrong 4 (some .boolean) 1 := ⟨tb_at (lt_s2 91 rfl) rfl, tb_at (lt_s1 3 rfl) rfl, by decide +kernel, by decide +kernel, by decide +kernel⟩
set_option maxRecDepth 20000 in
theorem is_Sh_isPlacedWrong : MIN y_Sh_isPlacedWrong := ⟨tb_at (lt_s2 90 rfl) rfl, tb_at (lt_s0 11 rfl) rfl⟩
def y_Sh_meetsEarlierUnit : MethodName := ⟨"ScanMachine$Shape", "meetsEarlierUnit", "(II)Z"⟩
abbrev b_Sh_meetsEarlierUnit : ByteArray := prog_9_method_4_code
set_option maxRecDepth 20000 in
theorem ok_Sh_meetsEarlierUnit : MOK y_Sh_meetsEarlierUnit b_Sh_meetsEarlierUnit 7 (some .boolean) 2 := ⟨tb_at (lt_s2 108 rfl) rfl, tb_at (lt_s1 3 rfl) rfl, by decide +kernel, by decide +kernel, by decide +kernel⟩
set_option maxRecDepth 20000 in
theorem is_Sh_meetsEarlierUnit : MIN y_Sh_meetsEarlierUnit := ⟨tb_at (lt_s2 107 rfl) rfl, tb_at (lt_s0 15 rfl) rfl⟩
def y_Sh_lookAt : MethodName := ⟨"ScanMachine$Shape", "lookAt", "(I)V"⟩
abbrev b_Sh_lookAt : ByteArray := prog_9_method_5_code
set_option maxRecDepth 20000 in
theorem ok_Sh_lookAt : MOK y_Sh_lookAt b_Sh_lookAt 2 none 1 := ⟨tb_at (lt_s2 122 rfl) rfl, tb_at (lt_s1 3 rfl) rfl, by decide +kernel, by decide +kernel, by decide +kernel⟩
set_option maxRecDepth 20000 in
theorem is_Sh_lookAt : MIN y_Sh_lookAt := ⟨tb_at (lt_s2 121 rfl) rfl, tb_at (lt_s0 17 rfl) rfl⟩
def y_Sh_faultHere : MethodName := ⟨"ScanMachine$Shape", "faultHere", "()I"⟩
abbrev b_Sh_faultHere : ByteArray := prog_9_method_6_code
set_option maxRecDepth 20000 in
theorem ok_Sh_faultHere : MOK y_Sh_faultHere b_Sh_faultHere 1 (some .int) 0 := ⟨tb_at (lt_s2 146 rfl) rfl, tb_at (lt_s1 3 rfl) rfl, by decide +kernel, by decide +kernel, by decide +kernel⟩
set_option maxRecDepth 20000 in
theorem is_Sh_faultHere : MIN y_Sh_faultHere := ⟨tb_at (lt_s2 145 rfl) rfl, tb_at (lt_s0 23 rfl) rfl⟩
def y_Sh_isInstruction : MethodName := ⟨"ScanMachine$Shape", "isInstruction", "()Z"⟩
abbrev b_Sh_isInstruction : ByteArray := prog_9_method_7_code
set_option maxRecDepth 20000 in
theorem ok_Sh_isInstruction : MOK y_Sh_isInstruction b_Sh_isInstruction 1 (some .boolean) 0 := ⟨tb_at (lt_s2 150 rfl) rfl, tb_at (lt_s1 3 rfl) rfl, by decide +kernel, by decide +kernel, by decide +kernel⟩
set_option maxRecDepth 20000 in
theorem is_Sh_isInstruction : MIN y_Sh_isInstruction := ⟨tb_at (lt_s2 149 rfl) rfl, tb_at (lt_s0 24 rfl) rfl⟩
def y_Sh_namesWrongUnit : MethodName := ⟨"ScanMachine$Shape", "namesWrongUnit", "()Z"⟩
abbrev b_Sh_namesWrongUnit : ByteArray := prog_9_method_8_code
set_option maxRecDepth 20000 in
theorem ok_Sh_namesWrongUnit : MOK y_Sh_namesWrongUnit b_Sh_namesWrongUnit 1 (some .boolean) 0 := ⟨tb_at (lt_s2 155 rfl) rfl, tb_at (lt_s1 3 rfl) rfl, by decide +kernel, by decide +kernel, by decide +kernel⟩
set_option maxRecDepth 20000 in
theorem is_Sh_namesWrongUnit : MIN y_Sh_namesWrongUnit := ⟨tb_at (lt_s2 154 rfl) rfl, tb_at (lt_s0 25 rfl) rfl⟩
def y_Sh_leavesFrame : MethodName := ⟨"ScanMachine$Shape", "leavesFrame", "()Z"⟩
abbrev b_Sh_leavesFrame : ByteArray := prog_9_method_9_code
set_option maxRecDepth 20000 in
theorem ok_Sh_leavesFrame : MOK y_Sh_leavesFrame b_Sh_leavesFrame 3 (some .boolean) 0 := ⟨tb_at (lt_s2 159 rfl) rfl, tb_at (lt_s1 3 rfl) rfl, by decide +kernel, by decide +kernel, by decide +kernel⟩
set_option maxRecDepth 20000 in
theorem is_Sh_leavesFrame : MIN y_Sh_leavesFrame := ⟨tb_at (lt_s2 158 rfl) rfl, tb_at (lt_s0 26 rfl) rfl⟩
def y_Sh_touchesCounter : MethodName := ⟨"ScanMachine$Shape", "touchesCounter", "()Z"⟩
abbrev b_Sh_touchesCounter : ByteArray := prog_9_method_10_code
set_option maxRecDepth 20000 in
theorem ok_Sh_touchesCounter : MOK y_Sh_touchesCounter b_Sh_touchesCounter 8 (some .boolean) 0 := ⟨tb_at (lt_s2 175 rfl) rfl, tb_at (lt_s1 3 rfl) rfl, by decide +kernel, by decide +kernel, by decide +kernel⟩
set_option maxRecDepth 20000 in
theorem is_Sh_touchesCounter : MIN y_Sh_touchesCounter := ⟨tb_at (lt_s2 174 rfl) rfl, tb_at (lt_s0 30 rfl) rfl⟩
def y_Sh_howManyCells : MethodName := ⟨"ScanMachine$Shape", "howManyCells", "()I"⟩
abbrev b_Sh_howManyCells : ByteArray := prog_9_method_11_code
set_option maxRecDepth 20000 in
theorem ok_Sh_howManyCells : MOK y_Sh_howManyCells b_Sh_howManyCells 1 (some .int) 0 := ⟨tb_at (lt_s2 163 rfl) rfl, tb_at (lt_s1 3 rfl) rfl, by decide +kernel, by decide +kernel, by decide +kernel⟩
set_option maxRecDepth 20000 in
theorem is_Sh_howManyCells : MIN y_Sh_howManyCells := ⟨tb_at (lt_s2 162 rfl) rfl, tb_at (lt_s0 27 rfl) rfl⟩
def y_Sh_firstCell : MethodName := ⟨"ScanMachine$Shape", "firstCell", "()I"⟩
abbrev b_Sh_firstCell : ByteArray := prog_9_method_12_code
set_option maxRecDepth 20000 in
theorem ok_Sh_firstCell : MOK y_Sh_firstCell b_Sh_firstCell 2 (some .int) 0 := ⟨tb_at (lt_s2 167 rfl) rfl, tb_at (lt_s1 3 rfl) rfl, by decide +kernel, by decide +kernel, by decide +kernel⟩
set_option maxRecDepth 20000 in
theorem is_Sh_firstCell : MIN y_Sh_firstCell := ⟨tb_at (lt_s2 166 rfl) rfl, tb_at (lt_s0 28 rfl) rfl⟩
def y_Sh_ownerOfCells : MethodName := ⟨"ScanMachine$Shape", "ownerOfCells", "()I"⟩
abbrev b_Sh_ownerOfCells : ByteArray := prog_9_method_13_code
set_option maxRecDepth 20000 in
theorem ok_Sh_ownerOfCells : MOK y_Sh_ownerOfCells b_Sh_ownerOfCells 1 (some .int) 0 := ⟨tb_at (lt_s2 171 rfl) rfl, tb_at (lt_s1 3 rfl) rfl, by decide +kernel, by decide +kernel, by decide +kernel⟩
set_option maxRecDepth 20000 in
theorem is_Sh_ownerOfCells : MIN y_Sh_ownerOfCells := ⟨tb_at (lt_s2 170 rfl) rfl, tb_at (lt_s0 29 rfl) rfl⟩
def y_Sh_goesWrongWay : MethodName := ⟨"ScanMachine$Shape", "goesWrongWay", "()Z"⟩
abbrev b_Sh_goesWrongWay : ByteArray := prog_9_method_14_code
set_option maxRecDepth 20000 in
theorem ok_Sh_goesWrongWay : MOK y_Sh_goesWrongWay b_Sh_goesWrongWay 1 (some .boolean) 0 := ⟨tb_at (lt_s2 179 rfl) rfl, tb_at (lt_s1 3 rfl) rfl, by decide +kernel, by decide +kernel, by decide +kernel⟩
set_option maxRecDepth 20000 in
theorem is_Sh_goesWrongWay : MIN y_Sh_goesWrongWay := ⟨tb_at (lt_s2 178 rfl) rfl, tb_at (lt_s0 31 rfl) rfl⟩
def y_Wa_init : MethodName := ⟨"ScanMachine$Ways", "<init>", "(LScanMachine$Code;)V"⟩
abbrev b_Wa_init : ByteArray := prog_10_method_1_code
set_option maxRecDepth 20000 in
theorem ok_Wa_init : MOK y_Wa_init b_Wa_init 2 none 1 := ⟨tb_at (lt_s1 124 rfl) rfl, tb_at (lt_s1 6 rfl) rfl, by decide +kernel, by decide +kernel, by decide +kernel⟩
set_option maxRecDepth 20000 in
theorem is_Wa_init : Cond.instanceMethod y_Wa_init ∈ TB := tb_at (lt_s1 123 rfl) rfl
def y_Wa_stepsOf : MethodName := ⟨"ScanMachine$Ways", "stepsOf", "(I)J"⟩
abbrev b_Wa_stepsOf : ByteArray := prog_10_method_2_code
set_option maxRecDepth 20000 in
theorem ok_Wa_stepsOf : MOK y_Wa_stepsOf b_Wa_stepsOf 2 (some .long) 1 := ⟨tb_at (lt_s3 34 rfl) rfl, tb_at (lt_s1 6 rfl) rfl, by decide +kernel, by decide +kernel, by decide +kernel⟩
set_option maxRecDepth 20000 in
theorem is_Wa_stepsOf : MIN y_Wa_stepsOf := ⟨tb_at (lt_s3 33 rfl) rfl, tb_at (lt_s0 49 rfl) rfl⟩
def y_Wa_faultOf : MethodName := ⟨"ScanMachine$Ways", "faultOf", "(I)I"⟩
abbrev b_Wa_faultOf : ByteArray := prog_10_method_3_code
set_option maxRecDepth 20000 in
theorem ok_Wa_faultOf : MOK y_Wa_faultOf b_Wa_faultOf 7 (some .int) 1 := ⟨tb_at (lt_s3 4 rfl) rfl, tb_at (lt_s1 6 rfl) rfl, by decide +kernel, by decide +kernel, by decide +kernel⟩
set_option maxRecDepth 20000 in
theorem is_Wa_faultOf : MIN y_Wa_faultOf := ⟨tb_at (lt_s3 3 rfl) rfl, tb_at (lt_s0 44 rfl) rfl⟩
def y_Wa_walk : MethodName := ⟨"ScanMachine$Ways", "walk", "(II)V"⟩
abbrev b_Wa_walk : ByteArray := prog_10_method_4_code
set_option maxRecDepth 20000 in
theorem ok_Wa_walk : MOK y_Wa_walk b_Wa_walk 4 none 2 := ⟨tb_at (lt_s3 11 rfl) rfl, tb_at (lt_s1 6 rfl) rfl, by decide +kernel, by decide +kernel, by decide +kernel⟩
set_option maxRecDepth 20000 in
theorem is_Wa_walk : MIN y_Wa_walk := ⟨tb_at (lt_s3 10 rfl) rfl, tb_at (lt_s0 45 rfl) rfl⟩
def y_Wa_goOn : MethodName := ⟨"ScanMachine$Ways", "goOn", "(IJ)V"⟩
abbrev b_Wa_goOn : ByteArray := prog_10_method_5_code
set_option maxRecDepth 20000 in
theorem ok_Wa_goOn : MOK y_Wa_goOn b_Wa_goOn 4 none 2 := ⟨tb_at (lt_s3 19 rfl) rfl, tb_at (lt_s1 6 rfl) rfl, by decide +kernel, by decide +kernel, by decide +kernel⟩
set_option maxRecDepth 20000 in
theorem is_Wa_goOn : MIN y_Wa_goOn := ⟨tb_at (lt_s3 18 rfl) rfl, tb_at (lt_s0 46 rfl) rfl⟩
def y_Wa_passLoop : MethodName := ⟨"ScanMachine$Ways", "passLoop", "(IJ)V"⟩
abbrev b_Wa_passLoop : ByteArray := prog_10_method_6_code
set_option maxRecDepth 20000 in
theorem ok_Wa_passLoop : MOK y_Wa_passLoop b_Wa_passLoop 8 none 2 := ⟨tb_at (lt_s3 30 rfl) rfl, tb_at (lt_s1 6 rfl) rfl, by decide +kernel, by decide +kernel, by decide +kernel⟩
set_option maxRecDepth 20000 in
theorem is_Wa_passLoop : MIN y_Wa_passLoop := ⟨tb_at (lt_s3 29 rfl) rfl, tb_at (lt_s0 48 rfl) rfl⟩
def y_Wa_reach : MethodName := ⟨"ScanMachine$Ways", "reach", "(IJ)V"⟩
abbrev b_Wa_reach : ByteArray := prog_10_method_7_code
set_option maxRecDepth 20000 in
theorem ok_Wa_reach : MOK y_Wa_reach b_Wa_reach 4 none 2 := ⟨tb_at (lt_s3 24 rfl) rfl, tb_at (lt_s1 6 rfl) rfl, by decide +kernel, by decide +kernel, by decide +kernel⟩
set_option maxRecDepth 20000 in
theorem is_Wa_reach : MIN y_Wa_reach := ⟨tb_at (lt_s3 23 rfl) rfl, tb_at (lt_s0 47 rfl) rfl⟩
def y_Ma_maxI : MethodName := ⟨"java/lang/Math", "max", "(II)I"⟩
abbrev b_Ma_maxI : ByteArray := prog_13_method_65_code
set_option maxRecDepth 20000 in
theorem ok_Ma_maxI : MOK y_Ma_maxI b_Ma_maxI 2 (some .int) 2 := ⟨tb_at (lt_s2 111 rfl) rfl, tb_at (lt_s1 12 rfl) rfl, by decide +kernel, by decide +kernel, by decide +kernel⟩
set_option maxRecDepth 20000 in
theorem is_Ma_maxI : Cond.static y_Ma_maxI ∈ TB := tb_at (lt_s2 110 rfl) rfl
def y_Ma_minI : MethodName := ⟨"java/lang/Math", "min", "(II)I"⟩
abbrev b_Ma_minI : ByteArray := prog_13_method_69_code
set_option maxRecDepth 20000 in
theorem ok_Ma_minI : MOK y_Ma_minI b_Ma_minI 2 (some .int) 2 := ⟨tb_at (lt_s2 114 rfl) rfl, tb_at (lt_s1 12 rfl) rfl, by decide +kernel, by decide +kernel, by decide +kernel⟩
set_option maxRecDepth 20000 in
theorem is_Ma_minI : Cond.static y_Ma_minI ∈ TB := tb_at (lt_s2 113 rfl) rfl
def y_Ma_minJ : MethodName := ⟨"java/lang/Math", "min", "(JJ)J"⟩
abbrev b_Ma_minJ : ByteArray := prog_13_method_70_code
set_option maxRecDepth 20000 in
theorem ok_Ma_minJ : MOK y_Ma_minJ b_Ma_minJ 4 (some .long) 2 := ⟨tb_at (lt_s3 137 rfl) rfl, tb_at (lt_s1 12 rfl) rfl, by decide +kernel, by decide +kernel, by decide +kernel⟩
set_option maxRecDepth 20000 in
theorem is_Ma_minJ : Cond.static y_Ma_minJ ∈ TB := tb_at (lt_s3 136 rfl) rfl
def y_Ar_fillI : MethodName := ⟨"java/util/Arrays", "fill", "([II)V"⟩
abbrev b_Ar_fillI : ByteArray := prog_14_method_103_code
set_option maxRecDepth 20000 in
theorem ok_Ar_fillI : MOK y_Ar_fillI b_Ar_fillI 4 none 2 := ⟨tb_at (lt_s2 37 rfl) rfl, tb_at (lt_s1 11 rfl) rfl, by decide +kernel, by decide +kernel, by decide +kernel⟩
set_option maxRecDepth 20000 in
theorem is_Ar_fillI : Cond.static y_Ar_fillI ∈ TB := tb_at (lt_s2 36 rfl) rfl
def y_Ar_fillJ : MethodName := ⟨"java/util/Arrays", "fill", "([JJ)V"⟩
abbrev b_Ar_fillJ : ByteArray := prog_14_method_101_code
set_option maxRecDepth 20000 in
theorem ok_Ar_fillJ : MOK y_Ar_fillJ b_Ar_fillJ 5 none 2 := ⟨tb_at (lt_s3 15 rfl) rfl, tb_at (lt_s1 11 rfl) rfl, by decide +kernel, by decide +kernel, by decide +kernel⟩
set_option maxRecDepth 20000 in
theorem is_Ar_fillJ : Cond.static y_Ar_fillJ ∈ TB := tb_at (lt_s3 14 rfl) rfl
set_option maxRecDepth 20000 in
theorem lk_14 : Cond.classLink "ScanMachineLaw" 7 "ScanMachine" ∈ TB := tb_at (lt_s1 14 rfl) rfl
set_option maxRecDepth 20000 in
theorem lk_15 : Cond.instantiable "ScanMachine" 13 ∈ TB := tb_at (lt_s1 15 rfl) rfl
set_option maxRecDepth 20000 in
theorem lk_16 : Cond.methodLink "ScanMachineLaw" 9 ⟨"ScanMachine", "<init>", "()V"⟩ ∈ TB := tb_at (lt_s1 16 rfl) rfl
set_option maxRecDepth 20000 in
theorem lk_19 : Cond.methodLink "ScanMachine" 1 ⟨"java/lang/Object", "<init>", "()V"⟩ ∈ TB := tb_at (lt_s1 19 rfl) rfl
set_option maxRecDepth 20000 in
theorem lk_22 : Cond.classLink "ScanMachine" 7 "ScanMachine$Code" ∈ TB := tb_at (lt_s1 22 rfl) rfl
set_option maxRecDepth 20000 in
theorem lk_23 : Cond.instantiable "ScanMachine$Code" 10 ∈ TB := tb_at (lt_s1 23 rfl) rfl
set_option maxRecDepth 20000 in
theorem lk_24 : Cond.methodLinkNest "ScanMachine" 9 ⟨"ScanMachine$Code", "<init>", "()V"⟩ "ScanMachine" ∈ NWL := nw_at (lt_s1 24 rfl) rfl
set_option maxRecDepth 20000 in
theorem lk_27 : Cond.methodLink "ScanMachine$Code" 3 ⟨"java/lang/Object", "<init>", "()V"⟩ ∈ TB := tb_at (lt_s1 27 rfl) rfl
set_option maxRecDepth 20000 in
theorem lk_28 : Cond.fieldLink "ScanMachine$Code" 9 "ScanMachine$Code" "frames" "[I" ∈ TB := tb_at (lt_s1 28 rfl) rfl
set_option maxRecDepth 20000 in
theorem lk_29 : Cond.fieldLink "ScanMachine$Code" 15 "ScanMachine$Code" "places" "[I" ∈ TB := tb_at (lt_s1 29 rfl) rfl
set_option maxRecDepth 20000 in
theorem lk_30 : Cond.fieldLink "ScanMachine$Code" 18 "ScanMachine$Code" "firsts" "[I" ∈ TB := tb_at (lt_s1 30 rfl) rfl
set_option maxRecDepth 20000 in
theorem lk_31 : Cond.fieldLink "ScanMachine$Code" 21 "ScanMachine$Code" "sizes" "[I" ∈ TB := tb_at (lt_s1 31 rfl) rfl
set_option maxRecDepth 20000 in
theorem lk_32 : Cond.fieldLink "ScanMachine$Code" 24 "ScanMachine$Code" "numbers" "[I" ∈ TB := tb_at (lt_s1 32 rfl) rfl
set_option maxRecDepth 20000 in
theorem lk_33 : Cond.fieldLink "ScanMachine$Code" 27 "ScanMachine$Code" "as" "[I" ∈ TB := tb_at (lt_s1 33 rfl) rfl
set_option maxRecDepth 20000 in
theorem lk_34 : Cond.fieldLink "ScanMachine$Code" 30 "ScanMachine$Code" "bs" "[I" ∈ TB := tb_at (lt_s1 34 rfl) rfl
set_option maxRecDepth 20000 in
theorem lk_35 : Cond.fieldLink "ScanMachine$Code" 33 "ScanMachine$Code" "cs" "[I" ∈ TB := tb_at (lt_s1 35 rfl) rfl
set_option maxRecDepth 20000 in
theorem lk_36 : Cond.fieldLink "ScanMachine$Code" 36 "ScanMachine$Code" "units" "I" ∈ TB := tb_at (lt_s1 36 rfl) rfl
set_option maxRecDepth 20000 in
theorem lk_37 : Cond.fieldLink "ScanMachine$Code" 40 "ScanMachine$Code" "length" "I" ∈ TB := tb_at (lt_s1 37 rfl) rfl
set_option maxRecDepth 20000 in
theorem lk_59 : Cond.arrayClass FieldType.int ∈ TB := tb_at (lt_s1 59 rfl) rfl
set_option maxRecDepth 20000 in
theorem lk_60 : Cond.classLink "ScanMachine" 16 "ScanMachine$Shape" ∈ TB := tb_at (lt_s1 60 rfl) rfl
set_option maxRecDepth 20000 in
theorem lk_61 : Cond.instantiable "ScanMachine$Shape" 7 ∈ TB := tb_at (lt_s1 61 rfl) rfl
set_option maxRecDepth 20000 in
theorem lk_62 : Cond.methodLinkNest "ScanMachine" 18 ⟨"ScanMachine$Shape", "<init>", "(LScanMachine$Code;)V"⟩ "ScanMachine" ∈ NWL := nw_at (lt_s1 62 rfl) rfl
set_option maxRecDepth 20000 in
theorem lk_65 : Cond.methodLink "ScanMachine$Shape" 3 ⟨"java/lang/Object", "<init>", "()V"⟩ ∈ TB := tb_at (lt_s1 65 rfl) rfl
set_option maxRecDepth 20000 in
theorem lk_66 : Cond.fieldLink "ScanMachine$Shape" 9 "ScanMachine$Shape" "code" "LScanMachine$Code;" ∈ TB := tb_at (lt_s1 66 rfl) rfl
set_option maxRecDepth 20000 in
theorem lk_67 : Cond.fieldLink "ScanMachine$Shape" 15 "ScanMachine$Shape" "unit" "I" ∈ TB := tb_at (lt_s1 67 rfl) rfl
set_option maxRecDepth 20000 in
theorem lk_68 : Cond.fieldLink "ScanMachine$Shape" 59 "ScanMachine$Shape" "i" "I" ∈ TB := tb_at (lt_s1 68 rfl) rfl
set_option maxRecDepth 20000 in
theorem lk_69 : Cond.fieldLink "ScanMachine$Shape" 65 "ScanMachine$Shape" "number" "I" ∈ TB := tb_at (lt_s1 69 rfl) rfl
set_option maxRecDepth 20000 in
theorem lk_70 : Cond.fieldLink "ScanMachine$Shape" 71 "ScanMachine$Shape" "a" "I" ∈ TB := tb_at (lt_s1 70 rfl) rfl
set_option maxRecDepth 20000 in
theorem lk_71 : Cond.fieldLink "ScanMachine$Shape" 77 "ScanMachine$Shape" "b" "I" ∈ TB := tb_at (lt_s1 71 rfl) rfl
set_option maxRecDepth 20000 in
theorem lk_72 : Cond.fieldLink "ScanMachine$Shape" 83 "ScanMachine$Shape" "c" "I" ∈ TB := tb_at (lt_s1 72 rfl) rfl
set_option maxRecDepth 20000 in
theorem lk_88 : Cond.classLink "ScanMachine" 25 "ScanMachine$Loops" ∈ TB := tb_at (lt_s1 88 rfl) rfl
set_option maxRecDepth 20000 in
theorem lk_89 : Cond.instantiable "ScanMachine$Loops" 4 ∈ TB := tb_at (lt_s1 89 rfl) rfl
set_option maxRecDepth 20000 in
theorem lk_90 : Cond.methodLinkNest "ScanMachine" 27 ⟨"ScanMachine$Loops", "<init>", "(LScanMachine$Code;)V"⟩ "ScanMachine" ∈ NWL := nw_at (lt_s1 90 rfl) rfl
set_option maxRecDepth 20000 in
theorem lk_93 : Cond.methodLink "ScanMachine$Loops" 3 ⟨"java/lang/Object", "<init>", "()V"⟩ ∈ TB := tb_at (lt_s1 93 rfl) rfl
set_option maxRecDepth 20000 in
theorem lk_94 : Cond.fieldLink "ScanMachine$Loops" 15 "ScanMachine$Loops" "code" "LScanMachine$Code;" ∈ TB := tb_at (lt_s1 94 rfl) rfl
set_option maxRecDepth 20000 in
theorem lk_95 : Cond.fieldLink "ScanMachine$Loops" 9 "ScanMachine$Loops" "nexts" "[I" ∈ TB := tb_at (lt_s1 95 rfl) rfl
set_option maxRecDepth 20000 in
theorem lk_96 : Cond.fieldLink "ScanMachine$Loops" 36 "ScanMachine$Loops" "loops" "I" ∈ TB := tb_at (lt_s1 96 rfl) rfl
set_option maxRecDepth 20000 in
theorem lk_97 : Cond.fieldLink "ScanMachine$Loops" 19 "ScanMachine$Loops" "unit" "I" ∈ TB := tb_at (lt_s1 97 rfl) rfl
set_option maxRecDepth 20000 in
theorem lk_107 : Cond.classLink "ScanMachine" 32 "ScanMachine$Depths" ∈ TB := tb_at (lt_s1 107 rfl) rfl
set_option maxRecDepth 20000 in
theorem lk_108 : Cond.instantiable "ScanMachine$Depths" 2 ∈ TB := tb_at (lt_s1 108 rfl) rfl
set_option maxRecDepth 20000 in
theorem lk_109 : Cond.methodLinkNest "ScanMachine" 34 ⟨"ScanMachine$Depths", "<init>", "(LScanMachine$Code;)V"⟩ "ScanMachine" ∈ NWL := nw_at (lt_s1 109 rfl) rfl
set_option maxRecDepth 20000 in
theorem lk_112 : Cond.methodLink "ScanMachine$Depths" 3 ⟨"java/lang/Object", "<init>", "()V"⟩ ∈ TB := tb_at (lt_s1 112 rfl) rfl
set_option maxRecDepth 20000 in
theorem lk_113 : Cond.fieldLink "ScanMachine$Depths" 15 "ScanMachine$Depths" "code" "LScanMachine$Code;" ∈ TB := tb_at (lt_s1 113 rfl) rfl
set_option maxRecDepth 20000 in
theorem lk_114 : Cond.fieldLink "ScanMachine$Depths" 9 "ScanMachine$Depths" "depths" "[I" ∈ TB := tb_at (lt_s1 114 rfl) rfl
set_option maxRecDepth 20000 in
theorem lk_120 : Cond.classLink "ScanMachine" 39 "ScanMachine$Ways" ∈ TB := tb_at (lt_s1 120 rfl) rfl
set_option maxRecDepth 20000 in
theorem lk_121 : Cond.instantiable "ScanMachine$Ways" 6 ∈ TB := tb_at (lt_s1 121 rfl) rfl
set_option maxRecDepth 20000 in
theorem lk_122 : Cond.methodLinkNest "ScanMachine" 41 ⟨"ScanMachine$Ways", "<init>", "(LScanMachine$Code;)V"⟩ "ScanMachine" ∈ NWL := nw_at (lt_s1 122 rfl) rfl
set_option maxRecDepth 20000 in
theorem lk_125 : Cond.methodLink "ScanMachine$Ways" 3 ⟨"java/lang/Object", "<init>", "()V"⟩ ∈ TB := tb_at (lt_s1 125 rfl) rfl
set_option maxRecDepth 20000 in
theorem lk_126 : Cond.fieldLink "ScanMachine$Ways" 21 "ScanMachine$Ways" "code" "LScanMachine$Code;" ∈ TB := tb_at (lt_s1 126 rfl) rfl
set_option maxRecDepth 20000 in
theorem lk_127 : Cond.fieldLink "ScanMachine$Ways" 9 "ScanMachine$Ways" "reached" "[J" ∈ TB := tb_at (lt_s1 127 rfl) rfl
set_option maxRecDepth 20000 in
theorem lk_128 : Cond.fieldLink "ScanMachine$Ways" 15 "ScanMachine$Ways" "rounds" "[J" ∈ TB := tb_at (lt_s1 128 rfl) rfl
set_option maxRecDepth 20000 in
theorem lk_129 : Cond.fieldLink "ScanMachine$Ways" 18 "ScanMachine$Ways" "steps" "[J" ∈ TB := tb_at (lt_s1 129 rfl) rfl
set_option maxRecDepth 20000 in
theorem lk_130 : Cond.fieldLink "ScanMachine$Ways" 25 "ScanMachine$Ways" "unit" "I" ∈ TB := tb_at (lt_s1 130 rfl) rfl
set_option maxRecDepth 20000 in
theorem lk_131 : Cond.fieldLink "ScanMachine$Ways" 52 "ScanMachine$Ways" "end" "I" ∈ TB := tb_at (lt_s1 131 rfl) rfl
set_option maxRecDepth 20000 in
theorem lk_145 : Cond.arrayClass FieldType.long ∈ TB := tb_at (lt_s1 145 rfl) rfl
set_option maxRecDepth 20000 in
theorem lk_146 : Cond.classLink "ScanMachine" 46 "ScanMachine$Memory" ∈ TB := tb_at (lt_s1 146 rfl) rfl
set_option maxRecDepth 20000 in
theorem lk_147 : Cond.instantiable "ScanMachine$Memory" 4 ∈ TB := tb_at (lt_s1 147 rfl) rfl
set_option maxRecDepth 20000 in
theorem lk_148 : Cond.methodLinkNest "ScanMachine" 48 ⟨"ScanMachine$Memory", "<init>", "()V"⟩ "ScanMachine" ∈ NWL := nw_at (lt_s1 148 rfl) rfl
set_option maxRecDepth 20000 in
theorem lk_151 : Cond.methodLink "ScanMachine$Memory" 3 ⟨"java/lang/Object", "<init>", "()V"⟩ ∈ TB := tb_at (lt_s1 151 rfl) rfl
set_option maxRecDepth 20000 in
theorem lk_152 : Cond.fieldLink "ScanMachine$Memory" 9 "ScanMachine$Memory" "cells" "[I" ∈ TB := tb_at (lt_s1 152 rfl) rfl
set_option maxRecDepth 20000 in
theorem lk_153 : Cond.fieldLink "ScanMachine$Memory" 15 "ScanMachine$Memory" "stack" "[I" ∈ TB := tb_at (lt_s1 153 rfl) rfl
set_option maxRecDepth 20000 in
theorem lk_154 : Cond.fieldLink "ScanMachine$Memory" 27 "ScanMachine$Memory" "depth" "I" ∈ TB := tb_at (lt_s1 154 rfl) rfl
set_option maxRecDepth 20000 in
theorem lk_155 : Cond.fieldLink "ScanMachine$Memory" 31 "ScanMachine$Memory" "deepest" "I" ∈ TB := tb_at (lt_s1 155 rfl) rfl
set_option maxRecDepth 20000 in
theorem lk_156 : Cond.fieldLinkNest "ScanMachine" 136 "ScanMachine$Memory" "deepest" "I" "ScanMachine" ∈ NWL := nw_at (lt_s1 156 rfl) rfl
set_option maxRecDepth 20000 in
theorem lk_166 : Cond.classLink "ScanMachine" 53 "ScanMachine$Runner" ∈ TB := tb_at (lt_s1 166 rfl) rfl
set_option maxRecDepth 20000 in
theorem lk_167 : Cond.instantiable "ScanMachine$Runner" 13 ∈ TB := tb_at (lt_s1 167 rfl) rfl
set_option maxRecDepth 20000 in
theorem lk_168 : Cond.methodLinkNest "ScanMachine" 55 ⟨"ScanMachine$Runner", "<init>", "(LScanMachine$Code;LScanMachine$Memory;)V"⟩ "ScanMachine" ∈ NWL := nw_at (lt_s1 168 rfl) rfl
set_option maxRecDepth 20000 in
theorem lk_171 : Cond.methodLink "ScanMachine$Runner" 3 ⟨"java/lang/Object", "<init>", "()V"⟩ ∈ TB := tb_at (lt_s1 171 rfl) rfl
set_option maxRecDepth 20000 in
theorem lk_172 : Cond.classLink "ScanMachine$Runner" 29 "ScanMachine$Blocks" ∈ TB := tb_at (lt_s1 172 rfl) rfl
set_option maxRecDepth 20000 in
theorem lk_173 : Cond.instantiable "ScanMachine$Blocks" 1 ∈ TB := tb_at (lt_s1 173 rfl) rfl
set_option maxRecDepth 20000 in
theorem lk_174 : Cond.methodLinkNest "ScanMachine$Runner" 31 ⟨"ScanMachine$Blocks", "<init>", "(LScanMachine$Memory;)V"⟩ "ScanMachine" ∈ NWL := nw_at (lt_s1 174 rfl) rfl
set_option maxRecDepth 20000 in
theorem lk_177 : Cond.methodLink "ScanMachine$Blocks" 1 ⟨"java/lang/Object", "<init>", "()V"⟩ ∈ TB := tb_at (lt_s1 177 rfl) rfl
set_option maxRecDepth 20000 in
theorem lk_178 : Cond.fieldLink "ScanMachine$Blocks" 7 "ScanMachine$Blocks" "memory" "LScanMachine$Memory;" ∈ TB := tb_at (lt_s1 178 rfl) rfl
set_option maxRecDepth 20000 in
theorem lk_182 : Cond.fieldLink "ScanMachine$Runner" 21 "ScanMachine$Runner" "code" "LScanMachine$Code;" ∈ TB := tb_at (lt_s1 182 rfl) rfl
set_option maxRecDepth 20000 in
theorem lk_183 : Cond.fieldLink "ScanMachine$Runner" 25 "ScanMachine$Runner" "memory" "LScanMachine$Memory;" ∈ TB := tb_at (lt_s1 183 rfl) rfl
set_option maxRecDepth 20000 in
theorem lk_184 : Cond.fieldLink "ScanMachine$Runner" 34 "ScanMachine$Runner" "blocks" "LScanMachine$Blocks;" ∈ TB := tb_at (lt_s1 184 rfl) rfl
set_option maxRecDepth 20000 in
theorem lk_185 : Cond.fieldLink "ScanMachine$Runner" 9 "ScanMachine$Runner" "waitingUnits" "[I" ∈ TB := tb_at (lt_s1 185 rfl) rfl
set_option maxRecDepth 20000 in
theorem lk_186 : Cond.fieldLink "ScanMachine$Runner" 15 "ScanMachine$Runner" "waitingNexts" "[I" ∈ TB := tb_at (lt_s1 186 rfl) rfl
set_option maxRecDepth 20000 in
theorem lk_187 : Cond.fieldLink "ScanMachine$Runner" 18 "ScanMachine$Runner" "waitingBases" "[I" ∈ TB := tb_at (lt_s1 187 rfl) rfl
set_option maxRecDepth 20000 in
theorem lk_188 : Cond.fieldLink "ScanMachine$Runner" 47 "ScanMachine$Runner" "waiting" "I" ∈ TB := tb_at (lt_s1 188 rfl) rfl
set_option maxRecDepth 20000 in
theorem lk_189 : Cond.fieldLink "ScanMachine$Runner" 62 "ScanMachine$Runner" "unit" "I" ∈ TB := tb_at (lt_s1 189 rfl) rfl
set_option maxRecDepth 20000 in
theorem lk_190 : Cond.fieldLink "ScanMachine$Runner" 65 "ScanMachine$Runner" "next" "I" ∈ TB := tb_at (lt_s1 190 rfl) rfl
set_option maxRecDepth 20000 in
theorem lk_191 : Cond.fieldLink "ScanMachine$Runner" 68 "ScanMachine$Runner" "base" "I" ∈ TB := tb_at (lt_s1 191 rfl) rfl
set_option maxRecDepth 20000 in
theorem lk_192 : Cond.fieldLink "ScanMachine$Runner" 50 "ScanMachine$Runner" "steps" "I" ∈ TB := tb_at (lt_s1 192 rfl) rfl
set_option maxRecDepth 20000 in
theorem lk_193 : Cond.fieldLinkNest "ScanMachine" 133 "ScanMachine$Runner" "steps" "I" "ScanMachine" ∈ NWL := nw_at (lt_s1 193 rfl) rfl
set_option maxRecDepth 20000 in
theorem lk_194 : Cond.fieldLink "ScanMachine$Runner" 53 "ScanMachine$Runner" "fault" "I" ∈ TB := tb_at (lt_s1 194 rfl) rfl
set_option maxRecDepth 20000 in
theorem lk_195 : Cond.fieldLink "ScanMachine$Runner" 38 "ScanMachine$Runner" "now" "I" ∈ TB := tb_at (lt_s1 195 rfl) rfl
set_option maxRecDepth 20000 in
theorem lk_223 : Cond.fieldLink "ScanMachine" 10 "ScanMachine" "code" "LScanMachine$Code;" ∈ TB := tb_at (lt_s1 223 rfl) rfl
set_option maxRecDepth 20000 in
theorem lk_224 : Cond.fieldLink "ScanMachine" 21 "ScanMachine" "shape" "LScanMachine$Shape;" ∈ TB := tb_at (lt_s1 224 rfl) rfl
set_option maxRecDepth 20000 in
theorem lk_225 : Cond.fieldLink "ScanMachine" 28 "ScanMachine" "loops" "LScanMachine$Loops;" ∈ TB := tb_at (lt_s1 225 rfl) rfl
set_option maxRecDepth 20000 in
theorem lk_226 : Cond.fieldLink "ScanMachine" 35 "ScanMachine" "depths" "LScanMachine$Depths;" ∈ TB := tb_at (lt_s1 226 rfl) rfl
set_option maxRecDepth 20000 in
theorem lk_227 : Cond.fieldLink "ScanMachine" 42 "ScanMachine" "ways" "LScanMachine$Ways;" ∈ TB := tb_at (lt_s1 227 rfl) rfl
set_option maxRecDepth 20000 in
theorem lk_228 : Cond.fieldLink "ScanMachine" 49 "ScanMachine" "memory" "LScanMachine$Memory;" ∈ TB := tb_at (lt_s1 228 rfl) rfl
set_option maxRecDepth 20000 in
theorem lk_229 : Cond.fieldLink "ScanMachine" 58 "ScanMachine" "runner" "LScanMachine$Runner;" ∈ TB := tb_at (lt_s1 229 rfl) rfl
set_option maxRecDepth 20000 in
theorem lk_230 : Cond.fieldLink "ScanMachine" 62 "ScanMachine" "total" "I" ∈ TB := tb_at (lt_s1 230 rfl) rfl
set_option maxRecDepth 20000 in
theorem lk_231 : Cond.fieldLink "ScanMachine" 104 "ScanMachine" "ready" "Z" ∈ TB := tb_at (lt_s1 231 rfl) rfl
set_option maxRecDepth 20000 in
theorem lk_232 : Cond.fieldLink "ScanMachine" 101 "ScanMachine" "allowed" "I" ∈ TB := tb_at (lt_s1 232 rfl) rfl
set_option maxRecDepth 20000 in
theorem lk_233 : Cond.fieldLink "ScanMachine" 110 "ScanMachine" "now" "I" ∈ TB := tb_at (lt_s1 233 rfl) rfl
set_option maxRecDepth 20000 in
theorem lk_234 : Cond.fieldLink "ScanMachine" 113 "ScanMachine" "scans" "I" ∈ TB := tb_at (lt_s1 234 rfl) rfl
set_option maxRecDepth 20000 in
theorem lk_235 : Cond.fieldLink "ScanMachine" 119 "ScanMachine" "faults" "I" ∈ TB := tb_at (lt_s1 235 rfl) rfl
set_option maxRecDepth 20000 in
theorem lk_263 : Cond.methodLink "ScanMachineLaw" 13 ⟨"ScanMachine", "begin", "(I)I"⟩ ∈ TB := tb_at (lt_s2 23 rfl) rfl
set_option maxRecDepth 20000 in
theorem lk_267 : Cond.methodLink "ScanMachine" 66 ⟨"ScanMachine", "halt", "()V"⟩ ∈ TB := tb_at (lt_s2 27 rfl) rfl
set_option maxRecDepth 20000 in
theorem lk_271 : Cond.methodLinkNest "ScanMachine" 139 ⟨"ScanMachine$Memory", "clear", "()V"⟩ "ScanMachine" ∈ NWL := nw_at (lt_s2 31 rfl) rfl
set_option maxRecDepth 20000 in
theorem lk_275 : Cond.methodLink "ScanMachine$Memory" 18 ⟨"java/util/Arrays", "fill", "([II)V"⟩ ∈ TB := tb_at (lt_s2 35 rfl) rfl
set_option maxRecDepth 20000 in
theorem lk_278 : Cond.methodLink "ScanMachine$Memory" 24 ⟨"ScanMachine$Memory", "emptyStack", "()V"⟩ ∈ TB := tb_at (lt_s2 38 rfl) rfl
set_option maxRecDepth 20000 in
theorem lk_282 : Cond.methodLinkNest "ScanMachine" 69 ⟨"ScanMachine$Code", "forget", "()V"⟩ "ScanMachine" ∈ NWL := nw_at (lt_s2 42 rfl) rfl
set_option maxRecDepth 20000 in
theorem lk_286 : Cond.methodLink "ScanMachineLaw" 18 ⟨"ScanMachine", "unit", "(II)I"⟩ ∈ TB := tb_at (lt_s2 46 rfl) rfl
set_option maxRecDepth 20000 in
theorem lk_290 : Cond.methodLinkNest "ScanMachine" 72 ⟨"ScanMachine$Code", "hasRoomForUnit", "()Z"⟩ "ScanMachine" ∈ NWL := nw_at (lt_s2 50 rfl) rfl
set_option maxRecDepth 20000 in
theorem lk_294 : Cond.methodLinkNest "ScanMachine" 76 ⟨"ScanMachine$Code", "appendUnit", "(II)I"⟩ "ScanMachine" ∈ NWL := nw_at (lt_s2 54 rfl) rfl
set_option maxRecDepth 20000 in
theorem lk_298 : Cond.methodLink "ScanMachine$Code" 43 ⟨"ScanMachine$Code", "hasRoomForUnit", "()Z"⟩ ∈ TB := tb_at (lt_s2 58 rfl) rfl
set_option maxRecDepth 20000 in
theorem lk_299 : Cond.methodLink "ScanMachineLaw" 23 ⟨"ScanMachine", "add", "(IIII)I"⟩ ∈ TB := tb_at (lt_s2 59 rfl) rfl
set_option maxRecDepth 20000 in
theorem lk_303 : Cond.methodLinkNest "ScanMachine" 80 ⟨"ScanMachine$Code", "hasRoomForInstruction", "()Z"⟩ "ScanMachine" ∈ NWL := nw_at (lt_s2 63 rfl) rfl
set_option maxRecDepth 20000 in
theorem lk_307 : Cond.methodLinkNest "ScanMachine" 83 ⟨"ScanMachine$Code", "appendInstruction", "(IIII)I"⟩ "ScanMachine" ∈ NWL := nw_at (lt_s2 67 rfl) rfl
set_option maxRecDepth 20000 in
theorem lk_311 : Cond.methodLink "ScanMachine$Code" 47 ⟨"ScanMachine$Code", "hasRoomForInstruction", "()Z"⟩ ∈ TB := tb_at (lt_s2 71 rfl) rfl
set_option maxRecDepth 20000 in
theorem lk_312 : Cond.methodLink "ScanMachineLaw" 28 ⟨"ScanMachine", "start", "()I"⟩ ∈ TB := tb_at (lt_s2 72 rfl) rfl
set_option maxRecDepth 20000 in
theorem lk_316 : Cond.methodLinkNest "ScanMachine" 87 ⟨"ScanMachine$Code", "unitCount", "()I"⟩ "ScanMachine" ∈ NWL := nw_at (lt_s2 76 rfl) rfl
set_option maxRecDepth 20000 in
theorem lk_320 : Cond.methodLink "ScanMachine" 91 ⟨"ScanMachine", "firstFault", "(I)I"⟩ ∈ TB := tb_at (lt_s2 80 rfl) rfl
set_option maxRecDepth 20000 in
theorem lk_324 : Cond.methodLinkNest "ScanMachine" 142 ⟨"ScanMachine$Shape", "faultOf", "(II)I"⟩ "ScanMachine" ∈ NWL := nw_at (lt_s2 84 rfl) rfl
set_option maxRecDepth 20000 in
theorem lk_328 : Cond.methodLink "ScanMachine$Shape" 19 ⟨"ScanMachine$Shape", "isPlacedWrong", "(I)Z"⟩ ∈ TB := tb_at (lt_s2 88 rfl) rfl
set_option maxRecDepth 20000 in
theorem lk_332 : Cond.methodLinkNest "ScanMachine$Shape" 37 ⟨"ScanMachine$Code", "placeOf", "(I)I"⟩ "ScanMachine" ∈ NWL := nw_at (lt_s2 92 rfl) rfl
set_option maxRecDepth 20000 in
theorem lk_336 : Cond.methodLink "ScanMachine$Code" 50 ⟨"ScanMachine$Code", "hasUnit", "(I)Z"⟩ ∈ TB := tb_at (lt_s2 96 rfl) rfl
set_option maxRecDepth 20000 in
theorem lk_340 : Cond.methodLinkNest "ScanMachine$Shape" 40 ⟨"ScanMachine$Code", "frameOf", "(I)I"⟩ "ScanMachine" ∈ NWL := nw_at (lt_s2 100 rfl) rfl
set_option maxRecDepth 20000 in
theorem lk_344 : Cond.methodLinkNest "ScanMachine$Shape" 43 ⟨"ScanMachine$Code", "unitCount", "()I"⟩ "ScanMachine" ∈ NWL := nw_at (lt_s2 104 rfl) rfl
set_option maxRecDepth 20000 in
theorem lk_345 : Cond.methodLink "ScanMachine$Shape" 46 ⟨"ScanMachine$Shape", "meetsEarlierUnit", "(II)Z"⟩ ∈ TB := tb_at (lt_s2 105 rfl) rfl
set_option maxRecDepth 20000 in
theorem lk_349 : Cond.methodLink "ScanMachine$Shape" 50 ⟨"java/lang/Math", "max", "(II)I"⟩ ∈ TB := tb_at (lt_s2 109 rfl) rfl
set_option maxRecDepth 20000 in
theorem lk_352 : Cond.methodLink "ScanMachine$Shape" 56 ⟨"java/lang/Math", "min", "(II)I"⟩ ∈ TB := tb_at (lt_s2 112 rfl) rfl
set_option maxRecDepth 20000 in
theorem lk_355 : Cond.methodLinkNest "ScanMachine$Shape" 23 ⟨"ScanMachine$Code", "sizeOf", "(I)I"⟩ "ScanMachine" ∈ NWL := nw_at (lt_s2 115 rfl) rfl
set_option maxRecDepth 20000 in
theorem lk_359 : Cond.methodLink "ScanMachine$Shape" 29 ⟨"ScanMachine$Shape", "lookAt", "(I)V"⟩ ∈ TB := tb_at (lt_s2 119 rfl) rfl
set_option maxRecDepth 20000 in
theorem lk_363 : Cond.methodLinkNest "ScanMachine$Shape" 62 ⟨"ScanMachine$Code", "numberAt", "(II)I"⟩ "ScanMachine" ∈ NWL := nw_at (lt_s2 123 rfl) rfl
set_option maxRecDepth 20000 in
theorem lk_367 : Cond.methodLink "ScanMachine$Code" 54 ⟨"ScanMachine$Code", "entry", "([III)I"⟩ ∈ TB := tb_at (lt_s2 127 rfl) rfl
set_option maxRecDepth 20000 in
theorem lk_371 : Cond.methodLinkNest "ScanMachine$Shape" 68 ⟨"ScanMachine$Code", "aAt", "(II)I"⟩ "ScanMachine" ∈ NWL := nw_at (lt_s2 131 rfl) rfl
set_option maxRecDepth 20000 in
theorem lk_375 : Cond.methodLinkNest "ScanMachine$Shape" 74 ⟨"ScanMachine$Code", "bAt", "(II)I"⟩ "ScanMachine" ∈ NWL := nw_at (lt_s2 135 rfl) rfl
set_option maxRecDepth 20000 in
theorem lk_379 : Cond.methodLinkNest "ScanMachine$Shape" 80 ⟨"ScanMachine$Code", "cAt", "(II)I"⟩ "ScanMachine" ∈ NWL := nw_at (lt_s2 139 rfl) rfl
set_option maxRecDepth 20000 in
theorem lk_383 : Cond.methodLink "ScanMachine$Shape" 33 ⟨"ScanMachine$Shape", "faultHere", "()I"⟩ ∈ TB := tb_at (lt_s2 143 rfl) rfl
set_option maxRecDepth 20000 in
theorem lk_387 : Cond.methodLink "ScanMachine$Shape" 86 ⟨"ScanMachine$Shape", "isInstruction", "()Z"⟩ ∈ TB := tb_at (lt_s2 147 rfl) rfl
set_option maxRecDepth 20000 in
theorem lk_391 : Cond.constant "ScanMachine$Shape" 102 (1000000) ∈ TB := tb_at (lt_s2 151 rfl) rfl
set_option maxRecDepth 20000 in
theorem lk_392 : Cond.methodLink "ScanMachine$Shape" 90 ⟨"ScanMachine$Shape", "namesWrongUnit", "()Z"⟩ ∈ TB := tb_at (lt_s2 152 rfl) rfl
set_option maxRecDepth 20000 in
theorem lk_396 : Cond.methodLink "ScanMachine$Shape" 93 ⟨"ScanMachine$Shape", "leavesFrame", "()Z"⟩ ∈ TB := tb_at (lt_s2 156 rfl) rfl
set_option maxRecDepth 20000 in
theorem lk_400 : Cond.methodLink "ScanMachine$Shape" 103 ⟨"ScanMachine$Shape", "howManyCells", "()I"⟩ ∈ TB := tb_at (lt_s2 160 rfl) rfl
set_option maxRecDepth 20000 in
theorem lk_404 : Cond.methodLink "ScanMachine$Shape" 106 ⟨"ScanMachine$Shape", "firstCell", "()I"⟩ ∈ TB := tb_at (lt_s2 164 rfl) rfl
set_option maxRecDepth 20000 in
theorem lk_408 : Cond.methodLink "ScanMachine$Shape" 109 ⟨"ScanMachine$Shape", "ownerOfCells", "()I"⟩ ∈ TB := tb_at (lt_s2 168 rfl) rfl
set_option maxRecDepth 20000 in
theorem lk_412 : Cond.methodLink "ScanMachine$Shape" 96 ⟨"ScanMachine$Shape", "touchesCounter", "()Z"⟩ ∈ TB := tb_at (lt_s2 172 rfl) rfl
set_option maxRecDepth 20000 in
theorem lk_416 : Cond.methodLink "ScanMachine$Shape" 99 ⟨"ScanMachine$Shape", "goesWrongWay", "()Z"⟩ ∈ TB := tb_at (lt_s2 176 rfl) rfl
set_option maxRecDepth 20000 in
theorem lk_420 : Cond.methodLinkNest "ScanMachine" 145 ⟨"ScanMachine$Loops", "faultOf", "(I)I"⟩ "ScanMachine" ∈ NWL := nw_at (lt_s2 180 rfl) rfl
set_option maxRecDepth 20000 in
theorem lk_424 : Cond.methodLink "ScanMachine$Loops" 23 ⟨"ScanMachine$Loops", "gatherLoops", "()V"⟩ ∈ TB := tb_at (lt_s2 184 rfl) rfl
set_option maxRecDepth 20000 in
theorem lk_428 : Cond.methodLinkNest "ScanMachine$Loops" 26 ⟨"ScanMachine$Code", "sizeOf", "(I)I"⟩ "ScanMachine" ∈ NWL := nw_at (lt_s2 188 rfl) rfl
set_option maxRecDepth 20000 in
theorem lk_429 : Cond.methodLinkNest "ScanMachine$Loops" 39 ⟨"ScanMachine$Code", "numberAt", "(II)I"⟩ "ScanMachine" ∈ NWL := nw_at (lt_s2 189 rfl) rfl
set_option maxRecDepth 20000 in
theorem lk_430 : Cond.methodLink "ScanMachine$Loops" 32 ⟨"ScanMachine$Loops", "isWrong", "(I)Z"⟩ ∈ TB := tb_at (lt_s2 190 rfl) rfl
set_option maxRecDepth 20000 in
theorem lk_434 : Cond.methodLink "ScanMachine$Loops" 43 ⟨"ScanMachine$Loops", "isWrongCount", "(I)Z"⟩ ∈ TB := tb_at (lt_s2 194 rfl) rfl
set_option maxRecDepth 20000 in
theorem lk_438 : Cond.methodLinkNest "ScanMachine$Loops" 52 ⟨"ScanMachine$Code", "aAt", "(II)I"⟩ "ScanMachine" ∈ NWL := nw_at (lt_s2 198 rfl) rfl
set_option maxRecDepth 20000 in
theorem lk_439 : Cond.methodLink "ScanMachine$Loops" 59 ⟨"ScanMachine$Loops", "isIn", "(II)Z"⟩ ∈ TB := tb_at (lt_s2 199 rfl) rfl
set_option maxRecDepth 20000 in
theorem lk_443 : Cond.methodLinkNest "ScanMachine$Loops" 62 ⟨"ScanMachine$Code", "bAt", "(II)I"⟩ "ScanMachine" ∈ NWL := nw_at (lt_s2 203 rfl) rfl
set_option maxRecDepth 20000 in
theorem lk_444 : Cond.methodLink "ScanMachine$Loops" 46 ⟨"ScanMachine$Loops", "isWrongNext", "(I)Z"⟩ ∈ TB := tb_at (lt_s2 204 rfl) rfl
set_option maxRecDepth 20000 in
theorem lk_448 : Cond.methodLink "ScanMachine$Loops" 49 ⟨"ScanMachine$Loops", "isWrongBack", "(I)Z"⟩ ∈ TB := tb_at (lt_s2 208 rfl) rfl
set_option maxRecDepth 20000 in
theorem lk_452 : Cond.methodLink "ScanMachine$Loops" 55 ⟨"ScanMachine$Loops", "goesIntoLoop", "(II)Z"⟩ ∈ TB := tb_at (lt_s2 212 rfl) rfl
set_option maxRecDepth 20000 in
theorem lk_456 : Cond.methodLinkNest "ScanMachine" 147 ⟨"ScanMachine$Depths", "faultOf", "(I)I"⟩ "ScanMachine" ∈ NWL := nw_at (lt_s2 216 rfl) rfl
set_option maxRecDepth 20000 in
theorem lk_460 : Cond.methodLinkNest "ScanMachine$Depths" 19 ⟨"ScanMachine$Code", "sizeOf", "(I)I"⟩ "ScanMachine" ∈ NWL := nw_at (lt_s2 220 rfl) rfl
set_option maxRecDepth 20000 in
theorem lk_461 : Cond.methodLink "ScanMachine$Depths" 25 ⟨"java/util/Arrays", "fill", "([II)V"⟩ ∈ TB := tb_at (lt_s2 221 rfl) rfl
set_option maxRecDepth 20000 in
theorem lk_462 : Cond.methodLink "ScanMachine$Depths" 31 ⟨"ScanMachine$Depths", "faultAt", "(III)I"⟩ ∈ TB := tb_at (lt_s2 222 rfl) rfl
set_option maxRecDepth 20000 in
theorem lk_466 : Cond.methodLinkNest "ScanMachine$Depths" 35 ⟨"ScanMachine$Code", "numberAt", "(II)I"⟩ "ScanMachine" ∈ NWL := nw_at (lt_s2 226 rfl) rfl
set_option maxRecDepth 20000 in
theorem lk_467 : Cond.fieldLink "ScanMachine$Depths" 39 "ScanMachine$Depths" "TAKEN" "[I" ∈ TB := tb_at (lt_s2 227 rfl) rfl
set_option maxRecDepth 20000 in
theorem lk_469 : Cond.fieldLink "ScanMachine$Depths" 42 "ScanMachine$Depths" "LEFT" "[I" ∈ TB := tb_at (lt_s2 229 rfl) rfl
set_option maxRecDepth 20000 in
theorem lk_471 : Cond.methodLink "ScanMachine$Depths" 45 ⟨"ScanMachine$Depths", "agrees", "(II)Z"⟩ ∈ TB := tb_at (lt_s2 231 rfl) rfl
set_option maxRecDepth 20000 in
theorem lk_475 : Cond.methodLink "ScanMachine$Depths" 49 ⟨"ScanMachine$Depths", "targetOf", "(III)I"⟩ ∈ TB := tb_at (lt_s2 235 rfl) rfl
set_option maxRecDepth 20000 in
theorem lk_479 : Cond.methodLinkNest "ScanMachine$Depths" 52 ⟨"ScanMachine$Code", "aAt", "(II)I"⟩ "ScanMachine" ∈ NWL := nw_at (lt_s2 239 rfl) rfl
set_option maxRecDepth 20000 in
theorem lk_480 : Cond.methodLinkNest "ScanMachine$Depths" 55 ⟨"ScanMachine$Code", "bAt", "(II)I"⟩ "ScanMachine" ∈ NWL := nw_at (lt_s3 0 rfl) rfl
set_option maxRecDepth 20000 in
theorem lk_481 : Cond.methodLinkNest "ScanMachine" 148 ⟨"ScanMachine$Ways", "faultOf", "(I)I"⟩ "ScanMachine" ∈ NWL := nw_at (lt_s3 1 rfl) rfl
set_option maxRecDepth 20000 in
theorem lk_485 : Cond.methodLinkNest "ScanMachine$Ways" 29 ⟨"ScanMachine$Code", "sizeOf", "(I)I"⟩ "ScanMachine" ∈ NWL := nw_at (lt_s3 5 rfl) rfl
set_option maxRecDepth 20000 in
theorem lk_486 : Cond.methodLinkNest "ScanMachine$Ways" 35 ⟨"ScanMachine$Code", "numberAt", "(II)I"⟩ "ScanMachine" ∈ NWL := nw_at (lt_s3 6 rfl) rfl
set_option maxRecDepth 20000 in
theorem lk_487 : Cond.methodLinkNest "ScanMachine$Ways" 39 ⟨"ScanMachine$Code", "bAt", "(II)I"⟩ "ScanMachine" ∈ NWL := nw_at (lt_s3 7 rfl) rfl
set_option maxRecDepth 20000 in
theorem lk_488 : Cond.methodLink "ScanMachine$Ways" 42 ⟨"ScanMachine$Ways", "walk", "(II)V"⟩ ∈ TB := tb_at (lt_s3 8 rfl) rfl
set_option maxRecDepth 20000 in
theorem lk_492 : Cond.constantLong "ScanMachine$Ways" 46 (-1) ∈ TB := tb_at (lt_s3 12 rfl) rfl
set_option maxRecDepth 20000 in
theorem lk_493 : Cond.methodLink "ScanMachine$Ways" 55 ⟨"java/util/Arrays", "fill", "([JJ)V"⟩ ∈ TB := tb_at (lt_s3 13 rfl) rfl
set_option maxRecDepth 20000 in
theorem lk_496 : Cond.methodLink "ScanMachine$Ways" 61 ⟨"ScanMachine$Ways", "goOn", "(IJ)V"⟩ ∈ TB := tb_at (lt_s3 16 rfl) rfl
set_option maxRecDepth 20000 in
theorem lk_500 : Cond.methodLinkNest "ScanMachine$Ways" 65 ⟨"ScanMachine$Code", "aAt", "(II)I"⟩ "ScanMachine" ∈ NWL := nw_at (lt_s3 20 rfl) rfl
set_option maxRecDepth 20000 in
theorem lk_501 : Cond.methodLink "ScanMachine$Ways" 68 ⟨"ScanMachine$Ways", "reach", "(IJ)V"⟩ ∈ TB := tb_at (lt_s3 21 rfl) rfl
set_option maxRecDepth 20000 in
theorem lk_505 : Cond.constantLong "ScanMachine$Ways" 50 (1000000000) ∈ TB := tb_at (lt_s3 25 rfl) rfl
set_option maxRecDepth 20000 in
theorem lk_506 : Cond.constantLong "ScanMachine$Ways" 78 (1000000001) ∈ TB := tb_at (lt_s3 26 rfl) rfl
set_option maxRecDepth 20000 in
theorem lk_507 : Cond.methodLink "ScanMachine$Ways" 71 ⟨"ScanMachine$Ways", "passLoop", "(IJ)V"⟩ ∈ TB := tb_at (lt_s3 27 rfl) rfl
set_option maxRecDepth 20000 in
theorem lk_511 : Cond.methodLink "ScanMachine$Ways" 74 ⟨"ScanMachine$Ways", "stepsOf", "(I)J"⟩ ∈ TB := tb_at (lt_s3 31 rfl) rfl
set_option maxRecDepth 20000 in
theorem lk_515 : Cond.constantLong "ScanMachine$Ways" 48 (2) ∈ TB := tb_at (lt_s3 35 rfl) rfl
set_option maxRecDepth 20000 in
theorem lk_516 : Cond.methodLinkNest "ScanMachine" 95 ⟨"ScanMachine$Ways", "stepsOf", "(I)J"⟩ "ScanMachine" ∈ NWL := nw_at (lt_s3 36 rfl) rfl
set_option maxRecDepth 20000 in
theorem lk_517 : Cond.constantLong "ScanMachine" 99 (20000) ∈ TB := tb_at (lt_s3 37 rfl) rfl
set_option maxRecDepth 20000 in
theorem lk_518 : Cond.methodLink "ScanMachineLaw" 33 ⟨"ScanMachine", "scan", "(I)I"⟩ ∈ TB := tb_at (lt_s3 38 rfl) rfl
set_option maxRecDepth 20000 in
theorem lk_522 : Cond.constant "ScanMachine" 108 (100000000) ∈ TB := tb_at (lt_s3 42 rfl) rfl
set_option maxRecDepth 20000 in
theorem lk_523 : Cond.constant "ScanMachine" 109 (2000000000) ∈ TB := tb_at (lt_s3 43 rfl) rfl
set_option maxRecDepth 20000 in
theorem lk_524 : Cond.methodLinkNest "ScanMachine" 116 ⟨"ScanMachine$Runner", "run", "(I)I"⟩ "ScanMachine" ∈ NWL := nw_at (lt_s3 44 rfl) rfl
set_option maxRecDepth 20000 in
theorem lk_528 : Cond.methodLinkNest "ScanMachine$Runner" 42 ⟨"ScanMachine$Memory", "emptyStack", "()V"⟩ "ScanMachine" ∈ NWL := nw_at (lt_s3 48 rfl) rfl
set_option maxRecDepth 20000 in
theorem lk_529 : Cond.methodLinkNest "ScanMachine$Runner" 56 ⟨"ScanMachine$Code", "unitCount", "()I"⟩ "ScanMachine" ∈ NWL := nw_at (lt_s3 49 rfl) rfl
set_option maxRecDepth 20000 in
theorem lk_530 : Cond.constant "ScanMachine$Runner" 71 (40002) ∈ TB := tb_at (lt_s3 50 rfl) rfl
set_option maxRecDepth 20000 in
theorem lk_531 : Cond.methodLinkNest "ScanMachine$Runner" 72 ⟨"ScanMachine$Code", "sizeOf", "(I)I"⟩ "ScanMachine" ∈ NWL := nw_at (lt_s3 51 rfl) rfl
set_option maxRecDepth 20000 in
theorem lk_532 : Cond.methodLink "ScanMachine$Runner" 76 ⟨"ScanMachine$Runner", "step", "()V"⟩ ∈ TB := tb_at (lt_s3 52 rfl) rfl
set_option maxRecDepth 20000 in
theorem lk_536 : Cond.methodLinkNest "ScanMachine$Runner" 82 ⟨"ScanMachine$Code", "numberAt", "(II)I"⟩ "ScanMachine" ∈ NWL := nw_at (lt_s3 56 rfl) rfl
set_option maxRecDepth 20000 in
theorem lk_537 : Cond.methodLinkNest "ScanMachine$Runner" 86 ⟨"ScanMachine$Code", "aAt", "(II)I"⟩ "ScanMachine" ∈ NWL := nw_at (lt_s3 57 rfl) rfl
set_option maxRecDepth 20000 in
theorem lk_538 : Cond.methodLinkNest "ScanMachine$Runner" 89 ⟨"ScanMachine$Code", "bAt", "(II)I"⟩ "ScanMachine" ∈ NWL := nw_at (lt_s3 58 rfl) rfl
set_option maxRecDepth 20000 in
theorem lk_539 : Cond.methodLinkNest "ScanMachine$Runner" 92 ⟨"ScanMachine$Code", "cAt", "(II)I"⟩ "ScanMachine" ∈ NWL := nw_at (lt_s3 59 rfl) rfl
set_option maxRecDepth 20000 in
theorem lk_540 : Cond.methodLink "ScanMachine$Runner" 95 ⟨"ScanMachine$Runner", "move", "(IIII)V"⟩ ∈ TB := tb_at (lt_s3 60 rfl) rfl
set_option maxRecDepth 20000 in
theorem lk_544 : Cond.methodLinkNest "ScanMachine$Runner" 110 ⟨"ScanMachine$Memory", "push", "(I)V"⟩ "ScanMachine" ∈ NWL := nw_at (lt_s3 64 rfl) rfl
set_option maxRecDepth 20000 in
theorem lk_548 : Cond.methodLink "ScanMachine$Memory" 34 ⟨"java/lang/Math", "max", "(II)I"⟩ ∈ TB := tb_at (lt_s3 68 rfl) rfl
set_option maxRecDepth 20000 in
theorem lk_549 : Cond.methodLinkNest "ScanMachine$Runner" 114 ⟨"ScanMachine$Memory", "cell", "(I)I"⟩ "ScanMachine" ∈ NWL := nw_at (lt_s3 69 rfl) rfl
set_option maxRecDepth 20000 in
theorem lk_553 : Cond.methodLinkNest "ScanMachine$Runner" 117 ⟨"ScanMachine$Memory", "pop", "()I"⟩ "ScanMachine" ∈ NWL := nw_at (lt_s3 73 rfl) rfl
set_option maxRecDepth 20000 in
theorem lk_557 : Cond.methodLinkNest "ScanMachine$Runner" 120 ⟨"ScanMachine$Memory", "change", "(II)V"⟩ "ScanMachine" ∈ NWL := nw_at (lt_s3 77 rfl) rfl
set_option maxRecDepth 20000 in
theorem lk_561 : Cond.methodLink "ScanMachine$Runner" 123 ⟨"ScanMachine$Runner", "take", "(III)V"⟩ ∈ TB := tb_at (lt_s3 81 rfl) rfl
set_option maxRecDepth 20000 in
theorem lk_565 : Cond.methodLink "ScanMachine$Runner" 126 ⟨"ScanMachine$Runner", "put", "(III)V"⟩ ∈ TB := tb_at (lt_s3 85 rfl) rfl
set_option maxRecDepth 20000 in
theorem lk_569 : Cond.methodLinkNest "ScanMachine$Runner" 129 ⟨"ScanMachine$Code", "placeOf", "(I)I"⟩ "ScanMachine" ∈ NWL := nw_at (lt_s3 89 rfl) rfl
set_option maxRecDepth 20000 in
theorem lk_570 : Cond.methodLink "ScanMachine$Runner" 99 ⟨"ScanMachine$Runner", "reckon", "(II)V"⟩ ∈ TB := tb_at (lt_s3 90 rfl) rfl
set_option maxRecDepth 20000 in
theorem lk_574 : Cond.methodLinkNest "ScanMachine$Runner" 132 ⟨"ScanMachine$Reckoning", "ofOne", "(II)I"⟩ "ScanMachine" ∈ NWL := nw_at (lt_s3 94 rfl) rfl
set_option maxRecDepth 20000 in
theorem lk_577 : Cond.methodLink "ScanMachine$Reckoning" 13 ⟨"ScanMachine$Reckoning", "narrow", "(I)I"⟩ ∈ TB := tb_at (lt_s3 97 rfl) rfl
set_option maxRecDepth 20000 in
theorem lk_580 : Cond.methodLink "ScanMachine$Reckoning" 23 ⟨"ScanMachine$Reckoning", "flag", "(Z)I"⟩ ∈ TB := tb_at (lt_s3 100 rfl) rfl
set_option maxRecDepth 20000 in
theorem lk_583 : Cond.methodLinkNest "ScanMachine$Runner" 137 ⟨"ScanMachine$Reckoning", "divides", "(I)Z"⟩ "ScanMachine" ∈ NWL := nw_at (lt_s3 103 rfl) rfl
set_option maxRecDepth 20000 in
theorem lk_586 : Cond.methodLinkNest "ScanMachine$Runner" 141 ⟨"ScanMachine$Reckoning", "ofTwo", "(III)I"⟩ "ScanMachine" ∈ NWL := nw_at (lt_s3 106 rfl) rfl
set_option maxRecDepth 20000 in
theorem lk_589 : Cond.methodLink "ScanMachine$Reckoning" 7 ⟨"ScanMachine$Reckoning", "ofArithmetic", "(III)I"⟩ ∈ TB := tb_at (lt_s3 109 rfl) rfl
set_option maxRecDepth 20000 in
theorem lk_592 : Cond.methodLink "ScanMachine$Reckoning" 17 ⟨"ScanMachine$Reckoning", "ofBitsAndOrder", "(III)I"⟩ ∈ TB := tb_at (lt_s3 112 rfl) rfl
set_option maxRecDepth 20000 in
theorem lk_595 : Cond.methodLink "ScanMachine$Reckoning" 20 ⟨"ScanMachine$Reckoning", "ofShifts", "(III)I"⟩ ∈ TB := tb_at (lt_s3 115 rfl) rfl
set_option maxRecDepth 20000 in
theorem lk_598 : Cond.constant "ScanMachine$Reckoning" 27 (65535) ∈ TB := tb_at (lt_s3 118 rfl) rfl
set_option maxRecDepth 20000 in
theorem lk_599 : Cond.methodLink "ScanMachine$Reckoning" 28 ⟨"java/lang/Math", "min", "(II)I"⟩ ∈ TB := tb_at (lt_s3 119 rfl) rfl
set_option maxRecDepth 20000 in
theorem lk_600 : Cond.methodLink "ScanMachine$Reckoning" 34 ⟨"java/lang/Math", "max", "(II)I"⟩ ∈ TB := tb_at (lt_s3 120 rfl) rfl
set_option maxRecDepth 20000 in
theorem lk_601 : Cond.methodLinkNest "ScanMachine$Runner" 103 ⟨"ScanMachine$Blocks", "run", "(III)V"⟩ "ScanMachine" ∈ NWL := nw_at (lt_s3 121 rfl) rfl
set_option maxRecDepth 20000 in
theorem lk_605 : Cond.methodLinkNest "ScanMachine$Blocks" 13 ⟨"ScanMachine$Memory", "cell", "(I)I"⟩ "ScanMachine" ∈ NWL := nw_at (lt_s3 125 rfl) rfl
set_option maxRecDepth 20000 in
theorem lk_606 : Cond.methodLink "ScanMachine$Blocks" 19 ⟨"ScanMachine$Blocks", "runTimer", "(IIZI)V"⟩ ∈ TB := tb_at (lt_s3 126 rfl) rfl
set_option maxRecDepth 20000 in
theorem lk_610 : Cond.methodLink "ScanMachine$Blocks" 42 ⟨"java/lang/Math", "max", "(II)I"⟩ ∈ TB := tb_at (lt_s3 130 rfl) rfl
set_option maxRecDepth 20000 in
theorem lk_611 : Cond.methodLink "ScanMachine$Blocks" 31 ⟨"ScanMachine$Blocks", "isSet", "(I)Z"⟩ ∈ TB := tb_at (lt_s3 131 rfl) rfl
set_option maxRecDepth 20000 in
theorem lk_615 : Cond.methodLink "ScanMachine$Blocks" 48 ⟨"java/lang/Math", "min", "(JJ)J"⟩ ∈ TB := tb_at (lt_s3 135 rfl) rfl
set_option maxRecDepth 20000 in
theorem lk_618 : Cond.methodLinkNest "ScanMachine$Blocks" 27 ⟨"ScanMachine$Memory", "change", "(II)V"⟩ "ScanMachine" ∈ NWL := nw_at (lt_s3 138 rfl) rfl
set_option maxRecDepth 20000 in
theorem lk_619 : Cond.methodLink "ScanMachine$Blocks" 23 ⟨"ScanMachine$Blocks", "putFlag", "(IZ)V"⟩ ∈ TB := tb_at (lt_s3 139 rfl) rfl
set_option maxRecDepth 20000 in
theorem lk_623 : Cond.methodLink "ScanMachine$Blocks" 52 ⟨"ScanMachine$Blocks", "runOffDelay", "(IZZII)V"⟩ ∈ TB := tb_at (lt_s3 143 rfl) rfl
set_option maxRecDepth 20000 in
theorem lk_627 : Cond.methodLink "ScanMachine$Blocks" 56 ⟨"ScanMachine$Blocks", "runPulse", "(IZZII)V"⟩ ∈ TB := tb_at (lt_s3 147 rfl) rfl
set_option maxRecDepth 20000 in
theorem lk_631 : Cond.methodLink "ScanMachine$Blocks" 35 ⟨"ScanMachine$Blocks", "runCounter", "(IIZ)V"⟩ ∈ TB := tb_at (lt_s3 151 rfl) rfl
set_option maxRecDepth 20000 in
theorem lk_635 : Cond.methodLink "ScanMachine$Blocks" 39 ⟨"ScanMachine$Blocks", "runLatch", "(IIZ)V"⟩ ∈ TB := tb_at (lt_s3 155 rfl) rfl
set_option maxRecDepth 20000 in
theorem lk_639 : Cond.methodLink "ScanMachine$Runner" 107 ⟨"ScanMachine$Runner", "go", "(III)V"⟩ ∈ TB := tb_at (lt_s3 159 rfl) rfl
set_option maxRecDepth 20000 in
theorem lk_643 : Cond.methodLink "ScanMachine$Runner" 145 ⟨"ScanMachine$Runner", "countDown", "(II)V"⟩ ∈ TB := tb_at (lt_s3 163 rfl) rfl
set_option maxRecDepth 20000 in
theorem lk_647 : Cond.methodLink "ScanMachine$Runner" 148 ⟨"ScanMachine$Runner", "descend", "(II)V"⟩ ∈ TB := tb_at (lt_s3 167 rfl) rfl
set_option maxRecDepth 20000 in
theorem lk_651 : Cond.methodLink "ScanMachine$Runner" 79 ⟨"ScanMachine$Runner", "goBack", "()V"⟩ ∈ TB := tb_at (lt_s3 171 rfl) rfl
set_option maxRecDepth 20000 in
theorem lk_655 : Cond.methodLink "ScanMachineLaw" 37 ⟨"ScanMachine", "set", "(II)I"⟩ ∈ TB := tb_at (lt_s3 175 rfl) rfl
set_option maxRecDepth 20000 in
theorem lk_659 : Cond.methodLink "ScanMachine" 122 ⟨"ScanMachine", "mayTouch", "(I)Z"⟩ ∈ TB := tb_at (lt_s3 179 rfl) rfl
set_option maxRecDepth 20000 in
theorem lk_663 : Cond.methodLinkNest "ScanMachine" 126 ⟨"ScanMachine$Memory", "cell", "(I)I"⟩ "ScanMachine" ∈ NWL := nw_at (lt_s3 183 rfl) rfl
set_option maxRecDepth 20000 in
theorem lk_664 : Cond.methodLinkNest "ScanMachine" 129 ⟨"ScanMachine$Memory", "change", "(II)V"⟩ "ScanMachine" ∈ NWL := nw_at (lt_s3 184 rfl) rfl
set_option maxRecDepth 20000 in
theorem lk_665 : Cond.methodLink "ScanMachineLaw" 41 ⟨"ScanMachine", "get", "(I)I"⟩ ∈ TB := tb_at (lt_s3 185 rfl) rfl
set_option maxRecDepth 20000 in
theorem lk_669 : Cond.methodLink "ScanMachineLaw" 45 ⟨"ScanMachine", "count", "(I)I"⟩ ∈ TB := tb_at (lt_s3 189 rfl) rfl
set_option maxRecDepth 20000 in
theorem lk_673 : Cond.classLink "ScanMachineLaw" 10 "ScanMachineModel" ∈ TB := tb_at (lt_s3 193 rfl) rfl
set_option maxRecDepth 20000 in
theorem lk_674 : Cond.instantiable "ScanMachineModel" 28 ∈ TB := tb_at (lt_s3 194 rfl) rfl
set_option maxRecDepth 20000 in
theorem lk_675 : Cond.methodLink "ScanMachineLaw" 12 ⟨"ScanMachineModel", "<init>", "()V"⟩ ∈ TB := tb_at (lt_s3 195 rfl) rfl
set_option maxRecDepth 20000 in
theorem lk_678 : Cond.methodLink "ScanMachineModel" 1 ⟨"java/lang/Object", "<init>", "()V"⟩ ∈ TB := tb_at (lt_s3 198 rfl) rfl
set_option maxRecDepth 20000 in
theorem lk_679 : Cond.methodLink "ScanMachineModel" 59 ⟨"ScanMachineModel", "begin", "(I)I"⟩ ∈ TB := tb_at (lt_s3 199 rfl) rfl
set_option maxRecDepth 20000 in
theorem lk_683 : Cond.methodLink "ScanMachineModel" 83 ⟨"ScanMachineModel", "stop", "()V"⟩ ∈ TB := tb_at (lt_s3 203 rfl) rfl
set_option maxRecDepth 20000 in
theorem lk_687 : Cond.fieldLink "ScanMachineModel" 86 "ScanMachineModel" "size" "I" ∈ TB := tb_at (lt_s3 207 rfl) rfl
set_option maxRecDepth 20000 in
theorem lk_688 : Cond.fieldLink "ScanMachineModel" 7 "ScanMachineModel" "cells" "[I" ∈ TB := tb_at (lt_s3 208 rfl) rfl
set_option maxRecDepth 20000 in
theorem lk_689 : Cond.fieldLink "ScanMachineModel" 89 "ScanMachineModel" "units" "I" ∈ TB := tb_at (lt_s3 209 rfl) rfl
set_option maxRecDepth 20000 in
theorem lk_690 : Cond.fieldLink "ScanMachineModel" 13 "ScanMachineModel" "frames" "[I" ∈ TB := tb_at (lt_s3 210 rfl) rfl
set_option maxRecDepth 20000 in
theorem lk_691 : Cond.fieldLink "ScanMachineModel" 16 "ScanMachineModel" "places" "[I" ∈ TB := tb_at (lt_s3 211 rfl) rfl
set_option maxRecDepth 20000 in
theorem lk_692 : Cond.fieldLink "ScanMachineModel" 19 "ScanMachineModel" "firsts" "[I" ∈ TB := tb_at (lt_s3 212 rfl) rfl
set_option maxRecDepth 20000 in
theorem lk_693 : Cond.fieldLink "ScanMachineModel" 92 "ScanMachineModel" "total" "I" ∈ TB := tb_at (lt_s3 213 rfl) rfl
set_option maxRecDepth 20000 in
theorem lk_694 : Cond.fieldLink "ScanMachineModel" 22 "ScanMachineModel" "numbers" "[I" ∈ TB := tb_at (lt_s3 214 rfl) rfl
set_option maxRecDepth 20000 in
theorem lk_695 : Cond.fieldLink "ScanMachineModel" 25 "ScanMachineModel" "as" "[I" ∈ TB := tb_at (lt_s3 215 rfl) rfl
set_option maxRecDepth 20000 in
theorem lk_696 : Cond.fieldLink "ScanMachineModel" 28 "ScanMachineModel" "bs" "[I" ∈ TB := tb_at (lt_s3 216 rfl) rfl
set_option maxRecDepth 20000 in
theorem lk_697 : Cond.fieldLink "ScanMachineModel" 31 "ScanMachineModel" "cs" "[I" ∈ TB := tb_at (lt_s3 217 rfl) rfl
set_option maxRecDepth 20000 in
theorem lk_698 : Cond.fieldLink "ScanMachineModel" 124 "ScanMachineModel" "from" "I" ∈ TB := tb_at (lt_s3 218 rfl) rfl
set_option maxRecDepth 20000 in
theorem lk_699 : Cond.fieldLink "ScanMachineModel" 130 "ScanMachineModel" "many" "I" ∈ TB := tb_at (lt_s3 219 rfl) rfl
set_option maxRecDepth 20000 in
theorem lk_700 : Cond.fieldLink "ScanMachineModel" 34 "ScanMachineModel" "depths" "[I" ∈ TB := tb_at (lt_s3 220 rfl) rfl
set_option maxRecDepth 20000 in
theorem lk_701 : Cond.fieldLink "ScanMachineModel" 37 "ScanMachineModel" "ways" "[J" ∈ TB := tb_at (lt_s3 221 rfl) rfl
set_option maxRecDepth 20000 in
theorem lk_702 : Cond.fieldLink "ScanMachineModel" 41 "ScanMachineModel" "rounds" "[J" ∈ TB := tb_at (lt_s3 222 rfl) rfl
set_option maxRecDepth 20000 in
theorem lk_703 : Cond.fieldLink "ScanMachineModel" 44 "ScanMachineModel" "steps" "[J" ∈ TB := tb_at (lt_s3 223 rfl) rfl
set_option maxRecDepth 20000 in
theorem lk_704 : Cond.fieldLink "ScanMachineModel" 63 "ScanMachineModel" "runs" "Z" ∈ TB := tb_at (lt_s3 224 rfl) rfl
set_option maxRecDepth 20000 in
theorem lk_705 : Cond.fieldLink "ScanMachineModel" 67 "ScanMachineModel" "now" "I" ∈ TB := tb_at (lt_s3 225 rfl) rfl
set_option maxRecDepth 20000 in
theorem lk_706 : Cond.fieldLink "ScanMachineModel" 71 "ScanMachineModel" "lastSteps" "I" ∈ TB := tb_at (lt_s3 226 rfl) rfl
set_option maxRecDepth 20000 in
theorem lk_707 : Cond.fieldLink "ScanMachineModel" 74 "ScanMachineModel" "scans" "I" ∈ TB := tb_at (lt_s3 227 rfl) rfl
set_option maxRecDepth 20000 in
theorem lk_708 : Cond.fieldLink "ScanMachineModel" 77 "ScanMachineModel" "faults" "I" ∈ TB := tb_at (lt_s3 228 rfl) rfl
set_option maxRecDepth 20000 in
theorem lk_709 : Cond.fieldLink "ScanMachineModel" 80 "ScanMachineModel" "deepest" "I" ∈ TB := tb_at (lt_s3 229 rfl) rfl
set_option maxRecDepth 20000 in
theorem lk_710 : Cond.fieldLink "ScanMachineModel" 47 "ScanMachineModel" "stack" "[I" ∈ TB := tb_at (lt_s3 230 rfl) rfl
set_option maxRecDepth 20000 in
theorem lk_711 : Cond.fieldLink "ScanMachineModel" 218 "ScanMachineModel" "depth" "I" ∈ TB := tb_at (lt_s3 231 rfl) rfl
set_option maxRecDepth 20000 in
theorem lk_712 : Cond.fieldLink "ScanMachineModel" 50 "ScanMachineModel" "unitOf" "[I" ∈ TB := tb_at (lt_s3 232 rfl) rfl
set_option maxRecDepth 20000 in
theorem lk_713 : Cond.fieldLink "ScanMachineModel" 53 "ScanMachineModel" "baseOf" "[I" ∈ TB := tb_at (lt_s3 233 rfl) rfl
set_option maxRecDepth 20000 in
theorem lk_714 : Cond.fieldLink "ScanMachineModel" 56 "ScanMachineModel" "nextOf" "[I" ∈ TB := tb_at (lt_s3 234 rfl) rfl
set_option maxRecDepth 20000 in
theorem lk_772 : Cond.methodLink "ScanMachineLaw" 17 ⟨"ScanMachineModel", "begin", "(I)I"⟩ ∈ TB := tb_at (lt_s4 52 rfl) rfl
set_option maxRecDepth 20000 in
theorem lk_773 : Cond.methodLink "ScanMachineLaw" 22 ⟨"ScanMachineModel", "unit", "(II)I"⟩ ∈ TB := tb_at (lt_s4 53 rfl) rfl
set_option maxRecDepth 20000 in
theorem lk_777 : Cond.methodLink "ScanMachineLaw" 27 ⟨"ScanMachineModel", "add", "(IIII)I"⟩ ∈ TB := tb_at (lt_s4 57 rfl) rfl
set_option maxRecDepth 20000 in
theorem lk_781 : Cond.methodLink "ScanMachineLaw" 32 ⟨"ScanMachineModel", "start", "()I"⟩ ∈ TB := tb_at (lt_s4 61 rfl) rfl
set_option maxRecDepth 20000 in
theorem lk_785 : Cond.methodLink "ScanMachineModel" 213 ⟨"ScanMachineModel", "unitFault", "(I)I"⟩ ∈ TB := tb_at (lt_s4 65 rfl) rfl
set_option maxRecDepth 20000 in
theorem lk_789 : Cond.methodLink "ScanMachineModel" 194 ⟨"ScanMachineModel", "placeIsWrong", "(I)Z"⟩ ∈ TB := tb_at (lt_s4 69 rfl) rfl
set_option maxRecDepth 20000 in
theorem lk_793 : Cond.methodLink "ScanMachineModel" 197 ⟨"ScanMachineModel", "lineFault", "(II)I"⟩ ∈ TB := tb_at (lt_s4 73 rfl) rfl
set_option maxRecDepth 20000 in
theorem lk_797 : Cond.methodLink "ScanMachineModel" 133 ⟨"ScanMachineModel", "isWrongNumber", "(I)Z"⟩ ∈ TB := tb_at (lt_s4 77 rfl) rfl
set_option maxRecDepth 20000 in
theorem lk_801 : Cond.constantLong "ScanMachineModel" 95 (24) ∈ TB := tb_at (lt_s4 81 rfl) rfl
set_option maxRecDepth 20000 in
theorem lk_802 : Cond.methodLink "ScanMachineModel" 97 ⟨"ScanMachineModel", "isIn", "(JJJ)Z"⟩ ∈ TB := tb_at (lt_s4 82 rfl) rfl
set_option maxRecDepth 20000 in
theorem lk_805 : Cond.constantLong "ScanMachineModel" 101 (7) ∈ TB := tb_at (lt_s4 85 rfl) rfl
set_option maxRecDepth 20000 in
theorem lk_806 : Cond.constantLong "ScanMachineModel" 103 (1000000) ∈ TB := tb_at (lt_s4 86 rfl) rfl
set_option maxRecDepth 20000 in
theorem lk_807 : Cond.constantLong "ScanMachineModel" 105 (8) ∈ TB := tb_at (lt_s4 87 rfl) rfl
set_option maxRecDepth 20000 in
theorem lk_808 : Cond.constantLong "ScanMachineModel" 107 (18) ∈ TB := tb_at (lt_s4 88 rfl) rfl
set_option maxRecDepth 20000 in
theorem lk_809 : Cond.methodLink "ScanMachineModel" 136 ⟨"ScanMachineModel", "isWrongUnit", "(II)Z"⟩ ∈ TB := tb_at (lt_s4 89 rfl) rfl
set_option maxRecDepth 20000 in
theorem lk_813 : Cond.methodLink "ScanMachineModel" 109 ⟨"ScanMachineModel", "namesUnit", "(I)Z"⟩ ∈ TB := tb_at (lt_s4 93 rfl) rfl
set_option maxRecDepth 20000 in
theorem lk_817 : Cond.methodLink "ScanMachineModel" 140 ⟨"ScanMachineModel", "isWrongCell", "(II)Z"⟩ ∈ TB := tb_at (lt_s4 97 rfl) rfl
set_option maxRecDepth 20000 in
theorem lk_821 : Cond.methodLink "ScanMachineModel" 113 ⟨"ScanMachineModel", "cellsOf", "(I)I"⟩ ∈ TB := tb_at (lt_s4 101 rfl) rfl
set_option maxRecDepth 20000 in
theorem lk_825 : Cond.methodLink "ScanMachineModel" 116 ⟨"ScanMachineModel", "firstCell", "(I)J"⟩ ∈ TB := tb_at (lt_s4 105 rfl) rfl
set_option maxRecDepth 20000 in
theorem lk_829 : Cond.methodLink "ScanMachineModel" 143 ⟨"ScanMachineModel", "touchesCounter", "(II)Z"⟩ ∈ TB := tb_at (lt_s4 109 rfl) rfl
set_option maxRecDepth 20000 in
theorem lk_833 : Cond.methodLink "ScanMachineModel" 120 ⟨"ScanMachineModel", "isCounter", "(IJ)Z"⟩ ∈ TB := tb_at (lt_s4 113 rfl) rfl
set_option maxRecDepth 20000 in
theorem lk_837 : Cond.methodLink "ScanMachineModel" 146 ⟨"ScanMachineModel", "goesWrong", "(I)Z"⟩ ∈ TB := tb_at (lt_s4 117 rfl) rfl
set_option maxRecDepth 20000 in
theorem lk_841 : Cond.methodLink "ScanMachineModel" 127 ⟨"ScanMachineModel", "numberAt", "(I)I"⟩ ∈ TB := tb_at (lt_s4 121 rfl) rfl
set_option maxRecDepth 20000 in
theorem lk_845 : Cond.methodLink "ScanMachineModel" 201 ⟨"ScanMachineModel", "isWrongLoop", "(I)Z"⟩ ∈ TB := tb_at (lt_s4 125 rfl) rfl
set_option maxRecDepth 20000 in
theorem lk_849 : Cond.methodLink "ScanMachineModel" 152 ⟨"ScanMachineModel", "hasSame", "(III)Z"⟩ ∈ TB := tb_at (lt_s4 129 rfl) rfl
set_option maxRecDepth 20000 in
theorem lk_853 : Cond.methodLink "ScanMachineModel" 156 ⟨"ScanMachineModel", "isInLoop", "(II)Z"⟩ ∈ TB := tb_at (lt_s4 133 rfl) rfl
set_option maxRecDepth 20000 in
theorem lk_857 : Cond.methodLink "ScanMachineModel" 149 ⟨"ScanMachineModel", "lastOf", "(I)I"⟩ ∈ TB := tb_at (lt_s4 137 rfl) rfl
set_option maxRecDepth 20000 in
theorem lk_861 : Cond.methodLink "ScanMachineModel" 204 ⟨"ScanMachineModel", "stackFault", "(I)I"⟩ ∈ TB := tb_at (lt_s4 141 rfl) rfl
set_option maxRecDepth 20000 in
theorem lk_865 : Cond.methodLink "ScanMachineModel" 159 ⟨"ScanMachineModel", "taken", "(I)I"⟩ ∈ TB := tb_at (lt_s4 145 rfl) rfl
set_option maxRecDepth 20000 in
theorem lk_868 : Cond.methodLink "ScanMachineModel" 162 ⟨"ScanMachineModel", "left", "(I)I"⟩ ∈ TB := tb_at (lt_s4 148 rfl) rfl
set_option maxRecDepth 20000 in
theorem lk_871 : Cond.methodLink "ScanMachineModel" 165 ⟨"ScanMachineModel", "comes", "(II)Z"⟩ ∈ TB := tb_at (lt_s4 151 rfl) rfl
set_option maxRecDepth 20000 in
theorem lk_875 : Cond.methodLink "ScanMachineModel" 207 ⟨"ScanMachineModel", "stepsOf", "()J"⟩ ∈ TB := tb_at (lt_s4 155 rfl) rfl
set_option maxRecDepth 20000 in
theorem lk_879 : Cond.methodLink "ScanMachineModel" 191 ⟨"ScanMachineModel", "way", "(II)J"⟩ ∈ TB := tb_at (lt_s4 159 rfl) rfl
set_option maxRecDepth 20000 in
theorem lk_883 : Cond.methodLink "ScanMachineModel" 176 ⟨"ScanMachineModel", "wayTo", "(II)J"⟩ ∈ TB := tb_at (lt_s4 163 rfl) rfl
set_option maxRecDepth 20000 in
theorem lk_887 : Cond.constantLong "ScanMachineModel" 170 (-1) ∈ TB := tb_at (lt_s4 167 rfl) rfl
set_option maxRecDepth 20000 in
theorem lk_888 : Cond.methodLink "ScanMachineModel" 180 ⟨"ScanMachineModel", "behind", "(JJ)J"⟩ ∈ TB := tb_at (lt_s4 168 rfl) rfl
set_option maxRecDepth 20000 in
theorem lk_891 : Cond.methodLink "ScanMachineModel" 172 ⟨"ScanMachineModel", "cut", "(J)J"⟩ ∈ TB := tb_at (lt_s4 171 rfl) rfl
set_option maxRecDepth 20000 in
theorem lk_894 : Cond.constantLong "ScanMachineModel" 168 (2000000000) ∈ TB := tb_at (lt_s4 174 rfl) rfl
set_option maxRecDepth 20000 in
theorem lk_895 : Cond.methodLink "ScanMachineModel" 184 ⟨"ScanMachineModel", "greater", "(JJ)J"⟩ ∈ TB := tb_at (lt_s4 175 rfl) rfl
set_option maxRecDepth 20000 in
theorem lk_898 : Cond.methodLink "ScanMachineModel" 187 ⟨"ScanMachineModel", "times", "(IJ)J"⟩ ∈ TB := tb_at (lt_s4 178 rfl) rfl
set_option maxRecDepth 20000 in
theorem lk_902 : Cond.constantLong "ScanMachineModel" 211 (1000000000) ∈ TB := tb_at (lt_s4 182 rfl) rfl
set_option maxRecDepth 20000 in
theorem lk_903 : Cond.constantLong "ScanMachineModel" 216 (20000) ∈ TB := tb_at (lt_s4 183 rfl) rfl
set_option maxRecDepth 20000 in
theorem lk_904 : Cond.methodLink "ScanMachineLaw" 36 ⟨"ScanMachineModel", "scan", "(I)I"⟩ ∈ TB := tb_at (lt_s4 184 rfl) rfl
set_option maxRecDepth 20000 in
theorem lk_908 : Cond.constant "ScanMachineModel" 239 (100000000) ∈ TB := tb_at (lt_s4 188 rfl) rfl
set_option maxRecDepth 20000 in
theorem lk_909 : Cond.methodLink "ScanMachineModel" 240 ⟨"ScanMachineModel", "act", "(II)I"⟩ ∈ TB := tb_at (lt_s4 189 rfl) rfl
set_option maxRecDepth 20000 in
theorem lk_913 : Cond.methodLink "ScanMachineModel" 243 ⟨"ScanMachineModel", "push", "(I)V"⟩ ∈ TB := tb_at (lt_s4 193 rfl) rfl
set_option maxRecDepth 20000 in
theorem lk_917 : Cond.methodLink "ScanMachineModel" 247 ⟨"ScanMachineModel", "pop", "()I"⟩ ∈ TB := tb_at (lt_s4 197 rfl) rfl
set_option maxRecDepth 20000 in
theorem lk_921 : Cond.methodLink "ScanMachineModel" 251 ⟨"ScanMachineModel", "index", "(III)I"⟩ ∈ TB := tb_at (lt_s4 201 rfl) rfl
set_option maxRecDepth 20000 in
theorem lk_925 : Cond.methodLink "ScanMachineModel" 255 ⟨"ScanMachineModel", "two", "(III)I"⟩ ∈ TB := tb_at (lt_s4 205 rfl) rfl
set_option maxRecDepth 20000 in
theorem lk_928 : Cond.methodLink "ScanMachineModel" 221 ⟨"ScanMachineModel", "w16", "(I)I"⟩ ∈ TB := tb_at (lt_s4 208 rfl) rfl
set_option maxRecDepth 20000 in
theorem lk_931 : Cond.methodLink "ScanMachineModel" 224 ⟨"ScanMachineModel", "truth", "(Z)I"⟩ ∈ TB := tb_at (lt_s4 211 rfl) rfl
set_option maxRecDepth 20000 in
theorem lk_934 : Cond.constant "ScanMachineModel" 228 (65535) ∈ TB := tb_at (lt_s4 214 rfl) rfl
set_option maxRecDepth 20000 in
theorem lk_935 : Cond.methodLink "ScanMachineModel" 258 ⟨"ScanMachineModel", "one", "(II)I"⟩ ∈ TB := tb_at (lt_s4 215 rfl) rfl
set_option maxRecDepth 20000 in
theorem lk_938 : Cond.methodLink "ScanMachineModel" 261 ⟨"ScanMachineModel", "block", "(II)V"⟩ ∈ TB := tb_at (lt_s4 218 rfl) rfl
set_option maxRecDepth 20000 in
theorem lk_942 : Cond.methodLink "ScanMachineModel" 232 ⟨"ScanMachineModel", "timer", "(II)V"⟩ ∈ TB := tb_at (lt_s4 222 rfl) rfl
set_option maxRecDepth 20000 in
theorem lk_946 : Cond.methodLink "ScanMachineModel" 229 ⟨"ScanMachineModel", "grown", "(II)I"⟩ ∈ TB := tb_at (lt_s4 226 rfl) rfl
set_option maxRecDepth 20000 in
theorem lk_950 : Cond.methodLink "ScanMachineModel" 236 ⟨"ScanMachineModel", "counter", "(II)V"⟩ ∈ TB := tb_at (lt_s4 230 rfl) rfl
set_option maxRecDepth 20000 in
theorem lk_954 : Cond.methodLink "ScanMachineLaw" 40 ⟨"ScanMachineModel", "set", "(II)I"⟩ ∈ TB := tb_at (lt_s4 234 rfl) rfl
set_option maxRecDepth 20000 in
theorem lk_958 : Cond.methodLink "ScanMachineLaw" 44 ⟨"ScanMachineModel", "get", "(I)I"⟩ ∈ TB := tb_at (lt_s4 238 rfl) rfl
set_option maxRecDepth 20000 in
theorem lk_962 : Cond.methodLink "ScanMachineLaw" 48 ⟨"ScanMachineModel", "count", "(I)I"⟩ ∈ TB := tb_at (lt_s5 2 rfl) rfl
end
section
/-! the JDK's two fills, by hand -/

theorem list_set_same {α : Type} {l : List α} {k : Nat} {x : α} (h : l[k]? = some x) : l.set k x = l := by
  apply List.ext_getElem?
  intro j
  by_cases hj : j = k
  · subst hj; rw [List.getElem?_set_self (List.getElem?_eq_some_iff.mp h).1, h]
  · rw [List.getElem?_set_ne (fun z => hj z.symm)]
theorem k_dset {A : Nat → Prop} {ws : va_W} {q0 a : Nat} {x y : va_E} (h : va_D A (ws.set q0 (a, x))) : va_D A (ws.set q0 (a, y)) := by
  have key : ∀ (k : Nat) (q : Nat × va_E), (ws.set q0 (a, y))[k]? = some q → ∃ e, (ws.set q0 (a, x))[k]? = some (q.1, e) := by
    intro k q hq
    by_cases hk : k = q0
    · subst hk
      have hl : k < ws.length := by
        have := (List.getElem?_eq_some_iff.mp hq).1
        simpa using this
      rw [List.getElem?_set_self hl] at hq ⊢
      cases hq; exact ⟨x, rfl⟩
    · rw [List.getElem?_set_ne (fun z => hk z.symm)] at hq ⊢
      exact ⟨q.2, hq⟩
  refine ⟨fun i j p q hp hq e => ?_, fun k q hq => ?_⟩
  · obtain ⟨e1, h1⟩ := key i p hp
    obtain ⟨e2, h2⟩ := key j q hq
    exact h.1 i j _ _ h1 h2 e
  · obtain ⟨e1, h1⟩ := key k q hq
    exact h.2 k (q.1, e1) h1
theorem fill_eq {cA : ClassId} {N : Nat} {F G : Nat → Value} (h : ∀ j, j < N → F j = G j) : arrV cA N F = arrV cA N G := by
  have e : (fun i : Fin N => F i.val) = fun i : Fin N => G i.val := funext fun i => h i.val i.isLt
  first | (unfold arrV; simp only [e]; done) | (unfold arrV; congr 1; apply Array.ext' ; simp; intro a ha; exact h a ha) | (unfold arrV; congr 1; apply Array.ext; · simp; · intro i h1 h2; simp; exact h i (by simpa using h1))
theorem d_Ar_fillI_0 : decode b_Ar_fillI 0 = .ok (.iconst 0, 1) := by decide +kernel
theorem d_Ar_fillI_1 : decode b_Ar_fillI 1 = .ok (.istore_n 2, 1) := by decide +kernel
theorem d_Ar_fillI_2 : decode b_Ar_fillI 2 = .ok (.aload_n 0, 1) := by decide +kernel
theorem d_Ar_fillI_3 : decode b_Ar_fillI 3 = .ok (.arraylength, 1) := by decide +kernel
theorem d_Ar_fillI_4 : decode b_Ar_fillI 4 = .ok (.istore_n 3, 1) := by decide +kernel
theorem d_Ar_fillI_5 : decode b_Ar_fillI 5 = .ok (.iload_n 2, 1) := by decide +kernel
theorem d_Ar_fillI_6 : decode b_Ar_fillI 6 = .ok (.iload_n 3, 1) := by decide +kernel
theorem d_Ar_fillI_7 : decode b_Ar_fillI 7 = .ok (.if_icmp .ge 13, 3) := by decide +kernel
theorem d_Ar_fillI_10 : decode b_Ar_fillI 10 = .ok (.aload_n 0, 1) := by decide +kernel
theorem d_Ar_fillI_11 : decode b_Ar_fillI 11 = .ok (.iload_n 2, 1) := by decide +kernel
theorem d_Ar_fillI_12 : decode b_Ar_fillI 12 = .ok (.iload_n 1, 1) := by decide +kernel
theorem d_Ar_fillI_13 : decode b_Ar_fillI 13 = .ok (.iastore, 1) := by decide +kernel
theorem d_Ar_fillI_14 : decode b_Ar_fillI 14 = .ok (.iinc 2 1, 3) := by decide +kernel
theorem d_Ar_fillI_17 : decode b_Ar_fillI 17 = .ok (.goto (-12), 3) := by decide +kernel
theorem d_Ar_fillI_20 : decode b_Ar_fillI 20 = .ok (.return_, 1) := by decide +kernel
def rm_Ar_fillI : Jvm.Room := { frames := 0, cells := 0, slots := 0, locals := 0 }
set_option maxHeartbeats 4000000 in
set_option maxRecDepth 100000 in
theorem c_Ar_fillI {l : Launch} {D : va_G} {cl : List vw_C} {tys : List (ClassId × FieldType)} {ws0 : va_W} {sz a q0 N t0 : Nat} {cA : ClassId} {f : Nat → Int32} {v : Int32} (hw : ws0[q0]? = some (a, .inl (cA, N, .inl f))) (ht : tys[t0]? = some (cA, .int)) (hN : N < 2 ^ 31 := by decide) : Met l y_Ar_fillI (Cond.code y_Ar_fillI b_Ar_fillI 4 none :: TB) rm_Ar_fillI (PreW D cl tys ws0 [.ref a, .int v] sz) (PstV D cl tys ws0 (ws0.set q0 (a, .inl (cA, N, .inl (fun _ => v)))) sz) 0 0 (va_A ws0 sz) := by
  refine k_met (by decide) (Nat.le_of_ble_eq_true rfl) ?_
  intro p e s m below meth c ls hx hb hr hml hts hown hlk hnm hsz hP hK hD hA hz hl
  have hS : va_S (va_A ws0 sz) s.heap s.heap [] := va_S.rf
  have hl : lv_has ls 4 [(0, .ref a), (1, .int v)] := hl
  have hq : q0 < ws0.length := (List.getElem?_eq_some_iff.mp hw).1
  generalize hQ : MQ below (PstV D cl tys ws0 (ws0.set q0 (a, .inl (cA, N, .inl (fun _ => v)))) sz) [.ref a, .int v].toArray s 0 0 (va_A ws0 sz) = Q
  have loop : ∀ (k i : Nat), N - i ≤ k → i ≤ N → ∀ (g : Nat → Int32), (∀ j, j < i → g j = v) → ∀ (H : Heap) (locs : List Loc) (ls : Array Slot), va_P D cl (ws0.set q0 (a, .inl (cA, N, .inl (g)))) H → va_D (va_A ws0 sz) (ws0.set q0 (a, .inl (cA, N, .inl (g)))) → va_S (va_A ws0 sz) s.heap H locs → lv_has ls 4 [(0, .ref a), (1, .int v), (2, .int (nI i)), (3, .int (nI N))] → W p l e rm_Ar_fillI s m [.ref a, .int v].toArray below meth c H locs 0 0 Q (F0 m 5 ls []) := by
    intro k
    induction k with
    | zero =>
      intro i hk hi g hg H locs ls hP hD hS hl
      refine lv_iload_n hx hb d_Ar_fillI_5 rfl (lv_at hl 2 rfl) ?_
      refine lv_iload_n hx hb d_Ar_fillI_6 rfl (lv_at hl 3 rfl) ?_
      refine lv_icmp_ge (tgt := 20) hx hb d_Ar_fillI_7 (by decide) (fun c1 => ?_) (fun c1 => ?_)
      · have hge : N ≤ i := by
          rcases Nat.lt_or_ge i N with q | q
          · exact absurd c1 (nI_ge q hN)
          · exact q
        subst hQ
        have e1 : va_P D cl (ws0.set q0 (a, .inl (cA, N, .inl (fun _ => v)))) H := by
          have hx1 := hP q0 _ (List.getElem?_set_self hq)
          intro kk qq hk2
          by_cases hkq : kk = q0
          · subst hkq
            rw [List.getElem?_set_self hq] at hk2
            cases hk2
            have h9 : H[a]? = some (vp_cell cA (N, .inl (g))) := hx1
            show H[a]? = some (vp_cell cA (N, .inl (fun _ => v)))
            rw [h9]
            congr 1
            rw [vp_cell_i, vp_cell_i]
            exact fill_eq (fun j hj => by rw [hg j (by omega)])
          · exact hP kk qq (by rw [List.getElem?_set_ne (fun z => hkq z.symm)] at hk2 ⊢; exact hk2)
        have e2 : va_D (va_A ws0 sz) (ws0.set q0 (a, .inl (cA, N, .inl (fun _ => v)))) := k_dset hD
        exact k_vret hx hb hr hlk e1 hK e2 hS d_Ar_fillI_20
      · exact absurd (nI_le (by omega : N ≤ i) (by omega)) c1
    | succ k ih =>
      intro i hk hi g hg H locs ls hP hD hS hl
      refine lv_iload_n hx hb d_Ar_fillI_5 rfl (lv_at hl 2 rfl) ?_
      refine lv_iload_n hx hb d_Ar_fillI_6 rfl (lv_at hl 3 rfl) ?_
      refine lv_icmp_ge (tgt := 20) hx hb d_Ar_fillI_7 (by decide) (fun c1 => ?_) (fun c1 => ?_)
      · have hge : N ≤ i := by
          rcases Nat.lt_or_ge i N with q | q
          · exact absurd c1 (nI_ge q hN)
          · exact q
        subst hQ
        have e1 : va_P D cl (ws0.set q0 (a, .inl (cA, N, .inl (fun _ => v)))) H := by
          have hx1 := hP q0 _ (List.getElem?_set_self hq)
          intro kk qq hk2
          by_cases hkq : kk = q0
          · subst hkq
            rw [List.getElem?_set_self hq] at hk2
            cases hk2
            have h9 : H[a]? = some (vp_cell cA (N, .inl (g))) := hx1
            show H[a]? = some (vp_cell cA (N, .inl (fun _ => v)))
            rw [h9]
            congr 1
            rw [vp_cell_i, vp_cell_i]
            exact fill_eq (fun j hj => by rw [hg j (by omega)])
          · exact hP kk qq (by rw [List.getElem?_set_ne (fun z => hkq z.symm)] at hk2 ⊢; exact hk2)
        have e2 : va_D (va_A ws0 sz) (ws0.set q0 (a, .inl (cA, N, .inl (fun _ => v)))) := k_dset hD
        exact k_vret hx hb hr hlk e1 hK e2 hS d_Ar_fillI_20
      · have hlt : i < N := by
          rcases Nat.lt_or_ge i N with q | q
          · exact q
          · exact absurd (nI_le q (by omega)) c1
        refine lv_aload_n hx hb d_Ar_fillI_10 rfl (lv_at hl 0 rfl) ?_
        refine lv_iload_n hx hb d_Ar_fillI_11 rfl (lv_at hl 2 rfl) ?_
        refine lv_iload_n hx hb d_Ar_fillI_12 rfl (lv_at hl 1 rfl) ?_
        refine va_iast hx hb hK hP hD hS q0 t0 (List.getElem?_set_self hq) ht (vp_in_nI hlt hN) d_Ar_fillI_13 (fun H locs hP hD hS => ?_)
        rw [List.set_set, nI_clamp (by omega)] at hP hD
        refine lv_iinc (v := nI (i + 1)) (lv' := [(2, .int (nI (i + 1))), (0, .ref a), (1, .int v), (3, .int (nI N))]) hx hb d_Ar_fillI_14 hl (k := 2) rfl (nI_succ i).symm (by decide) rfl (fun ls hl => ?_)
        refine lv_goto (tgt := 5) hx hb d_Ar_fillI_17 (by decide) ?_
        refine ih (i + 1) (by omega) hlt _ (fun j hj => ?_) H locs ls hP hD hS (lv_sub hl [1, 2, 0, 3] rfl)
        by_cases hj2 : j = i
        · subst hj2; exact if_pos rfl
        · exact (if_neg hj2).trans (hg j (by omega))
  refine lv_iconst (v := 0) hx hb d_Ar_fillI_0 (by decide) ?_
  refine lv_istore_n (lv' := [(2, .int 0), (0, .ref a), (1, .int v)]) hx hb d_Ar_fillI_1 rfl hl (by decide) rfl (fun ls hl => ?_)
  refine lv_aload_n hx hb d_Ar_fillI_2 rfl (lv_at hl 1 rfl) ?_
  refine va_alen (v := nI N) hx hb hK hP q0 t0 hw ht rfl d_Ar_fillI_3 ?_
  refine lv_istore_n (lv' := [(3, .int (nI N)), (2, .int 0), (0, .ref a), (1, .int v)]) hx hb d_Ar_fillI_4 rfl hl (by decide) rfl (fun ls hl => ?_)
  have e0 : ws0.set q0 (a, .inl (cA, N, .inl f)) = ws0 := list_set_same hw
  exact loop N 0 (by omega) (Nat.zero_le _) f (fun j hj => absurd hj (Nat.not_lt_zero j)) _ _ ls (by rw [e0]; exact hP) (by rw [e0]; exact hD) hS (lv_sub hl [2, 3, 1, 0] rfl)
theorem d_Ar_fillJ_0 : decode b_Ar_fillJ 0 = .ok (.iconst 0, 1) := by decide +kernel
theorem d_Ar_fillJ_1 : decode b_Ar_fillJ 1 = .ok (.istore_n 3, 1) := by decide +kernel
theorem d_Ar_fillJ_2 : decode b_Ar_fillJ 2 = .ok (.aload_n 0, 1) := by decide +kernel
theorem d_Ar_fillJ_3 : decode b_Ar_fillJ 3 = .ok (.arraylength, 1) := by decide +kernel
theorem d_Ar_fillJ_4 : decode b_Ar_fillJ 4 = .ok (.istore 4, 2) := by decide +kernel
theorem d_Ar_fillJ_6 : decode b_Ar_fillJ 6 = .ok (.iload_n 3, 1) := by decide +kernel
theorem d_Ar_fillJ_7 : decode b_Ar_fillJ 7 = .ok (.iload 4, 2) := by decide +kernel
theorem d_Ar_fillJ_9 : decode b_Ar_fillJ 9 = .ok (.if_icmp .ge 13, 3) := by decide +kernel
theorem d_Ar_fillJ_12 : decode b_Ar_fillJ 12 = .ok (.aload_n 0, 1) := by decide +kernel
theorem d_Ar_fillJ_13 : decode b_Ar_fillJ 13 = .ok (.iload_n 3, 1) := by decide +kernel
theorem d_Ar_fillJ_14 : decode b_Ar_fillJ 14 = .ok (.lload_n 1, 1) := by decide +kernel
theorem d_Ar_fillJ_15 : decode b_Ar_fillJ 15 = .ok (.lastore, 1) := by decide +kernel
theorem d_Ar_fillJ_16 : decode b_Ar_fillJ 16 = .ok (.iinc 3 1, 3) := by decide +kernel
theorem d_Ar_fillJ_19 : decode b_Ar_fillJ 19 = .ok (.goto (-13), 3) := by decide +kernel
theorem d_Ar_fillJ_22 : decode b_Ar_fillJ 22 = .ok (.return_, 1) := by decide +kernel
def rm_Ar_fillJ : Jvm.Room := { frames := 0, cells := 0, slots := 0, locals := 0 }
set_option maxHeartbeats 4000000 in
set_option maxRecDepth 100000 in
theorem c_Ar_fillJ {l : Launch} {D : va_G} {cl : List vw_C} {tys : List (ClassId × FieldType)} {ws0 : va_W} {sz a q0 N t0 : Nat} {cA : ClassId} {f : Nat → Int64} {v : Int64} (hw : ws0[q0]? = some (a, .inl (cA, N, .inr (.inl f)))) (ht : tys[t0]? = some (cA, .long)) (hN : N < 2 ^ 31 := by decide) : Met l y_Ar_fillJ (Cond.code y_Ar_fillJ b_Ar_fillJ 5 none :: TB) rm_Ar_fillJ (PreW D cl tys ws0 [.ref a, .long v] sz) (PstV D cl tys ws0 (ws0.set q0 (a, .inl (cA, N, .inr (.inl (fun _ => v))))) sz) 0 0 (va_A ws0 sz) := by
  refine k_met (by decide) (Nat.le_of_ble_eq_true rfl) ?_
  intro p e s m below meth c ls hx hb hr hml hts hown hlk hnm hsz hP hK hD hA hz hl
  have hS : va_S (va_A ws0 sz) s.heap s.heap [] := va_S.rf
  have hl : lv_has ls 5 [(0, .ref a), (1, .long v)] := hl
  have hq : q0 < ws0.length := (List.getElem?_eq_some_iff.mp hw).1
  generalize hQ : MQ below (PstV D cl tys ws0 (ws0.set q0 (a, .inl (cA, N, .inr (.inl (fun _ => v))))) sz) [.ref a, .long v].toArray s 0 0 (va_A ws0 sz) = Q
  have loop : ∀ (k i : Nat), N - i ≤ k → i ≤ N → ∀ (g : Nat → Int64), (∀ j, j < i → g j = v) → ∀ (H : Heap) (locs : List Loc) (ls : Array Slot), va_P D cl (ws0.set q0 (a, .inl (cA, N, .inr (.inl (g))))) H → va_D (va_A ws0 sz) (ws0.set q0 (a, .inl (cA, N, .inr (.inl (g))))) → va_S (va_A ws0 sz) s.heap H locs → lv_has ls 5 [(0, .ref a), (1, .long v), (3, .int (nI i)), (4, .int (nI N))] → W p l e rm_Ar_fillJ s m [.ref a, .long v].toArray below meth c H locs 0 0 Q (F0 m 6 ls []) := by
    intro k
    induction k with
    | zero =>
      intro i hk hi g hg H locs ls hP hD hS hl
      refine lv_iload_n hx hb d_Ar_fillJ_6 rfl (lv_at hl 2 rfl) ?_
      refine lv_iload hx hb d_Ar_fillJ_7 (lv_at hl 3 rfl) ?_
      refine lv_icmp_ge (tgt := 22) hx hb d_Ar_fillJ_9 (by decide) (fun c1 => ?_) (fun c1 => ?_)
      · have hge : N ≤ i := by
          rcases Nat.lt_or_ge i N with q | q
          · exact absurd c1 (nI_ge q hN)
          · exact q
        subst hQ
        have e1 : va_P D cl (ws0.set q0 (a, .inl (cA, N, .inr (.inl (fun _ => v))))) H := by
          have hx1 := hP q0 _ (List.getElem?_set_self hq)
          intro kk qq hk2
          by_cases hkq : kk = q0
          · subst hkq
            rw [List.getElem?_set_self hq] at hk2
            cases hk2
            have h9 : H[a]? = some (vp_cell cA (N, .inr (.inl (g)))) := hx1
            show H[a]? = some (vp_cell cA (N, .inr (.inl (fun _ => v))))
            rw [h9]
            congr 1
            rw [vp_cell_l, vp_cell_l]
            exact fill_eq (fun j hj => by rw [hg j (by omega)])
          · exact hP kk qq (by rw [List.getElem?_set_ne (fun z => hkq z.symm)] at hk2 ⊢; exact hk2)
        have e2 : va_D (va_A ws0 sz) (ws0.set q0 (a, .inl (cA, N, .inr (.inl (fun _ => v))))) := k_dset hD
        exact k_vret hx hb hr hlk e1 hK e2 hS d_Ar_fillJ_22
      · exact absurd (nI_le (by omega : N ≤ i) (by omega)) c1
    | succ k ih =>
      intro i hk hi g hg H locs ls hP hD hS hl
      refine lv_iload_n hx hb d_Ar_fillJ_6 rfl (lv_at hl 2 rfl) ?_
      refine lv_iload hx hb d_Ar_fillJ_7 (lv_at hl 3 rfl) ?_
      refine lv_icmp_ge (tgt := 22) hx hb d_Ar_fillJ_9 (by decide) (fun c1 => ?_) (fun c1 => ?_)
      · have hge : N ≤ i := by
          rcases Nat.lt_or_ge i N with q | q
          · exact absurd c1 (nI_ge q hN)
          · exact q
        subst hQ
        have e1 : va_P D cl (ws0.set q0 (a, .inl (cA, N, .inr (.inl (fun _ => v))))) H := by
          have hx1 := hP q0 _ (List.getElem?_set_self hq)
          intro kk qq hk2
          by_cases hkq : kk = q0
          · subst hkq
            rw [List.getElem?_set_self hq] at hk2
            cases hk2
            have h9 : H[a]? = some (vp_cell cA (N, .inr (.inl (g)))) := hx1
            show H[a]? = some (vp_cell cA (N, .inr (.inl (fun _ => v))))
            rw [h9]
            congr 1
            rw [vp_cell_l, vp_cell_l]
            exact fill_eq (fun j hj => by rw [hg j (by omega)])
          · exact hP kk qq (by rw [List.getElem?_set_ne (fun z => hkq z.symm)] at hk2 ⊢; exact hk2)
        have e2 : va_D (va_A ws0 sz) (ws0.set q0 (a, .inl (cA, N, .inr (.inl (fun _ => v))))) := k_dset hD
        exact k_vret hx hb hr hlk e1 hK e2 hS d_Ar_fillJ_22
      · have hlt : i < N := by
          rcases Nat.lt_or_ge i N with q | q
          · exact q
          · exact absurd (nI_le q (by omega)) c1
        refine lv_aload_n hx hb d_Ar_fillJ_12 rfl (lv_at hl 0 rfl) ?_
        refine lv_iload_n hx hb d_Ar_fillJ_13 rfl (lv_at hl 2 rfl) ?_
        refine lv_lload_n hx hb d_Ar_fillJ_14 rfl (lv_at hl 1 rfl) ?_
        refine va_last hx hb hK hP hD hS q0 t0 (List.getElem?_set_self hq) ht (vp_in_nI hlt hN) d_Ar_fillJ_15 (fun H locs hP hD hS => ?_)
        rw [List.set_set, nI_clamp (by omega)] at hP hD
        refine lv_iinc (v := nI (i + 1)) (lv' := [(3, .int (nI (i + 1))), (0, .ref a), (1, .long v), (4, .int (nI N))]) hx hb d_Ar_fillJ_16 hl (k := 2) rfl (nI_succ i).symm (by decide) rfl (fun ls hl => ?_)
        refine lv_goto (tgt := 6) hx hb d_Ar_fillJ_19 (by decide) ?_
        refine ih (i + 1) (by omega) hlt _ (fun j hj => ?_) H locs ls hP hD hS (lv_sub hl [1, 2, 0, 3] rfl)
        by_cases hj2 : j = i
        · subst hj2; exact if_pos rfl
        · exact (if_neg hj2).trans (hg j (by omega))
  refine lv_iconst (v := 0) hx hb d_Ar_fillJ_0 (by decide) ?_
  refine lv_istore_n (lv' := [(3, .int 0), (0, .ref a), (1, .long v)]) hx hb d_Ar_fillJ_1 rfl hl (by decide) rfl (fun ls hl => ?_)
  refine lv_aload_n hx hb d_Ar_fillJ_2 rfl (lv_at hl 1 rfl) ?_
  refine va_alen (v := nI N) hx hb hK hP q0 t0 hw ht rfl d_Ar_fillJ_3 ?_
  refine lv_istore (lv' := [(4, .int (nI N)), (3, .int 0), (0, .ref a), (1, .long v)]) hx hb d_Ar_fillJ_4 hl (by decide) rfl (fun ls hl => ?_)
  have e0 : ws0.set q0 (a, .inl (cA, N, .inr (.inl f))) = ws0 := list_set_same hw
  exact loop N 0 (by omega) (Nat.zero_le _) f (fun j hj => absurd hj (Nat.not_lt_zero j)) _ _ ls (by rw [e0]; exact hP) (by rw [e0]; exact hD) hS (lv_sub hl [2, 3, 1, 0] rfl)
end
section
/-! printed by wip/gen/gen3.py: pure functions and contracts of ScanMachine$Code -/
theorem d_Co_entry_0 : decode b_Co_entry 0 = .ok (.iload_n 2, 1) := by decide +kernel
theorem d_Co_entry_1 : decode b_Co_entry 1 = .ok (.ifCond .lt 25, 3) := by decide +kernel
theorem d_Co_entry_4 : decode b_Co_entry 4 = .ok (.iload_n 2, 1) := by decide +kernel
theorem d_Co_entry_5 : decode b_Co_entry 5 = .ok (.aload_n 0, 1) := by decide +kernel
theorem d_Co_entry_6 : decode b_Co_entry 6 = .ok (.getfield 36, 3) := by decide +kernel
theorem d_Co_entry_9 : decode b_Co_entry 9 = .ok (.if_icmp .ge 17, 3) := by decide +kernel
theorem d_Co_entry_12 : decode b_Co_entry 12 = .ok (.iload_n 3, 1) := by decide +kernel
theorem d_Co_entry_13 : decode b_Co_entry 13 = .ok (.ifCond .lt 13, 3) := by decide +kernel
theorem d_Co_entry_16 : decode b_Co_entry 16 = .ok (.iload_n 3, 1) := by decide +kernel
theorem d_Co_entry_17 : decode b_Co_entry 17 = .ok (.aload_n 0, 1) := by decide +kernel
theorem d_Co_entry_18 : decode b_Co_entry 18 = .ok (.getfield 21, 3) := by decide +kernel
theorem d_Co_entry_21 : decode b_Co_entry 21 = .ok (.iload_n 2, 1) := by decide +kernel
theorem d_Co_entry_22 : decode b_Co_entry 22 = .ok (.iaload, 1) := by decide +kernel
theorem d_Co_entry_23 : decode b_Co_entry 23 = .ok (.if_icmp .lt 5, 3) := by decide +kernel
theorem d_Co_entry_26 : decode b_Co_entry 26 = .ok (.iconst (-1), 1) := by decide +kernel
theorem d_Co_entry_27 : decode b_Co_entry 27 = .ok (.ireturn, 1) := by decide +kernel
theorem d_Co_entry_28 : decode b_Co_entry 28 = .ok (.aload_n 0, 1) := by decide +kernel
theorem d_Co_entry_29 : decode b_Co_entry 29 = .ok (.getfield 18, 3) := by decide +kernel
theorem d_Co_entry_32 : decode b_Co_entry 32 = .ok (.iload_n 2, 1) := by decide +kernel
theorem d_Co_entry_33 : decode b_Co_entry 33 = .ok (.iaload, 1) := by decide +kernel
theorem d_Co_entry_34 : decode b_Co_entry 34 = .ok (.iload_n 3, 1) := by decide +kernel
theorem d_Co_entry_35 : decode b_Co_entry 35 = .ok (.iadd, 1) := by decide +kernel
theorem d_Co_entry_36 : decode b_Co_entry 36 = .ok (.istore 4, 2) := by decide +kernel
theorem d_Co_entry_38 : decode b_Co_entry 38 = .ok (.iload 4, 2) := by decide +kernel
theorem d_Co_entry_40 : decode b_Co_entry 40 = .ok (.ifCond .lt 17, 3) := by decide +kernel
theorem d_Co_entry_43 : decode b_Co_entry 43 = .ok (.iload 4, 2) := by decide +kernel
theorem d_Co_entry_45 : decode b_Co_entry 45 = .ok (.aload_n 1, 1) := by decide +kernel
theorem d_Co_entry_46 : decode b_Co_entry 46 = .ok (.arraylength, 1) := by decide +kernel
theorem d_Co_entry_47 : decode b_Co_entry 47 = .ok (.if_icmp .ge 10, 3) := by decide +kernel
theorem d_Co_entry_50 : decode b_Co_entry 50 = .ok (.aload_n 1, 1) := by decide +kernel
theorem d_Co_entry_51 : decode b_Co_entry 51 = .ok (.iload 4, 2) := by decide +kernel
theorem d_Co_entry_53 : decode b_Co_entry 53 = .ok (.iaload, 1) := by decide +kernel
theorem d_Co_entry_54 : decode b_Co_entry 54 = .ok (.goto 4, 3) := by decide +kernel
theorem d_Co_entry_57 : decode b_Co_entry 57 = .ok (.iconst (-1), 1) := by decide +kernel
theorem d_Co_entry_58 : decode b_Co_entry 58 = .ok (.ireturn, 1) := by decide +kernel
def r_Co_entry_bs (n : Nat) (ko : T_ko) (a1 : Int32) (a2 : Int32) : Option (Int32) := if a1 < 0 then some ((-1 : Int32)) else if (ko_units ko) ≤ a1 then some ((-1 : Int32)) else if a2 < 0 then some ((-1 : Int32)) else gr (ko_sizes ko) a1 16 (fun v5 => if a2 < v5 then gr (ko_firsts ko) a1 16 (fun v8 => if (v8 + a2) < 0 then some ((-1 : Int32)) else if (256 : Int32) ≤ (v8 + a2) then some ((-1 : Int32)) else gr (ko_bs ko) (v8 + a2) 256 (fun v12 => some (v12))) else some ((-1 : Int32)))
def rm_Co_entry_bs : Jvm.Room := { frames := 0, cells := 0, slots := 0, locals := 0 }
set_option maxHeartbeats 4000000 in
set_option maxRecDepth 100000 in
theorem c_Co_entry_bs {l : Launch} {D : va_G} {cI cL : ClassId} {ad : Nat → Nat} {ma : T_ma} {ko : T_ko} {sh : T_sh} {lo : T_lo} {de : T_de} {wa : T_wa} {me : T_me} {ru : T_ru} {ws0 : va_W} {sz n : Nat} {a1 : Int32} {a2 : Int32} {r9 : Int32} (hw : ws0 = (wX cI cL ad ma ko sh lo de wa me ru)) (h : r_Co_entry_bs n ko a1 a2 = some r9) : Met l y_Co_entry (Cond.code y_Co_entry b_Co_entry 5 (some .int) :: TB) rm_Co_entry_bs (PreW D clX (tyX cI cL) ws0 [.ref (ad 1), .ref (ad 8), .int a1, .int a2] sz) (PstI D clX (tyX cI cL) ws0 (wX cI cL ad ma ko sh lo de wa me ru) sz r9) 0 0 (va_A ws0 sz) := by
  refine k_met (by decide) (Nat.le_of_ble_eq_true rfl) ?_
  intro p e s m below meth c ls hx hb hr hml hts hown hlk hnm hsz hP hK hD hA hz hl
  have hP : va_P D clX (wX cI cL ad ma ko sh lo de wa me ru) s.heap := by rw [← hw]; exact hP
  have hD : va_D (va_A ws0 sz) (wX cI cL ad ma ko sh lo de wa me ru) := by rw [← hw]; exact hD
  have hS : va_S (va_A ws0 sz) s.heap s.heap [] := va_S.rf
  have hl : lv_has ls 5 [(0, .ref (ad 1)), (1, .ref (ad 8)), (2, .int a1), (3, .int a2)] := hl
  generalize hQ : MQ below (PstI D clX (tyX cI cL) ws0 (wX cI cL ad ma ko sh lo de wa me ru) sz r9) [.ref (ad 1), .ref (ad 8), .int a1, .int a2].toArray s 0 0 (va_A ws0 sz) = Q
  unfold r_Co_entry_bs at h
  refine lv_iload_n hx hb d_Co_entry_0 rfl (lv_at hl 2 rfl) ?_
  refine lv_if_lt (tgt := 26) hx hb d_Co_entry_1 (by decide) (fun c1 => ?_) (fun c1 => ?_)
  · rw [if_pos c1] at h
    refine lv_iconst (v := -1) hx hb d_Co_entry_26 (by decide) ?_
    cases h
    subst hQ
    exact k_iret hx hb hr hlk hP hK hD hS d_Co_entry_27
  · rw [if_neg c1] at h
    refine lv_iload_n hx hb d_Co_entry_4 rfl (lv_at hl 2 rfl) ?_
    refine lv_aload_n hx hb d_Co_entry_5 rfl (lv_at hl 0 rfl) ?_
    refine rd_Co_units hx hb hts hown hK hP lk_36 (v := (ko_units ko)) rfl d_Co_entry_6 ?_
    refine lv_icmp_ge (tgt := 26) hx hb d_Co_entry_9 (by decide) (fun c2 => ?_) (fun c2 => ?_)
    · rw [if_pos c2] at h
      refine lv_iconst (v := -1) hx hb d_Co_entry_26 (by decide) ?_
      cases h
      subst hQ
      exact k_iret hx hb hr hlk hP hK hD hS d_Co_entry_27
    · rw [if_neg c2] at h
      refine lv_iload_n hx hb d_Co_entry_12 rfl (lv_at hl 3 rfl) ?_
      refine lv_if_lt (tgt := 26) hx hb d_Co_entry_13 (by decide) (fun c3 => ?_) (fun c3 => ?_)
      · rw [if_pos c3] at h
        refine lv_iconst (v := -1) hx hb d_Co_entry_26 (by decide) ?_
        cases h
        subst hQ
        exact k_iret hx hb hr hlk hP hK hD hS d_Co_entry_27
      · rw [if_neg c3] at h
        refine lv_iload_n hx hb d_Co_entry_16 rfl (lv_at hl 3 rfl) ?_
        refine lv_aload_n hx hb d_Co_entry_17 rfl (lv_at hl 0 rfl) ?_
        refine rd_Co_sizes hx hb hts hown hK hP lk_31 d_Co_entry_18 ?_
        refine lv_iload_n hx hb d_Co_entry_21 rfl (lv_at hl 2 rfl) ?_
        obtain ⟨hi4, v5, ev5, h⟩ := gr_some h
        refine ld_Co_sizes hx hb hK hP hi4 ev5 d_Co_entry_22 ?_
        refine lv_icmp_lt (tgt := 28) hx hb d_Co_entry_23 (by decide) (fun c6 => ?_) (fun c6 => ?_)
        · rw [if_pos c6] at h
          refine lv_aload_n hx hb d_Co_entry_28 rfl (lv_at hl 0 rfl) ?_
          refine rd_Co_firsts hx hb hts hown hK hP lk_30 d_Co_entry_29 ?_
          refine lv_iload_n hx hb d_Co_entry_32 rfl (lv_at hl 2 rfl) ?_
          obtain ⟨hi7, v8, ev8, h⟩ := gr_some h
          refine ld_Co_firsts hx hb hK hP hi7 ev8 d_Co_entry_33 ?_
          refine lv_iload_n hx hb d_Co_entry_34 rfl (lv_at hl 3 rfl) ?_
          refine lv_iadd hx hb d_Co_entry_35 ?_
          refine lv_istore (lv' := [(4, .int (v8 + a2)), (0, .ref (ad 1)), (1, .ref (ad 8)), (2, .int a1), (3, .int a2)]) hx hb d_Co_entry_36 hl (by decide) rfl (fun ls hl => ?_)
          refine lv_iload hx hb d_Co_entry_38 (lv_at hl 0 rfl) ?_
          refine lv_if_lt (tgt := 57) hx hb d_Co_entry_40 (by decide) (fun c9 => ?_) (fun c9 => ?_)
          · rw [if_pos c9] at h
            refine lv_iconst (v := -1) hx hb d_Co_entry_57 (by decide) ?_
            cases h
            subst hQ
            exact k_iret hx hb hr hlk hP hK hD hS d_Co_entry_58
          · rw [if_neg c9] at h
            refine lv_iload hx hb d_Co_entry_43 (lv_at hl 0 rfl) ?_
            refine lv_aload_n hx hb d_Co_entry_45 rfl (lv_at hl 2 rfl) ?_
            refine le_Co_bs hx hb hK hP d_Co_entry_46 ?_
            refine lv_icmp_ge (tgt := 57) hx hb d_Co_entry_47 (by decide) (fun c10 => ?_) (fun c10 => ?_)
            · rw [if_pos c10] at h
              refine lv_iconst (v := -1) hx hb d_Co_entry_57 (by decide) ?_
              cases h
              subst hQ
              exact k_iret hx hb hr hlk hP hK hD hS d_Co_entry_58
            · rw [if_neg c10] at h
              refine lv_aload_n hx hb d_Co_entry_50 rfl (lv_at hl 2 rfl) ?_
              refine lv_iload hx hb d_Co_entry_51 (lv_at hl 0 rfl) ?_
              obtain ⟨hi11, v12, ev12, h⟩ := gr_some h
              refine ld_Co_bs hx hb hK hP hi11 ev12 d_Co_entry_53 ?_
              refine lv_goto (tgt := 58) hx hb d_Co_entry_54 (by decide) ?_
              cases h
              subst hQ
              exact k_iret hx hb hr hlk hP hK hD hS d_Co_entry_58
        · rw [if_neg c6] at h
          refine lv_iconst (v := -1) hx hb d_Co_entry_26 (by decide) ?_
          cases h
          subst hQ
          exact k_iret hx hb hr hlk hP hK hD hS d_Co_entry_27
theorem d_Co_bAt_0 : decode b_Co_bAt 0 = .ok (.aload_n 0, 1) := by decide +kernel
theorem d_Co_bAt_1 : decode b_Co_bAt 1 = .ok (.aload_n 0, 1) := by decide +kernel
theorem d_Co_bAt_2 : decode b_Co_bAt 2 = .ok (.getfield 30, 3) := by decide +kernel
theorem d_Co_bAt_5 : decode b_Co_bAt 5 = .ok (.iload_n 1, 1) := by decide +kernel
theorem d_Co_bAt_6 : decode b_Co_bAt 6 = .ok (.iload_n 2, 1) := by decide +kernel
theorem d_Co_bAt_7 : decode b_Co_bAt 7 = .ok (.invokevirtual 54, 3) := by decide +kernel
theorem d_Co_bAt_10 : decode b_Co_bAt 10 = .ok (.ireturn, 1) := by decide +kernel
def r_Co_bAt (n : Nat) (ko : T_ko) (a0 : Int32) (a1 : Int32) : Option (Int32) := (r_Co_entry_bs n ko a0 a1).bind (fun q1 => some (q1))
def rm_Co_bAt : Jvm.Room := { frames := 1, cells := 0, slots := 0, locals := 24 }
set_option maxHeartbeats 4000000 in
set_option maxRecDepth 100000 in
theorem c_Co_bAt {l : Launch} {D : va_G} {cI cL : ClassId} {ad : Nat → Nat} {ma : T_ma} {ko : T_ko} {sh : T_sh} {lo : T_lo} {de : T_de} {wa : T_wa} {me : T_me} {ru : T_ru} {ws0 : va_W} {sz n : Nat} {a0 : Int32} {a1 : Int32} {r9 : Int32} (hw : ws0 = (wX cI cL ad ma ko sh lo de wa me ru)) (h : r_Co_bAt n ko a0 a1 = some r9) : Met l y_Co_bAt (Cond.code y_Co_bAt b_Co_bAt 3 (some .int) :: TB) rm_Co_bAt (PreW D clX (tyX cI cL) ws0 [.ref (ad 1), .int a0, .int a1] sz) (PstI D clX (tyX cI cL) ws0 (wX cI cL ad ma ko sh lo de wa me ru) sz r9) 0 0 (va_A ws0 sz) := by
  refine k_met (by decide) (Nat.le_of_ble_eq_true rfl) ?_
  intro p e s m below meth c ls hx hb hr hml hts hown hlk hnm hsz hP hK hD hA hz hl
  have hP : va_P D clX (wX cI cL ad ma ko sh lo de wa me ru) s.heap := by rw [← hw]; exact hP
  have hD : va_D (va_A ws0 sz) (wX cI cL ad ma ko sh lo de wa me ru) := by rw [← hw]; exact hD
  have hS : va_S (va_A ws0 sz) s.heap s.heap [] := va_S.rf
  have hl : lv_has ls 3 [(0, .ref (ad 1)), (1, .int a0), (2, .int a1)] := hl
  generalize hQ : MQ below (PstI D clX (tyX cI cL) ws0 (wX cI cL ad ma ko sh lo de wa me ru) sz r9) [.ref (ad 1), .int a0, .int a1].toArray s 0 0 (va_A ws0 sz) = Q
  unfold r_Co_bAt at h
  refine lv_aload_n hx hb d_Co_bAt_0 rfl (lv_at hl 0 rfl) ?_
  refine lv_aload_n hx hb d_Co_bAt_1 rfl (lv_at hl 0 rfl) ?_
  refine rd_Co_bs hx hb hts hown hK hP lk_34 d_Co_bAt_2 ?_
  refine lv_iload_n hx hb d_Co_bAt_5 rfl (lv_at hl 1 rfl) ?_
  refine lv_iload_n hx hb d_Co_bAt_6 rfl (lv_at hl 2 rfl) ?_
  obtain ⟨q1, hq1, h⟩ := Option.bind_eq_some_iff.mp h
  refine k_I (k_runV ⟨hx, hb, hml, hown, hts⟩ (c_Co_entry_bs rfl hq1) ok_Co_entry is_Co_entry lk_367 rfl rfl ⟨by decide, by decide⟩ hP hK hD hS hA hz (ci := 1) (q0 := 1) rfl rfl ob_Co rfl hl.1 rfl (Nat.le_of_ble_eq_true rfl) d_Co_bAt_7 ⟨Nat.zero_le _, Nat.zero_le _⟩) hD hS hA (fun H locs hP hD hS => ?_)
  cases h
  subst hQ
  exact k_iret hx hb hr hlk hP hK hD hS d_Co_bAt_10
def r_Co_entry_numbers (n : Nat) (ko : T_ko) (a1 : Int32) (a2 : Int32) : Option (Int32) := if a1 < 0 then some ((-1 : Int32)) else if (ko_units ko) ≤ a1 then some ((-1 : Int32)) else if a2 < 0 then some ((-1 : Int32)) else gr (ko_sizes ko) a1 16 (fun v5 => if a2 < v5 then gr (ko_firsts ko) a1 16 (fun v8 => if (v8 + a2) < 0 then some ((-1 : Int32)) else if (256 : Int32) ≤ (v8 + a2) then some ((-1 : Int32)) else gr (ko_numbers ko) (v8 + a2) 256 (fun v12 => some (v12))) else some ((-1 : Int32)))
def rm_Co_entry_numbers : Jvm.Room := { frames := 0, cells := 0, slots := 0, locals := 0 }
set_option maxHeartbeats 4000000 in
set_option maxRecDepth 100000 in
theorem c_Co_entry_numbers {l : Launch} {D : va_G} {cI cL : ClassId} {ad : Nat → Nat} {ma : T_ma} {ko : T_ko} {sh : T_sh} {lo : T_lo} {de : T_de} {wa : T_wa} {me : T_me} {ru : T_ru} {ws0 : va_W} {sz n : Nat} {a1 : Int32} {a2 : Int32} {r9 : Int32} (hw : ws0 = (wX cI cL ad ma ko sh lo de wa me ru)) (h : r_Co_entry_numbers n ko a1 a2 = some r9) : Met l y_Co_entry (Cond.code y_Co_entry b_Co_entry 5 (some .int) :: TB) rm_Co_entry_numbers (PreW D clX (tyX cI cL) ws0 [.ref (ad 1), .ref (ad 6), .int a1, .int a2] sz) (PstI D clX (tyX cI cL) ws0 (wX cI cL ad ma ko sh lo de wa me ru) sz r9) 0 0 (va_A ws0 sz) := by
  refine k_met (by decide) (Nat.le_of_ble_eq_true rfl) ?_
  intro p e s m below meth c ls hx hb hr hml hts hown hlk hnm hsz hP hK hD hA hz hl
  have hP : va_P D clX (wX cI cL ad ma ko sh lo de wa me ru) s.heap := by rw [← hw]; exact hP
  have hD : va_D (va_A ws0 sz) (wX cI cL ad ma ko sh lo de wa me ru) := by rw [← hw]; exact hD
  have hS : va_S (va_A ws0 sz) s.heap s.heap [] := va_S.rf
  have hl : lv_has ls 5 [(0, .ref (ad 1)), (1, .ref (ad 6)), (2, .int a1), (3, .int a2)] := hl
  generalize hQ : MQ below (PstI D clX (tyX cI cL) ws0 (wX cI cL ad ma ko sh lo de wa me ru) sz r9) [.ref (ad 1), .ref (ad 6), .int a1, .int a2].toArray s 0 0 (va_A ws0 sz) = Q
  unfold r_Co_entry_numbers at h
  refine lv_iload_n hx hb d_Co_entry_0 rfl (lv_at hl 2 rfl) ?_
  refine lv_if_lt (tgt := 26) hx hb d_Co_entry_1 (by decide) (fun c1 => ?_) (fun c1 => ?_)
  · rw [if_pos c1] at h
    refine lv_iconst (v := -1) hx hb d_Co_entry_26 (by decide) ?_
    cases h
    subst hQ
    exact k_iret hx hb hr hlk hP hK hD hS d_Co_entry_27
  · rw [if_neg c1] at h
    refine lv_iload_n hx hb d_Co_entry_4 rfl (lv_at hl 2 rfl) ?_
    refine lv_aload_n hx hb d_Co_entry_5 rfl (lv_at hl 0 rfl) ?_
    refine rd_Co_units hx hb hts hown hK hP lk_36 (v := (ko_units ko)) rfl d_Co_entry_6 ?_
    refine lv_icmp_ge (tgt := 26) hx hb d_Co_entry_9 (by decide) (fun c2 => ?_) (fun c2 => ?_)
    · rw [if_pos c2] at h
      refine lv_iconst (v := -1) hx hb d_Co_entry_26 (by decide) ?_
      cases h
      subst hQ
      exact k_iret hx hb hr hlk hP hK hD hS d_Co_entry_27
    · rw [if_neg c2] at h
      refine lv_iload_n hx hb d_Co_entry_12 rfl (lv_at hl 3 rfl) ?_
      refine lv_if_lt (tgt := 26) hx hb d_Co_entry_13 (by decide) (fun c3 => ?_) (fun c3 => ?_)
      · rw [if_pos c3] at h
        refine lv_iconst (v := -1) hx hb d_Co_entry_26 (by decide) ?_
        cases h
        subst hQ
        exact k_iret hx hb hr hlk hP hK hD hS d_Co_entry_27
      · rw [if_neg c3] at h
        refine lv_iload_n hx hb d_Co_entry_16 rfl (lv_at hl 3 rfl) ?_
        refine lv_aload_n hx hb d_Co_entry_17 rfl (lv_at hl 0 rfl) ?_
        refine rd_Co_sizes hx hb hts hown hK hP lk_31 d_Co_entry_18 ?_
        refine lv_iload_n hx hb d_Co_entry_21 rfl (lv_at hl 2 rfl) ?_
        obtain ⟨hi4, v5, ev5, h⟩ := gr_some h
        refine ld_Co_sizes hx hb hK hP hi4 ev5 d_Co_entry_22 ?_
        refine lv_icmp_lt (tgt := 28) hx hb d_Co_entry_23 (by decide) (fun c6 => ?_) (fun c6 => ?_)
        · rw [if_pos c6] at h
          refine lv_aload_n hx hb d_Co_entry_28 rfl (lv_at hl 0 rfl) ?_
          refine rd_Co_firsts hx hb hts hown hK hP lk_30 d_Co_entry_29 ?_
          refine lv_iload_n hx hb d_Co_entry_32 rfl (lv_at hl 2 rfl) ?_
          obtain ⟨hi7, v8, ev8, h⟩ := gr_some h
          refine ld_Co_firsts hx hb hK hP hi7 ev8 d_Co_entry_33 ?_
          refine lv_iload_n hx hb d_Co_entry_34 rfl (lv_at hl 3 rfl) ?_
          refine lv_iadd hx hb d_Co_entry_35 ?_
          refine lv_istore (lv' := [(4, .int (v8 + a2)), (0, .ref (ad 1)), (1, .ref (ad 6)), (2, .int a1), (3, .int a2)]) hx hb d_Co_entry_36 hl (by decide) rfl (fun ls hl => ?_)
          refine lv_iload hx hb d_Co_entry_38 (lv_at hl 0 rfl) ?_
          refine lv_if_lt (tgt := 57) hx hb d_Co_entry_40 (by decide) (fun c9 => ?_) (fun c9 => ?_)
          · rw [if_pos c9] at h
            refine lv_iconst (v := -1) hx hb d_Co_entry_57 (by decide) ?_
            cases h
            subst hQ
            exact k_iret hx hb hr hlk hP hK hD hS d_Co_entry_58
          · rw [if_neg c9] at h
            refine lv_iload hx hb d_Co_entry_43 (lv_at hl 0 rfl) ?_
            refine lv_aload_n hx hb d_Co_entry_45 rfl (lv_at hl 2 rfl) ?_
            refine le_Co_numbers hx hb hK hP d_Co_entry_46 ?_
            refine lv_icmp_ge (tgt := 57) hx hb d_Co_entry_47 (by decide) (fun c10 => ?_) (fun c10 => ?_)
            · rw [if_pos c10] at h
              refine lv_iconst (v := -1) hx hb d_Co_entry_57 (by decide) ?_
              cases h
              subst hQ
              exact k_iret hx hb hr hlk hP hK hD hS d_Co_entry_58
            · rw [if_neg c10] at h
              refine lv_aload_n hx hb d_Co_entry_50 rfl (lv_at hl 2 rfl) ?_
              refine lv_iload hx hb d_Co_entry_51 (lv_at hl 0 rfl) ?_
              obtain ⟨hi11, v12, ev12, h⟩ := gr_some h
              refine ld_Co_numbers hx hb hK hP hi11 ev12 d_Co_entry_53 ?_
              refine lv_goto (tgt := 58) hx hb d_Co_entry_54 (by decide) ?_
              cases h
              subst hQ
              exact k_iret hx hb hr hlk hP hK hD hS d_Co_entry_58
        · rw [if_neg c6] at h
          refine lv_iconst (v := -1) hx hb d_Co_entry_26 (by decide) ?_
          cases h
          subst hQ
          exact k_iret hx hb hr hlk hP hK hD hS d_Co_entry_27
theorem d_Co_numberAt_0 : decode b_Co_numberAt 0 = .ok (.aload_n 0, 1) := by decide +kernel
theorem d_Co_numberAt_1 : decode b_Co_numberAt 1 = .ok (.aload_n 0, 1) := by decide +kernel
theorem d_Co_numberAt_2 : decode b_Co_numberAt 2 = .ok (.getfield 24, 3) := by decide +kernel
theorem d_Co_numberAt_5 : decode b_Co_numberAt 5 = .ok (.iload_n 1, 1) := by decide +kernel
theorem d_Co_numberAt_6 : decode b_Co_numberAt 6 = .ok (.iload_n 2, 1) := by decide +kernel
theorem d_Co_numberAt_7 : decode b_Co_numberAt 7 = .ok (.invokevirtual 54, 3) := by decide +kernel
theorem d_Co_numberAt_10 : decode b_Co_numberAt 10 = .ok (.ireturn, 1) := by decide +kernel
def r_Co_numberAt (n : Nat) (ko : T_ko) (a0 : Int32) (a1 : Int32) : Option (Int32) := (r_Co_entry_numbers n ko a0 a1).bind (fun q1 => some (q1))
def rm_Co_numberAt : Jvm.Room := { frames := 1, cells := 0, slots := 0, locals := 24 }
set_option maxHeartbeats 4000000 in
set_option maxRecDepth 100000 in
theorem c_Co_numberAt {l : Launch} {D : va_G} {cI cL : ClassId} {ad : Nat → Nat} {ma : T_ma} {ko : T_ko} {sh : T_sh} {lo : T_lo} {de : T_de} {wa : T_wa} {me : T_me} {ru : T_ru} {ws0 : va_W} {sz n : Nat} {a0 : Int32} {a1 : Int32} {r9 : Int32} (hw : ws0 = (wX cI cL ad ma ko sh lo de wa me ru)) (h : r_Co_numberAt n ko a0 a1 = some r9) : Met l y_Co_numberAt (Cond.code y_Co_numberAt b_Co_numberAt 3 (some .int) :: TB) rm_Co_numberAt (PreW D clX (tyX cI cL) ws0 [.ref (ad 1), .int a0, .int a1] sz) (PstI D clX (tyX cI cL) ws0 (wX cI cL ad ma ko sh lo de wa me ru) sz r9) 0 0 (va_A ws0 sz) := by
  refine k_met (by decide) (Nat.le_of_ble_eq_true rfl) ?_
  intro p e s m below meth c ls hx hb hr hml hts hown hlk hnm hsz hP hK hD hA hz hl
  have hP : va_P D clX (wX cI cL ad ma ko sh lo de wa me ru) s.heap := by rw [← hw]; exact hP
  have hD : va_D (va_A ws0 sz) (wX cI cL ad ma ko sh lo de wa me ru) := by rw [← hw]; exact hD
  have hS : va_S (va_A ws0 sz) s.heap s.heap [] := va_S.rf
  have hl : lv_has ls 3 [(0, .ref (ad 1)), (1, .int a0), (2, .int a1)] := hl
  generalize hQ : MQ below (PstI D clX (tyX cI cL) ws0 (wX cI cL ad ma ko sh lo de wa me ru) sz r9) [.ref (ad 1), .int a0, .int a1].toArray s 0 0 (va_A ws0 sz) = Q
  unfold r_Co_numberAt at h
  refine lv_aload_n hx hb d_Co_numberAt_0 rfl (lv_at hl 0 rfl) ?_
  refine lv_aload_n hx hb d_Co_numberAt_1 rfl (lv_at hl 0 rfl) ?_
  refine rd_Co_numbers hx hb hts hown hK hP lk_32 d_Co_numberAt_2 ?_
  refine lv_iload_n hx hb d_Co_numberAt_5 rfl (lv_at hl 1 rfl) ?_
  refine lv_iload_n hx hb d_Co_numberAt_6 rfl (lv_at hl 2 rfl) ?_
  obtain ⟨q1, hq1, h⟩ := Option.bind_eq_some_iff.mp h
  refine k_I (k_runV ⟨hx, hb, hml, hown, hts⟩ (c_Co_entry_numbers rfl hq1) ok_Co_entry is_Co_entry lk_367 rfl rfl ⟨by decide, by decide⟩ hP hK hD hS hA hz (ci := 1) (q0 := 1) rfl rfl ob_Co rfl hl.1 rfl (Nat.le_of_ble_eq_true rfl) d_Co_numberAt_7 ⟨Nat.zero_le _, Nat.zero_le _⟩) hD hS hA (fun H locs hP hD hS => ?_)
  cases h
  subst hQ
  exact k_iret hx hb hr hlk hP hK hD hS d_Co_numberAt_10
def r_Co_entry_as (n : Nat) (ko : T_ko) (a1 : Int32) (a2 : Int32) : Option (Int32) := if a1 < 0 then some ((-1 : Int32)) else if (ko_units ko) ≤ a1 then some ((-1 : Int32)) else if a2 < 0 then some ((-1 : Int32)) else gr (ko_sizes ko) a1 16 (fun v5 => if a2 < v5 then gr (ko_firsts ko) a1 16 (fun v8 => if (v8 + a2) < 0 then some ((-1 : Int32)) else if (256 : Int32) ≤ (v8 + a2) then some ((-1 : Int32)) else gr (ko_as_ ko) (v8 + a2) 256 (fun v12 => some (v12))) else some ((-1 : Int32)))
def rm_Co_entry_as : Jvm.Room := { frames := 0, cells := 0, slots := 0, locals := 0 }
set_option maxHeartbeats 4000000 in
set_option maxRecDepth 100000 in
theorem c_Co_entry_as {l : Launch} {D : va_G} {cI cL : ClassId} {ad : Nat → Nat} {ma : T_ma} {ko : T_ko} {sh : T_sh} {lo : T_lo} {de : T_de} {wa : T_wa} {me : T_me} {ru : T_ru} {ws0 : va_W} {sz n : Nat} {a1 : Int32} {a2 : Int32} {r9 : Int32} (hw : ws0 = (wX cI cL ad ma ko sh lo de wa me ru)) (h : r_Co_entry_as n ko a1 a2 = some r9) : Met l y_Co_entry (Cond.code y_Co_entry b_Co_entry 5 (some .int) :: TB) rm_Co_entry_as (PreW D clX (tyX cI cL) ws0 [.ref (ad 1), .ref (ad 7), .int a1, .int a2] sz) (PstI D clX (tyX cI cL) ws0 (wX cI cL ad ma ko sh lo de wa me ru) sz r9) 0 0 (va_A ws0 sz) := by
  refine k_met (by decide) (Nat.le_of_ble_eq_true rfl) ?_
  intro p e s m below meth c ls hx hb hr hml hts hown hlk hnm hsz hP hK hD hA hz hl
  have hP : va_P D clX (wX cI cL ad ma ko sh lo de wa me ru) s.heap := by rw [← hw]; exact hP
  have hD : va_D (va_A ws0 sz) (wX cI cL ad ma ko sh lo de wa me ru) := by rw [← hw]; exact hD
  have hS : va_S (va_A ws0 sz) s.heap s.heap [] := va_S.rf
  have hl : lv_has ls 5 [(0, .ref (ad 1)), (1, .ref (ad 7)), (2, .int a1), (3, .int a2)] := hl
  generalize hQ : MQ below (PstI D clX (tyX cI cL) ws0 (wX cI cL ad ma ko sh lo de wa me ru) sz r9) [.ref (ad 1), .ref (ad 7), .int a1, .int a2].toArray s 0 0 (va_A ws0 sz) = Q
  unfold r_Co_entry_as at h
  refine lv_iload_n hx hb d_Co_entry_0 rfl (lv_at hl 2 rfl) ?_
  refine lv_if_lt (tgt := 26) hx hb d_Co_entry_1 (by decide) (fun c1 => ?_) (fun c1 => ?_)
  · rw [if_pos c1] at h
    refine lv_iconst (v := -1) hx hb d_Co_entry_26 (by decide) ?_
    cases h
    subst hQ
    exact k_iret hx hb hr hlk hP hK hD hS d_Co_entry_27
  · rw [if_neg c1] at h
    refine lv_iload_n hx hb d_Co_entry_4 rfl (lv_at hl 2 rfl) ?_
    refine lv_aload_n hx hb d_Co_entry_5 rfl (lv_at hl 0 rfl) ?_
    refine rd_Co_units hx hb hts hown hK hP lk_36 (v := (ko_units ko)) rfl d_Co_entry_6 ?_
    refine lv_icmp_ge (tgt := 26) hx hb d_Co_entry_9 (by decide) (fun c2 => ?_) (fun c2 => ?_)
    · rw [if_pos c2] at h
      refine lv_iconst (v := -1) hx hb d_Co_entry_26 (by decide) ?_
      cases h
      subst hQ
      exact k_iret hx hb hr hlk hP hK hD hS d_Co_entry_27
    · rw [if_neg c2] at h
      refine lv_iload_n hx hb d_Co_entry_12 rfl (lv_at hl 3 rfl) ?_
      refine lv_if_lt (tgt := 26) hx hb d_Co_entry_13 (by decide) (fun c3 => ?_) (fun c3 => ?_)
      · rw [if_pos c3] at h
        refine lv_iconst (v := -1) hx hb d_Co_entry_26 (by decide) ?_
        cases h
        subst hQ
        exact k_iret hx hb hr hlk hP hK hD hS d_Co_entry_27
      · rw [if_neg c3] at h
        refine lv_iload_n hx hb d_Co_entry_16 rfl (lv_at hl 3 rfl) ?_
        refine lv_aload_n hx hb d_Co_entry_17 rfl (lv_at hl 0 rfl) ?_
        refine rd_Co_sizes hx hb hts hown hK hP lk_31 d_Co_entry_18 ?_
        refine lv_iload_n hx hb d_Co_entry_21 rfl (lv_at hl 2 rfl) ?_
        obtain ⟨hi4, v5, ev5, h⟩ := gr_some h
        refine ld_Co_sizes hx hb hK hP hi4 ev5 d_Co_entry_22 ?_
        refine lv_icmp_lt (tgt := 28) hx hb d_Co_entry_23 (by decide) (fun c6 => ?_) (fun c6 => ?_)
        · rw [if_pos c6] at h
          refine lv_aload_n hx hb d_Co_entry_28 rfl (lv_at hl 0 rfl) ?_
          refine rd_Co_firsts hx hb hts hown hK hP lk_30 d_Co_entry_29 ?_
          refine lv_iload_n hx hb d_Co_entry_32 rfl (lv_at hl 2 rfl) ?_
          obtain ⟨hi7, v8, ev8, h⟩ := gr_some h
          refine ld_Co_firsts hx hb hK hP hi7 ev8 d_Co_entry_33 ?_
          refine lv_iload_n hx hb d_Co_entry_34 rfl (lv_at hl 3 rfl) ?_
          refine lv_iadd hx hb d_Co_entry_35 ?_
          refine lv_istore (lv' := [(4, .int (v8 + a2)), (0, .ref (ad 1)), (1, .ref (ad 7)), (2, .int a1), (3, .int a2)]) hx hb d_Co_entry_36 hl (by decide) rfl (fun ls hl => ?_)
          refine lv_iload hx hb d_Co_entry_38 (lv_at hl 0 rfl) ?_
          refine lv_if_lt (tgt := 57) hx hb d_Co_entry_40 (by decide) (fun c9 => ?_) (fun c9 => ?_)
          · rw [if_pos c9] at h
            refine lv_iconst (v := -1) hx hb d_Co_entry_57 (by decide) ?_
            cases h
            subst hQ
            exact k_iret hx hb hr hlk hP hK hD hS d_Co_entry_58
          · rw [if_neg c9] at h
            refine lv_iload hx hb d_Co_entry_43 (lv_at hl 0 rfl) ?_
            refine lv_aload_n hx hb d_Co_entry_45 rfl (lv_at hl 2 rfl) ?_
            refine le_Co_as_ hx hb hK hP d_Co_entry_46 ?_
            refine lv_icmp_ge (tgt := 57) hx hb d_Co_entry_47 (by decide) (fun c10 => ?_) (fun c10 => ?_)
            · rw [if_pos c10] at h
              refine lv_iconst (v := -1) hx hb d_Co_entry_57 (by decide) ?_
              cases h
              subst hQ
              exact k_iret hx hb hr hlk hP hK hD hS d_Co_entry_58
            · rw [if_neg c10] at h
              refine lv_aload_n hx hb d_Co_entry_50 rfl (lv_at hl 2 rfl) ?_
              refine lv_iload hx hb d_Co_entry_51 (lv_at hl 0 rfl) ?_
              obtain ⟨hi11, v12, ev12, h⟩ := gr_some h
              refine ld_Co_as_ hx hb hK hP hi11 ev12 d_Co_entry_53 ?_
              refine lv_goto (tgt := 58) hx hb d_Co_entry_54 (by decide) ?_
              cases h
              subst hQ
              exact k_iret hx hb hr hlk hP hK hD hS d_Co_entry_58
        · rw [if_neg c6] at h
          refine lv_iconst (v := -1) hx hb d_Co_entry_26 (by decide) ?_
          cases h
          subst hQ
          exact k_iret hx hb hr hlk hP hK hD hS d_Co_entry_27
theorem d_Co_aAt_0 : decode b_Co_aAt 0 = .ok (.aload_n 0, 1) := by decide +kernel
theorem d_Co_aAt_1 : decode b_Co_aAt 1 = .ok (.aload_n 0, 1) := by decide +kernel
theorem d_Co_aAt_2 : decode b_Co_aAt 2 = .ok (.getfield 27, 3) := by decide +kernel
theorem d_Co_aAt_5 : decode b_Co_aAt 5 = .ok (.iload_n 1, 1) := by decide +kernel
theorem d_Co_aAt_6 : decode b_Co_aAt 6 = .ok (.iload_n 2, 1) := by decide +kernel
theorem d_Co_aAt_7 : decode b_Co_aAt 7 = .ok (.invokevirtual 54, 3) := by decide +kernel
theorem d_Co_aAt_10 : decode b_Co_aAt 10 = .ok (.ireturn, 1) := by decide +kernel
def r_Co_aAt (n : Nat) (ko : T_ko) (a0 : Int32) (a1 : Int32) : Option (Int32) := (r_Co_entry_as n ko a0 a1).bind (fun q1 => some (q1))
def rm_Co_aAt : Jvm.Room := { frames := 1, cells := 0, slots := 0, locals := 24 }
set_option maxHeartbeats 4000000 in
set_option maxRecDepth 100000 in
theorem c_Co_aAt {l : Launch} {D : va_G} {cI cL : ClassId} {ad : Nat → Nat} {ma : T_ma} {ko : T_ko} {sh : T_sh} {lo : T_lo} {de : T_de} {wa : T_wa} {me : T_me} {ru : T_ru} {ws0 : va_W} {sz n : Nat} {a0 : Int32} {a1 : Int32} {r9 : Int32} (hw : ws0 = (wX cI cL ad ma ko sh lo de wa me ru)) (h : r_Co_aAt n ko a0 a1 = some r9) : Met l y_Co_aAt (Cond.code y_Co_aAt b_Co_aAt 3 (some .int) :: TB) rm_Co_aAt (PreW D clX (tyX cI cL) ws0 [.ref (ad 1), .int a0, .int a1] sz) (PstI D clX (tyX cI cL) ws0 (wX cI cL ad ma ko sh lo de wa me ru) sz r9) 0 0 (va_A ws0 sz) := by
  refine k_met (by decide) (Nat.le_of_ble_eq_true rfl) ?_
  intro p e s m below meth c ls hx hb hr hml hts hown hlk hnm hsz hP hK hD hA hz hl
  have hP : va_P D clX (wX cI cL ad ma ko sh lo de wa me ru) s.heap := by rw [← hw]; exact hP
  have hD : va_D (va_A ws0 sz) (wX cI cL ad ma ko sh lo de wa me ru) := by rw [← hw]; exact hD
  have hS : va_S (va_A ws0 sz) s.heap s.heap [] := va_S.rf
  have hl : lv_has ls 3 [(0, .ref (ad 1)), (1, .int a0), (2, .int a1)] := hl
  generalize hQ : MQ below (PstI D clX (tyX cI cL) ws0 (wX cI cL ad ma ko sh lo de wa me ru) sz r9) [.ref (ad 1), .int a0, .int a1].toArray s 0 0 (va_A ws0 sz) = Q
  unfold r_Co_aAt at h
  refine lv_aload_n hx hb d_Co_aAt_0 rfl (lv_at hl 0 rfl) ?_
  refine lv_aload_n hx hb d_Co_aAt_1 rfl (lv_at hl 0 rfl) ?_
  refine rd_Co_as_ hx hb hts hown hK hP lk_33 d_Co_aAt_2 ?_
  refine lv_iload_n hx hb d_Co_aAt_5 rfl (lv_at hl 1 rfl) ?_
  refine lv_iload_n hx hb d_Co_aAt_6 rfl (lv_at hl 2 rfl) ?_
  obtain ⟨q1, hq1, h⟩ := Option.bind_eq_some_iff.mp h
  refine k_I (k_runV ⟨hx, hb, hml, hown, hts⟩ (c_Co_entry_as rfl hq1) ok_Co_entry is_Co_entry lk_367 rfl rfl ⟨by decide, by decide⟩ hP hK hD hS hA hz (ci := 1) (q0 := 1) rfl rfl ob_Co rfl hl.1 rfl (Nat.le_of_ble_eq_true rfl) d_Co_aAt_7 ⟨Nat.zero_le _, Nat.zero_le _⟩) hD hS hA (fun H locs hP hD hS => ?_)
  cases h
  subst hQ
  exact k_iret hx hb hr hlk hP hK hD hS d_Co_aAt_10
theorem d_Co_hasUnit_0 : decode b_Co_hasUnit 0 = .ok (.iload_n 1, 1) := by decide +kernel
theorem d_Co_hasUnit_1 : decode b_Co_hasUnit 1 = .ok (.ifCond .lt 15, 3) := by decide +kernel
theorem d_Co_hasUnit_4 : decode b_Co_hasUnit 4 = .ok (.iload_n 1, 1) := by decide +kernel
theorem d_Co_hasUnit_5 : decode b_Co_hasUnit 5 = .ok (.aload_n 0, 1) := by decide +kernel
theorem d_Co_hasUnit_6 : decode b_Co_hasUnit 6 = .ok (.getfield 36, 3) := by decide +kernel
theorem d_Co_hasUnit_9 : decode b_Co_hasUnit 9 = .ok (.if_icmp .ge 7, 3) := by decide +kernel
theorem d_Co_hasUnit_12 : decode b_Co_hasUnit 12 = .ok (.iconst 1, 1) := by decide +kernel
theorem d_Co_hasUnit_13 : decode b_Co_hasUnit 13 = .ok (.goto 4, 3) := by decide +kernel
theorem d_Co_hasUnit_16 : decode b_Co_hasUnit 16 = .ok (.iconst 0, 1) := by decide +kernel
theorem d_Co_hasUnit_17 : decode b_Co_hasUnit 17 = .ok (.ireturn, 1) := by decide +kernel
def r_Co_hasUnit (n : Nat) (ko : T_ko) (a0 : Int32) : Option (Int32) := if a0 < 0 then some ((0 : Int32)) else if (ko_units ko) ≤ a0 then some ((0 : Int32)) else some ((1 : Int32))
def rm_Co_hasUnit : Jvm.Room := { frames := 0, cells := 0, slots := 0, locals := 0 }
set_option maxHeartbeats 4000000 in
set_option maxRecDepth 100000 in
theorem c_Co_hasUnit {l : Launch} {D : va_G} {cI cL : ClassId} {ad : Nat → Nat} {ma : T_ma} {ko : T_ko} {sh : T_sh} {lo : T_lo} {de : T_de} {wa : T_wa} {me : T_me} {ru : T_ru} {ws0 : va_W} {sz n : Nat} {a0 : Int32} {r9 : Int32} (hw : ws0 = (wX cI cL ad ma ko sh lo de wa me ru)) (h : r_Co_hasUnit n ko a0 = some r9) : Met l y_Co_hasUnit (Cond.code y_Co_hasUnit b_Co_hasUnit 2 (some .boolean) :: TB) rm_Co_hasUnit (PreW D clX (tyX cI cL) ws0 [.ref (ad 1), .int a0] sz) (PstI D clX (tyX cI cL) ws0 (wX cI cL ad ma ko sh lo de wa me ru) sz r9) 0 0 (va_A ws0 sz) := by
  refine k_met (by decide) (Nat.le_of_ble_eq_true rfl) ?_
  intro p e s m below meth c ls hx hb hr hml hts hown hlk hnm hsz hP hK hD hA hz hl
  have hP : va_P D clX (wX cI cL ad ma ko sh lo de wa me ru) s.heap := by rw [← hw]; exact hP
  have hD : va_D (va_A ws0 sz) (wX cI cL ad ma ko sh lo de wa me ru) := by rw [← hw]; exact hD
  have hS : va_S (va_A ws0 sz) s.heap s.heap [] := va_S.rf
  have hl : lv_has ls 2 [(0, .ref (ad 1)), (1, .int a0)] := hl
  generalize hQ : MQ below (PstI D clX (tyX cI cL) ws0 (wX cI cL ad ma ko sh lo de wa me ru) sz r9) [.ref (ad 1), .int a0].toArray s 0 0 (va_A ws0 sz) = Q
  unfold r_Co_hasUnit at h
  refine lv_iload_n hx hb d_Co_hasUnit_0 rfl (lv_at hl 1 rfl) ?_
  refine lv_if_lt (tgt := 16) hx hb d_Co_hasUnit_1 (by decide) (fun c1 => ?_) (fun c1 => ?_)
  · rw [if_pos c1] at h
    refine lv_iconst (v := 0) hx hb d_Co_hasUnit_16 (by decide) ?_
    cases h
    subst hQ
    exact k_zret hx hb hr hlk (Or.inl rfl) hP hK hD hS d_Co_hasUnit_17
  · rw [if_neg c1] at h
    refine lv_iload_n hx hb d_Co_hasUnit_4 rfl (lv_at hl 1 rfl) ?_
    refine lv_aload_n hx hb d_Co_hasUnit_5 rfl (lv_at hl 0 rfl) ?_
    refine rd_Co_units hx hb hts hown hK hP lk_36 (v := (ko_units ko)) rfl d_Co_hasUnit_6 ?_
    refine lv_icmp_ge (tgt := 16) hx hb d_Co_hasUnit_9 (by decide) (fun c2 => ?_) (fun c2 => ?_)
    · rw [if_pos c2] at h
      refine lv_iconst (v := 0) hx hb d_Co_hasUnit_16 (by decide) ?_
      cases h
      subst hQ
      exact k_zret hx hb hr hlk (Or.inl rfl) hP hK hD hS d_Co_hasUnit_17
    · rw [if_neg c2] at h
      refine lv_iconst (v := 1) hx hb d_Co_hasUnit_12 (by decide) ?_
      refine lv_goto (tgt := 17) hx hb d_Co_hasUnit_13 (by decide) ?_
      cases h
      subst hQ
      exact k_zret hx hb hr hlk (Or.inr rfl) hP hK hD hS d_Co_hasUnit_17
theorem d_Co_sizeOf_0 : decode b_Co_sizeOf 0 = .ok (.aload_n 0, 1) := by decide +kernel
theorem d_Co_sizeOf_1 : decode b_Co_sizeOf 1 = .ok (.iload_n 1, 1) := by decide +kernel
theorem d_Co_sizeOf_2 : decode b_Co_sizeOf 2 = .ok (.invokevirtual 50, 3) := by decide +kernel
theorem d_Co_sizeOf_5 : decode b_Co_sizeOf 5 = .ok (.ifCond .eq 12, 3) := by decide +kernel
theorem d_Co_sizeOf_8 : decode b_Co_sizeOf 8 = .ok (.aload_n 0, 1) := by decide +kernel
theorem d_Co_sizeOf_9 : decode b_Co_sizeOf 9 = .ok (.getfield 21, 3) := by decide +kernel
theorem d_Co_sizeOf_12 : decode b_Co_sizeOf 12 = .ok (.iload_n 1, 1) := by decide +kernel
theorem d_Co_sizeOf_13 : decode b_Co_sizeOf 13 = .ok (.iaload, 1) := by decide +kernel
theorem d_Co_sizeOf_14 : decode b_Co_sizeOf 14 = .ok (.goto 4, 3) := by decide +kernel
theorem d_Co_sizeOf_17 : decode b_Co_sizeOf 17 = .ok (.iconst 0, 1) := by decide +kernel
theorem d_Co_sizeOf_18 : decode b_Co_sizeOf 18 = .ok (.ireturn, 1) := by decide +kernel
def r_Co_sizeOf (n : Nat) (ko : T_ko) (a0 : Int32) : Option (Int32) := (r_Co_hasUnit n ko a0).bind (fun q1 => if q1 = 0 then some ((0 : Int32)) else gr (ko_sizes ko) a0 16 (fun v4 => some (v4)))
def rm_Co_sizeOf : Jvm.Room := { frames := 1, cells := 0, slots := 0, locals := 21 }
set_option maxHeartbeats 4000000 in
set_option maxRecDepth 100000 in
theorem c_Co_sizeOf {l : Launch} {D : va_G} {cI cL : ClassId} {ad : Nat → Nat} {ma : T_ma} {ko : T_ko} {sh : T_sh} {lo : T_lo} {de : T_de} {wa : T_wa} {me : T_me} {ru : T_ru} {ws0 : va_W} {sz n : Nat} {a0 : Int32} {r9 : Int32} (hw : ws0 = (wX cI cL ad ma ko sh lo de wa me ru)) (h : r_Co_sizeOf n ko a0 = some r9) : Met l y_Co_sizeOf (Cond.code y_Co_sizeOf b_Co_sizeOf 2 (some .int) :: TB) rm_Co_sizeOf (PreW D clX (tyX cI cL) ws0 [.ref (ad 1), .int a0] sz) (PstI D clX (tyX cI cL) ws0 (wX cI cL ad ma ko sh lo de wa me ru) sz r9) 0 0 (va_A ws0 sz) := by
  refine k_met (by decide) (Nat.le_of_ble_eq_true rfl) ?_
  intro p e s m below meth c ls hx hb hr hml hts hown hlk hnm hsz hP hK hD hA hz hl
  have hP : va_P D clX (wX cI cL ad ma ko sh lo de wa me ru) s.heap := by rw [← hw]; exact hP
  have hD : va_D (va_A ws0 sz) (wX cI cL ad ma ko sh lo de wa me ru) := by rw [← hw]; exact hD
  have hS : va_S (va_A ws0 sz) s.heap s.heap [] := va_S.rf
  have hl : lv_has ls 2 [(0, .ref (ad 1)), (1, .int a0)] := hl
  generalize hQ : MQ below (PstI D clX (tyX cI cL) ws0 (wX cI cL ad ma ko sh lo de wa me ru) sz r9) [.ref (ad 1), .int a0].toArray s 0 0 (va_A ws0 sz) = Q
  unfold r_Co_sizeOf at h
  refine lv_aload_n hx hb d_Co_sizeOf_0 rfl (lv_at hl 0 rfl) ?_
  refine lv_iload_n hx hb d_Co_sizeOf_1 rfl (lv_at hl 1 rfl) ?_
  obtain ⟨q1, hq1, h⟩ := Option.bind_eq_some_iff.mp h
  refine k_I (k_runV ⟨hx, hb, hml, hown, hts⟩ (c_Co_hasUnit rfl hq1) ok_Co_hasUnit is_Co_hasUnit lk_336 rfl rfl ⟨by decide, by decide⟩ hP hK hD hS hA hz (ci := 1) (q0 := 1) rfl rfl ob_Co rfl hl.1 rfl (Nat.le_of_ble_eq_true rfl) d_Co_sizeOf_2 ⟨Nat.zero_le _, Nat.zero_le _⟩) hD hS hA (fun H locs hP hD hS => ?_)
  refine lv_if_eq (tgt := 17) hx hb d_Co_sizeOf_5 (by decide) (fun c2 => ?_) (fun c2 => ?_)
  · rw [if_pos c2] at h
    refine lv_iconst (v := 0) hx hb d_Co_sizeOf_17 (by decide) ?_
    cases h
    subst hQ
    exact k_iret hx hb hr hlk hP hK hD hS d_Co_sizeOf_18
  · rw [if_neg c2] at h
    refine lv_aload_n hx hb d_Co_sizeOf_8 rfl (lv_at hl 0 rfl) ?_
    refine rd_Co_sizes hx hb hts hown hK hP lk_31 d_Co_sizeOf_9 ?_
    refine lv_iload_n hx hb d_Co_sizeOf_12 rfl (lv_at hl 1 rfl) ?_
    obtain ⟨hi3, v4, ev4, h⟩ := gr_some h
    refine ld_Co_sizes hx hb hK hP hi3 ev4 d_Co_sizeOf_13 ?_
    refine lv_goto (tgt := 18) hx hb d_Co_sizeOf_14 (by decide) ?_
    cases h
    subst hQ
    exact k_iret hx hb hr hlk hP hK hD hS d_Co_sizeOf_18
theorem d_Co_frameOf_0 : decode b_Co_frameOf 0 = .ok (.aload_n 0, 1) := by decide +kernel
theorem d_Co_frameOf_1 : decode b_Co_frameOf 1 = .ok (.iload_n 1, 1) := by decide +kernel
theorem d_Co_frameOf_2 : decode b_Co_frameOf 2 = .ok (.invokevirtual 50, 3) := by decide +kernel
theorem d_Co_frameOf_5 : decode b_Co_frameOf 5 = .ok (.ifCond .eq 12, 3) := by decide +kernel
theorem d_Co_frameOf_8 : decode b_Co_frameOf 8 = .ok (.aload_n 0, 1) := by decide +kernel
theorem d_Co_frameOf_9 : decode b_Co_frameOf 9 = .ok (.getfield 9, 3) := by decide +kernel
theorem d_Co_frameOf_12 : decode b_Co_frameOf 12 = .ok (.iload_n 1, 1) := by decide +kernel
theorem d_Co_frameOf_13 : decode b_Co_frameOf 13 = .ok (.iaload, 1) := by decide +kernel
theorem d_Co_frameOf_14 : decode b_Co_frameOf 14 = .ok (.goto 4, 3) := by decide +kernel
theorem d_Co_frameOf_17 : decode b_Co_frameOf 17 = .ok (.iconst 0, 1) := by decide +kernel
theorem d_Co_frameOf_18 : decode b_Co_frameOf 18 = .ok (.ireturn, 1) := by decide +kernel
def r_Co_frameOf (n : Nat) (ko : T_ko) (a0 : Int32) : Option (Int32) := (r_Co_hasUnit n ko a0).bind (fun q1 => if q1 = 0 then some ((0 : Int32)) else gr (ko_frames ko) a0 16 (fun v4 => some (v4)))
def rm_Co_frameOf : Jvm.Room := { frames := 1, cells := 0, slots := 0, locals := 21 }
set_option maxHeartbeats 4000000 in
set_option maxRecDepth 100000 in
theorem c_Co_frameOf {l : Launch} {D : va_G} {cI cL : ClassId} {ad : Nat → Nat} {ma : T_ma} {ko : T_ko} {sh : T_sh} {lo : T_lo} {de : T_de} {wa : T_wa} {me : T_me} {ru : T_ru} {ws0 : va_W} {sz n : Nat} {a0 : Int32} {r9 : Int32} (hw : ws0 = (wX cI cL ad ma ko sh lo de wa me ru)) (h : r_Co_frameOf n ko a0 = some r9) : Met l y_Co_frameOf (Cond.code y_Co_frameOf b_Co_frameOf 2 (some .int) :: TB) rm_Co_frameOf (PreW D clX (tyX cI cL) ws0 [.ref (ad 1), .int a0] sz) (PstI D clX (tyX cI cL) ws0 (wX cI cL ad ma ko sh lo de wa me ru) sz r9) 0 0 (va_A ws0 sz) := by
  refine k_met (by decide) (Nat.le_of_ble_eq_true rfl) ?_
  intro p e s m below meth c ls hx hb hr hml hts hown hlk hnm hsz hP hK hD hA hz hl
  have hP : va_P D clX (wX cI cL ad ma ko sh lo de wa me ru) s.heap := by rw [← hw]; exact hP
  have hD : va_D (va_A ws0 sz) (wX cI cL ad ma ko sh lo de wa me ru) := by rw [← hw]; exact hD
  have hS : va_S (va_A ws0 sz) s.heap s.heap [] := va_S.rf
  have hl : lv_has ls 2 [(0, .ref (ad 1)), (1, .int a0)] := hl
  generalize hQ : MQ below (PstI D clX (tyX cI cL) ws0 (wX cI cL ad ma ko sh lo de wa me ru) sz r9) [.ref (ad 1), .int a0].toArray s 0 0 (va_A ws0 sz) = Q
  unfold r_Co_frameOf at h
  refine lv_aload_n hx hb d_Co_frameOf_0 rfl (lv_at hl 0 rfl) ?_
  refine lv_iload_n hx hb d_Co_frameOf_1 rfl (lv_at hl 1 rfl) ?_
  obtain ⟨q1, hq1, h⟩ := Option.bind_eq_some_iff.mp h
  refine k_I (k_runV ⟨hx, hb, hml, hown, hts⟩ (c_Co_hasUnit rfl hq1) ok_Co_hasUnit is_Co_hasUnit lk_336 rfl rfl ⟨by decide, by decide⟩ hP hK hD hS hA hz (ci := 1) (q0 := 1) rfl rfl ob_Co rfl hl.1 rfl (Nat.le_of_ble_eq_true rfl) d_Co_frameOf_2 ⟨Nat.zero_le _, Nat.zero_le _⟩) hD hS hA (fun H locs hP hD hS => ?_)
  refine lv_if_eq (tgt := 17) hx hb d_Co_frameOf_5 (by decide) (fun c2 => ?_) (fun c2 => ?_)
  · rw [if_pos c2] at h
    refine lv_iconst (v := 0) hx hb d_Co_frameOf_17 (by decide) ?_
    cases h
    subst hQ
    exact k_iret hx hb hr hlk hP hK hD hS d_Co_frameOf_18
  · rw [if_neg c2] at h
    refine lv_aload_n hx hb d_Co_frameOf_8 rfl (lv_at hl 0 rfl) ?_
    refine rd_Co_frames hx hb hts hown hK hP lk_28 d_Co_frameOf_9 ?_
    refine lv_iload_n hx hb d_Co_frameOf_12 rfl (lv_at hl 1 rfl) ?_
    obtain ⟨hi3, v4, ev4, h⟩ := gr_some h
    refine ld_Co_frames hx hb hK hP hi3 ev4 d_Co_frameOf_13 ?_
    refine lv_goto (tgt := 18) hx hb d_Co_frameOf_14 (by decide) ?_
    cases h
    subst hQ
    exact k_iret hx hb hr hlk hP hK hD hS d_Co_frameOf_18
theorem d_Co_placeOf_0 : decode b_Co_placeOf 0 = .ok (.aload_n 0, 1) := by decide +kernel
theorem d_Co_placeOf_1 : decode b_Co_placeOf 1 = .ok (.iload_n 1, 1) := by decide +kernel
theorem d_Co_placeOf_2 : decode b_Co_placeOf 2 = .ok (.invokevirtual 50, 3) := by decide +kernel
theorem d_Co_placeOf_5 : decode b_Co_placeOf 5 = .ok (.ifCond .eq 12, 3) := by decide +kernel
theorem d_Co_placeOf_8 : decode b_Co_placeOf 8 = .ok (.aload_n 0, 1) := by decide +kernel
theorem d_Co_placeOf_9 : decode b_Co_placeOf 9 = .ok (.getfield 15, 3) := by decide +kernel
theorem d_Co_placeOf_12 : decode b_Co_placeOf 12 = .ok (.iload_n 1, 1) := by decide +kernel
theorem d_Co_placeOf_13 : decode b_Co_placeOf 13 = .ok (.iaload, 1) := by decide +kernel
theorem d_Co_placeOf_14 : decode b_Co_placeOf 14 = .ok (.goto 4, 3) := by decide +kernel
theorem d_Co_placeOf_17 : decode b_Co_placeOf 17 = .ok (.iconst (-1), 1) := by decide +kernel
theorem d_Co_placeOf_18 : decode b_Co_placeOf 18 = .ok (.ireturn, 1) := by decide +kernel
def r_Co_placeOf (n : Nat) (ko : T_ko) (a0 : Int32) : Option (Int32) := (r_Co_hasUnit n ko a0).bind (fun q1 => if q1 = 0 then some ((-1 : Int32)) else gr (ko_places ko) a0 16 (fun v4 => some (v4)))
def rm_Co_placeOf : Jvm.Room := { frames := 1, cells := 0, slots := 0, locals := 21 }
set_option maxHeartbeats 4000000 in
set_option maxRecDepth 100000 in
theorem c_Co_placeOf {l : Launch} {D : va_G} {cI cL : ClassId} {ad : Nat → Nat} {ma : T_ma} {ko : T_ko} {sh : T_sh} {lo : T_lo} {de : T_de} {wa : T_wa} {me : T_me} {ru : T_ru} {ws0 : va_W} {sz n : Nat} {a0 : Int32} {r9 : Int32} (hw : ws0 = (wX cI cL ad ma ko sh lo de wa me ru)) (h : r_Co_placeOf n ko a0 = some r9) : Met l y_Co_placeOf (Cond.code y_Co_placeOf b_Co_placeOf 2 (some .int) :: TB) rm_Co_placeOf (PreW D clX (tyX cI cL) ws0 [.ref (ad 1), .int a0] sz) (PstI D clX (tyX cI cL) ws0 (wX cI cL ad ma ko sh lo de wa me ru) sz r9) 0 0 (va_A ws0 sz) := by
  refine k_met (by decide) (Nat.le_of_ble_eq_true rfl) ?_
  intro p e s m below meth c ls hx hb hr hml hts hown hlk hnm hsz hP hK hD hA hz hl
  have hP : va_P D clX (wX cI cL ad ma ko sh lo de wa me ru) s.heap := by rw [← hw]; exact hP
  have hD : va_D (va_A ws0 sz) (wX cI cL ad ma ko sh lo de wa me ru) := by rw [← hw]; exact hD
  have hS : va_S (va_A ws0 sz) s.heap s.heap [] := va_S.rf
  have hl : lv_has ls 2 [(0, .ref (ad 1)), (1, .int a0)] := hl
  generalize hQ : MQ below (PstI D clX (tyX cI cL) ws0 (wX cI cL ad ma ko sh lo de wa me ru) sz r9) [.ref (ad 1), .int a0].toArray s 0 0 (va_A ws0 sz) = Q
  unfold r_Co_placeOf at h
  refine lv_aload_n hx hb d_Co_placeOf_0 rfl (lv_at hl 0 rfl) ?_
  refine lv_iload_n hx hb d_Co_placeOf_1 rfl (lv_at hl 1 rfl) ?_
  obtain ⟨q1, hq1, h⟩ := Option.bind_eq_some_iff.mp h
  refine k_I (k_runV ⟨hx, hb, hml, hown, hts⟩ (c_Co_hasUnit rfl hq1) ok_Co_hasUnit is_Co_hasUnit lk_336 rfl rfl ⟨by decide, by decide⟩ hP hK hD hS hA hz (ci := 1) (q0 := 1) rfl rfl ob_Co rfl hl.1 rfl (Nat.le_of_ble_eq_true rfl) d_Co_placeOf_2 ⟨Nat.zero_le _, Nat.zero_le _⟩) hD hS hA (fun H locs hP hD hS => ?_)
  refine lv_if_eq (tgt := 17) hx hb d_Co_placeOf_5 (by decide) (fun c2 => ?_) (fun c2 => ?_)
  · rw [if_pos c2] at h
    refine lv_iconst (v := -1) hx hb d_Co_placeOf_17 (by decide) ?_
    cases h
    subst hQ
    exact k_iret hx hb hr hlk hP hK hD hS d_Co_placeOf_18
  · rw [if_neg c2] at h
    refine lv_aload_n hx hb d_Co_placeOf_8 rfl (lv_at hl 0 rfl) ?_
    refine rd_Co_places hx hb hts hown hK hP lk_29 d_Co_placeOf_9 ?_
    refine lv_iload_n hx hb d_Co_placeOf_12 rfl (lv_at hl 1 rfl) ?_
    obtain ⟨hi3, v4, ev4, h⟩ := gr_some h
    refine ld_Co_places hx hb hK hP hi3 ev4 d_Co_placeOf_13 ?_
    refine lv_goto (tgt := 18) hx hb d_Co_placeOf_14 (by decide) ?_
    cases h
    subst hQ
    exact k_iret hx hb hr hlk hP hK hD hS d_Co_placeOf_18
def r_Co_entry_cs (n : Nat) (ko : T_ko) (a1 : Int32) (a2 : Int32) : Option (Int32) := if a1 < 0 then some ((-1 : Int32)) else if (ko_units ko) ≤ a1 then some ((-1 : Int32)) else if a2 < 0 then some ((-1 : Int32)) else gr (ko_sizes ko) a1 16 (fun v5 => if a2 < v5 then gr (ko_firsts ko) a1 16 (fun v8 => if (v8 + a2) < 0 then some ((-1 : Int32)) else if (256 : Int32) ≤ (v8 + a2) then some ((-1 : Int32)) else gr (ko_cs ko) (v8 + a2) 256 (fun v12 => some (v12))) else some ((-1 : Int32)))
def rm_Co_entry_cs : Jvm.Room := { frames := 0, cells := 0, slots := 0, locals := 0 }
set_option maxHeartbeats 4000000 in
set_option maxRecDepth 100000 in
theorem c_Co_entry_cs {l : Launch} {D : va_G} {cI cL : ClassId} {ad : Nat → Nat} {ma : T_ma} {ko : T_ko} {sh : T_sh} {lo : T_lo} {de : T_de} {wa : T_wa} {me : T_me} {ru : T_ru} {ws0 : va_W} {sz n : Nat} {a1 : Int32} {a2 : Int32} {r9 : Int32} (hw : ws0 = (wX cI cL ad ma ko sh lo de wa me ru)) (h : r_Co_entry_cs n ko a1 a2 = some r9) : Met l y_Co_entry (Cond.code y_Co_entry b_Co_entry 5 (some .int) :: TB) rm_Co_entry_cs (PreW D clX (tyX cI cL) ws0 [.ref (ad 1), .ref (ad 9), .int a1, .int a2] sz) (PstI D clX (tyX cI cL) ws0 (wX cI cL ad ma ko sh lo de wa me ru) sz r9) 0 0 (va_A ws0 sz) := by
  refine k_met (by decide) (Nat.le_of_ble_eq_true rfl) ?_
  intro p e s m below meth c ls hx hb hr hml hts hown hlk hnm hsz hP hK hD hA hz hl
  have hP : va_P D clX (wX cI cL ad ma ko sh lo de wa me ru) s.heap := by rw [← hw]; exact hP
  have hD : va_D (va_A ws0 sz) (wX cI cL ad ma ko sh lo de wa me ru) := by rw [← hw]; exact hD
  have hS : va_S (va_A ws0 sz) s.heap s.heap [] := va_S.rf
  have hl : lv_has ls 5 [(0, .ref (ad 1)), (1, .ref (ad 9)), (2, .int a1), (3, .int a2)] := hl
  generalize hQ : MQ below (PstI D clX (tyX cI cL) ws0 (wX cI cL ad ma ko sh lo de wa me ru) sz r9) [.ref (ad 1), .ref (ad 9), .int a1, .int a2].toArray s 0 0 (va_A ws0 sz) = Q
  unfold r_Co_entry_cs at h
  refine lv_iload_n hx hb d_Co_entry_0 rfl (lv_at hl 2 rfl) ?_
  refine lv_if_lt (tgt := 26) hx hb d_Co_entry_1 (by decide) (fun c1 => ?_) (fun c1 => ?_)
  · rw [if_pos c1] at h
    refine lv_iconst (v := -1) hx hb d_Co_entry_26 (by decide) ?_
    cases h
    subst hQ
    exact k_iret hx hb hr hlk hP hK hD hS d_Co_entry_27
  · rw [if_neg c1] at h
    refine lv_iload_n hx hb d_Co_entry_4 rfl (lv_at hl 2 rfl) ?_
    refine lv_aload_n hx hb d_Co_entry_5 rfl (lv_at hl 0 rfl) ?_
    refine rd_Co_units hx hb hts hown hK hP lk_36 (v := (ko_units ko)) rfl d_Co_entry_6 ?_
    refine lv_icmp_ge (tgt := 26) hx hb d_Co_entry_9 (by decide) (fun c2 => ?_) (fun c2 => ?_)
    · rw [if_pos c2] at h
      refine lv_iconst (v := -1) hx hb d_Co_entry_26 (by decide) ?_
      cases h
      subst hQ
      exact k_iret hx hb hr hlk hP hK hD hS d_Co_entry_27
    · rw [if_neg c2] at h
      refine lv_iload_n hx hb d_Co_entry_12 rfl (lv_at hl 3 rfl) ?_
      refine lv_if_lt (tgt := 26) hx hb d_Co_entry_13 (by decide) (fun c3 => ?_) (fun c3 => ?_)
      · rw [if_pos c3] at h
        refine lv_iconst (v := -1) hx hb d_Co_entry_26 (by decide) ?_
        cases h
        subst hQ
        exact k_iret hx hb hr hlk hP hK hD hS d_Co_entry_27
      · rw [if_neg c3] at h
        refine lv_iload_n hx hb d_Co_entry_16 rfl (lv_at hl 3 rfl) ?_
        refine lv_aload_n hx hb d_Co_entry_17 rfl (lv_at hl 0 rfl) ?_
        refine rd_Co_sizes hx hb hts hown hK hP lk_31 d_Co_entry_18 ?_
        refine lv_iload_n hx hb d_Co_entry_21 rfl (lv_at hl 2 rfl) ?_
        obtain ⟨hi4, v5, ev5, h⟩ := gr_some h
        refine ld_Co_sizes hx hb hK hP hi4 ev5 d_Co_entry_22 ?_
        refine lv_icmp_lt (tgt := 28) hx hb d_Co_entry_23 (by decide) (fun c6 => ?_) (fun c6 => ?_)
        · rw [if_pos c6] at h
          refine lv_aload_n hx hb d_Co_entry_28 rfl (lv_at hl 0 rfl) ?_
          refine rd_Co_firsts hx hb hts hown hK hP lk_30 d_Co_entry_29 ?_
          refine lv_iload_n hx hb d_Co_entry_32 rfl (lv_at hl 2 rfl) ?_
          obtain ⟨hi7, v8, ev8, h⟩ := gr_some h
          refine ld_Co_firsts hx hb hK hP hi7 ev8 d_Co_entry_33 ?_
          refine lv_iload_n hx hb d_Co_entry_34 rfl (lv_at hl 3 rfl) ?_
          refine lv_iadd hx hb d_Co_entry_35 ?_
          refine lv_istore (lv' := [(4, .int (v8 + a2)), (0, .ref (ad 1)), (1, .ref (ad 9)), (2, .int a1), (3, .int a2)]) hx hb d_Co_entry_36 hl (by decide) rfl (fun ls hl => ?_)
          refine lv_iload hx hb d_Co_entry_38 (lv_at hl 0 rfl) ?_
          refine lv_if_lt (tgt := 57) hx hb d_Co_entry_40 (by decide) (fun c9 => ?_) (fun c9 => ?_)
          · rw [if_pos c9] at h
            refine lv_iconst (v := -1) hx hb d_Co_entry_57 (by decide) ?_
            cases h
            subst hQ
            exact k_iret hx hb hr hlk hP hK hD hS d_Co_entry_58
          · rw [if_neg c9] at h
            refine lv_iload hx hb d_Co_entry_43 (lv_at hl 0 rfl) ?_
            refine lv_aload_n hx hb d_Co_entry_45 rfl (lv_at hl 2 rfl) ?_
            refine le_Co_cs hx hb hK hP d_Co_entry_46 ?_
            refine lv_icmp_ge (tgt := 57) hx hb d_Co_entry_47 (by decide) (fun c10 => ?_) (fun c10 => ?_)
            · rw [if_pos c10] at h
              refine lv_iconst (v := -1) hx hb d_Co_entry_57 (by decide) ?_
              cases h
              subst hQ
              exact k_iret hx hb hr hlk hP hK hD hS d_Co_entry_58
            · rw [if_neg c10] at h
              refine lv_aload_n hx hb d_Co_entry_50 rfl (lv_at hl 2 rfl) ?_
              refine lv_iload hx hb d_Co_entry_51 (lv_at hl 0 rfl) ?_
              obtain ⟨hi11, v12, ev12, h⟩ := gr_some h
              refine ld_Co_cs hx hb hK hP hi11 ev12 d_Co_entry_53 ?_
              refine lv_goto (tgt := 58) hx hb d_Co_entry_54 (by decide) ?_
              cases h
              subst hQ
              exact k_iret hx hb hr hlk hP hK hD hS d_Co_entry_58
        · rw [if_neg c6] at h
          refine lv_iconst (v := -1) hx hb d_Co_entry_26 (by decide) ?_
          cases h
          subst hQ
          exact k_iret hx hb hr hlk hP hK hD hS d_Co_entry_27
theorem d_Co_cAt_0 : decode b_Co_cAt 0 = .ok (.aload_n 0, 1) := by decide +kernel
theorem d_Co_cAt_1 : decode b_Co_cAt 1 = .ok (.aload_n 0, 1) := by decide +kernel
theorem d_Co_cAt_2 : decode b_Co_cAt 2 = .ok (.getfield 33, 3) := by decide +kernel
theorem d_Co_cAt_5 : decode b_Co_cAt 5 = .ok (.iload_n 1, 1) := by decide +kernel
theorem d_Co_cAt_6 : decode b_Co_cAt 6 = .ok (.iload_n 2, 1) := by decide +kernel
theorem d_Co_cAt_7 : decode b_Co_cAt 7 = .ok (.invokevirtual 54, 3) := by decide +kernel
theorem d_Co_cAt_10 : decode b_Co_cAt 10 = .ok (.ireturn, 1) := by decide +kernel
def r_Co_cAt (n : Nat) (ko : T_ko) (a0 : Int32) (a1 : Int32) : Option (Int32) := (r_Co_entry_cs n ko a0 a1).bind (fun q1 => some (q1))
def rm_Co_cAt : Jvm.Room := { frames := 1, cells := 0, slots := 0, locals := 24 }
set_option maxHeartbeats 4000000 in
set_option maxRecDepth 100000 in
theorem c_Co_cAt {l : Launch} {D : va_G} {cI cL : ClassId} {ad : Nat → Nat} {ma : T_ma} {ko : T_ko} {sh : T_sh} {lo : T_lo} {de : T_de} {wa : T_wa} {me : T_me} {ru : T_ru} {ws0 : va_W} {sz n : Nat} {a0 : Int32} {a1 : Int32} {r9 : Int32} (hw : ws0 = (wX cI cL ad ma ko sh lo de wa me ru)) (h : r_Co_cAt n ko a0 a1 = some r9) : Met l y_Co_cAt (Cond.code y_Co_cAt b_Co_cAt 3 (some .int) :: TB) rm_Co_cAt (PreW D clX (tyX cI cL) ws0 [.ref (ad 1), .int a0, .int a1] sz) (PstI D clX (tyX cI cL) ws0 (wX cI cL ad ma ko sh lo de wa me ru) sz r9) 0 0 (va_A ws0 sz) := by
  refine k_met (by decide) (Nat.le_of_ble_eq_true rfl) ?_
  intro p e s m below meth c ls hx hb hr hml hts hown hlk hnm hsz hP hK hD hA hz hl
  have hP : va_P D clX (wX cI cL ad ma ko sh lo de wa me ru) s.heap := by rw [← hw]; exact hP
  have hD : va_D (va_A ws0 sz) (wX cI cL ad ma ko sh lo de wa me ru) := by rw [← hw]; exact hD
  have hS : va_S (va_A ws0 sz) s.heap s.heap [] := va_S.rf
  have hl : lv_has ls 3 [(0, .ref (ad 1)), (1, .int a0), (2, .int a1)] := hl
  generalize hQ : MQ below (PstI D clX (tyX cI cL) ws0 (wX cI cL ad ma ko sh lo de wa me ru) sz r9) [.ref (ad 1), .int a0, .int a1].toArray s 0 0 (va_A ws0 sz) = Q
  unfold r_Co_cAt at h
  refine lv_aload_n hx hb d_Co_cAt_0 rfl (lv_at hl 0 rfl) ?_
  refine lv_aload_n hx hb d_Co_cAt_1 rfl (lv_at hl 0 rfl) ?_
  refine rd_Co_cs hx hb hts hown hK hP lk_35 d_Co_cAt_2 ?_
  refine lv_iload_n hx hb d_Co_cAt_5 rfl (lv_at hl 1 rfl) ?_
  refine lv_iload_n hx hb d_Co_cAt_6 rfl (lv_at hl 2 rfl) ?_
  obtain ⟨q1, hq1, h⟩ := Option.bind_eq_some_iff.mp h
  refine k_I (k_runV ⟨hx, hb, hml, hown, hts⟩ (c_Co_entry_cs rfl hq1) ok_Co_entry is_Co_entry lk_367 rfl rfl ⟨by decide, by decide⟩ hP hK hD hS hA hz (ci := 1) (q0 := 1) rfl rfl ob_Co rfl hl.1 rfl (Nat.le_of_ble_eq_true rfl) d_Co_cAt_7 ⟨Nat.zero_le _, Nat.zero_le _⟩) hD hS hA (fun H locs hP hD hS => ?_)
  cases h
  subst hQ
  exact k_iret hx hb hr hlk hP hK hD hS d_Co_cAt_10
theorem d_Co_unitCount_0 : decode b_Co_unitCount 0 = .ok (.aload_n 0, 1) := by decide +kernel
theorem d_Co_unitCount_1 : decode b_Co_unitCount 1 = .ok (.getfield 36, 3) := by decide +kernel
theorem d_Co_unitCount_4 : decode b_Co_unitCount 4 = .ok (.ireturn, 1) := by decide +kernel
def r_Co_unitCount (n : Nat) (ko : T_ko)  : Option (Int32) := some ((ko_units ko))
def rm_Co_unitCount : Jvm.Room := { frames := 0, cells := 0, slots := 0, locals := 0 }
set_option maxHeartbeats 4000000 in
set_option maxRecDepth 100000 in
theorem c_Co_unitCount {l : Launch} {D : va_G} {cI cL : ClassId} {ad : Nat → Nat} {ma : T_ma} {ko : T_ko} {sh : T_sh} {lo : T_lo} {de : T_de} {wa : T_wa} {me : T_me} {ru : T_ru} {ws0 : va_W} {sz n : Nat}  {r9 : Int32} (hw : ws0 = (wX cI cL ad ma ko sh lo de wa me ru)) (h : r_Co_unitCount n ko  = some r9) : Met l y_Co_unitCount (Cond.code y_Co_unitCount b_Co_unitCount 1 (some .int) :: TB) rm_Co_unitCount (PreW D clX (tyX cI cL) ws0 [.ref (ad 1)] sz) (PstI D clX (tyX cI cL) ws0 (wX cI cL ad ma ko sh lo de wa me ru) sz r9) 0 0 (va_A ws0 sz) := by
  refine k_met (by decide) (Nat.le_of_ble_eq_true rfl) ?_
  intro p e s m below meth c ls hx hb hr hml hts hown hlk hnm hsz hP hK hD hA hz hl
  have hP : va_P D clX (wX cI cL ad ma ko sh lo de wa me ru) s.heap := by rw [← hw]; exact hP
  have hD : va_D (va_A ws0 sz) (wX cI cL ad ma ko sh lo de wa me ru) := by rw [← hw]; exact hD
  have hS : va_S (va_A ws0 sz) s.heap s.heap [] := va_S.rf
  have hl : lv_has ls 1 [(0, .ref (ad 1))] := hl
  generalize hQ : MQ below (PstI D clX (tyX cI cL) ws0 (wX cI cL ad ma ko sh lo de wa me ru) sz r9) [.ref (ad 1)].toArray s 0 0 (va_A ws0 sz) = Q
  unfold r_Co_unitCount at h
  refine lv_aload_n hx hb d_Co_unitCount_0 rfl (lv_at hl 0 rfl) ?_
  refine rd_Co_units hx hb hts hown hK hP lk_36 (v := (ko_units ko)) rfl d_Co_unitCount_1 ?_
  cases h
  subst hQ
  exact k_iret hx hb hr hlk hP hK hD hS d_Co_unitCount_4
theorem d_Co_hasRoomForInstruction_0 : decode b_Co_hasRoomForInstruction 0 = .ok (.aload_n 0, 1) := by decide +kernel
theorem d_Co_hasRoomForInstruction_1 : decode b_Co_hasRoomForInstruction 1 = .ok (.getfield 36, 3) := by decide +kernel
theorem d_Co_hasRoomForInstruction_4 : decode b_Co_hasRoomForInstruction 4 = .ok (.ifCond .le 26, 3) := by decide +kernel
theorem d_Co_hasRoomForInstruction_7 : decode b_Co_hasRoomForInstruction 7 = .ok (.aload_n 0, 1) := by decide +kernel
theorem d_Co_hasRoomForInstruction_8 : decode b_Co_hasRoomForInstruction 8 = .ok (.getfield 36, 3) := by decide +kernel
theorem d_Co_hasRoomForInstruction_11 : decode b_Co_hasRoomForInstruction 11 = .ok (.bipush 16, 2) := by decide +kernel
theorem d_Co_hasRoomForInstruction_13 : decode b_Co_hasRoomForInstruction 13 = .ok (.if_icmp .gt 17, 3) := by decide +kernel
theorem d_Co_hasRoomForInstruction_16 : decode b_Co_hasRoomForInstruction 16 = .ok (.aload_n 0, 1) := by decide +kernel
theorem d_Co_hasRoomForInstruction_17 : decode b_Co_hasRoomForInstruction 17 = .ok (.getfield 40, 3) := by decide +kernel
theorem d_Co_hasRoomForInstruction_20 : decode b_Co_hasRoomForInstruction 20 = .ok (.sipush 256, 3) := by decide +kernel
theorem d_Co_hasRoomForInstruction_23 : decode b_Co_hasRoomForInstruction 23 = .ok (.if_icmp .ge 7, 3) := by decide +kernel
theorem d_Co_hasRoomForInstruction_26 : decode b_Co_hasRoomForInstruction 26 = .ok (.iconst 1, 1) := by decide +kernel
theorem d_Co_hasRoomForInstruction_27 : decode b_Co_hasRoomForInstruction 27 = .ok (.goto 4, 3) := by decide +kernel
theorem d_Co_hasRoomForInstruction_30 : decode b_Co_hasRoomForInstruction 30 = .ok (.iconst 0, 1) := by decide +kernel
theorem d_Co_hasRoomForInstruction_31 : decode b_Co_hasRoomForInstruction 31 = .ok (.ireturn, 1) := by decide +kernel
def r_Co_hasRoomForInstruction (n : Nat) (ko : T_ko)  : Option (Int32) := if (ko_units ko) ≤ 0 then some ((0 : Int32)) else if (16 : Int32) < (ko_units ko) then some ((0 : Int32)) else if (256 : Int32) ≤ (ko_length ko) then some ((0 : Int32)) else some ((1 : Int32))
def rm_Co_hasRoomForInstruction : Jvm.Room := { frames := 0, cells := 0, slots := 0, locals := 0 }
set_option maxHeartbeats 4000000 in
set_option maxRecDepth 100000 in
theorem c_Co_hasRoomForInstruction {l : Launch} {D : va_G} {cI cL : ClassId} {ad : Nat → Nat} {ma : T_ma} {ko : T_ko} {sh : T_sh} {lo : T_lo} {de : T_de} {wa : T_wa} {me : T_me} {ru : T_ru} {ws0 : va_W} {sz n : Nat}  {r9 : Int32} (hw : ws0 = (wX cI cL ad ma ko sh lo de wa me ru)) (h : r_Co_hasRoomForInstruction n ko  = some r9) : Met l y_Co_hasRoomForInstruction (Cond.code y_Co_hasRoomForInstruction b_Co_hasRoomForInstruction 1 (some .boolean) :: TB) rm_Co_hasRoomForInstruction (PreW D clX (tyX cI cL) ws0 [.ref (ad 1)] sz) (PstI D clX (tyX cI cL) ws0 (wX cI cL ad ma ko sh lo de wa me ru) sz r9) 0 0 (va_A ws0 sz) := by
  refine k_met (by decide) (Nat.le_of_ble_eq_true rfl) ?_
  intro p e s m below meth c ls hx hb hr hml hts hown hlk hnm hsz hP hK hD hA hz hl
  have hP : va_P D clX (wX cI cL ad ma ko sh lo de wa me ru) s.heap := by rw [← hw]; exact hP
  have hD : va_D (va_A ws0 sz) (wX cI cL ad ma ko sh lo de wa me ru) := by rw [← hw]; exact hD
  have hS : va_S (va_A ws0 sz) s.heap s.heap [] := va_S.rf
  have hl : lv_has ls 1 [(0, .ref (ad 1))] := hl
  generalize hQ : MQ below (PstI D clX (tyX cI cL) ws0 (wX cI cL ad ma ko sh lo de wa me ru) sz r9) [.ref (ad 1)].toArray s 0 0 (va_A ws0 sz) = Q
  unfold r_Co_hasRoomForInstruction at h
  refine lv_aload_n hx hb d_Co_hasRoomForInstruction_0 rfl (lv_at hl 0 rfl) ?_
  refine rd_Co_units hx hb hts hown hK hP lk_36 (v := (ko_units ko)) rfl d_Co_hasRoomForInstruction_1 ?_
  refine lv_if_le (tgt := 30) hx hb d_Co_hasRoomForInstruction_4 (by decide) (fun c1 => ?_) (fun c1 => ?_)
  · rw [if_pos c1] at h
    refine lv_iconst (v := 0) hx hb d_Co_hasRoomForInstruction_30 (by decide) ?_
    cases h
    subst hQ
    exact k_zret hx hb hr hlk (Or.inl rfl) hP hK hD hS d_Co_hasRoomForInstruction_31
  · rw [if_neg c1] at h
    refine lv_aload_n hx hb d_Co_hasRoomForInstruction_7 rfl (lv_at hl 0 rfl) ?_
    refine rd_Co_units hx hb hts hown hK hP lk_36 (v := (ko_units ko)) rfl d_Co_hasRoomForInstruction_8 ?_
    refine lv_bipush (v := 16) hx hb d_Co_hasRoomForInstruction_11 (by decide) ?_
    refine lv_icmp_gt (tgt := 30) hx hb d_Co_hasRoomForInstruction_13 (by decide) (fun c2 => ?_) (fun c2 => ?_)
    · rw [if_pos c2] at h
      refine lv_iconst (v := 0) hx hb d_Co_hasRoomForInstruction_30 (by decide) ?_
      cases h
      subst hQ
      exact k_zret hx hb hr hlk (Or.inl rfl) hP hK hD hS d_Co_hasRoomForInstruction_31
    · rw [if_neg c2] at h
      refine lv_aload_n hx hb d_Co_hasRoomForInstruction_16 rfl (lv_at hl 0 rfl) ?_
      refine rd_Co_length hx hb hts hown hK hP lk_37 (v := (ko_length ko)) rfl d_Co_hasRoomForInstruction_17 ?_
      refine lv_sipush (v := 256) hx hb d_Co_hasRoomForInstruction_20 (by decide) ?_
      refine lv_icmp_ge (tgt := 30) hx hb d_Co_hasRoomForInstruction_23 (by decide) (fun c3 => ?_) (fun c3 => ?_)
      · rw [if_pos c3] at h
        refine lv_iconst (v := 0) hx hb d_Co_hasRoomForInstruction_30 (by decide) ?_
        cases h
        subst hQ
        exact k_zret hx hb hr hlk (Or.inl rfl) hP hK hD hS d_Co_hasRoomForInstruction_31
      · rw [if_neg c3] at h
        refine lv_iconst (v := 1) hx hb d_Co_hasRoomForInstruction_26 (by decide) ?_
        refine lv_goto (tgt := 31) hx hb d_Co_hasRoomForInstruction_27 (by decide) ?_
        cases h
        subst hQ
        exact k_zret hx hb hr hlk (Or.inr rfl) hP hK hD hS d_Co_hasRoomForInstruction_31
theorem d_Co_appendInstruction_0 : decode b_Co_appendInstruction 0 = .ok (.aload_n 0, 1) := by decide +kernel
theorem d_Co_appendInstruction_1 : decode b_Co_appendInstruction 1 = .ok (.invokevirtual 47, 3) := by decide +kernel
theorem d_Co_appendInstruction_4 : decode b_Co_appendInstruction 4 = .ok (.ifCond .ne 5, 3) := by decide +kernel
theorem d_Co_appendInstruction_7 : decode b_Co_appendInstruction 7 = .ok (.iconst (-1), 1) := by decide +kernel
theorem d_Co_appendInstruction_8 : decode b_Co_appendInstruction 8 = .ok (.ireturn, 1) := by decide +kernel
theorem d_Co_appendInstruction_9 : decode b_Co_appendInstruction 9 = .ok (.aload_n 0, 1) := by decide +kernel
theorem d_Co_appendInstruction_10 : decode b_Co_appendInstruction 10 = .ok (.getfield 24, 3) := by decide +kernel
theorem d_Co_appendInstruction_13 : decode b_Co_appendInstruction 13 = .ok (.aload_n 0, 1) := by decide +kernel
theorem d_Co_appendInstruction_14 : decode b_Co_appendInstruction 14 = .ok (.getfield 40, 3) := by decide +kernel
theorem d_Co_appendInstruction_17 : decode b_Co_appendInstruction 17 = .ok (.iload_n 1, 1) := by decide +kernel
theorem d_Co_appendInstruction_18 : decode b_Co_appendInstruction 18 = .ok (.iastore, 1) := by decide +kernel
theorem d_Co_appendInstruction_19 : decode b_Co_appendInstruction 19 = .ok (.aload_n 0, 1) := by decide +kernel
theorem d_Co_appendInstruction_20 : decode b_Co_appendInstruction 20 = .ok (.getfield 27, 3) := by decide +kernel
theorem d_Co_appendInstruction_23 : decode b_Co_appendInstruction 23 = .ok (.aload_n 0, 1) := by decide +kernel
theorem d_Co_appendInstruction_24 : decode b_Co_appendInstruction 24 = .ok (.getfield 40, 3) := by decide +kernel
theorem d_Co_appendInstruction_27 : decode b_Co_appendInstruction 27 = .ok (.iload_n 2, 1) := by decide +kernel
theorem d_Co_appendInstruction_28 : decode b_Co_appendInstruction 28 = .ok (.iastore, 1) := by decide +kernel
theorem d_Co_appendInstruction_29 : decode b_Co_appendInstruction 29 = .ok (.aload_n 0, 1) := by decide +kernel
theorem d_Co_appendInstruction_30 : decode b_Co_appendInstruction 30 = .ok (.getfield 30, 3) := by decide +kernel
theorem d_Co_appendInstruction_33 : decode b_Co_appendInstruction 33 = .ok (.aload_n 0, 1) := by decide +kernel
theorem d_Co_appendInstruction_34 : decode b_Co_appendInstruction 34 = .ok (.getfield 40, 3) := by decide +kernel
theorem d_Co_appendInstruction_37 : decode b_Co_appendInstruction 37 = .ok (.iload_n 3, 1) := by decide +kernel
theorem d_Co_appendInstruction_38 : decode b_Co_appendInstruction 38 = .ok (.iastore, 1) := by decide +kernel
theorem d_Co_appendInstruction_39 : decode b_Co_appendInstruction 39 = .ok (.aload_n 0, 1) := by decide +kernel
theorem d_Co_appendInstruction_40 : decode b_Co_appendInstruction 40 = .ok (.getfield 33, 3) := by decide +kernel
theorem d_Co_appendInstruction_43 : decode b_Co_appendInstruction 43 = .ok (.aload_n 0, 1) := by decide +kernel
theorem d_Co_appendInstruction_44 : decode b_Co_appendInstruction 44 = .ok (.getfield 40, 3) := by decide +kernel
theorem d_Co_appendInstruction_47 : decode b_Co_appendInstruction 47 = .ok (.iload 4, 2) := by decide +kernel
theorem d_Co_appendInstruction_49 : decode b_Co_appendInstruction 49 = .ok (.iastore, 1) := by decide +kernel
theorem d_Co_appendInstruction_50 : decode b_Co_appendInstruction 50 = .ok (.aload_n 0, 1) := by decide +kernel
theorem d_Co_appendInstruction_51 : decode b_Co_appendInstruction 51 = .ok (.dup, 1) := by decide +kernel
theorem d_Co_appendInstruction_52 : decode b_Co_appendInstruction 52 = .ok (.getfield 40, 3) := by decide +kernel
theorem d_Co_appendInstruction_55 : decode b_Co_appendInstruction 55 = .ok (.iconst 1, 1) := by decide +kernel
theorem d_Co_appendInstruction_56 : decode b_Co_appendInstruction 56 = .ok (.iadd, 1) := by decide +kernel
theorem d_Co_appendInstruction_57 : decode b_Co_appendInstruction 57 = .ok (.putfield 40, 3) := by decide +kernel
theorem d_Co_appendInstruction_60 : decode b_Co_appendInstruction 60 = .ok (.aload_n 0, 1) := by decide +kernel
theorem d_Co_appendInstruction_61 : decode b_Co_appendInstruction 61 = .ok (.getfield 21, 3) := by decide +kernel
theorem d_Co_appendInstruction_64 : decode b_Co_appendInstruction 64 = .ok (.aload_n 0, 1) := by decide +kernel
theorem d_Co_appendInstruction_65 : decode b_Co_appendInstruction 65 = .ok (.getfield 36, 3) := by decide +kernel
theorem d_Co_appendInstruction_68 : decode b_Co_appendInstruction 68 = .ok (.iconst 1, 1) := by decide +kernel
theorem d_Co_appendInstruction_69 : decode b_Co_appendInstruction 69 = .ok (.isub, 1) := by decide +kernel
theorem d_Co_appendInstruction_70 : decode b_Co_appendInstruction 70 = .ok (.dup2, 1) := by decide +kernel
theorem d_Co_appendInstruction_71 : decode b_Co_appendInstruction 71 = .ok (.iaload, 1) := by decide +kernel
theorem d_Co_appendInstruction_72 : decode b_Co_appendInstruction 72 = .ok (.iconst 1, 1) := by decide +kernel
theorem d_Co_appendInstruction_73 : decode b_Co_appendInstruction 73 = .ok (.iadd, 1) := by decide +kernel
theorem d_Co_appendInstruction_74 : decode b_Co_appendInstruction 74 = .ok (.iastore, 1) := by decide +kernel
theorem d_Co_appendInstruction_75 : decode b_Co_appendInstruction 75 = .ok (.aload_n 0, 1) := by decide +kernel
theorem d_Co_appendInstruction_76 : decode b_Co_appendInstruction 76 = .ok (.getfield 21, 3) := by decide +kernel
theorem d_Co_appendInstruction_79 : decode b_Co_appendInstruction 79 = .ok (.aload_n 0, 1) := by decide +kernel
theorem d_Co_appendInstruction_80 : decode b_Co_appendInstruction 80 = .ok (.getfield 36, 3) := by decide +kernel
theorem d_Co_appendInstruction_83 : decode b_Co_appendInstruction 83 = .ok (.iconst 1, 1) := by decide +kernel
theorem d_Co_appendInstruction_84 : decode b_Co_appendInstruction 84 = .ok (.isub, 1) := by decide +kernel
theorem d_Co_appendInstruction_85 : decode b_Co_appendInstruction 85 = .ok (.iaload, 1) := by decide +kernel
theorem d_Co_appendInstruction_86 : decode b_Co_appendInstruction 86 = .ok (.iconst 1, 1) := by decide +kernel
theorem d_Co_appendInstruction_87 : decode b_Co_appendInstruction 87 = .ok (.isub, 1) := by decide +kernel
theorem d_Co_appendInstruction_88 : decode b_Co_appendInstruction 88 = .ok (.ireturn, 1) := by decide +kernel
def r_Co_appendInstruction (n : Nat) (ko : T_ko) (a0 : Int32) (a1 : Int32) (a2 : Int32) (a3 : Int32) : Option (Int32 × T_ko) := (r_Co_hasRoomForInstruction n ko).bind (fun q1 => if q1 = 0 then some ((-1 : Int32), ko) else ga (ko_length ko) 256 (ga (ko_length (ko_numbers_s ko (upd (ko_numbers ko) (ko_length ko).toNatClampNeg a0))) 256 (ga (ko_length (ko_as__s (ko_numbers_s ko (upd (ko_numbers ko) (ko_length ko).toNatClampNeg a0)) (upd (ko_as_ (ko_numbers_s ko (upd (ko_numbers ko) (ko_length ko).toNatClampNeg a0))) (ko_length (ko_numbers_s ko (upd (ko_numbers ko) (ko_length ko).toNatClampNeg a0))).toNatClampNeg a1))) 256 (ga (ko_length (ko_bs_s (ko_as__s (ko_numbers_s ko (upd (ko_numbers ko) (ko_length ko).toNatClampNeg a0)) (upd (ko_as_ (ko_numbers_s ko (upd (ko_numbers ko) (ko_length ko).toNatClampNeg a0))) (ko_length (ko_numbers_s ko (upd (ko_numbers ko) (ko_length ko).toNatClampNeg a0))).toNatClampNeg a1)) (upd (ko_bs (ko_as__s (ko_numbers_s ko (upd (ko_numbers ko) (ko_length ko).toNatClampNeg a0)) (upd (ko_as_ (ko_numbers_s ko (upd (ko_numbers ko) (ko_length ko).toNatClampNeg a0))) (ko_length (ko_numbers_s ko (upd (ko_numbers ko) (ko_length ko).toNatClampNeg a0))).toNatClampNeg a1))) (ko_length (ko_as__s (ko_numbers_s ko (upd (ko_numbers ko) (ko_length ko).toNatClampNeg a0)) (upd (ko_as_ (ko_numbers_s ko (upd (ko_numbers ko) (ko_length ko).toNatClampNeg a0))) (ko_length (ko_numbers_s ko (upd (ko_numbers ko) (ko_length ko).toNatClampNeg a0))).toNatClampNeg a1))).toNatClampNeg a2))) 256 (gr (ko_sizes (ko_length_s (ko_cs_s (ko_bs_s (ko_as__s (ko_numbers_s ko (upd (ko_numbers ko) (ko_length ko).toNatClampNeg a0)) (upd (ko_as_ (ko_numbers_s ko (upd (ko_numbers ko) (ko_length ko).toNatClampNeg a0))) (ko_length (ko_numbers_s ko (upd (ko_numbers ko) (ko_length ko).toNatClampNeg a0))).toNatClampNeg a1)) (upd (ko_bs (ko_as__s (ko_numbers_s ko (upd (ko_numbers ko) (ko_length ko).toNatClampNeg a0)) (upd (ko_as_ (ko_numbers_s ko (upd (ko_numbers ko) (ko_length ko).toNatClampNeg a0))) (ko_length (ko_numbers_s ko (upd (ko_numbers ko) (ko_length ko).toNatClampNeg a0))).toNatClampNeg a1))) (ko_length (ko_as__s (ko_numbers_s ko (upd (ko_numbers ko) (ko_length ko).toNatClampNeg a0)) (upd (ko_as_ (ko_numbers_s ko (upd (ko_numbers ko) (ko_length ko).toNatClampNeg a0))) (ko_length (ko_numbers_s ko (upd (ko_numbers ko) (ko_length ko).toNatClampNeg a0))).toNatClampNeg a1))).toNatClampNeg a2)) (upd (ko_cs (ko_bs_s (ko_as__s (ko_numbers_s ko (upd (ko_numbers ko) (ko_length ko).toNatClampNeg a0)) (upd (ko_as_ (ko_numbers_s ko (upd (ko_numbers ko) (ko_length ko).toNatClampNeg a0))) (ko_length (ko_numbers_s ko (upd (ko_numbers ko) (ko_length ko).toNatClampNeg a0))).toNatClampNeg a1)) (upd (ko_bs (ko_as__s (ko_numbers_s ko (upd (ko_numbers ko) (ko_length ko).toNatClampNeg a0)) (upd (ko_as_ (ko_numbers_s ko (upd (ko_numbers ko) (ko_length ko).toNatClampNeg a0))) (ko_length (ko_numbers_s ko (upd (ko_numbers ko) (ko_length ko).toNatClampNeg a0))).toNatClampNeg a1))) (ko_length (ko_as__s (ko_numbers_s ko (upd (ko_numbers ko) (ko_length ko).toNatClampNeg a0)) (upd (ko_as_ (ko_numbers_s ko (upd (ko_numbers ko) (ko_length ko).toNatClampNeg a0))) (ko_length (ko_numbers_s ko (upd (ko_numbers ko) (ko_length ko).toNatClampNeg a0))).toNatClampNeg a1))).toNatClampNeg a2))) (ko_length (ko_bs_s (ko_as__s (ko_numbers_s ko (upd (ko_numbers ko) (ko_length ko).toNatClampNeg a0)) (upd (ko_as_ (ko_numbers_s ko (upd (ko_numbers ko) (ko_length ko).toNatClampNeg a0))) (ko_length (ko_numbers_s ko (upd (ko_numbers ko) (ko_length ko).toNatClampNeg a0))).toNatClampNeg a1)) (upd (ko_bs (ko_as__s (ko_numbers_s ko (upd (ko_numbers ko) (ko_length ko).toNatClampNeg a0)) (upd (ko_as_ (ko_numbers_s ko (upd (ko_numbers ko) (ko_length ko).toNatClampNeg a0))) (ko_length (ko_numbers_s ko (upd (ko_numbers ko) (ko_length ko).toNatClampNeg a0))).toNatClampNeg a1))) (ko_length (ko_as__s (ko_numbers_s ko (upd (ko_numbers ko) (ko_length ko).toNatClampNeg a0)) (upd (ko_as_ (ko_numbers_s ko (upd (ko_numbers ko) (ko_length ko).toNatClampNeg a0))) (ko_length (ko_numbers_s ko (upd (ko_numbers ko) (ko_length ko).toNatClampNeg a0))).toNatClampNeg a1))).toNatClampNeg a2))).toNatClampNeg a3)) ((ko_length (ko_cs_s (ko_bs_s (ko_as__s (ko_numbers_s ko (upd (ko_numbers ko) (ko_length ko).toNatClampNeg a0)) (upd (ko_as_ (ko_numbers_s ko (upd (ko_numbers ko) (ko_length ko).toNatClampNeg a0))) (ko_length (ko_numbers_s ko (upd (ko_numbers ko) (ko_length ko).toNatClampNeg a0))).toNatClampNeg a1)) (upd (ko_bs (ko_as__s (ko_numbers_s ko (upd (ko_numbers ko) (ko_length ko).toNatClampNeg a0)) (upd (ko_as_ (ko_numbers_s ko (upd (ko_numbers ko) (ko_length ko).toNatClampNeg a0))) (ko_length (ko_numbers_s ko (upd (ko_numbers ko) (ko_length ko).toNatClampNeg a0))).toNatClampNeg a1))) (ko_length (ko_as__s (ko_numbers_s ko (upd (ko_numbers ko) (ko_length ko).toNatClampNeg a0)) (upd (ko_as_ (ko_numbers_s ko (upd (ko_numbers ko) (ko_length ko).toNatClampNeg a0))) (ko_length (ko_numbers_s ko (upd (ko_numbers ko) (ko_length ko).toNatClampNeg a0))).toNatClampNeg a1))).toNatClampNeg a2)) (upd (ko_cs (ko_bs_s (ko_as__s (ko_numbers_s ko (upd (ko_numbers ko) (ko_length ko).toNatClampNeg a0)) (upd (ko_as_ (ko_numbers_s ko (upd (ko_numbers ko) (ko_length ko).toNatClampNeg a0))) (ko_length (ko_numbers_s ko (upd (ko_numbers ko) (ko_length ko).toNatClampNeg a0))).toNatClampNeg a1)) (upd (ko_bs (ko_as__s (ko_numbers_s ko (upd (ko_numbers ko) (ko_length ko).toNatClampNeg a0)) (upd (ko_as_ (ko_numbers_s ko (upd (ko_numbers ko) (ko_length ko).toNatClampNeg a0))) (ko_length (ko_numbers_s ko (upd (ko_numbers ko) (ko_length ko).toNatClampNeg a0))).toNatClampNeg a1))) (ko_length (ko_as__s (ko_numbers_s ko (upd (ko_numbers ko) (ko_length ko).toNatClampNeg a0)) (upd (ko_as_ (ko_numbers_s ko (upd (ko_numbers ko) (ko_length ko).toNatClampNeg a0))) (ko_length (ko_numbers_s ko (upd (ko_numbers ko) (ko_length ko).toNatClampNeg a0))).toNatClampNeg a1))).toNatClampNeg a2))) (ko_length (ko_bs_s (ko_as__s (ko_numbers_s ko (upd (ko_numbers ko) (ko_length ko).toNatClampNeg a0)) (upd (ko_as_ (ko_numbers_s ko (upd (ko_numbers ko) (ko_length ko).toNatClampNeg a0))) (ko_length (ko_numbers_s ko (upd (ko_numbers ko) (ko_length ko).toNatClampNeg a0))).toNatClampNeg a1)) (upd (ko_bs (ko_as__s (ko_numbers_s ko (upd (ko_numbers ko) (ko_length ko).toNatClampNeg a0)) (upd (ko_as_ (ko_numbers_s ko (upd (ko_numbers ko) (ko_length ko).toNatClampNeg a0))) (ko_length (ko_numbers_s ko (upd (ko_numbers ko) (ko_length ko).toNatClampNeg a0))).toNatClampNeg a1))) (ko_length (ko_as__s (ko_numbers_s ko (upd (ko_numbers ko) (ko_length ko).toNatClampNeg a0)) (upd (ko_as_ (ko_numbers_s ko (upd (ko_numbers ko) (ko_length ko).toNatClampNeg a0))) (ko_length (ko_numbers_s ko (upd (ko_numbers ko) (ko_length ko).toNatClampNeg a0))).toNatClampNeg a1))).toNatClampNeg a2))).toNatClampNeg a3))) + (1 : Int32)))) ((ko_units (ko_length_s (ko_cs_s (ko_bs_s (ko_as__s (ko_numbers_s ko (upd (ko_numbers ko) (ko_length ko).toNatClampNeg a0)) (upd (ko_as_ (ko_numbers_s ko (upd (ko_numbers ko) (ko_length ko).toNatClampNeg a0))) (ko_length (ko_numbers_s ko (upd (ko_numbers ko) (ko_length ko).toNatClampNeg a0))).toNatClampNeg a1)) (upd (ko_bs (ko_as__s (ko_numbers_s ko (upd (ko_numbers ko) (ko_length ko).toNatClampNeg a0)) (upd (ko_as_ (ko_numbers_s ko (upd (ko_numbers ko) (ko_length ko).toNatClampNeg a0))) (ko_length (ko_numbers_s ko (upd (ko_numbers ko) (ko_length ko).toNatClampNeg a0))).toNatClampNeg a1))) (ko_length (ko_as__s (ko_numbers_s ko (upd (ko_numbers ko) (ko_length ko).toNatClampNeg a0)) (upd (ko_as_ (ko_numbers_s ko (upd (ko_numbers ko) (ko_length ko).toNatClampNeg a0))) (ko_length (ko_numbers_s ko (upd (ko_numbers ko) (ko_length ko).toNatClampNeg a0))).toNatClampNeg a1))).toNatClampNeg a2)) (upd (ko_cs (ko_bs_s (ko_as__s (ko_numbers_s ko (upd (ko_numbers ko) (ko_length ko).toNatClampNeg a0)) (upd (ko_as_ (ko_numbers_s ko (upd (ko_numbers ko) (ko_length ko).toNatClampNeg a0))) (ko_length (ko_numbers_s ko (upd (ko_numbers ko) (ko_length ko).toNatClampNeg a0))).toNatClampNeg a1)) (upd (ko_bs (ko_as__s (ko_numbers_s ko (upd (ko_numbers ko) (ko_length ko).toNatClampNeg a0)) (upd (ko_as_ (ko_numbers_s ko (upd (ko_numbers ko) (ko_length ko).toNatClampNeg a0))) (ko_length (ko_numbers_s ko (upd (ko_numbers ko) (ko_length ko).toNatClampNeg a0))).toNatClampNeg a1))) (ko_length (ko_as__s (ko_numbers_s ko (upd (ko_numbers ko) (ko_length ko).toNatClampNeg a0)) (upd (ko_as_ (ko_numbers_s ko (upd (ko_numbers ko) (ko_length ko).toNatClampNeg a0))) (ko_length (ko_numbers_s ko (upd (ko_numbers ko) (ko_length ko).toNatClampNeg a0))).toNatClampNeg a1))).toNatClampNeg a2))) (ko_length (ko_bs_s (ko_as__s (ko_numbers_s ko (upd (ko_numbers ko) (ko_length ko).toNatClampNeg a0)) (upd (ko_as_ (ko_numbers_s ko (upd (ko_numbers ko) (ko_length ko).toNatClampNeg a0))) (ko_length (ko_numbers_s ko (upd (ko_numbers ko) (ko_length ko).toNatClampNeg a0))).toNatClampNeg a1)) (upd (ko_bs (ko_as__s (ko_numbers_s ko (upd (ko_numbers ko) (ko_length ko).toNatClampNeg a0)) (upd (ko_as_ (ko_numbers_s ko (upd (ko_numbers ko) (ko_length ko).toNatClampNeg a0))) (ko_length (ko_numbers_s ko (upd (ko_numbers ko) (ko_length ko).toNatClampNeg a0))).toNatClampNeg a1))) (ko_length (ko_as__s (ko_numbers_s ko (upd (ko_numbers ko) (ko_length ko).toNatClampNeg a0)) (upd (ko_as_ (ko_numbers_s ko (upd (ko_numbers ko) (ko_length ko).toNatClampNeg a0))) (ko_length (ko_numbers_s ko (upd (ko_numbers ko) (ko_length ko).toNatClampNeg a0))).toNatClampNeg a1))).toNatClampNeg a2))).toNatClampNeg a3)) ((ko_length (ko_cs_s (ko_bs_s (ko_as__s (ko_numbers_s ko (upd (ko_numbers ko) (ko_length ko).toNatClampNeg a0)) (upd (ko_as_ (ko_numbers_s ko (upd (ko_numbers ko) (ko_length ko).toNatClampNeg a0))) (ko_length (ko_numbers_s ko (upd (ko_numbers ko) (ko_length ko).toNatClampNeg a0))).toNatClampNeg a1)) (upd (ko_bs (ko_as__s (ko_numbers_s ko (upd (ko_numbers ko) (ko_length ko).toNatClampNeg a0)) (upd (ko_as_ (ko_numbers_s ko (upd (ko_numbers ko) (ko_length ko).toNatClampNeg a0))) (ko_length (ko_numbers_s ko (upd (ko_numbers ko) (ko_length ko).toNatClampNeg a0))).toNatClampNeg a1))) (ko_length (ko_as__s (ko_numbers_s ko (upd (ko_numbers ko) (ko_length ko).toNatClampNeg a0)) (upd (ko_as_ (ko_numbers_s ko (upd (ko_numbers ko) (ko_length ko).toNatClampNeg a0))) (ko_length (ko_numbers_s ko (upd (ko_numbers ko) (ko_length ko).toNatClampNeg a0))).toNatClampNeg a1))).toNatClampNeg a2)) (upd (ko_cs (ko_bs_s (ko_as__s (ko_numbers_s ko (upd (ko_numbers ko) (ko_length ko).toNatClampNeg a0)) (upd (ko_as_ (ko_numbers_s ko (upd (ko_numbers ko) (ko_length ko).toNatClampNeg a0))) (ko_length (ko_numbers_s ko (upd (ko_numbers ko) (ko_length ko).toNatClampNeg a0))).toNatClampNeg a1)) (upd (ko_bs (ko_as__s (ko_numbers_s ko (upd (ko_numbers ko) (ko_length ko).toNatClampNeg a0)) (upd (ko_as_ (ko_numbers_s ko (upd (ko_numbers ko) (ko_length ko).toNatClampNeg a0))) (ko_length (ko_numbers_s ko (upd (ko_numbers ko) (ko_length ko).toNatClampNeg a0))).toNatClampNeg a1))) (ko_length (ko_as__s (ko_numbers_s ko (upd (ko_numbers ko) (ko_length ko).toNatClampNeg a0)) (upd (ko_as_ (ko_numbers_s ko (upd (ko_numbers ko) (ko_length ko).toNatClampNeg a0))) (ko_length (ko_numbers_s ko (upd (ko_numbers ko) (ko_length ko).toNatClampNeg a0))).toNatClampNeg a1))).toNatClampNeg a2))) (ko_length (ko_bs_s (ko_as__s (ko_numbers_s ko (upd (ko_numbers ko) (ko_length ko).toNatClampNeg a0)) (upd (ko_as_ (ko_numbers_s ko (upd (ko_numbers ko) (ko_length ko).toNatClampNeg a0))) (ko_length (ko_numbers_s ko (upd (ko_numbers ko) (ko_length ko).toNatClampNeg a0))).toNatClampNeg a1)) (upd (ko_bs (ko_as__s (ko_numbers_s ko (upd (ko_numbers ko) (ko_length ko).toNatClampNeg a0)) (upd (ko_as_ (ko_numbers_s ko (upd (ko_numbers ko) (ko_length ko).toNatClampNeg a0))) (ko_length (ko_numbers_s ko (upd (ko_numbers ko) (ko_length ko).toNatClampNeg a0))).toNatClampNeg a1))) (ko_length (ko_as__s (ko_numbers_s ko (upd (ko_numbers ko) (ko_length ko).toNatClampNeg a0)) (upd (ko_as_ (ko_numbers_s ko (upd (ko_numbers ko) (ko_length ko).toNatClampNeg a0))) (ko_length (ko_numbers_s ko (upd (ko_numbers ko) (ko_length ko).toNatClampNeg a0))).toNatClampNeg a1))).toNatClampNeg a2))).toNatClampNeg a3))) + (1 : Int32)))) - (1 : Int32)) 16 (fun v8 => ga ((ko_units (ko_length_s (ko_cs_s (ko_bs_s (ko_as__s (ko_numbers_s ko (upd (ko_numbers ko) (ko_length ko).toNatClampNeg a0)) (upd (ko_as_ (ko_numbers_s ko (upd (ko_numbers ko) (ko_length ko).toNatClampNeg a0))) (ko_length (ko_numbers_s ko (upd (ko_numbers ko) (ko_length ko).toNatClampNeg a0))).toNatClampNeg a1)) (upd (ko_bs (ko_as__s (ko_numbers_s ko (upd (ko_numbers ko) (ko_length ko).toNatClampNeg a0)) (upd (ko_as_ (ko_numbers_s ko (upd (ko_numbers ko) (ko_length ko).toNatClampNeg a0))) (ko_length (ko_numbers_s ko (upd (ko_numbers ko) (ko_length ko).toNatClampNeg a0))).toNatClampNeg a1))) (ko_length (ko_as__s (ko_numbers_s ko (upd (ko_numbers ko) (ko_length ko).toNatClampNeg a0)) (upd (ko_as_ (ko_numbers_s ko (upd (ko_numbers ko) (ko_length ko).toNatClampNeg a0))) (ko_length (ko_numbers_s ko (upd (ko_numbers ko) (ko_length ko).toNatClampNeg a0))).toNatClampNeg a1))).toNatClampNeg a2)) (upd (ko_cs (ko_bs_s (ko_as__s (ko_numbers_s ko (upd (ko_numbers ko) (ko_length ko).toNatClampNeg a0)) (upd (ko_as_ (ko_numbers_s ko (upd (ko_numbers ko) (ko_length ko).toNatClampNeg a0))) (ko_length (ko_numbers_s ko (upd (ko_numbers ko) (ko_length ko).toNatClampNeg a0))).toNatClampNeg a1)) (upd (ko_bs (ko_as__s (ko_numbers_s ko (upd (ko_numbers ko) (ko_length ko).toNatClampNeg a0)) (upd (ko_as_ (ko_numbers_s ko (upd (ko_numbers ko) (ko_length ko).toNatClampNeg a0))) (ko_length (ko_numbers_s ko (upd (ko_numbers ko) (ko_length ko).toNatClampNeg a0))).toNatClampNeg a1))) (ko_length (ko_as__s (ko_numbers_s ko (upd (ko_numbers ko) (ko_length ko).toNatClampNeg a0)) (upd (ko_as_ (ko_numbers_s ko (upd (ko_numbers ko) (ko_length ko).toNatClampNeg a0))) (ko_length (ko_numbers_s ko (upd (ko_numbers ko) (ko_length ko).toNatClampNeg a0))).toNatClampNeg a1))).toNatClampNeg a2))) (ko_length (ko_bs_s (ko_as__s (ko_numbers_s ko (upd (ko_numbers ko) (ko_length ko).toNatClampNeg a0)) (upd (ko_as_ (ko_numbers_s ko (upd (ko_numbers ko) (ko_length ko).toNatClampNeg a0))) (ko_length (ko_numbers_s ko (upd (ko_numbers ko) (ko_length ko).toNatClampNeg a0))).toNatClampNeg a1)) (upd (ko_bs (ko_as__s (ko_numbers_s ko (upd (ko_numbers ko) (ko_length ko).toNatClampNeg a0)) (upd (ko_as_ (ko_numbers_s ko (upd (ko_numbers ko) (ko_length ko).toNatClampNeg a0))) (ko_length (ko_numbers_s ko (upd (ko_numbers ko) (ko_length ko).toNatClampNeg a0))).toNatClampNeg a1))) (ko_length (ko_as__s (ko_numbers_s ko (upd (ko_numbers ko) (ko_length ko).toNatClampNeg a0)) (upd (ko_as_ (ko_numbers_s ko (upd (ko_numbers ko) (ko_length ko).toNatClampNeg a0))) (ko_length (ko_numbers_s ko (upd (ko_numbers ko) (ko_length ko).toNatClampNeg a0))).toNatClampNeg a1))).toNatClampNeg a2))).toNatClampNeg a3)) ((ko_length (ko_cs_s (ko_bs_s (ko_as__s (ko_numbers_s ko (upd (ko_numbers ko) (ko_length ko).toNatClampNeg a0)) (upd (ko_as_ (ko_numbers_s ko (upd (ko_numbers ko) (ko_length ko).toNatClampNeg a0))) (ko_length (ko_numbers_s ko (upd (ko_numbers ko) (ko_length ko).toNatClampNeg a0))).toNatClampNeg a1)) (upd (ko_bs (ko_as__s (ko_numbers_s ko (upd (ko_numbers ko) (ko_length ko).toNatClampNeg a0)) (upd (ko_as_ (ko_numbers_s ko (upd (ko_numbers ko) (ko_length ko).toNatClampNeg a0))) (ko_length (ko_numbers_s ko (upd (ko_numbers ko) (ko_length ko).toNatClampNeg a0))).toNatClampNeg a1))) (ko_length (ko_as__s (ko_numbers_s ko (upd (ko_numbers ko) (ko_length ko).toNatClampNeg a0)) (upd (ko_as_ (ko_numbers_s ko (upd (ko_numbers ko) (ko_length ko).toNatClampNeg a0))) (ko_length (ko_numbers_s ko (upd (ko_numbers ko) (ko_length ko).toNatClampNeg a0))).toNatClampNeg a1))).toNatClampNeg a2)) (upd (ko_cs (ko_bs_s (ko_as__s (ko_numbers_s ko (upd (ko_numbers ko) (ko_length ko).toNatClampNeg a0)) (upd (ko_as_ (ko_numbers_s ko (upd (ko_numbers ko) (ko_length ko).toNatClampNeg a0))) (ko_length (ko_numbers_s ko (upd (ko_numbers ko) (ko_length ko).toNatClampNeg a0))).toNatClampNeg a1)) (upd (ko_bs (ko_as__s (ko_numbers_s ko (upd (ko_numbers ko) (ko_length ko).toNatClampNeg a0)) (upd (ko_as_ (ko_numbers_s ko (upd (ko_numbers ko) (ko_length ko).toNatClampNeg a0))) (ko_length (ko_numbers_s ko (upd (ko_numbers ko) (ko_length ko).toNatClampNeg a0))).toNatClampNeg a1))) (ko_length (ko_as__s (ko_numbers_s ko (upd (ko_numbers ko) (ko_length ko).toNatClampNeg a0)) (upd (ko_as_ (ko_numbers_s ko (upd (ko_numbers ko) (ko_length ko).toNatClampNeg a0))) (ko_length (ko_numbers_s ko (upd (ko_numbers ko) (ko_length ko).toNatClampNeg a0))).toNatClampNeg a1))).toNatClampNeg a2))) (ko_length (ko_bs_s (ko_as__s (ko_numbers_s ko (upd (ko_numbers ko) (ko_length ko).toNatClampNeg a0)) (upd (ko_as_ (ko_numbers_s ko (upd (ko_numbers ko) (ko_length ko).toNatClampNeg a0))) (ko_length (ko_numbers_s ko (upd (ko_numbers ko) (ko_length ko).toNatClampNeg a0))).toNatClampNeg a1)) (upd (ko_bs (ko_as__s (ko_numbers_s ko (upd (ko_numbers ko) (ko_length ko).toNatClampNeg a0)) (upd (ko_as_ (ko_numbers_s ko (upd (ko_numbers ko) (ko_length ko).toNatClampNeg a0))) (ko_length (ko_numbers_s ko (upd (ko_numbers ko) (ko_length ko).toNatClampNeg a0))).toNatClampNeg a1))) (ko_length (ko_as__s (ko_numbers_s ko (upd (ko_numbers ko) (ko_length ko).toNatClampNeg a0)) (upd (ko_as_ (ko_numbers_s ko (upd (ko_numbers ko) (ko_length ko).toNatClampNeg a0))) (ko_length (ko_numbers_s ko (upd (ko_numbers ko) (ko_length ko).toNatClampNeg a0))).toNatClampNeg a1))).toNatClampNeg a2))).toNatClampNeg a3))) + (1 : Int32)))) - (1 : Int32)) 16 (gr (ko_sizes (ko_sizes_s (ko_length_s (ko_cs_s (ko_bs_s (ko_as__s (ko_numbers_s ko (upd (ko_numbers ko) (ko_length ko).toNatClampNeg a0)) (upd (ko_as_ (ko_numbers_s ko (upd (ko_numbers ko) (ko_length ko).toNatClampNeg a0))) (ko_length (ko_numbers_s ko (upd (ko_numbers ko) (ko_length ko).toNatClampNeg a0))).toNatClampNeg a1)) (upd (ko_bs (ko_as__s (ko_numbers_s ko (upd (ko_numbers ko) (ko_length ko).toNatClampNeg a0)) (upd (ko_as_ (ko_numbers_s ko (upd (ko_numbers ko) (ko_length ko).toNatClampNeg a0))) (ko_length (ko_numbers_s ko (upd (ko_numbers ko) (ko_length ko).toNatClampNeg a0))).toNatClampNeg a1))) (ko_length (ko_as__s (ko_numbers_s ko (upd (ko_numbers ko) (ko_length ko).toNatClampNeg a0)) (upd (ko_as_ (ko_numbers_s ko (upd (ko_numbers ko) (ko_length ko).toNatClampNeg a0))) (ko_length (ko_numbers_s ko (upd (ko_numbers ko) (ko_length ko).toNatClampNeg a0))).toNatClampNeg a1))).toNatClampNeg a2)) (upd (ko_cs (ko_bs_s (ko_as__s (ko_numbers_s ko (upd (ko_numbers ko) (ko_length ko).toNatClampNeg a0)) (upd (ko_as_ (ko_numbers_s ko (upd (ko_numbers ko) (ko_length ko).toNatClampNeg a0))) (ko_length (ko_numbers_s ko (upd (ko_numbers ko) (ko_length ko).toNatClampNeg a0))).toNatClampNeg a1)) (upd (ko_bs (ko_as__s (ko_numbers_s ko (upd (ko_numbers ko) (ko_length ko).toNatClampNeg a0)) (upd (ko_as_ (ko_numbers_s ko (upd (ko_numbers ko) (ko_length ko).toNatClampNeg a0))) (ko_length (ko_numbers_s ko (upd (ko_numbers ko) (ko_length ko).toNatClampNeg a0))).toNatClampNeg a1))) (ko_length (ko_as__s (ko_numbers_s ko (upd (ko_numbers ko) (ko_length ko).toNatClampNeg a0)) (upd (ko_as_ (ko_numbers_s ko (upd (ko_numbers ko) (ko_length ko).toNatClampNeg a0))) (ko_length (ko_numbers_s ko (upd (ko_numbers ko) (ko_length ko).toNatClampNeg a0))).toNatClampNeg a1))).toNatClampNeg a2))) (ko_length (ko_bs_s (ko_as__s (ko_numbers_s ko (upd (ko_numbers ko) (ko_length ko).toNatClampNeg a0)) (upd (ko_as_ (ko_numbers_s ko (upd (ko_numbers ko) (ko_length ko).toNatClampNeg a0))) (ko_length (ko_numbers_s ko (upd (ko_numbers ko) (ko_length ko).toNatClampNeg a0))).toNatClampNeg a1)) (upd (ko_bs (ko_as__s (ko_numbers_s ko (upd (ko_numbers ko) (ko_length ko).toNatClampNeg a0)) (upd (ko_as_ (ko_numbers_s ko (upd (ko_numbers ko) (ko_length ko).toNatClampNeg a0))) (ko_length (ko_numbers_s ko (upd (ko_numbers ko) (ko_length ko).toNatClampNeg a0))).toNatClampNeg a1))) (ko_length (ko_as__s (ko_numbers_s ko (upd (ko_numbers ko) (ko_length ko).toNatClampNeg a0)) (upd (ko_as_ (ko_numbers_s ko (upd (ko_numbers ko) (ko_length ko).toNatClampNeg a0))) (ko_length (ko_numbers_s ko (upd (ko_numbers ko) (ko_length ko).toNatClampNeg a0))).toNatClampNeg a1))).toNatClampNeg a2))).toNatClampNeg a3)) ((ko_length (ko_cs_s (ko_bs_s (ko_as__s (ko_numbers_s ko (upd (ko_numbers ko) (ko_length ko).toNatClampNeg a0)) (upd (ko_as_ (ko_numbers_s ko (upd (ko_numbers ko) (ko_length ko).toNatClampNeg a0))) (ko_length (ko_numbers_s ko (upd (ko_numbers ko) (ko_length ko).toNatClampNeg a0))).toNatClampNeg a1)) (upd (ko_bs (ko_as__s (ko_numbers_s ko (upd (ko_numbers ko) (ko_length ko).toNatClampNeg a0)) (upd (ko_as_ (ko_numbers_s ko (upd (ko_numbers ko) (ko_length ko).toNatClampNeg a0))) (ko_length (ko_numbers_s ko (upd (ko_numbers ko) (ko_length ko).toNatClampNeg a0))).toNatClampNeg a1))) (ko_length (ko_as__s (ko_numbers_s ko (upd (ko_numbers ko) (ko_length ko).toNatClampNeg a0)) (upd (ko_as_ (ko_numbers_s ko (upd (ko_numbers ko) (ko_length ko).toNatClampNeg a0))) (ko_length (ko_numbers_s ko (upd (ko_numbers ko) (ko_length ko).toNatClampNeg a0))).toNatClampNeg a1))).toNatClampNeg a2)) (upd (ko_cs (ko_bs_s (ko_as__s (ko_numbers_s ko (upd (ko_numbers ko) (ko_length ko).toNatClampNeg a0)) (upd (ko_as_ (ko_numbers_s ko (upd (ko_numbers ko) (ko_length ko).toNatClampNeg a0))) (ko_length (ko_numbers_s ko (upd (ko_numbers ko) (ko_length ko).toNatClampNeg a0))).toNatClampNeg a1)) (upd (ko_bs (ko_as__s (ko_numbers_s ko (upd (ko_numbers ko) (ko_length ko).toNatClampNeg a0)) (upd (ko_as_ (ko_numbers_s ko (upd (ko_numbers ko) (ko_length ko).toNatClampNeg a0))) (ko_length (ko_numbers_s ko (upd (ko_numbers ko) (ko_length ko).toNatClampNeg a0))).toNatClampNeg a1))) (ko_length (ko_as__s (ko_numbers_s ko (upd (ko_numbers ko) (ko_length ko).toNatClampNeg a0)) (upd (ko_as_ (ko_numbers_s ko (upd (ko_numbers ko) (ko_length ko).toNatClampNeg a0))) (ko_length (ko_numbers_s ko (upd (ko_numbers ko) (ko_length ko).toNatClampNeg a0))).toNatClampNeg a1))).toNatClampNeg a2))) (ko_length (ko_bs_s (ko_as__s (ko_numbers_s ko (upd (ko_numbers ko) (ko_length ko).toNatClampNeg a0)) (upd (ko_as_ (ko_numbers_s ko (upd (ko_numbers ko) (ko_length ko).toNatClampNeg a0))) (ko_length (ko_numbers_s ko (upd (ko_numbers ko) (ko_length ko).toNatClampNeg a0))).toNatClampNeg a1)) (upd (ko_bs (ko_as__s (ko_numbers_s ko (upd (ko_numbers ko) (ko_length ko).toNatClampNeg a0)) (upd (ko_as_ (ko_numbers_s ko (upd (ko_numbers ko) (ko_length ko).toNatClampNeg a0))) (ko_length (ko_numbers_s ko (upd (ko_numbers ko) (ko_length ko).toNatClampNeg a0))).toNatClampNeg a1))) (ko_length (ko_as__s (ko_numbers_s ko (upd (ko_numbers ko) (ko_length ko).toNatClampNeg a0)) (upd (ko_as_ (ko_numbers_s ko (upd (ko_numbers ko) (ko_length ko).toNatClampNeg a0))) (ko_length (ko_numbers_s ko (upd (ko_numbers ko) (ko_length ko).toNatClampNeg a0))).toNatClampNeg a1))).toNatClampNeg a2))).toNatClampNeg a3))) + (1 : Int32))) (upd (ko_sizes (ko_length_s (ko_cs_s (ko_bs_s (ko_as__s (ko_numbers_s ko (upd (ko_numbers ko) (ko_length ko).toNatClampNeg a0)) (upd (ko_as_ (ko_numbers_s ko (upd (ko_numbers ko) (ko_length ko).toNatClampNeg a0))) (ko_length (ko_numbers_s ko (upd (ko_numbers ko) (ko_length ko).toNatClampNeg a0))).toNatClampNeg a1)) (upd (ko_bs (ko_as__s (ko_numbers_s ko (upd (ko_numbers ko) (ko_length ko).toNatClampNeg a0)) (upd (ko_as_ (ko_numbers_s ko (upd (ko_numbers ko) (ko_length ko).toNatClampNeg a0))) (ko_length (ko_numbers_s ko (upd (ko_numbers ko) (ko_length ko).toNatClampNeg a0))).toNatClampNeg a1))) (ko_length (ko_as__s (ko_numbers_s ko (upd (ko_numbers ko) (ko_length ko).toNatClampNeg a0)) (upd (ko_as_ (ko_numbers_s ko (upd (ko_numbers ko) (ko_length ko).toNatClampNeg a0))) (ko_length (ko_numbers_s ko (upd (ko_numbers ko) (ko_length ko).toNatClampNeg a0))).toNatClampNeg a1))).toNatClampNeg a2)) (upd (ko_cs (ko_bs_s (ko_as__s (ko_numbers_s ko (upd (ko_numbers ko) (ko_length ko).toNatClampNeg a0)) (upd (ko_as_ (ko_numbers_s ko (upd (ko_numbers ko) (ko_length ko).toNatClampNeg a0))) (ko_length (ko_numbers_s ko (upd (ko_numbers ko) (ko_length ko).toNatClampNeg a0))).toNatClampNeg a1)) (upd (ko_bs (ko_as__s (ko_numbers_s ko (upd (ko_numbers ko) (ko_length ko).toNatClampNeg a0)) (upd (ko_as_ (ko_numbers_s ko (upd (ko_numbers ko) (ko_length ko).toNatClampNeg a0))) (ko_length (ko_numbers_s ko (upd (ko_numbers ko) (ko_length ko).toNatClampNeg a0))).toNatClampNeg a1))) (ko_length (ko_as__s (ko_numbers_s ko (upd (ko_numbers ko) (ko_length ko).toNatClampNeg a0)) (upd (ko_as_ (ko_numbers_s ko (upd (ko_numbers ko) (ko_length ko).toNatClampNeg a0))) (ko_length (ko_numbers_s ko (upd (ko_numbers ko) (ko_length ko).toNatClampNeg a0))).toNatClampNeg a1))).toNatClampNeg a2))) (ko_length (ko_bs_s (ko_as__s (ko_numbers_s ko (upd (ko_numbers ko) (ko_length ko).toNatClampNeg a0)) (upd (ko_as_ (ko_numbers_s ko (upd (ko_numbers ko) (ko_length ko).toNatClampNeg a0))) (ko_length (ko_numbers_s ko (upd (ko_numbers ko) (ko_length ko).toNatClampNeg a0))).toNatClampNeg a1)) (upd (ko_bs (ko_as__s (ko_numbers_s ko (upd (ko_numbers ko) (ko_length ko).toNatClampNeg a0)) (upd (ko_as_ (ko_numbers_s ko (upd (ko_numbers ko) (ko_length ko).toNatClampNeg a0))) (ko_length (ko_numbers_s ko (upd (ko_numbers ko) (ko_length ko).toNatClampNeg a0))).toNatClampNeg a1))) (ko_length (ko_as__s (ko_numbers_s ko (upd (ko_numbers ko) (ko_length ko).toNatClampNeg a0)) (upd (ko_as_ (ko_numbers_s ko (upd (ko_numbers ko) (ko_length ko).toNatClampNeg a0))) (ko_length (ko_numbers_s ko (upd (ko_numbers ko) (ko_length ko).toNatClampNeg a0))).toNatClampNeg a1))).toNatClampNeg a2))).toNatClampNeg a3)) ((ko_length (ko_cs_s (ko_bs_s (ko_as__s (ko_numbers_s ko (upd (ko_numbers ko) (ko_length ko).toNatClampNeg a0)) (upd (ko_as_ (ko_numbers_s ko (upd (ko_numbers ko) (ko_length ko).toNatClampNeg a0))) (ko_length (ko_numbers_s ko (upd (ko_numbers ko) (ko_length ko).toNatClampNeg a0))).toNatClampNeg a1)) (upd (ko_bs (ko_as__s (ko_numbers_s ko (upd (ko_numbers ko) (ko_length ko).toNatClampNeg a0)) (upd (ko_as_ (ko_numbers_s ko (upd (ko_numbers ko) (ko_length ko).toNatClampNeg a0))) (ko_length (ko_numbers_s ko (upd (ko_numbers ko) (ko_length ko).toNatClampNeg a0))).toNatClampNeg a1))) (ko_length (ko_as__s (ko_numbers_s ko (upd (ko_numbers ko) (ko_length ko).toNatClampNeg a0)) (upd (ko_as_ (ko_numbers_s ko (upd (ko_numbers ko) (ko_length ko).toNatClampNeg a0))) (ko_length (ko_numbers_s ko (upd (ko_numbers ko) (ko_length ko).toNatClampNeg a0))).toNatClampNeg a1))).toNatClampNeg a2)) (upd (ko_cs (ko_bs_s (ko_as__s (ko_numbers_s ko (upd (ko_numbers ko) (ko_length ko).toNatClampNeg a0)) (upd (ko_as_ (ko_numbers_s ko (upd (ko_numbers ko) (ko_length ko).toNatClampNeg a0))) (ko_length (ko_numbers_s ko (upd (ko_numbers ko) (ko_length ko).toNatClampNeg a0))).toNatClampNeg a1)) (upd (ko_bs (ko_as__s (ko_numbers_s ko (upd (ko_numbers ko) (ko_length ko).toNatClampNeg a0)) (upd (ko_as_ (ko_numbers_s ko (upd (ko_numbers ko) (ko_length ko).toNatClampNeg a0))) (ko_length (ko_numbers_s ko (upd (ko_numbers ko) (ko_length ko).toNatClampNeg a0))).toNatClampNeg a1))) (ko_length (ko_as__s (ko_numbers_s ko (upd (ko_numbers ko) (ko_length ko).toNatClampNeg a0)) (upd (ko_as_ (ko_numbers_s ko (upd (ko_numbers ko) (ko_length ko).toNatClampNeg a0))) (ko_length (ko_numbers_s ko (upd (ko_numbers ko) (ko_length ko).toNatClampNeg a0))).toNatClampNeg a1))).toNatClampNeg a2))) (ko_length (ko_bs_s (ko_as__s (ko_numbers_s ko (upd (ko_numbers ko) (ko_length ko).toNatClampNeg a0)) (upd (ko_as_ (ko_numbers_s ko (upd (ko_numbers ko) (ko_length ko).toNatClampNeg a0))) (ko_length (ko_numbers_s ko (upd (ko_numbers ko) (ko_length ko).toNatClampNeg a0))).toNatClampNeg a1)) (upd (ko_bs (ko_as__s (ko_numbers_s ko (upd (ko_numbers ko) (ko_length ko).toNatClampNeg a0)) (upd (ko_as_ (ko_numbers_s ko (upd (ko_numbers ko) (ko_length ko).toNatClampNeg a0))) (ko_length (ko_numbers_s ko (upd (ko_numbers ko) (ko_length ko).toNatClampNeg a0))).toNatClampNeg a1))) (ko_length (ko_as__s (ko_numbers_s ko (upd (ko_numbers ko) (ko_length ko).toNatClampNeg a0)) (upd (ko_as_ (ko_numbers_s ko (upd (ko_numbers ko) (ko_length ko).toNatClampNeg a0))) (ko_length (ko_numbers_s ko (upd (ko_numbers ko) (ko_length ko).toNatClampNeg a0))).toNatClampNeg a1))).toNatClampNeg a2))).toNatClampNeg a3))) + (1 : Int32)))) ((ko_units (ko_length_s (ko_cs_s (ko_bs_s (ko_as__s (ko_numbers_s ko (upd (ko_numbers ko) (ko_length ko).toNatClampNeg a0)) (upd (ko_as_ (ko_numbers_s ko (upd (ko_numbers ko) (ko_length ko).toNatClampNeg a0))) (ko_length (ko_numbers_s ko (upd (ko_numbers ko) (ko_length ko).toNatClampNeg a0))).toNatClampNeg a1)) (upd (ko_bs (ko_as__s (ko_numbers_s ko (upd (ko_numbers ko) (ko_length ko).toNatClampNeg a0)) (upd (ko_as_ (ko_numbers_s ko (upd (ko_numbers ko) (ko_length ko).toNatClampNeg a0))) (ko_length (ko_numbers_s ko (upd (ko_numbers ko) (ko_length ko).toNatClampNeg a0))).toNatClampNeg a1))) (ko_length (ko_as__s (ko_numbers_s ko (upd (ko_numbers ko) (ko_length ko).toNatClampNeg a0)) (upd (ko_as_ (ko_numbers_s ko (upd (ko_numbers ko) (ko_length ko).toNatClampNeg a0))) (ko_length (ko_numbers_s ko (upd (ko_numbers ko) (ko_length ko).toNatClampNeg a0))).toNatClampNeg a1))).toNatClampNeg a2)) (upd (ko_cs (ko_bs_s (ko_as__s (ko_numbers_s ko (upd (ko_numbers ko) (ko_length ko).toNatClampNeg a0)) (upd (ko_as_ (ko_numbers_s ko (upd (ko_numbers ko) (ko_length ko).toNatClampNeg a0))) (ko_length (ko_numbers_s ko (upd (ko_numbers ko) (ko_length ko).toNatClampNeg a0))).toNatClampNeg a1)) (upd (ko_bs (ko_as__s (ko_numbers_s ko (upd (ko_numbers ko) (ko_length ko).toNatClampNeg a0)) (upd (ko_as_ (ko_numbers_s ko (upd (ko_numbers ko) (ko_length ko).toNatClampNeg a0))) (ko_length (ko_numbers_s ko (upd (ko_numbers ko) (ko_length ko).toNatClampNeg a0))).toNatClampNeg a1))) (ko_length (ko_as__s (ko_numbers_s ko (upd (ko_numbers ko) (ko_length ko).toNatClampNeg a0)) (upd (ko_as_ (ko_numbers_s ko (upd (ko_numbers ko) (ko_length ko).toNatClampNeg a0))) (ko_length (ko_numbers_s ko (upd (ko_numbers ko) (ko_length ko).toNatClampNeg a0))).toNatClampNeg a1))).toNatClampNeg a2))) (ko_length (ko_bs_s (ko_as__s (ko_numbers_s ko (upd (ko_numbers ko) (ko_length ko).toNatClampNeg a0)) (upd (ko_as_ (ko_numbers_s ko (upd (ko_numbers ko) (ko_length ko).toNatClampNeg a0))) (ko_length (ko_numbers_s ko (upd (ko_numbers ko) (ko_length ko).toNatClampNeg a0))).toNatClampNeg a1)) (upd (ko_bs (ko_as__s (ko_numbers_s ko (upd (ko_numbers ko) (ko_length ko).toNatClampNeg a0)) (upd (ko_as_ (ko_numbers_s ko (upd (ko_numbers ko) (ko_length ko).toNatClampNeg a0))) (ko_length (ko_numbers_s ko (upd (ko_numbers ko) (ko_length ko).toNatClampNeg a0))).toNatClampNeg a1))) (ko_length (ko_as__s (ko_numbers_s ko (upd (ko_numbers ko) (ko_length ko).toNatClampNeg a0)) (upd (ko_as_ (ko_numbers_s ko (upd (ko_numbers ko) (ko_length ko).toNatClampNeg a0))) (ko_length (ko_numbers_s ko (upd (ko_numbers ko) (ko_length ko).toNatClampNeg a0))).toNatClampNeg a1))).toNatClampNeg a2))).toNatClampNeg a3)) ((ko_length (ko_cs_s (ko_bs_s (ko_as__s (ko_numbers_s ko (upd (ko_numbers ko) (ko_length ko).toNatClampNeg a0)) (upd (ko_as_ (ko_numbers_s ko (upd (ko_numbers ko) (ko_length ko).toNatClampNeg a0))) (ko_length (ko_numbers_s ko (upd (ko_numbers ko) (ko_length ko).toNatClampNeg a0))).toNatClampNeg a1)) (upd (ko_bs (ko_as__s (ko_numbers_s ko (upd (ko_numbers ko) (ko_length ko).toNatClampNeg a0)) (upd (ko_as_ (ko_numbers_s ko (upd (ko_numbers ko) (ko_length ko).toNatClampNeg a0))) (ko_length (ko_numbers_s ko (upd (ko_numbers ko) (ko_length ko).toNatClampNeg a0))).toNatClampNeg a1))) (ko_length (ko_as__s (ko_numbers_s ko (upd (ko_numbers ko) (ko_length ko).toNatClampNeg a0)) (upd (ko_as_ (ko_numbers_s ko (upd (ko_numbers ko) (ko_length ko).toNatClampNeg a0))) (ko_length (ko_numbers_s ko (upd (ko_numbers ko) (ko_length ko).toNatClampNeg a0))).toNatClampNeg a1))).toNatClampNeg a2)) (upd (ko_cs (ko_bs_s (ko_as__s (ko_numbers_s ko (upd (ko_numbers ko) (ko_length ko).toNatClampNeg a0)) (upd (ko_as_ (ko_numbers_s ko (upd (ko_numbers ko) (ko_length ko).toNatClampNeg a0))) (ko_length (ko_numbers_s ko (upd (ko_numbers ko) (ko_length ko).toNatClampNeg a0))).toNatClampNeg a1)) (upd (ko_bs (ko_as__s (ko_numbers_s ko (upd (ko_numbers ko) (ko_length ko).toNatClampNeg a0)) (upd (ko_as_ (ko_numbers_s ko (upd (ko_numbers ko) (ko_length ko).toNatClampNeg a0))) (ko_length (ko_numbers_s ko (upd (ko_numbers ko) (ko_length ko).toNatClampNeg a0))).toNatClampNeg a1))) (ko_length (ko_as__s (ko_numbers_s ko (upd (ko_numbers ko) (ko_length ko).toNatClampNeg a0)) (upd (ko_as_ (ko_numbers_s ko (upd (ko_numbers ko) (ko_length ko).toNatClampNeg a0))) (ko_length (ko_numbers_s ko (upd (ko_numbers ko) (ko_length ko).toNatClampNeg a0))).toNatClampNeg a1))).toNatClampNeg a2))) (ko_length (ko_bs_s (ko_as__s (ko_numbers_s ko (upd (ko_numbers ko) (ko_length ko).toNatClampNeg a0)) (upd (ko_as_ (ko_numbers_s ko (upd (ko_numbers ko) (ko_length ko).toNatClampNeg a0))) (ko_length (ko_numbers_s ko (upd (ko_numbers ko) (ko_length ko).toNatClampNeg a0))).toNatClampNeg a1)) (upd (ko_bs (ko_as__s (ko_numbers_s ko (upd (ko_numbers ko) (ko_length ko).toNatClampNeg a0)) (upd (ko_as_ (ko_numbers_s ko (upd (ko_numbers ko) (ko_length ko).toNatClampNeg a0))) (ko_length (ko_numbers_s ko (upd (ko_numbers ko) (ko_length ko).toNatClampNeg a0))).toNatClampNeg a1))) (ko_length (ko_as__s (ko_numbers_s ko (upd (ko_numbers ko) (ko_length ko).toNatClampNeg a0)) (upd (ko_as_ (ko_numbers_s ko (upd (ko_numbers ko) (ko_length ko).toNatClampNeg a0))) (ko_length (ko_numbers_s ko (upd (ko_numbers ko) (ko_length ko).toNatClampNeg a0))).toNatClampNeg a1))).toNatClampNeg a2))).toNatClampNeg a3))) + (1 : Int32)))) - (1 : Int32)).toNatClampNeg (v8 + (1 : Int32))))) ((ko_units (ko_sizes_s (ko_length_s (ko_cs_s (ko_bs_s (ko_as__s (ko_numbers_s ko (upd (ko_numbers ko) (ko_length ko).toNatClampNeg a0)) (upd (ko_as_ (ko_numbers_s ko (upd (ko_numbers ko) (ko_length ko).toNatClampNeg a0))) (ko_length (ko_numbers_s ko (upd (ko_numbers ko) (ko_length ko).toNatClampNeg a0))).toNatClampNeg a1)) (upd (ko_bs (ko_as__s (ko_numbers_s ko (upd (ko_numbers ko) (ko_length ko).toNatClampNeg a0)) (upd (ko_as_ (ko_numbers_s ko (upd (ko_numbers ko) (ko_length ko).toNatClampNeg a0))) (ko_length (ko_numbers_s ko (upd (ko_numbers ko) (ko_length ko).toNatClampNeg a0))).toNatClampNeg a1))) (ko_length (ko_as__s (ko_numbers_s ko (upd (ko_numbers ko) (ko_length ko).toNatClampNeg a0)) (upd (ko_as_ (ko_numbers_s ko (upd (ko_numbers ko) (ko_length ko).toNatClampNeg a0))) (ko_length (ko_numbers_s ko (upd (ko_numbers ko) (ko_length ko).toNatClampNeg a0))).toNatClampNeg a1))).toNatClampNeg a2)) (upd (ko_cs (ko_bs_s (ko_as__s (ko_numbers_s ko (upd (ko_numbers ko) (ko_length ko).toNatClampNeg a0)) (upd (ko_as_ (ko_numbers_s ko (upd (ko_numbers ko) (ko_length ko).toNatClampNeg a0))) (ko_length (ko_numbers_s ko (upd (ko_numbers ko) (ko_length ko).toNatClampNeg a0))).toNatClampNeg a1)) (upd (ko_bs (ko_as__s (ko_numbers_s ko (upd (ko_numbers ko) (ko_length ko).toNatClampNeg a0)) (upd (ko_as_ (ko_numbers_s ko (upd (ko_numbers ko) (ko_length ko).toNatClampNeg a0))) (ko_length (ko_numbers_s ko (upd (ko_numbers ko) (ko_length ko).toNatClampNeg a0))).toNatClampNeg a1))) (ko_length (ko_as__s (ko_numbers_s ko (upd (ko_numbers ko) (ko_length ko).toNatClampNeg a0)) (upd (ko_as_ (ko_numbers_s ko (upd (ko_numbers ko) (ko_length ko).toNatClampNeg a0))) (ko_length (ko_numbers_s ko (upd (ko_numbers ko) (ko_length ko).toNatClampNeg a0))).toNatClampNeg a1))).toNatClampNeg a2))) (ko_length (ko_bs_s (ko_as__s (ko_numbers_s ko (upd (ko_numbers ko) (ko_length ko).toNatClampNeg a0)) (upd (ko_as_ (ko_numbers_s ko (upd (ko_numbers ko) (ko_length ko).toNatClampNeg a0))) (ko_length (ko_numbers_s ko (upd (ko_numbers ko) (ko_length ko).toNatClampNeg a0))).toNatClampNeg a1)) (upd (ko_bs (ko_as__s (ko_numbers_s ko (upd (ko_numbers ko) (ko_length ko).toNatClampNeg a0)) (upd (ko_as_ (ko_numbers_s ko (upd (ko_numbers ko) (ko_length ko).toNatClampNeg a0))) (ko_length (ko_numbers_s ko (upd (ko_numbers ko) (ko_length ko).toNatClampNeg a0))).toNatClampNeg a1))) (ko_length (ko_as__s (ko_numbers_s ko (upd (ko_numbers ko) (ko_length ko).toNatClampNeg a0)) (upd (ko_as_ (ko_numbers_s ko (upd (ko_numbers ko) (ko_length ko).toNatClampNeg a0))) (ko_length (ko_numbers_s ko (upd (ko_numbers ko) (ko_length ko).toNatClampNeg a0))).toNatClampNeg a1))).toNatClampNeg a2))).toNatClampNeg a3)) ((ko_length (ko_cs_s (ko_bs_s (ko_as__s (ko_numbers_s ko (upd (ko_numbers ko) (ko_length ko).toNatClampNeg a0)) (upd (ko_as_ (ko_numbers_s ko (upd (ko_numbers ko) (ko_length ko).toNatClampNeg a0))) (ko_length (ko_numbers_s ko (upd (ko_numbers ko) (ko_length ko).toNatClampNeg a0))).toNatClampNeg a1)) (upd (ko_bs (ko_as__s (ko_numbers_s ko (upd (ko_numbers ko) (ko_length ko).toNatClampNeg a0)) (upd (ko_as_ (ko_numbers_s ko (upd (ko_numbers ko) (ko_length ko).toNatClampNeg a0))) (ko_length (ko_numbers_s ko (upd (ko_numbers ko) (ko_length ko).toNatClampNeg a0))).toNatClampNeg a1))) (ko_length (ko_as__s (ko_numbers_s ko (upd (ko_numbers ko) (ko_length ko).toNatClampNeg a0)) (upd (ko_as_ (ko_numbers_s ko (upd (ko_numbers ko) (ko_length ko).toNatClampNeg a0))) (ko_length (ko_numbers_s ko (upd (ko_numbers ko) (ko_length ko).toNatClampNeg a0))).toNatClampNeg a1))).toNatClampNeg a2)) (upd (ko_cs (ko_bs_s (ko_as__s (ko_numbers_s ko (upd (ko_numbers ko) (ko_length ko).toNatClampNeg a0)) (upd (ko_as_ (ko_numbers_s ko (upd (ko_numbers ko) (ko_length ko).toNatClampNeg a0))) (ko_length (ko_numbers_s ko (upd (ko_numbers ko) (ko_length ko).toNatClampNeg a0))).toNatClampNeg a1)) (upd (ko_bs (ko_as__s (ko_numbers_s ko (upd (ko_numbers ko) (ko_length ko).toNatClampNeg a0)) (upd (ko_as_ (ko_numbers_s ko (upd (ko_numbers ko) (ko_length ko).toNatClampNeg a0))) (ko_length (ko_numbers_s ko (upd (ko_numbers ko) (ko_length ko).toNatClampNeg a0))).toNatClampNeg a1))) (ko_length (ko_as__s (ko_numbers_s ko (upd (ko_numbers ko) (ko_length ko).toNatClampNeg a0)) (upd (ko_as_ (ko_numbers_s ko (upd (ko_numbers ko) (ko_length ko).toNatClampNeg a0))) (ko_length (ko_numbers_s ko (upd (ko_numbers ko) (ko_length ko).toNatClampNeg a0))).toNatClampNeg a1))).toNatClampNeg a2))) (ko_length (ko_bs_s (ko_as__s (ko_numbers_s ko (upd (ko_numbers ko) (ko_length ko).toNatClampNeg a0)) (upd (ko_as_ (ko_numbers_s ko (upd (ko_numbers ko) (ko_length ko).toNatClampNeg a0))) (ko_length (ko_numbers_s ko (upd (ko_numbers ko) (ko_length ko).toNatClampNeg a0))).toNatClampNeg a1)) (upd (ko_bs (ko_as__s (ko_numbers_s ko (upd (ko_numbers ko) (ko_length ko).toNatClampNeg a0)) (upd (ko_as_ (ko_numbers_s ko (upd (ko_numbers ko) (ko_length ko).toNatClampNeg a0))) (ko_length (ko_numbers_s ko (upd (ko_numbers ko) (ko_length ko).toNatClampNeg a0))).toNatClampNeg a1))) (ko_length (ko_as__s (ko_numbers_s ko (upd (ko_numbers ko) (ko_length ko).toNatClampNeg a0)) (upd (ko_as_ (ko_numbers_s ko (upd (ko_numbers ko) (ko_length ko).toNatClampNeg a0))) (ko_length (ko_numbers_s ko (upd (ko_numbers ko) (ko_length ko).toNatClampNeg a0))).toNatClampNeg a1))).toNatClampNeg a2))).toNatClampNeg a3))) + (1 : Int32))) (upd (ko_sizes (ko_length_s (ko_cs_s (ko_bs_s (ko_as__s (ko_numbers_s ko (upd (ko_numbers ko) (ko_length ko).toNatClampNeg a0)) (upd (ko_as_ (ko_numbers_s ko (upd (ko_numbers ko) (ko_length ko).toNatClampNeg a0))) (ko_length (ko_numbers_s ko (upd (ko_numbers ko) (ko_length ko).toNatClampNeg a0))).toNatClampNeg a1)) (upd (ko_bs (ko_as__s (ko_numbers_s ko (upd (ko_numbers ko) (ko_length ko).toNatClampNeg a0)) (upd (ko_as_ (ko_numbers_s ko (upd (ko_numbers ko) (ko_length ko).toNatClampNeg a0))) (ko_length (ko_numbers_s ko (upd (ko_numbers ko) (ko_length ko).toNatClampNeg a0))).toNatClampNeg a1))) (ko_length (ko_as__s (ko_numbers_s ko (upd (ko_numbers ko) (ko_length ko).toNatClampNeg a0)) (upd (ko_as_ (ko_numbers_s ko (upd (ko_numbers ko) (ko_length ko).toNatClampNeg a0))) (ko_length (ko_numbers_s ko (upd (ko_numbers ko) (ko_length ko).toNatClampNeg a0))).toNatClampNeg a1))).toNatClampNeg a2)) (upd (ko_cs (ko_bs_s (ko_as__s (ko_numbers_s ko (upd (ko_numbers ko) (ko_length ko).toNatClampNeg a0)) (upd (ko_as_ (ko_numbers_s ko (upd (ko_numbers ko) (ko_length ko).toNatClampNeg a0))) (ko_length (ko_numbers_s ko (upd (ko_numbers ko) (ko_length ko).toNatClampNeg a0))).toNatClampNeg a1)) (upd (ko_bs (ko_as__s (ko_numbers_s ko (upd (ko_numbers ko) (ko_length ko).toNatClampNeg a0)) (upd (ko_as_ (ko_numbers_s ko (upd (ko_numbers ko) (ko_length ko).toNatClampNeg a0))) (ko_length (ko_numbers_s ko (upd (ko_numbers ko) (ko_length ko).toNatClampNeg a0))).toNatClampNeg a1))) (ko_length (ko_as__s (ko_numbers_s ko (upd (ko_numbers ko) (ko_length ko).toNatClampNeg a0)) (upd (ko_as_ (ko_numbers_s ko (upd (ko_numbers ko) (ko_length ko).toNatClampNeg a0))) (ko_length (ko_numbers_s ko (upd (ko_numbers ko) (ko_length ko).toNatClampNeg a0))).toNatClampNeg a1))).toNatClampNeg a2))) (ko_length (ko_bs_s (ko_as__s (ko_numbers_s ko (upd (ko_numbers ko) (ko_length ko).toNatClampNeg a0)) (upd (ko_as_ (ko_numbers_s ko (upd (ko_numbers ko) (ko_length ko).toNatClampNeg a0))) (ko_length (ko_numbers_s ko (upd (ko_numbers ko) (ko_length ko).toNatClampNeg a0))).toNatClampNeg a1)) (upd (ko_bs (ko_as__s (ko_numbers_s ko (upd (ko_numbers ko) (ko_length ko).toNatClampNeg a0)) (upd (ko_as_ (ko_numbers_s ko (upd (ko_numbers ko) (ko_length ko).toNatClampNeg a0))) (ko_length (ko_numbers_s ko (upd (ko_numbers ko) (ko_length ko).toNatClampNeg a0))).toNatClampNeg a1))) (ko_length (ko_as__s (ko_numbers_s ko (upd (ko_numbers ko) (ko_length ko).toNatClampNeg a0)) (upd (ko_as_ (ko_numbers_s ko (upd (ko_numbers ko) (ko_length ko).toNatClampNeg a0))) (ko_length (ko_numbers_s ko (upd (ko_numbers ko) (ko_length ko).toNatClampNeg a0))).toNatClampNeg a1))).toNatClampNeg a2))).toNatClampNeg a3)) ((ko_length (ko_cs_s (ko_bs_s (ko_as__s (ko_numbers_s ko (upd (ko_numbers ko) (ko_length ko).toNatClampNeg a0)) (upd (ko_as_ (ko_numbers_s ko (upd (ko_numbers ko) (ko_length ko).toNatClampNeg a0))) (ko_length (ko_numbers_s ko (upd (ko_numbers ko) (ko_length ko).toNatClampNeg a0))).toNatClampNeg a1)) (upd (ko_bs (ko_as__s (ko_numbers_s ko (upd (ko_numbers ko) (ko_length ko).toNatClampNeg a0)) (upd (ko_as_ (ko_numbers_s ko (upd (ko_numbers ko) (ko_length ko).toNatClampNeg a0))) (ko_length (ko_numbers_s ko (upd (ko_numbers ko) (ko_length ko).toNatClampNeg a0))).toNatClampNeg a1))) (ko_length (ko_as__s (ko_numbers_s ko (upd (ko_numbers ko) (ko_length ko).toNatClampNeg a0)) (upd (ko_as_ (ko_numbers_s ko (upd (ko_numbers ko) (ko_length ko).toNatClampNeg a0))) (ko_length (ko_numbers_s ko (upd (ko_numbers ko) (ko_length ko).toNatClampNeg a0))).toNatClampNeg a1))).toNatClampNeg a2)) (upd (ko_cs (ko_bs_s (ko_as__s (ko_numbers_s ko (upd (ko_numbers ko) (ko_length ko).toNatClampNeg a0)) (upd (ko_as_ (ko_numbers_s ko (upd (ko_numbers ko) (ko_length ko).toNatClampNeg a0))) (ko_length (ko_numbers_s ko (upd (ko_numbers ko) (ko_length ko).toNatClampNeg a0))).toNatClampNeg a1)) (upd (ko_bs (ko_as__s (ko_numbers_s ko (upd (ko_numbers ko) (ko_length ko).toNatClampNeg a0)) (upd (ko_as_ (ko_numbers_s ko (upd (ko_numbers ko) (ko_length ko).toNatClampNeg a0))) (ko_length (ko_numbers_s ko (upd (ko_numbers ko) (ko_length ko).toNatClampNeg a0))).toNatClampNeg a1))) (ko_length (ko_as__s (ko_numbers_s ko (upd (ko_numbers ko) (ko_length ko).toNatClampNeg a0)) (upd (ko_as_ (ko_numbers_s ko (upd (ko_numbers ko) (ko_length ko).toNatClampNeg a0))) (ko_length (ko_numbers_s ko (upd (ko_numbers ko) (ko_length ko).toNatClampNeg a0))).toNatClampNeg a1))).toNatClampNeg a2))) (ko_length (ko_bs_s (ko_as__s (ko_numbers_s ko (upd (ko_numbers ko) (ko_length ko).toNatClampNeg a0)) (upd (ko_as_ (ko_numbers_s ko (upd (ko_numbers ko) (ko_length ko).toNatClampNeg a0))) (ko_length (ko_numbers_s ko (upd (ko_numbers ko) (ko_length ko).toNatClampNeg a0))).toNatClampNeg a1)) (upd (ko_bs (ko_as__s (ko_numbers_s ko (upd (ko_numbers ko) (ko_length ko).toNatClampNeg a0)) (upd (ko_as_ (ko_numbers_s ko (upd (ko_numbers ko) (ko_length ko).toNatClampNeg a0))) (ko_length (ko_numbers_s ko (upd (ko_numbers ko) (ko_length ko).toNatClampNeg a0))).toNatClampNeg a1))) (ko_length (ko_as__s (ko_numbers_s ko (upd (ko_numbers ko) (ko_length ko).toNatClampNeg a0)) (upd (ko_as_ (ko_numbers_s ko (upd (ko_numbers ko) (ko_length ko).toNatClampNeg a0))) (ko_length (ko_numbers_s ko (upd (ko_numbers ko) (ko_length ko).toNatClampNeg a0))).toNatClampNeg a1))).toNatClampNeg a2))).toNatClampNeg a3))) + (1 : Int32)))) ((ko_units (ko_length_s (ko_cs_s (ko_bs_s (ko_as__s (ko_numbers_s ko (upd (ko_numbers ko) (ko_length ko).toNatClampNeg a0)) (upd (ko_as_ (ko_numbers_s ko (upd (ko_numbers ko) (ko_length ko).toNatClampNeg a0))) (ko_length (ko_numbers_s ko (upd (ko_numbers ko) (ko_length ko).toNatClampNeg a0))).toNatClampNeg a1)) (upd (ko_bs (ko_as__s (ko_numbers_s ko (upd (ko_numbers ko) (ko_length ko).toNatClampNeg a0)) (upd (ko_as_ (ko_numbers_s ko (upd (ko_numbers ko) (ko_length ko).toNatClampNeg a0))) (ko_length (ko_numbers_s ko (upd (ko_numbers ko) (ko_length ko).toNatClampNeg a0))).toNatClampNeg a1))) (ko_length (ko_as__s (ko_numbers_s ko (upd (ko_numbers ko) (ko_length ko).toNatClampNeg a0)) (upd (ko_as_ (ko_numbers_s ko (upd (ko_numbers ko) (ko_length ko).toNatClampNeg a0))) (ko_length (ko_numbers_s ko (upd (ko_numbers ko) (ko_length ko).toNatClampNeg a0))).toNatClampNeg a1))).toNatClampNeg a2)) (upd (ko_cs (ko_bs_s (ko_as__s (ko_numbers_s ko (upd (ko_numbers ko) (ko_length ko).toNatClampNeg a0)) (upd (ko_as_ (ko_numbers_s ko (upd (ko_numbers ko) (ko_length ko).toNatClampNeg a0))) (ko_length (ko_numbers_s ko (upd (ko_numbers ko) (ko_length ko).toNatClampNeg a0))).toNatClampNeg a1)) (upd (ko_bs (ko_as__s (ko_numbers_s ko (upd (ko_numbers ko) (ko_length ko).toNatClampNeg a0)) (upd (ko_as_ (ko_numbers_s ko (upd (ko_numbers ko) (ko_length ko).toNatClampNeg a0))) (ko_length (ko_numbers_s ko (upd (ko_numbers ko) (ko_length ko).toNatClampNeg a0))).toNatClampNeg a1))) (ko_length (ko_as__s (ko_numbers_s ko (upd (ko_numbers ko) (ko_length ko).toNatClampNeg a0)) (upd (ko_as_ (ko_numbers_s ko (upd (ko_numbers ko) (ko_length ko).toNatClampNeg a0))) (ko_length (ko_numbers_s ko (upd (ko_numbers ko) (ko_length ko).toNatClampNeg a0))).toNatClampNeg a1))).toNatClampNeg a2))) (ko_length (ko_bs_s (ko_as__s (ko_numbers_s ko (upd (ko_numbers ko) (ko_length ko).toNatClampNeg a0)) (upd (ko_as_ (ko_numbers_s ko (upd (ko_numbers ko) (ko_length ko).toNatClampNeg a0))) (ko_length (ko_numbers_s ko (upd (ko_numbers ko) (ko_length ko).toNatClampNeg a0))).toNatClampNeg a1)) (upd (ko_bs (ko_as__s (ko_numbers_s ko (upd (ko_numbers ko) (ko_length ko).toNatClampNeg a0)) (upd (ko_as_ (ko_numbers_s ko (upd (ko_numbers ko) (ko_length ko).toNatClampNeg a0))) (ko_length (ko_numbers_s ko (upd (ko_numbers ko) (ko_length ko).toNatClampNeg a0))).toNatClampNeg a1))) (ko_length (ko_as__s (ko_numbers_s ko (upd (ko_numbers ko) (ko_length ko).toNatClampNeg a0)) (upd (ko_as_ (ko_numbers_s ko (upd (ko_numbers ko) (ko_length ko).toNatClampNeg a0))) (ko_length (ko_numbers_s ko (upd (ko_numbers ko) (ko_length ko).toNatClampNeg a0))).toNatClampNeg a1))).toNatClampNeg a2))).toNatClampNeg a3)) ((ko_length (ko_cs_s (ko_bs_s (ko_as__s (ko_numbers_s ko (upd (ko_numbers ko) (ko_length ko).toNatClampNeg a0)) (upd (ko_as_ (ko_numbers_s ko (upd (ko_numbers ko) (ko_length ko).toNatClampNeg a0))) (ko_length (ko_numbers_s ko (upd (ko_numbers ko) (ko_length ko).toNatClampNeg a0))).toNatClampNeg a1)) (upd (ko_bs (ko_as__s (ko_numbers_s ko (upd (ko_numbers ko) (ko_length ko).toNatClampNeg a0)) (upd (ko_as_ (ko_numbers_s ko (upd (ko_numbers ko) (ko_length ko).toNatClampNeg a0))) (ko_length (ko_numbers_s ko (upd (ko_numbers ko) (ko_length ko).toNatClampNeg a0))).toNatClampNeg a1))) (ko_length (ko_as__s (ko_numbers_s ko (upd (ko_numbers ko) (ko_length ko).toNatClampNeg a0)) (upd (ko_as_ (ko_numbers_s ko (upd (ko_numbers ko) (ko_length ko).toNatClampNeg a0))) (ko_length (ko_numbers_s ko (upd (ko_numbers ko) (ko_length ko).toNatClampNeg a0))).toNatClampNeg a1))).toNatClampNeg a2)) (upd (ko_cs (ko_bs_s (ko_as__s (ko_numbers_s ko (upd (ko_numbers ko) (ko_length ko).toNatClampNeg a0)) (upd (ko_as_ (ko_numbers_s ko (upd (ko_numbers ko) (ko_length ko).toNatClampNeg a0))) (ko_length (ko_numbers_s ko (upd (ko_numbers ko) (ko_length ko).toNatClampNeg a0))).toNatClampNeg a1)) (upd (ko_bs (ko_as__s (ko_numbers_s ko (upd (ko_numbers ko) (ko_length ko).toNatClampNeg a0)) (upd (ko_as_ (ko_numbers_s ko (upd (ko_numbers ko) (ko_length ko).toNatClampNeg a0))) (ko_length (ko_numbers_s ko (upd (ko_numbers ko) (ko_length ko).toNatClampNeg a0))).toNatClampNeg a1))) (ko_length (ko_as__s (ko_numbers_s ko (upd (ko_numbers ko) (ko_length ko).toNatClampNeg a0)) (upd (ko_as_ (ko_numbers_s ko (upd (ko_numbers ko) (ko_length ko).toNatClampNeg a0))) (ko_length (ko_numbers_s ko (upd (ko_numbers ko) (ko_length ko).toNatClampNeg a0))).toNatClampNeg a1))).toNatClampNeg a2))) (ko_length (ko_bs_s (ko_as__s (ko_numbers_s ko (upd (ko_numbers ko) (ko_length ko).toNatClampNeg a0)) (upd (ko_as_ (ko_numbers_s ko (upd (ko_numbers ko) (ko_length ko).toNatClampNeg a0))) (ko_length (ko_numbers_s ko (upd (ko_numbers ko) (ko_length ko).toNatClampNeg a0))).toNatClampNeg a1)) (upd (ko_bs (ko_as__s (ko_numbers_s ko (upd (ko_numbers ko) (ko_length ko).toNatClampNeg a0)) (upd (ko_as_ (ko_numbers_s ko (upd (ko_numbers ko) (ko_length ko).toNatClampNeg a0))) (ko_length (ko_numbers_s ko (upd (ko_numbers ko) (ko_length ko).toNatClampNeg a0))).toNatClampNeg a1))) (ko_length (ko_as__s (ko_numbers_s ko (upd (ko_numbers ko) (ko_length ko).toNatClampNeg a0)) (upd (ko_as_ (ko_numbers_s ko (upd (ko_numbers ko) (ko_length ko).toNatClampNeg a0))) (ko_length (ko_numbers_s ko (upd (ko_numbers ko) (ko_length ko).toNatClampNeg a0))).toNatClampNeg a1))).toNatClampNeg a2))).toNatClampNeg a3))) + (1 : Int32)))) - (1 : Int32)).toNatClampNeg (v8 + (1 : Int32))))) - (1 : Int32)) 16 (fun v11 => some ((v11 - (1 : Int32)), (ko_sizes_s (ko_length_s (ko_cs_s (ko_bs_s (ko_as__s (ko_numbers_s ko (upd (ko_numbers ko) (ko_length ko).toNatClampNeg a0)) (upd (ko_as_ (ko_numbers_s ko (upd (ko_numbers ko) (ko_length ko).toNatClampNeg a0))) (ko_length (ko_numbers_s ko (upd (ko_numbers ko) (ko_length ko).toNatClampNeg a0))).toNatClampNeg a1)) (upd (ko_bs (ko_as__s (ko_numbers_s ko (upd (ko_numbers ko) (ko_length ko).toNatClampNeg a0)) (upd (ko_as_ (ko_numbers_s ko (upd (ko_numbers ko) (ko_length ko).toNatClampNeg a0))) (ko_length (ko_numbers_s ko (upd (ko_numbers ko) (ko_length ko).toNatClampNeg a0))).toNatClampNeg a1))) (ko_length (ko_as__s (ko_numbers_s ko (upd (ko_numbers ko) (ko_length ko).toNatClampNeg a0)) (upd (ko_as_ (ko_numbers_s ko (upd (ko_numbers ko) (ko_length ko).toNatClampNeg a0))) (ko_length (ko_numbers_s ko (upd (ko_numbers ko) (ko_length ko).toNatClampNeg a0))).toNatClampNeg a1))).toNatClampNeg a2)) (upd (ko_cs (ko_bs_s (ko_as__s (ko_numbers_s ko (upd (ko_numbers ko) (ko_length ko).toNatClampNeg a0)) (upd (ko_as_ (ko_numbers_s ko (upd (ko_numbers ko) (ko_length ko).toNatClampNeg a0))) (ko_length (ko_numbers_s ko (upd (ko_numbers ko) (ko_length ko).toNatClampNeg a0))).toNatClampNeg a1)) (upd (ko_bs (ko_as__s (ko_numbers_s ko (upd (ko_numbers ko) (ko_length ko).toNatClampNeg a0)) (upd (ko_as_ (ko_numbers_s ko (upd (ko_numbers ko) (ko_length ko).toNatClampNeg a0))) (ko_length (ko_numbers_s ko (upd (ko_numbers ko) (ko_length ko).toNatClampNeg a0))).toNatClampNeg a1))) (ko_length (ko_as__s (ko_numbers_s ko (upd (ko_numbers ko) (ko_length ko).toNatClampNeg a0)) (upd (ko_as_ (ko_numbers_s ko (upd (ko_numbers ko) (ko_length ko).toNatClampNeg a0))) (ko_length (ko_numbers_s ko (upd (ko_numbers ko) (ko_length ko).toNatClampNeg a0))).toNatClampNeg a1))).toNatClampNeg a2))) (ko_length (ko_bs_s (ko_as__s (ko_numbers_s ko (upd (ko_numbers ko) (ko_length ko).toNatClampNeg a0)) (upd (ko_as_ (ko_numbers_s ko (upd (ko_numbers ko) (ko_length ko).toNatClampNeg a0))) (ko_length (ko_numbers_s ko (upd (ko_numbers ko) (ko_length ko).toNatClampNeg a0))).toNatClampNeg a1)) (upd (ko_bs (ko_as__s (ko_numbers_s ko (upd (ko_numbers ko) (ko_length ko).toNatClampNeg a0)) (upd (ko_as_ (ko_numbers_s ko (upd (ko_numbers ko) (ko_length ko).toNatClampNeg a0))) (ko_length (ko_numbers_s ko (upd (ko_numbers ko) (ko_length ko).toNatClampNeg a0))).toNatClampNeg a1))) (ko_length (ko_as__s (ko_numbers_s ko (upd (ko_numbers ko) (ko_length ko).toNatClampNeg a0)) (upd (ko_as_ (ko_numbers_s ko (upd (ko_numbers ko) (ko_length ko).toNatClampNeg a0))) (ko_length (ko_numbers_s ko (upd (ko_numbers ko) (ko_length ko).toNatClampNeg a0))).toNatClampNeg a1))).toNatClampNeg a2))).toNatClampNeg a3)) ((ko_length (ko_cs_s (ko_bs_s (ko_as__s (ko_numbers_s ko (upd (ko_numbers ko) (ko_length ko).toNatClampNeg a0)) (upd (ko_as_ (ko_numbers_s ko (upd (ko_numbers ko) (ko_length ko).toNatClampNeg a0))) (ko_length (ko_numbers_s ko (upd (ko_numbers ko) (ko_length ko).toNatClampNeg a0))).toNatClampNeg a1)) (upd (ko_bs (ko_as__s (ko_numbers_s ko (upd (ko_numbers ko) (ko_length ko).toNatClampNeg a0)) (upd (ko_as_ (ko_numbers_s ko (upd (ko_numbers ko) (ko_length ko).toNatClampNeg a0))) (ko_length (ko_numbers_s ko (upd (ko_numbers ko) (ko_length ko).toNatClampNeg a0))).toNatClampNeg a1))) (ko_length (ko_as__s (ko_numbers_s ko (upd (ko_numbers ko) (ko_length ko).toNatClampNeg a0)) (upd (ko_as_ (ko_numbers_s ko (upd (ko_numbers ko) (ko_length ko).toNatClampNeg a0))) (ko_length (ko_numbers_s ko (upd (ko_numbers ko) (ko_length ko).toNatClampNeg a0))).toNatClampNeg a1))).toNatClampNeg a2)) (upd (ko_cs (ko_bs_s (ko_as__s (ko_numbers_s ko (upd (ko_numbers ko) (ko_length ko).toNatClampNeg a0)) (upd (ko_as_ (ko_numbers_s ko (upd (ko_numbers ko) (ko_length ko).toNatClampNeg a0))) (ko_length (ko_numbers_s ko (upd (ko_numbers ko) (ko_length ko).toNatClampNeg a0))).toNatClampNeg a1)) (upd (ko_bs (ko_as__s (ko_numbers_s ko (upd (ko_numbers ko) (ko_length ko).toNatClampNeg a0)) (upd (ko_as_ (ko_numbers_s ko (upd (ko_numbers ko) (ko_length ko).toNatClampNeg a0))) (ko_length (ko_numbers_s ko (upd (ko_numbers ko) (ko_length ko).toNatClampNeg a0))).toNatClampNeg a1))) (ko_length (ko_as__s (ko_numbers_s ko (upd (ko_numbers ko) (ko_length ko).toNatClampNeg a0)) (upd (ko_as_ (ko_numbers_s ko (upd (ko_numbers ko) (ko_length ko).toNatClampNeg a0))) (ko_length (ko_numbers_s ko (upd (ko_numbers ko) (ko_length ko).toNatClampNeg a0))).toNatClampNeg a1))).toNatClampNeg a2))) (ko_length (ko_bs_s (ko_as__s (ko_numbers_s ko (upd (ko_numbers ko) (ko_length ko).toNatClampNeg a0)) (upd (ko_as_ (ko_numbers_s ko (upd (ko_numbers ko) (ko_length ko).toNatClampNeg a0))) (ko_length (ko_numbers_s ko (upd (ko_numbers ko) (ko_length ko).toNatClampNeg a0))).toNatClampNeg a1)) (upd (ko_bs (ko_as__s (ko_numbers_s ko (upd (ko_numbers ko) (ko_length ko).toNatClampNeg a0)) (upd (ko_as_ (ko_numbers_s ko (upd (ko_numbers ko) (ko_length ko).toNatClampNeg a0))) (ko_length (ko_numbers_s ko (upd (ko_numbers ko) (ko_length ko).toNatClampNeg a0))).toNatClampNeg a1))) (ko_length (ko_as__s (ko_numbers_s ko (upd (ko_numbers ko) (ko_length ko).toNatClampNeg a0)) (upd (ko_as_ (ko_numbers_s ko (upd (ko_numbers ko) (ko_length ko).toNatClampNeg a0))) (ko_length (ko_numbers_s ko (upd (ko_numbers ko) (ko_length ko).toNatClampNeg a0))).toNatClampNeg a1))).toNatClampNeg a2))).toNatClampNeg a3))) + (1 : Int32))) (upd (ko_sizes (ko_length_s (ko_cs_s (ko_bs_s (ko_as__s (ko_numbers_s ko (upd (ko_numbers ko) (ko_length ko).toNatClampNeg a0)) (upd (ko_as_ (ko_numbers_s ko (upd (ko_numbers ko) (ko_length ko).toNatClampNeg a0))) (ko_length (ko_numbers_s ko (upd (ko_numbers ko) (ko_length ko).toNatClampNeg a0))).toNatClampNeg a1)) (upd (ko_bs (ko_as__s (ko_numbers_s ko (upd (ko_numbers ko) (ko_length ko).toNatClampNeg a0)) (upd (ko_as_ (ko_numbers_s ko (upd (ko_numbers ko) (ko_length ko).toNatClampNeg a0))) (ko_length (ko_numbers_s ko (upd (ko_numbers ko) (ko_length ko).toNatClampNeg a0))).toNatClampNeg a1))) (ko_length (ko_as__s (ko_numbers_s ko (upd (ko_numbers ko) (ko_length ko).toNatClampNeg a0)) (upd (ko_as_ (ko_numbers_s ko (upd (ko_numbers ko) (ko_length ko).toNatClampNeg a0))) (ko_length (ko_numbers_s ko (upd (ko_numbers ko) (ko_length ko).toNatClampNeg a0))).toNatClampNeg a1))).toNatClampNeg a2)) (upd (ko_cs (ko_bs_s (ko_as__s (ko_numbers_s ko (upd (ko_numbers ko) (ko_length ko).toNatClampNeg a0)) (upd (ko_as_ (ko_numbers_s ko (upd (ko_numbers ko) (ko_length ko).toNatClampNeg a0))) (ko_length (ko_numbers_s ko (upd (ko_numbers ko) (ko_length ko).toNatClampNeg a0))).toNatClampNeg a1)) (upd (ko_bs (ko_as__s (ko_numbers_s ko (upd (ko_numbers ko) (ko_length ko).toNatClampNeg a0)) (upd (ko_as_ (ko_numbers_s ko (upd (ko_numbers ko) (ko_length ko).toNatClampNeg a0))) (ko_length (ko_numbers_s ko (upd (ko_numbers ko) (ko_length ko).toNatClampNeg a0))).toNatClampNeg a1))) (ko_length (ko_as__s (ko_numbers_s ko (upd (ko_numbers ko) (ko_length ko).toNatClampNeg a0)) (upd (ko_as_ (ko_numbers_s ko (upd (ko_numbers ko) (ko_length ko).toNatClampNeg a0))) (ko_length (ko_numbers_s ko (upd (ko_numbers ko) (ko_length ko).toNatClampNeg a0))).toNatClampNeg a1))).toNatClampNeg a2))) (ko_length (ko_bs_s (ko_as__s (ko_numbers_s ko (upd (ko_numbers ko) (ko_length ko).toNatClampNeg a0)) (upd (ko_as_ (ko_numbers_s ko (upd (ko_numbers ko) (ko_length ko).toNatClampNeg a0))) (ko_length (ko_numbers_s ko (upd (ko_numbers ko) (ko_length ko).toNatClampNeg a0))).toNatClampNeg a1)) (upd (ko_bs (ko_as__s (ko_numbers_s ko (upd (ko_numbers ko) (ko_length ko).toNatClampNeg a0)) (upd (ko_as_ (ko_numbers_s ko (upd (ko_numbers ko) (ko_length ko).toNatClampNeg a0))) (ko_length (ko_numbers_s ko (upd (ko_numbers ko) (ko_length ko).toNatClampNeg a0))).toNatClampNeg a1))) (ko_length (ko_as__s (ko_numbers_s ko (upd (ko_numbers ko) (ko_length ko).toNatClampNeg a0)) (upd (ko_as_ (ko_numbers_s ko (upd (ko_numbers ko) (ko_length ko).toNatClampNeg a0))) (ko_length (ko_numbers_s ko (upd (ko_numbers ko) (ko_length ko).toNatClampNeg a0))).toNatClampNeg a1))).toNatClampNeg a2))).toNatClampNeg a3)) ((ko_length (ko_cs_s (ko_bs_s (ko_as__s (ko_numbers_s ko (upd (ko_numbers ko) (ko_length ko).toNatClampNeg a0)) (upd (ko_as_ (ko_numbers_s ko (upd (ko_numbers ko) (ko_length ko).toNatClampNeg a0))) (ko_length (ko_numbers_s ko (upd (ko_numbers ko) (ko_length ko).toNatClampNeg a0))).toNatClampNeg a1)) (upd (ko_bs (ko_as__s (ko_numbers_s ko (upd (ko_numbers ko) (ko_length ko).toNatClampNeg a0)) (upd (ko_as_ (ko_numbers_s ko (upd (ko_numbers ko) (ko_length ko).toNatClampNeg a0))) (ko_length (ko_numbers_s ko (upd (ko_numbers ko) (ko_length ko).toNatClampNeg a0))).toNatClampNeg a1))) (ko_length (ko_as__s (ko_numbers_s ko (upd (ko_numbers ko) (ko_length ko).toNatClampNeg a0)) (upd (ko_as_ (ko_numbers_s ko (upd (ko_numbers ko) (ko_length ko).toNatClampNeg a0))) (ko_length (ko_numbers_s ko (upd (ko_numbers ko) (ko_length ko).toNatClampNeg a0))).toNatClampNeg a1))).toNatClampNeg a2)) (upd (ko_cs (ko_bs_s (ko_as__s (ko_numbers_s ko (upd (ko_numbers ko) (ko_length ko).toNatClampNeg a0)) (upd (ko_as_ (ko_numbers_s ko (upd (ko_numbers ko) (ko_length ko).toNatClampNeg a0))) (ko_length (ko_numbers_s ko (upd (ko_numbers ko) (ko_length ko).toNatClampNeg a0))).toNatClampNeg a1)) (upd (ko_bs (ko_as__s (ko_numbers_s ko (upd (ko_numbers ko) (ko_length ko).toNatClampNeg a0)) (upd (ko_as_ (ko_numbers_s ko (upd (ko_numbers ko) (ko_length ko).toNatClampNeg a0))) (ko_length (ko_numbers_s ko (upd (ko_numbers ko) (ko_length ko).toNatClampNeg a0))).toNatClampNeg a1))) (ko_length (ko_as__s (ko_numbers_s ko (upd (ko_numbers ko) (ko_length ko).toNatClampNeg a0)) (upd (ko_as_ (ko_numbers_s ko (upd (ko_numbers ko) (ko_length ko).toNatClampNeg a0))) (ko_length (ko_numbers_s ko (upd (ko_numbers ko) (ko_length ko).toNatClampNeg a0))).toNatClampNeg a1))).toNatClampNeg a2))) (ko_length (ko_bs_s (ko_as__s (ko_numbers_s ko (upd (ko_numbers ko) (ko_length ko).toNatClampNeg a0)) (upd (ko_as_ (ko_numbers_s ko (upd (ko_numbers ko) (ko_length ko).toNatClampNeg a0))) (ko_length (ko_numbers_s ko (upd (ko_numbers ko) (ko_length ko).toNatClampNeg a0))).toNatClampNeg a1)) (upd (ko_bs (ko_as__s (ko_numbers_s ko (upd (ko_numbers ko) (ko_length ko).toNatClampNeg a0)) (upd (ko_as_ (ko_numbers_s ko (upd (ko_numbers ko) (ko_length ko).toNatClampNeg a0))) (ko_length (ko_numbers_s ko (upd (ko_numbers ko) (ko_length ko).toNatClampNeg a0))).toNatClampNeg a1))) (ko_length (ko_as__s (ko_numbers_s ko (upd (ko_numbers ko) (ko_length ko).toNatClampNeg a0)) (upd (ko_as_ (ko_numbers_s ko (upd (ko_numbers ko) (ko_length ko).toNatClampNeg a0))) (ko_length (ko_numbers_s ko (upd (ko_numbers ko) (ko_length ko).toNatClampNeg a0))).toNatClampNeg a1))).toNatClampNeg a2))).toNatClampNeg a3))) + (1 : Int32)))) ((ko_units (ko_length_s (ko_cs_s (ko_bs_s (ko_as__s (ko_numbers_s ko (upd (ko_numbers ko) (ko_length ko).toNatClampNeg a0)) (upd (ko_as_ (ko_numbers_s ko (upd (ko_numbers ko) (ko_length ko).toNatClampNeg a0))) (ko_length (ko_numbers_s ko (upd (ko_numbers ko) (ko_length ko).toNatClampNeg a0))).toNatClampNeg a1)) (upd (ko_bs (ko_as__s (ko_numbers_s ko (upd (ko_numbers ko) (ko_length ko).toNatClampNeg a0)) (upd (ko_as_ (ko_numbers_s ko (upd (ko_numbers ko) (ko_length ko).toNatClampNeg a0))) (ko_length (ko_numbers_s ko (upd (ko_numbers ko) (ko_length ko).toNatClampNeg a0))).toNatClampNeg a1))) (ko_length (ko_as__s (ko_numbers_s ko (upd (ko_numbers ko) (ko_length ko).toNatClampNeg a0)) (upd (ko_as_ (ko_numbers_s ko (upd (ko_numbers ko) (ko_length ko).toNatClampNeg a0))) (ko_length (ko_numbers_s ko (upd (ko_numbers ko) (ko_length ko).toNatClampNeg a0))).toNatClampNeg a1))).toNatClampNeg a2)) (upd (ko_cs (ko_bs_s (ko_as__s (ko_numbers_s ko (upd (ko_numbers ko) (ko_length ko).toNatClampNeg a0)) (upd (ko_as_ (ko_numbers_s ko (upd (ko_numbers ko) (ko_length ko).toNatClampNeg a0))) (ko_length (ko_numbers_s ko (upd (ko_numbers ko) (ko_length ko).toNatClampNeg a0))).toNatClampNeg a1)) (upd (ko_bs (ko_as__s (ko_numbers_s ko (upd (ko_numbers ko) (ko_length ko).toNatClampNeg a0)) (upd (ko_as_ (ko_numbers_s ko (upd (ko_numbers ko) (ko_length ko).toNatClampNeg a0))) (ko_length (ko_numbers_s ko (upd (ko_numbers ko) (ko_length ko).toNatClampNeg a0))).toNatClampNeg a1))) (ko_length (ko_as__s (ko_numbers_s ko (upd (ko_numbers ko) (ko_length ko).toNatClampNeg a0)) (upd (ko_as_ (ko_numbers_s ko (upd (ko_numbers ko) (ko_length ko).toNatClampNeg a0))) (ko_length (ko_numbers_s ko (upd (ko_numbers ko) (ko_length ko).toNatClampNeg a0))).toNatClampNeg a1))).toNatClampNeg a2))) (ko_length (ko_bs_s (ko_as__s (ko_numbers_s ko (upd (ko_numbers ko) (ko_length ko).toNatClampNeg a0)) (upd (ko_as_ (ko_numbers_s ko (upd (ko_numbers ko) (ko_length ko).toNatClampNeg a0))) (ko_length (ko_numbers_s ko (upd (ko_numbers ko) (ko_length ko).toNatClampNeg a0))).toNatClampNeg a1)) (upd (ko_bs (ko_as__s (ko_numbers_s ko (upd (ko_numbers ko) (ko_length ko).toNatClampNeg a0)) (upd (ko_as_ (ko_numbers_s ko (upd (ko_numbers ko) (ko_length ko).toNatClampNeg a0))) (ko_length (ko_numbers_s ko (upd (ko_numbers ko) (ko_length ko).toNatClampNeg a0))).toNatClampNeg a1))) (ko_length (ko_as__s (ko_numbers_s ko (upd (ko_numbers ko) (ko_length ko).toNatClampNeg a0)) (upd (ko_as_ (ko_numbers_s ko (upd (ko_numbers ko) (ko_length ko).toNatClampNeg a0))) (ko_length (ko_numbers_s ko (upd (ko_numbers ko) (ko_length ko).toNatClampNeg a0))).toNatClampNeg a1))).toNatClampNeg a2))).toNatClampNeg a3)) ((ko_length (ko_cs_s (ko_bs_s (ko_as__s (ko_numbers_s ko (upd (ko_numbers ko) (ko_length ko).toNatClampNeg a0)) (upd (ko_as_ (ko_numbers_s ko (upd (ko_numbers ko) (ko_length ko).toNatClampNeg a0))) (ko_length (ko_numbers_s ko (upd (ko_numbers ko) (ko_length ko).toNatClampNeg a0))).toNatClampNeg a1)) (upd (ko_bs (ko_as__s (ko_numbers_s ko (upd (ko_numbers ko) (ko_length ko).toNatClampNeg a0)) (upd (ko_as_ (ko_numbers_s ko (upd (ko_numbers ko) (ko_length ko).toNatClampNeg a0))) (ko_length (ko_numbers_s ko (upd (ko_numbers ko) (ko_length ko).toNatClampNeg a0))).toNatClampNeg a1))) (ko_length (ko_as__s (ko_numbers_s ko (upd (ko_numbers ko) (ko_length ko).toNatClampNeg a0)) (upd (ko_as_ (ko_numbers_s ko (upd (ko_numbers ko) (ko_length ko).toNatClampNeg a0))) (ko_length (ko_numbers_s ko (upd (ko_numbers ko) (ko_length ko).toNatClampNeg a0))).toNatClampNeg a1))).toNatClampNeg a2)) (upd (ko_cs (ko_bs_s (ko_as__s (ko_numbers_s ko (upd (ko_numbers ko) (ko_length ko).toNatClampNeg a0)) (upd (ko_as_ (ko_numbers_s ko (upd (ko_numbers ko) (ko_length ko).toNatClampNeg a0))) (ko_length (ko_numbers_s ko (upd (ko_numbers ko) (ko_length ko).toNatClampNeg a0))).toNatClampNeg a1)) (upd (ko_bs (ko_as__s (ko_numbers_s ko (upd (ko_numbers ko) (ko_length ko).toNatClampNeg a0)) (upd (ko_as_ (ko_numbers_s ko (upd (ko_numbers ko) (ko_length ko).toNatClampNeg a0))) (ko_length (ko_numbers_s ko (upd (ko_numbers ko) (ko_length ko).toNatClampNeg a0))).toNatClampNeg a1))) (ko_length (ko_as__s (ko_numbers_s ko (upd (ko_numbers ko) (ko_length ko).toNatClampNeg a0)) (upd (ko_as_ (ko_numbers_s ko (upd (ko_numbers ko) (ko_length ko).toNatClampNeg a0))) (ko_length (ko_numbers_s ko (upd (ko_numbers ko) (ko_length ko).toNatClampNeg a0))).toNatClampNeg a1))).toNatClampNeg a2))) (ko_length (ko_bs_s (ko_as__s (ko_numbers_s ko (upd (ko_numbers ko) (ko_length ko).toNatClampNeg a0)) (upd (ko_as_ (ko_numbers_s ko (upd (ko_numbers ko) (ko_length ko).toNatClampNeg a0))) (ko_length (ko_numbers_s ko (upd (ko_numbers ko) (ko_length ko).toNatClampNeg a0))).toNatClampNeg a1)) (upd (ko_bs (ko_as__s (ko_numbers_s ko (upd (ko_numbers ko) (ko_length ko).toNatClampNeg a0)) (upd (ko_as_ (ko_numbers_s ko (upd (ko_numbers ko) (ko_length ko).toNatClampNeg a0))) (ko_length (ko_numbers_s ko (upd (ko_numbers ko) (ko_length ko).toNatClampNeg a0))).toNatClampNeg a1))) (ko_length (ko_as__s (ko_numbers_s ko (upd (ko_numbers ko) (ko_length ko).toNatClampNeg a0)) (upd (ko_as_ (ko_numbers_s ko (upd (ko_numbers ko) (ko_length ko).toNatClampNeg a0))) (ko_length (ko_numbers_s ko (upd (ko_numbers ko) (ko_length ko).toNatClampNeg a0))).toNatClampNeg a1))).toNatClampNeg a2))).toNatClampNeg a3))) + (1 : Int32)))) - (1 : Int32)).toNatClampNeg (v8 + (1 : Int32)))))))))))))
def rm_Co_appendInstruction : Jvm.Room := { frames := 1, cells := 0, slots := 0, locals := 20 }
set_option maxHeartbeats 4000000 in
set_option maxRecDepth 100000 in
theorem c_Co_appendInstruction {l : Launch} {D : va_G} {cI cL : ClassId} {ad : Nat → Nat} {ma : T_ma} {ko : T_ko} {sh : T_sh} {lo : T_lo} {de : T_de} {wa : T_wa} {me : T_me} {ru : T_ru} {ws0 : va_W} {sz n : Nat} {a0 : Int32} {a1 : Int32} {a2 : Int32} {a3 : Int32} {r9 : Int32} {ko9 : T_ko} (hw : ws0 = (wX cI cL ad ma ko sh lo de wa me ru)) (h : r_Co_appendInstruction n ko a0 a1 a2 a3 = some (r9, ko9)) : Met l y_Co_appendInstruction (Cond.code y_Co_appendInstruction b_Co_appendInstruction 5 (some .int) :: TB) rm_Co_appendInstruction (PreW D clX (tyX cI cL) ws0 [.ref (ad 1), .int a0, .int a1, .int a2, .int a3] sz) (PstI D clX (tyX cI cL) ws0 (wX cI cL ad ma (ko9) sh lo de wa me ru) sz r9) 0 0 (va_A ws0 sz) := by
  refine k_met (by decide) (Nat.le_of_ble_eq_true rfl) ?_
  intro p e s m below meth c ls hx hb hr hml hts hown hlk hnm hsz hP hK hD hA hz hl
  have hP : va_P D clX (wX cI cL ad ma ko sh lo de wa me ru) s.heap := by rw [← hw]; exact hP
  have hD : va_D (va_A ws0 sz) (wX cI cL ad ma ko sh lo de wa me ru) := by rw [← hw]; exact hD
  have hS : va_S (va_A ws0 sz) s.heap s.heap [] := va_S.rf
  have hl : lv_has ls 5 [(0, .ref (ad 1)), (1, .int a0), (2, .int a1), (3, .int a2), (4, .int a3)] := hl
  generalize hQ : MQ below (PstI D clX (tyX cI cL) ws0 (wX cI cL ad ma (ko9) sh lo de wa me ru) sz r9) [.ref (ad 1), .int a0, .int a1, .int a2, .int a3].toArray s 0 0 (va_A ws0 sz) = Q
  unfold r_Co_appendInstruction at h
  refine lv_aload_n hx hb d_Co_appendInstruction_0 rfl (lv_at hl 0 rfl) ?_
  obtain ⟨q1, hq1, h⟩ := Option.bind_eq_some_iff.mp h
  refine k_I (k_runV ⟨hx, hb, hml, hown, hts⟩ (c_Co_hasRoomForInstruction rfl hq1) ok_Co_hasRoomForInstruction is_Co_hasRoomForInstruction lk_311 rfl rfl ⟨by decide, by decide⟩ hP hK hD hS hA hz (ci := 1) (q0 := 1) rfl rfl ob_Co rfl hl.1 rfl (Nat.le_of_ble_eq_true rfl) d_Co_appendInstruction_1 ⟨Nat.zero_le _, Nat.zero_le _⟩) hD hS hA (fun H locs hP hD hS => ?_)
  refine lv_if_ne (tgt := 9) hx hb d_Co_appendInstruction_4 (by decide) (fun c2 => ?_) (fun c2 => ?_)
  · rw [if_neg c2] at h
    refine lv_aload_n hx hb d_Co_appendInstruction_9 rfl (lv_at hl 0 rfl) ?_
    refine rd_Co_numbers hx hb hts hown hK hP lk_32 d_Co_appendInstruction_10 ?_
    refine lv_aload_n hx hb d_Co_appendInstruction_13 rfl (lv_at hl 0 rfl) ?_
    refine rd_Co_length hx hb hts hown hK hP lk_37 (v := (ko_length ko)) rfl d_Co_appendInstruction_14 ?_
    refine lv_iload_n hx hb d_Co_appendInstruction_17 rfl (lv_at hl 1 rfl) ?_
    obtain ⟨hi3, h⟩ := ga_some h
    refine st_Co_numbers hx hb hK hP hD hS hi3 d_Co_appendInstruction_18 (fun H locs hP hD hS => ?_)
    refine lv_aload_n hx hb d_Co_appendInstruction_19 rfl (lv_at hl 0 rfl) ?_
    refine rd_Co_as_ hx hb hts hown hK hP lk_33 d_Co_appendInstruction_20 ?_
    refine lv_aload_n hx hb d_Co_appendInstruction_23 rfl (lv_at hl 0 rfl) ?_
    refine rd_Co_length hx hb hts hown hK hP lk_37 (v := (ko_length (ko_numbers_s ko (upd (ko_numbers ko) (ko_length ko).toNatClampNeg a0)))) rfl d_Co_appendInstruction_24 ?_
    refine lv_iload_n hx hb d_Co_appendInstruction_27 rfl (lv_at hl 2 rfl) ?_
    obtain ⟨hi4, h⟩ := ga_some h
    refine st_Co_as_ hx hb hK hP hD hS hi4 d_Co_appendInstruction_28 (fun H locs hP hD hS => ?_)
    refine lv_aload_n hx hb d_Co_appendInstruction_29 rfl (lv_at hl 0 rfl) ?_
    refine rd_Co_bs hx hb hts hown hK hP lk_34 d_Co_appendInstruction_30 ?_
    refine lv_aload_n hx hb d_Co_appendInstruction_33 rfl (lv_at hl 0 rfl) ?_
    refine rd_Co_length hx hb hts hown hK hP lk_37 (v := (ko_length (ko_as__s (ko_numbers_s ko (upd (ko_numbers ko) (ko_length ko).toNatClampNeg a0)) (upd (ko_as_ (ko_numbers_s ko (upd (ko_numbers ko) (ko_length ko).toNatClampNeg a0))) (ko_length (ko_numbers_s ko (upd (ko_numbers ko) (ko_length ko).toNatClampNeg a0))).toNatClampNeg a1)))) rfl d_Co_appendInstruction_34 ?_
    refine lv_iload_n hx hb d_Co_appendInstruction_37 rfl (lv_at hl 3 rfl) ?_
    obtain ⟨hi5, h⟩ := ga_some h
    refine st_Co_bs hx hb hK hP hD hS hi5 d_Co_appendInstruction_38 (fun H locs hP hD hS => ?_)
    refine lv_aload_n hx hb d_Co_appendInstruction_39 rfl (lv_at hl 0 rfl) ?_
    refine rd_Co_cs hx hb hts hown hK hP lk_35 d_Co_appendInstruction_40 ?_
    refine lv_aload_n hx hb d_Co_appendInstruction_43 rfl (lv_at hl 0 rfl) ?_
    refine rd_Co_length hx hb hts hown hK hP lk_37 (v := (ko_length (ko_bs_s (ko_as__s (ko_numbers_s ko (upd (ko_numbers ko) (ko_length ko).toNatClampNeg a0)) (upd (ko_as_ (ko_numbers_s ko (upd (ko_numbers ko) (ko_length ko).toNatClampNeg a0))) (ko_length (ko_numbers_s ko (upd (ko_numbers ko) (ko_length ko).toNatClampNeg a0))).toNatClampNeg a1)) (upd (ko_bs (ko_as__s (ko_numbers_s ko (upd (ko_numbers ko) (ko_length ko).toNatClampNeg a0)) (upd (ko_as_ (ko_numbers_s ko (upd (ko_numbers ko) (ko_length ko).toNatClampNeg a0))) (ko_length (ko_numbers_s ko (upd (ko_numbers ko) (ko_length ko).toNatClampNeg a0))).toNatClampNeg a1))) (ko_length (ko_as__s (ko_numbers_s ko (upd (ko_numbers ko) (ko_length ko).toNatClampNeg a0)) (upd (ko_as_ (ko_numbers_s ko (upd (ko_numbers ko) (ko_length ko).toNatClampNeg a0))) (ko_length (ko_numbers_s ko (upd (ko_numbers ko) (ko_length ko).toNatClampNeg a0))).toNatClampNeg a1))).toNatClampNeg a2)))) rfl d_Co_appendInstruction_44 ?_
    refine lv_iload hx hb d_Co_appendInstruction_47 (lv_at hl 4 rfl) ?_
    obtain ⟨hi6, h⟩ := ga_some h
    refine st_Co_cs hx hb hK hP hD hS hi6 d_Co_appendInstruction_49 (fun H locs hP hD hS => ?_)
    refine lv_aload_n hx hb d_Co_appendInstruction_50 rfl (lv_at hl 0 rfl) ?_
    refine lv_dup hx hb d_Co_appendInstruction_51 rfl ?_
    refine rd_Co_length hx hb hts hown hK hP lk_37 (v := (ko_length (ko_cs_s (ko_bs_s (ko_as__s (ko_numbers_s ko (upd (ko_numbers ko) (ko_length ko).toNatClampNeg a0)) (upd (ko_as_ (ko_numbers_s ko (upd (ko_numbers ko) (ko_length ko).toNatClampNeg a0))) (ko_length (ko_numbers_s ko (upd (ko_numbers ko) (ko_length ko).toNatClampNeg a0))).toNatClampNeg a1)) (upd (ko_bs (ko_as__s (ko_numbers_s ko (upd (ko_numbers ko) (ko_length ko).toNatClampNeg a0)) (upd (ko_as_ (ko_numbers_s ko (upd (ko_numbers ko) (ko_length ko).toNatClampNeg a0))) (ko_length (ko_numbers_s ko (upd (ko_numbers ko) (ko_length ko).toNatClampNeg a0))).toNatClampNeg a1))) (ko_length (ko_as__s (ko_numbers_s ko (upd (ko_numbers ko) (ko_length ko).toNatClampNeg a0)) (upd (ko_as_ (ko_numbers_s ko (upd (ko_numbers ko) (ko_length ko).toNatClampNeg a0))) (ko_length (ko_numbers_s ko (upd (ko_numbers ko) (ko_length ko).toNatClampNeg a0))).toNatClampNeg a1))).toNatClampNeg a2)) (upd (ko_cs (ko_bs_s (ko_as__s (ko_numbers_s ko (upd (ko_numbers ko) (ko_length ko).toNatClampNeg a0)) (upd (ko_as_ (ko_numbers_s ko (upd (ko_numbers ko) (ko_length ko).toNatClampNeg a0))) (ko_length (ko_numbers_s ko (upd (ko_numbers ko) (ko_length ko).toNatClampNeg a0))).toNatClampNeg a1)) (upd (ko_bs (ko_as__s (ko_numbers_s ko (upd (ko_numbers ko) (ko_length ko).toNatClampNeg a0)) (upd (ko_as_ (ko_numbers_s ko (upd (ko_numbers ko) (ko_length ko).toNatClampNeg a0))) (ko_length (ko_numbers_s ko (upd (ko_numbers ko) (ko_length ko).toNatClampNeg a0))).toNatClampNeg a1))) (ko_length (ko_as__s (ko_numbers_s ko (upd (ko_numbers ko) (ko_length ko).toNatClampNeg a0)) (upd (ko_as_ (ko_numbers_s ko (upd (ko_numbers ko) (ko_length ko).toNatClampNeg a0))) (ko_length (ko_numbers_s ko (upd (ko_numbers ko) (ko_length ko).toNatClampNeg a0))).toNatClampNeg a1))).toNatClampNeg a2))) (ko_length (ko_bs_s (ko_as__s (ko_numbers_s ko (upd (ko_numbers ko) (ko_length ko).toNatClampNeg a0)) (upd (ko_as_ (ko_numbers_s ko (upd (ko_numbers ko) (ko_length ko).toNatClampNeg a0))) (ko_length (ko_numbers_s ko (upd (ko_numbers ko) (ko_length ko).toNatClampNeg a0))).toNatClampNeg a1)) (upd (ko_bs (ko_as__s (ko_numbers_s ko (upd (ko_numbers ko) (ko_length ko).toNatClampNeg a0)) (upd (ko_as_ (ko_numbers_s ko (upd (ko_numbers ko) (ko_length ko).toNatClampNeg a0))) (ko_length (ko_numbers_s ko (upd (ko_numbers ko) (ko_length ko).toNatClampNeg a0))).toNatClampNeg a1))) (ko_length (ko_as__s (ko_numbers_s ko (upd (ko_numbers ko) (ko_length ko).toNatClampNeg a0)) (upd (ko_as_ (ko_numbers_s ko (upd (ko_numbers ko) (ko_length ko).toNatClampNeg a0))) (ko_length (ko_numbers_s ko (upd (ko_numbers ko) (ko_length ko).toNatClampNeg a0))).toNatClampNeg a1))).toNatClampNeg a2))).toNatClampNeg a3)))) rfl d_Co_appendInstruction_52 ?_
    refine lv_iconst (v := 1) hx hb d_Co_appendInstruction_55 (by decide) ?_
    refine lv_iadd hx hb d_Co_appendInstruction_56 ?_
    refine wr_Co_length hx hb hts hown hK hP hD hS lk_37 d_Co_appendInstruction_57 (fun H locs hP hD hS => ?_)
    refine lv_aload_n hx hb d_Co_appendInstruction_60 rfl (lv_at hl 0 rfl) ?_
    refine rd_Co_sizes hx hb hts hown hK hP lk_31 d_Co_appendInstruction_61 ?_
    refine lv_aload_n hx hb d_Co_appendInstruction_64 rfl (lv_at hl 0 rfl) ?_
    refine rd_Co_units hx hb hts hown hK hP lk_36 (v := (ko_units (ko_length_s (ko_cs_s (ko_bs_s (ko_as__s (ko_numbers_s ko (upd (ko_numbers ko) (ko_length ko).toNatClampNeg a0)) (upd (ko_as_ (ko_numbers_s ko (upd (ko_numbers ko) (ko_length ko).toNatClampNeg a0))) (ko_length (ko_numbers_s ko (upd (ko_numbers ko) (ko_length ko).toNatClampNeg a0))).toNatClampNeg a1)) (upd (ko_bs (ko_as__s (ko_numbers_s ko (upd (ko_numbers ko) (ko_length ko).toNatClampNeg a0)) (upd (ko_as_ (ko_numbers_s ko (upd (ko_numbers ko) (ko_length ko).toNatClampNeg a0))) (ko_length (ko_numbers_s ko (upd (ko_numbers ko) (ko_length ko).toNatClampNeg a0))).toNatClampNeg a1))) (ko_length (ko_as__s (ko_numbers_s ko (upd (ko_numbers ko) (ko_length ko).toNatClampNeg a0)) (upd (ko_as_ (ko_numbers_s ko (upd (ko_numbers ko) (ko_length ko).toNatClampNeg a0))) (ko_length (ko_numbers_s ko (upd (ko_numbers ko) (ko_length ko).toNatClampNeg a0))).toNatClampNeg a1))).toNatClampNeg a2)) (upd (ko_cs (ko_bs_s (ko_as__s (ko_numbers_s ko (upd (ko_numbers ko) (ko_length ko).toNatClampNeg a0)) (upd (ko_as_ (ko_numbers_s ko (upd (ko_numbers ko) (ko_length ko).toNatClampNeg a0))) (ko_length (ko_numbers_s ko (upd (ko_numbers ko) (ko_length ko).toNatClampNeg a0))).toNatClampNeg a1)) (upd (ko_bs (ko_as__s (ko_numbers_s ko (upd (ko_numbers ko) (ko_length ko).toNatClampNeg a0)) (upd (ko_as_ (ko_numbers_s ko (upd (ko_numbers ko) (ko_length ko).toNatClampNeg a0))) (ko_length (ko_numbers_s ko (upd (ko_numbers ko) (ko_length ko).toNatClampNeg a0))).toNatClampNeg a1))) (ko_length (ko_as__s (ko_numbers_s ko (upd (ko_numbers ko) (ko_length ko).toNatClampNeg a0)) (upd (ko_as_ (ko_numbers_s ko (upd (ko_numbers ko) (ko_length ko).toNatClampNeg a0))) (ko_length (ko_numbers_s ko (upd (ko_numbers ko) (ko_length ko).toNatClampNeg a0))).toNatClampNeg a1))).toNatClampNeg a2))) (ko_length (ko_bs_s (ko_as__s (ko_numbers_s ko (upd (ko_numbers ko) (ko_length ko).toNatClampNeg a0)) (upd (ko_as_ (ko_numbers_s ko (upd (ko_numbers ko) (ko_length ko).toNatClampNeg a0))) (ko_length (ko_numbers_s ko (upd (ko_numbers ko) (ko_length ko).toNatClampNeg a0))).toNatClampNeg a1)) (upd (ko_bs (ko_as__s (ko_numbers_s ko (upd (ko_numbers ko) (ko_length ko).toNatClampNeg a0)) (upd (ko_as_ (ko_numbers_s ko (upd (ko_numbers ko) (ko_length ko).toNatClampNeg a0))) (ko_length (ko_numbers_s ko (upd (ko_numbers ko) (ko_length ko).toNatClampNeg a0))).toNatClampNeg a1))) (ko_length (ko_as__s (ko_numbers_s ko (upd (ko_numbers ko) (ko_length ko).toNatClampNeg a0)) (upd (ko_as_ (ko_numbers_s ko (upd (ko_numbers ko) (ko_length ko).toNatClampNeg a0))) (ko_length (ko_numbers_s ko (upd (ko_numbers ko) (ko_length ko).toNatClampNeg a0))).toNatClampNeg a1))).toNatClampNeg a2))).toNatClampNeg a3)) ((ko_length (ko_cs_s (ko_bs_s (ko_as__s (ko_numbers_s ko (upd (ko_numbers ko) (ko_length ko).toNatClampNeg a0)) (upd (ko_as_ (ko_numbers_s ko (upd (ko_numbers ko) (ko_length ko).toNatClampNeg a0))) (ko_length (ko_numbers_s ko (upd (ko_numbers ko) (ko_length ko).toNatClampNeg a0))).toNatClampNeg a1)) (upd (ko_bs (ko_as__s (ko_numbers_s ko (upd (ko_numbers ko) (ko_length ko).toNatClampNeg a0)) (upd (ko_as_ (ko_numbers_s ko (upd (ko_numbers ko) (ko_length ko).toNatClampNeg a0))) (ko_length (ko_numbers_s ko (upd (ko_numbers ko) (ko_length ko).toNatClampNeg a0))).toNatClampNeg a1))) (ko_length (ko_as__s (ko_numbers_s ko (upd (ko_numbers ko) (ko_length ko).toNatClampNeg a0)) (upd (ko_as_ (ko_numbers_s ko (upd (ko_numbers ko) (ko_length ko).toNatClampNeg a0))) (ko_length (ko_numbers_s ko (upd (ko_numbers ko) (ko_length ko).toNatClampNeg a0))).toNatClampNeg a1))).toNatClampNeg a2)) (upd (ko_cs (ko_bs_s (ko_as__s (ko_numbers_s ko (upd (ko_numbers ko) (ko_length ko).toNatClampNeg a0)) (upd (ko_as_ (ko_numbers_s ko (upd (ko_numbers ko) (ko_length ko).toNatClampNeg a0))) (ko_length (ko_numbers_s ko (upd (ko_numbers ko) (ko_length ko).toNatClampNeg a0))).toNatClampNeg a1)) (upd (ko_bs (ko_as__s (ko_numbers_s ko (upd (ko_numbers ko) (ko_length ko).toNatClampNeg a0)) (upd (ko_as_ (ko_numbers_s ko (upd (ko_numbers ko) (ko_length ko).toNatClampNeg a0))) (ko_length (ko_numbers_s ko (upd (ko_numbers ko) (ko_length ko).toNatClampNeg a0))).toNatClampNeg a1))) (ko_length (ko_as__s (ko_numbers_s ko (upd (ko_numbers ko) (ko_length ko).toNatClampNeg a0)) (upd (ko_as_ (ko_numbers_s ko (upd (ko_numbers ko) (ko_length ko).toNatClampNeg a0))) (ko_length (ko_numbers_s ko (upd (ko_numbers ko) (ko_length ko).toNatClampNeg a0))).toNatClampNeg a1))).toNatClampNeg a2))) (ko_length (ko_bs_s (ko_as__s (ko_numbers_s ko (upd (ko_numbers ko) (ko_length ko).toNatClampNeg a0)) (upd (ko_as_ (ko_numbers_s ko (upd (ko_numbers ko) (ko_length ko).toNatClampNeg a0))) (ko_length (ko_numbers_s ko (upd (ko_numbers ko) (ko_length ko).toNatClampNeg a0))).toNatClampNeg a1)) (upd (ko_bs (ko_as__s (ko_numbers_s ko (upd (ko_numbers ko) (ko_length ko).toNatClampNeg a0)) (upd (ko_as_ (ko_numbers_s ko (upd (ko_numbers ko) (ko_length ko).toNatClampNeg a0))) (ko_length (ko_numbers_s ko (upd (ko_numbers ko) (ko_length ko).toNatClampNeg a0))).toNatClampNeg a1))) (ko_length (ko_as__s (ko_numbers_s ko (upd (ko_numbers ko) (ko_length ko).toNatClampNeg a0)) (upd (ko_as_ (ko_numbers_s ko (upd (ko_numbers ko) (ko_length ko).toNatClampNeg a0))) (ko_length (ko_numbers_s ko (upd (ko_numbers ko) (ko_length ko).toNatClampNeg a0))).toNatClampNeg a1))).toNatClampNeg a2))).toNatClampNeg a3))) + (1 : Int32))))) rfl d_Co_appendInstruction_65 ?_
    refine lv_iconst (v := 1) hx hb d_Co_appendInstruction_68 (by decide) ?_
    refine lv_isub hx hb d_Co_appendInstruction_69 ?_
    refine lv_dup2_11 hx hb d_Co_appendInstruction_70 rfl rfl ?_
    obtain ⟨hi7, v8, ev8, h⟩ := gr_some h
    refine ld_Co_sizes hx hb hK hP hi7 ev8 d_Co_appendInstruction_71 ?_
    refine lv_iconst (v := 1) hx hb d_Co_appendInstruction_72 (by decide) ?_
    refine lv_iadd hx hb d_Co_appendInstruction_73 ?_
    obtain ⟨hi9, h⟩ := ga_some h
    refine st_Co_sizes hx hb hK hP hD hS hi9 d_Co_appendInstruction_74 (fun H locs hP hD hS => ?_)
    refine lv_aload_n hx hb d_Co_appendInstruction_75 rfl (lv_at hl 0 rfl) ?_
    refine rd_Co_sizes hx hb hts hown hK hP lk_31 d_Co_appendInstruction_76 ?_
    refine lv_aload_n hx hb d_Co_appendInstruction_79 rfl (lv_at hl 0 rfl) ?_
    refine rd_Co_units hx hb hts hown hK hP lk_36 (v := (ko_units (ko_sizes_s (ko_length_s (ko_cs_s (ko_bs_s (ko_as__s (ko_numbers_s ko (upd (ko_numbers ko) (ko_length ko).toNatClampNeg a0)) (upd (ko_as_ (ko_numbers_s ko (upd (ko_numbers ko) (ko_length ko).toNatClampNeg a0))) (ko_length (ko_numbers_s ko (upd (ko_numbers ko) (ko_length ko).toNatClampNeg a0))).toNatClampNeg a1)) (upd (ko_bs (ko_as__s (ko_numbers_s ko (upd (ko_numbers ko) (ko_length ko).toNatClampNeg a0)) (upd (ko_as_ (ko_numbers_s ko (upd (ko_numbers ko) (ko_length ko).toNatClampNeg a0))) (ko_length (ko_numbers_s ko (upd (ko_numbers ko) (ko_length ko).toNatClampNeg a0))).toNatClampNeg a1))) (ko_length (ko_as__s (ko_numbers_s ko (upd (ko_numbers ko) (ko_length ko).toNatClampNeg a0)) (upd (ko_as_ (ko_numbers_s ko (upd (ko_numbers ko) (ko_length ko).toNatClampNeg a0))) (ko_length (ko_numbers_s ko (upd (ko_numbers ko) (ko_length ko).toNatClampNeg a0))).toNatClampNeg a1))).toNatClampNeg a2)) (upd (ko_cs (ko_bs_s (ko_as__s (ko_numbers_s ko (upd (ko_numbers ko) (ko_length ko).toNatClampNeg a0)) (upd (ko_as_ (ko_numbers_s ko (upd (ko_numbers ko) (ko_length ko).toNatClampNeg a0))) (ko_length (ko_numbers_s ko (upd (ko_numbers ko) (ko_length ko).toNatClampNeg a0))).toNatClampNeg a1)) (upd (ko_bs (ko_as__s (ko_numbers_s ko (upd (ko_numbers ko) (ko_length ko).toNatClampNeg a0)) (upd (ko_as_ (ko_numbers_s ko (upd (ko_numbers ko) (ko_length ko).toNatClampNeg a0))) (ko_length (ko_numbers_s ko (upd (ko_numbers ko) (ko_length ko).toNatClampNeg a0))).toNatClampNeg a1))) (ko_length (ko_as__s (ko_numbers_s ko (upd (ko_numbers ko) (ko_length ko).toNatClampNeg a0)) (upd (ko_as_ (ko_numbers_s ko (upd (ko_numbers ko) (ko_length ko).toNatClampNeg a0))) (ko_length (ko_numbers_s ko (upd (ko_numbers ko) (ko_length ko).toNatClampNeg a0))).toNatClampNeg a1))).toNatClampNeg a2))) (ko_length (ko_bs_s (ko_as__s (ko_numbers_s ko (upd (ko_numbers ko) (ko_length ko).toNatClampNeg a0)) (upd (ko_as_ (ko_numbers_s ko (upd (ko_numbers ko) (ko_length ko).toNatClampNeg a0))) (ko_length (ko_numbers_s ko (upd (ko_numbers ko) (ko_length ko).toNatClampNeg a0))).toNatClampNeg a1)) (upd (ko_bs (ko_as__s (ko_numbers_s ko (upd (ko_numbers ko) (ko_length ko).toNatClampNeg a0)) (upd (ko_as_ (ko_numbers_s ko (upd (ko_numbers ko) (ko_length ko).toNatClampNeg a0))) (ko_length (ko_numbers_s ko (upd (ko_numbers ko) (ko_length ko).toNatClampNeg a0))).toNatClampNeg a1))) (ko_length (ko_as__s (ko_numbers_s ko (upd (ko_numbers ko) (ko_length ko).toNatClampNeg a0)) (upd (ko_as_ (ko_numbers_s ko (upd (ko_numbers ko) (ko_length ko).toNatClampNeg a0))) (ko_length (ko_numbers_s ko (upd (ko_numbers ko) (ko_length ko).toNatClampNeg a0))).toNatClampNeg a1))).toNatClampNeg a2))).toNatClampNeg a3)) ((ko_length (ko_cs_s (ko_bs_s (ko_as__s (ko_numbers_s ko (upd (ko_numbers ko) (ko_length ko).toNatClampNeg a0)) (upd (ko_as_ (ko_numbers_s ko (upd (ko_numbers ko) (ko_length ko).toNatClampNeg a0))) (ko_length (ko_numbers_s ko (upd (ko_numbers ko) (ko_length ko).toNatClampNeg a0))).toNatClampNeg a1)) (upd (ko_bs (ko_as__s (ko_numbers_s ko (upd (ko_numbers ko) (ko_length ko).toNatClampNeg a0)) (upd (ko_as_ (ko_numbers_s ko (upd (ko_numbers ko) (ko_length ko).toNatClampNeg a0))) (ko_length (ko_numbers_s ko (upd (ko_numbers ko) (ko_length ko).toNatClampNeg a0))).toNatClampNeg a1))) (ko_length (ko_as__s (ko_numbers_s ko (upd (ko_numbers ko) (ko_length ko).toNatClampNeg a0)) (upd (ko_as_ (ko_numbers_s ko (upd (ko_numbers ko) (ko_length ko).toNatClampNeg a0))) (ko_length (ko_numbers_s ko (upd (ko_numbers ko) (ko_length ko).toNatClampNeg a0))).toNatClampNeg a1))).toNatClampNeg a2)) (upd (ko_cs (ko_bs_s (ko_as__s (ko_numbers_s ko (upd (ko_numbers ko) (ko_length ko).toNatClampNeg a0)) (upd (ko_as_ (ko_numbers_s ko (upd (ko_numbers ko) (ko_length ko).toNatClampNeg a0))) (ko_length (ko_numbers_s ko (upd (ko_numbers ko) (ko_length ko).toNatClampNeg a0))).toNatClampNeg a1)) (upd (ko_bs (ko_as__s (ko_numbers_s ko (upd (ko_numbers ko) (ko_length ko).toNatClampNeg a0)) (upd (ko_as_ (ko_numbers_s ko (upd (ko_numbers ko) (ko_length ko).toNatClampNeg a0))) (ko_length (ko_numbers_s ko (upd (ko_numbers ko) (ko_length ko).toNatClampNeg a0))).toNatClampNeg a1))) (ko_length (ko_as__s (ko_numbers_s ko (upd (ko_numbers ko) (ko_length ko).toNatClampNeg a0)) (upd (ko_as_ (ko_numbers_s ko (upd (ko_numbers ko) (ko_length ko).toNatClampNeg a0))) (ko_length (ko_numbers_s ko (upd (ko_numbers ko) (ko_length ko).toNatClampNeg a0))).toNatClampNeg a1))).toNatClampNeg a2))) (ko_length (ko_bs_s (ko_as__s (ko_numbers_s ko (upd (ko_numbers ko) (ko_length ko).toNatClampNeg a0)) (upd (ko_as_ (ko_numbers_s ko (upd (ko_numbers ko) (ko_length ko).toNatClampNeg a0))) (ko_length (ko_numbers_s ko (upd (ko_numbers ko) (ko_length ko).toNatClampNeg a0))).toNatClampNeg a1)) (upd (ko_bs (ko_as__s (ko_numbers_s ko (upd (ko_numbers ko) (ko_length ko).toNatClampNeg a0)) (upd (ko_as_ (ko_numbers_s ko (upd (ko_numbers ko) (ko_length ko).toNatClampNeg a0))) (ko_length (ko_numbers_s ko (upd (ko_numbers ko) (ko_length ko).toNatClampNeg a0))).toNatClampNeg a1))) (ko_length (ko_as__s (ko_numbers_s ko (upd (ko_numbers ko) (ko_length ko).toNatClampNeg a0)) (upd (ko_as_ (ko_numbers_s ko (upd (ko_numbers ko) (ko_length ko).toNatClampNeg a0))) (ko_length (ko_numbers_s ko (upd (ko_numbers ko) (ko_length ko).toNatClampNeg a0))).toNatClampNeg a1))).toNatClampNeg a2))).toNatClampNeg a3))) + (1 : Int32))) (upd (ko_sizes (ko_length_s (ko_cs_s (ko_bs_s (ko_as__s (ko_numbers_s ko (upd (ko_numbers ko) (ko_length ko).toNatClampNeg a0)) (upd (ko_as_ (ko_numbers_s ko (upd (ko_numbers ko) (ko_length ko).toNatClampNeg a0))) (ko_length (ko_numbers_s ko (upd (ko_numbers ko) (ko_length ko).toNatClampNeg a0))).toNatClampNeg a1)) (upd (ko_bs (ko_as__s (ko_numbers_s ko (upd (ko_numbers ko) (ko_length ko).toNatClampNeg a0)) (upd (ko_as_ (ko_numbers_s ko (upd (ko_numbers ko) (ko_length ko).toNatClampNeg a0))) (ko_length (ko_numbers_s ko (upd (ko_numbers ko) (ko_length ko).toNatClampNeg a0))).toNatClampNeg a1))) (ko_length (ko_as__s (ko_numbers_s ko (upd (ko_numbers ko) (ko_length ko).toNatClampNeg a0)) (upd (ko_as_ (ko_numbers_s ko (upd (ko_numbers ko) (ko_length ko).toNatClampNeg a0))) (ko_length (ko_numbers_s ko (upd (ko_numbers ko) (ko_length ko).toNatClampNeg a0))).toNatClampNeg a1))).toNatClampNeg a2)) (upd (ko_cs (ko_bs_s (ko_as__s (ko_numbers_s ko (upd (ko_numbers ko) (ko_length ko).toNatClampNeg a0)) (upd (ko_as_ (ko_numbers_s ko (upd (ko_numbers ko) (ko_length ko).toNatClampNeg a0))) (ko_length (ko_numbers_s ko (upd (ko_numbers ko) (ko_length ko).toNatClampNeg a0))).toNatClampNeg a1)) (upd (ko_bs (ko_as__s (ko_numbers_s ko (upd (ko_numbers ko) (ko_length ko).toNatClampNeg a0)) (upd (ko_as_ (ko_numbers_s ko (upd (ko_numbers ko) (ko_length ko).toNatClampNeg a0))) (ko_length (ko_numbers_s ko (upd (ko_numbers ko) (ko_length ko).toNatClampNeg a0))).toNatClampNeg a1))) (ko_length (ko_as__s (ko_numbers_s ko (upd (ko_numbers ko) (ko_length ko).toNatClampNeg a0)) (upd (ko_as_ (ko_numbers_s ko (upd (ko_numbers ko) (ko_length ko).toNatClampNeg a0))) (ko_length (ko_numbers_s ko (upd (ko_numbers ko) (ko_length ko).toNatClampNeg a0))).toNatClampNeg a1))).toNatClampNeg a2))) (ko_length (ko_bs_s (ko_as__s (ko_numbers_s ko (upd (ko_numbers ko) (ko_length ko).toNatClampNeg a0)) (upd (ko_as_ (ko_numbers_s ko (upd (ko_numbers ko) (ko_length ko).toNatClampNeg a0))) (ko_length (ko_numbers_s ko (upd (ko_numbers ko) (ko_length ko).toNatClampNeg a0))).toNatClampNeg a1)) (upd (ko_bs (ko_as__s (ko_numbers_s ko (upd (ko_numbers ko) (ko_length ko).toNatClampNeg a0)) (upd (ko_as_ (ko_numbers_s ko (upd (ko_numbers ko) (ko_length ko).toNatClampNeg a0))) (ko_length (ko_numbers_s ko (upd (ko_numbers ko) (ko_length ko).toNatClampNeg a0))).toNatClampNeg a1))) (ko_length (ko_as__s (ko_numbers_s ko (upd (ko_numbers ko) (ko_length ko).toNatClampNeg a0)) (upd (ko_as_ (ko_numbers_s ko (upd (ko_numbers ko) (ko_length ko).toNatClampNeg a0))) (ko_length (ko_numbers_s ko (upd (ko_numbers ko) (ko_length ko).toNatClampNeg a0))).toNatClampNeg a1))).toNatClampNeg a2))).toNatClampNeg a3)) ((ko_length (ko_cs_s (ko_bs_s (ko_as__s (ko_numbers_s ko (upd (ko_numbers ko) (ko_length ko).toNatClampNeg a0)) (upd (ko_as_ (ko_numbers_s ko (upd (ko_numbers ko) (ko_length ko).toNatClampNeg a0))) (ko_length (ko_numbers_s ko (upd (ko_numbers ko) (ko_length ko).toNatClampNeg a0))).toNatClampNeg a1)) (upd (ko_bs (ko_as__s (ko_numbers_s ko (upd (ko_numbers ko) (ko_length ko).toNatClampNeg a0)) (upd (ko_as_ (ko_numbers_s ko (upd (ko_numbers ko) (ko_length ko).toNatClampNeg a0))) (ko_length (ko_numbers_s ko (upd (ko_numbers ko) (ko_length ko).toNatClampNeg a0))).toNatClampNeg a1))) (ko_length (ko_as__s (ko_numbers_s ko (upd (ko_numbers ko) (ko_length ko).toNatClampNeg a0)) (upd (ko_as_ (ko_numbers_s ko (upd (ko_numbers ko) (ko_length ko).toNatClampNeg a0))) (ko_length (ko_numbers_s ko (upd (ko_numbers ko) (ko_length ko).toNatClampNeg a0))).toNatClampNeg a1))).toNatClampNeg a2)) (upd (ko_cs (ko_bs_s (ko_as__s (ko_numbers_s ko (upd (ko_numbers ko) (ko_length ko).toNatClampNeg a0)) (upd (ko_as_ (ko_numbers_s ko (upd (ko_numbers ko) (ko_length ko).toNatClampNeg a0))) (ko_length (ko_numbers_s ko (upd (ko_numbers ko) (ko_length ko).toNatClampNeg a0))).toNatClampNeg a1)) (upd (ko_bs (ko_as__s (ko_numbers_s ko (upd (ko_numbers ko) (ko_length ko).toNatClampNeg a0)) (upd (ko_as_ (ko_numbers_s ko (upd (ko_numbers ko) (ko_length ko).toNatClampNeg a0))) (ko_length (ko_numbers_s ko (upd (ko_numbers ko) (ko_length ko).toNatClampNeg a0))).toNatClampNeg a1))) (ko_length (ko_as__s (ko_numbers_s ko (upd (ko_numbers ko) (ko_length ko).toNatClampNeg a0)) (upd (ko_as_ (ko_numbers_s ko (upd (ko_numbers ko) (ko_length ko).toNatClampNeg a0))) (ko_length (ko_numbers_s ko (upd (ko_numbers ko) (ko_length ko).toNatClampNeg a0))).toNatClampNeg a1))).toNatClampNeg a2))) (ko_length (ko_bs_s (ko_as__s (ko_numbers_s ko (upd (ko_numbers ko) (ko_length ko).toNatClampNeg a0)) (upd (ko_as_ (ko_numbers_s ko (upd (ko_numbers ko) (ko_length ko).toNatClampNeg a0))) (ko_length (ko_numbers_s ko (upd (ko_numbers ko) (ko_length ko).toNatClampNeg a0))).toNatClampNeg a1)) (upd (ko_bs (ko_as__s (ko_numbers_s ko (upd (ko_numbers ko) (ko_length ko).toNatClampNeg a0)) (upd (ko_as_ (ko_numbers_s ko (upd (ko_numbers ko) (ko_length ko).toNatClampNeg a0))) (ko_length (ko_numbers_s ko (upd (ko_numbers ko) (ko_length ko).toNatClampNeg a0))).toNatClampNeg a1))) (ko_length (ko_as__s (ko_numbers_s ko (upd (ko_numbers ko) (ko_length ko).toNatClampNeg a0)) (upd (ko_as_ (ko_numbers_s ko (upd (ko_numbers ko) (ko_length ko).toNatClampNeg a0))) (ko_length (ko_numbers_s ko (upd (ko_numbers ko) (ko_length ko).toNatClampNeg a0))).toNatClampNeg a1))).toNatClampNeg a2))).toNatClampNeg a3))) + (1 : Int32)))) ((ko_units (ko_length_s (ko_cs_s (ko_bs_s (ko_as__s (ko_numbers_s ko (upd (ko_numbers ko) (ko_length ko).toNatClampNeg a0)) (upd (ko_as_ (ko_numbers_s ko (upd (ko_numbers ko) (ko_length ko).toNatClampNeg a0))) (ko_length (ko_numbers_s ko (upd (ko_numbers ko) (ko_length ko).toNatClampNeg a0))).toNatClampNeg a1)) (upd (ko_bs (ko_as__s (ko_numbers_s ko (upd (ko_numbers ko) (ko_length ko).toNatClampNeg a0)) (upd (ko_as_ (ko_numbers_s ko (upd (ko_numbers ko) (ko_length ko).toNatClampNeg a0))) (ko_length (ko_numbers_s ko (upd (ko_numbers ko) (ko_length ko).toNatClampNeg a0))).toNatClampNeg a1))) (ko_length (ko_as__s (ko_numbers_s ko (upd (ko_numbers ko) (ko_length ko).toNatClampNeg a0)) (upd (ko_as_ (ko_numbers_s ko (upd (ko_numbers ko) (ko_length ko).toNatClampNeg a0))) (ko_length (ko_numbers_s ko (upd (ko_numbers ko) (ko_length ko).toNatClampNeg a0))).toNatClampNeg a1))).toNatClampNeg a2)) (upd (ko_cs (ko_bs_s (ko_as__s (ko_numbers_s ko (upd (ko_numbers ko) (ko_length ko).toNatClampNeg a0)) (upd (ko_as_ (ko_numbers_s ko (upd (ko_numbers ko) (ko_length ko).toNatClampNeg a0))) (ko_length (ko_numbers_s ko (upd (ko_numbers ko) (ko_length ko).toNatClampNeg a0))).toNatClampNeg a1)) (upd (ko_bs (ko_as__s (ko_numbers_s ko (upd (ko_numbers ko) (ko_length ko).toNatClampNeg a0)) (upd (ko_as_ (ko_numbers_s ko (upd (ko_numbers ko) (ko_length ko).toNatClampNeg a0))) (ko_length (ko_numbers_s ko (upd (ko_numbers ko) (ko_length ko).toNatClampNeg a0))).toNatClampNeg a1))) (ko_length (ko_as__s (ko_numbers_s ko (upd (ko_numbers ko) (ko_length ko).toNatClampNeg a0)) (upd (ko_as_ (ko_numbers_s ko (upd (ko_numbers ko) (ko_length ko).toNatClampNeg a0))) (ko_length (ko_numbers_s ko (upd (ko_numbers ko) (ko_length ko).toNatClampNeg a0))).toNatClampNeg a1))).toNatClampNeg a2))) (ko_length (ko_bs_s (ko_as__s (ko_numbers_s ko (upd (ko_numbers ko) (ko_length ko).toNatClampNeg a0)) (upd (ko_as_ (ko_numbers_s ko (upd (ko_numbers ko) (ko_length ko).toNatClampNeg a0))) (ko_length (ko_numbers_s ko (upd (ko_numbers ko) (ko_length ko).toNatClampNeg a0))).toNatClampNeg a1)) (upd (ko_bs (ko_as__s (ko_numbers_s ko (upd (ko_numbers ko) (ko_length ko).toNatClampNeg a0)) (upd (ko_as_ (ko_numbers_s ko (upd (ko_numbers ko) (ko_length ko).toNatClampNeg a0))) (ko_length (ko_numbers_s ko (upd (ko_numbers ko) (ko_length ko).toNatClampNeg a0))).toNatClampNeg a1))) (ko_length (ko_as__s (ko_numbers_s ko (upd (ko_numbers ko) (ko_length ko).toNatClampNeg a0)) (upd (ko_as_ (ko_numbers_s ko (upd (ko_numbers ko) (ko_length ko).toNatClampNeg a0))) (ko_length (ko_numbers_s ko (upd (ko_numbers ko) (ko_length ko).toNatClampNeg a0))).toNatClampNeg a1))).toNatClampNeg a2))).toNatClampNeg a3)) ((ko_length (ko_cs_s (ko_bs_s (ko_as__s (ko_numbers_s ko (upd (ko_numbers ko) (ko_length ko).toNatClampNeg a0)) (upd (ko_as_ (ko_numbers_s ko (upd (ko_numbers ko) (ko_length ko).toNatClampNeg a0))) (ko_length (ko_numbers_s ko (upd (ko_numbers ko) (ko_length ko).toNatClampNeg a0))).toNatClampNeg a1)) (upd (ko_bs (ko_as__s (ko_numbers_s ko (upd (ko_numbers ko) (ko_length ko).toNatClampNeg a0)) (upd (ko_as_ (ko_numbers_s ko (upd (ko_numbers ko) (ko_length ko).toNatClampNeg a0))) (ko_length (ko_numbers_s ko (upd (ko_numbers ko) (ko_length ko).toNatClampNeg a0))).toNatClampNeg a1))) (ko_length (ko_as__s (ko_numbers_s ko (upd (ko_numbers ko) (ko_length ko).toNatClampNeg a0)) (upd (ko_as_ (ko_numbers_s ko (upd (ko_numbers ko) (ko_length ko).toNatClampNeg a0))) (ko_length (ko_numbers_s ko (upd (ko_numbers ko) (ko_length ko).toNatClampNeg a0))).toNatClampNeg a1))).toNatClampNeg a2)) (upd (ko_cs (ko_bs_s (ko_as__s (ko_numbers_s ko (upd (ko_numbers ko) (ko_length ko).toNatClampNeg a0)) (upd (ko_as_ (ko_numbers_s ko (upd (ko_numbers ko) (ko_length ko).toNatClampNeg a0))) (ko_length (ko_numbers_s ko (upd (ko_numbers ko) (ko_length ko).toNatClampNeg a0))).toNatClampNeg a1)) (upd (ko_bs (ko_as__s (ko_numbers_s ko (upd (ko_numbers ko) (ko_length ko).toNatClampNeg a0)) (upd (ko_as_ (ko_numbers_s ko (upd (ko_numbers ko) (ko_length ko).toNatClampNeg a0))) (ko_length (ko_numbers_s ko (upd (ko_numbers ko) (ko_length ko).toNatClampNeg a0))).toNatClampNeg a1))) (ko_length (ko_as__s (ko_numbers_s ko (upd (ko_numbers ko) (ko_length ko).toNatClampNeg a0)) (upd (ko_as_ (ko_numbers_s ko (upd (ko_numbers ko) (ko_length ko).toNatClampNeg a0))) (ko_length (ko_numbers_s ko (upd (ko_numbers ko) (ko_length ko).toNatClampNeg a0))).toNatClampNeg a1))).toNatClampNeg a2))) (ko_length (ko_bs_s (ko_as__s (ko_numbers_s ko (upd (ko_numbers ko) (ko_length ko).toNatClampNeg a0)) (upd (ko_as_ (ko_numbers_s ko (upd (ko_numbers ko) (ko_length ko).toNatClampNeg a0))) (ko_length (ko_numbers_s ko (upd (ko_numbers ko) (ko_length ko).toNatClampNeg a0))).toNatClampNeg a1)) (upd (ko_bs (ko_as__s (ko_numbers_s ko (upd (ko_numbers ko) (ko_length ko).toNatClampNeg a0)) (upd (ko_as_ (ko_numbers_s ko (upd (ko_numbers ko) (ko_length ko).toNatClampNeg a0))) (ko_length (ko_numbers_s ko (upd (ko_numbers ko) (ko_length ko).toNatClampNeg a0))).toNatClampNeg a1))) (ko_length (ko_as__s (ko_numbers_s ko (upd (ko_numbers ko) (ko_length ko).toNatClampNeg a0)) (upd (ko_as_ (ko_numbers_s ko (upd (ko_numbers ko) (ko_length ko).toNatClampNeg a0))) (ko_length (ko_numbers_s ko (upd (ko_numbers ko) (ko_length ko).toNatClampNeg a0))).toNatClampNeg a1))).toNatClampNeg a2))).toNatClampNeg a3))) + (1 : Int32)))) - (1 : Int32)).toNatClampNeg (v8 + (1 : Int32)))))) rfl d_Co_appendInstruction_80 ?_
    refine lv_iconst (v := 1) hx hb d_Co_appendInstruction_83 (by decide) ?_
    refine lv_isub hx hb d_Co_appendInstruction_84 ?_
    obtain ⟨hi10, v11, ev11, h⟩ := gr_some h
    refine ld_Co_sizes hx hb hK hP hi10 ev11 d_Co_appendInstruction_85 ?_
    refine lv_iconst (v := 1) hx hb d_Co_appendInstruction_86 (by decide) ?_
    refine lv_isub hx hb d_Co_appendInstruction_87 ?_
    cases h
    subst hQ
    exact k_iret hx hb hr hlk hP hK hD hS d_Co_appendInstruction_88
  · rw [if_pos c2] at h
    refine lv_iconst (v := -1) hx hb d_Co_appendInstruction_7 (by decide) ?_
    cases h
    subst hQ
    exact k_iret hx hb hr hlk hP hK hD hS d_Co_appendInstruction_8
theorem d_Co_hasRoomForUnit_0 : decode b_Co_hasRoomForUnit 0 = .ok (.aload_n 0, 1) := by decide +kernel
theorem d_Co_hasRoomForUnit_1 : decode b_Co_hasRoomForUnit 1 = .ok (.getfield 36, 3) := by decide +kernel
theorem d_Co_hasRoomForUnit_4 : decode b_Co_hasRoomForUnit 4 = .ok (.bipush 16, 2) := by decide +kernel
theorem d_Co_hasRoomForUnit_6 : decode b_Co_hasRoomForUnit 6 = .ok (.if_icmp .ge 7, 3) := by decide +kernel
theorem d_Co_hasRoomForUnit_9 : decode b_Co_hasRoomForUnit 9 = .ok (.iconst 1, 1) := by decide +kernel
theorem d_Co_hasRoomForUnit_10 : decode b_Co_hasRoomForUnit 10 = .ok (.goto 4, 3) := by decide +kernel
theorem d_Co_hasRoomForUnit_13 : decode b_Co_hasRoomForUnit 13 = .ok (.iconst 0, 1) := by decide +kernel
theorem d_Co_hasRoomForUnit_14 : decode b_Co_hasRoomForUnit 14 = .ok (.ireturn, 1) := by decide +kernel
def r_Co_hasRoomForUnit (n : Nat) (ko : T_ko)  : Option (Int32) := if (16 : Int32) ≤ (ko_units ko) then some ((0 : Int32)) else some ((1 : Int32))
def rm_Co_hasRoomForUnit : Jvm.Room := { frames := 0, cells := 0, slots := 0, locals := 0 }
set_option maxHeartbeats 4000000 in
set_option maxRecDepth 100000 in
theorem c_Co_hasRoomForUnit {l : Launch} {D : va_G} {cI cL : ClassId} {ad : Nat → Nat} {ma : T_ma} {ko : T_ko} {sh : T_sh} {lo : T_lo} {de : T_de} {wa : T_wa} {me : T_me} {ru : T_ru} {ws0 : va_W} {sz n : Nat}  {r9 : Int32} (hw : ws0 = (wX cI cL ad ma ko sh lo de wa me ru)) (h : r_Co_hasRoomForUnit n ko  = some r9) : Met l y_Co_hasRoomForUnit (Cond.code y_Co_hasRoomForUnit b_Co_hasRoomForUnit 1 (some .boolean) :: TB) rm_Co_hasRoomForUnit (PreW D clX (tyX cI cL) ws0 [.ref (ad 1)] sz) (PstI D clX (tyX cI cL) ws0 (wX cI cL ad ma ko sh lo de wa me ru) sz r9) 0 0 (va_A ws0 sz) := by
  refine k_met (by decide) (Nat.le_of_ble_eq_true rfl) ?_
  intro p e s m below meth c ls hx hb hr hml hts hown hlk hnm hsz hP hK hD hA hz hl
  have hP : va_P D clX (wX cI cL ad ma ko sh lo de wa me ru) s.heap := by rw [← hw]; exact hP
  have hD : va_D (va_A ws0 sz) (wX cI cL ad ma ko sh lo de wa me ru) := by rw [← hw]; exact hD
  have hS : va_S (va_A ws0 sz) s.heap s.heap [] := va_S.rf
  have hl : lv_has ls 1 [(0, .ref (ad 1))] := hl
  generalize hQ : MQ below (PstI D clX (tyX cI cL) ws0 (wX cI cL ad ma ko sh lo de wa me ru) sz r9) [.ref (ad 1)].toArray s 0 0 (va_A ws0 sz) = Q
  unfold r_Co_hasRoomForUnit at h
  refine lv_aload_n hx hb d_Co_hasRoomForUnit_0 rfl (lv_at hl 0 rfl) ?_
  refine rd_Co_units hx hb hts hown hK hP lk_36 (v := (ko_units ko)) rfl d_Co_hasRoomForUnit_1 ?_
  refine lv_bipush (v := 16) hx hb d_Co_hasRoomForUnit_4 (by decide) ?_
  refine lv_icmp_ge (tgt := 13) hx hb d_Co_hasRoomForUnit_6 (by decide) (fun c1 => ?_) (fun c1 => ?_)
  · rw [if_pos c1] at h
    refine lv_iconst (v := 0) hx hb d_Co_hasRoomForUnit_13 (by decide) ?_
    cases h
    subst hQ
    exact k_zret hx hb hr hlk (Or.inl rfl) hP hK hD hS d_Co_hasRoomForUnit_14
  · rw [if_neg c1] at h
    refine lv_iconst (v := 1) hx hb d_Co_hasRoomForUnit_9 (by decide) ?_
    refine lv_goto (tgt := 14) hx hb d_Co_hasRoomForUnit_10 (by decide) ?_
    cases h
    subst hQ
    exact k_zret hx hb hr hlk (Or.inr rfl) hP hK hD hS d_Co_hasRoomForUnit_14
theorem d_Co_appendUnit_0 : decode b_Co_appendUnit 0 = .ok (.aload_n 0, 1) := by decide +kernel
theorem d_Co_appendUnit_1 : decode b_Co_appendUnit 1 = .ok (.invokevirtual 43, 3) := by decide +kernel
theorem d_Co_appendUnit_4 : decode b_Co_appendUnit 4 = .ok (.ifCond .ne 5, 3) := by decide +kernel
theorem d_Co_appendUnit_7 : decode b_Co_appendUnit 7 = .ok (.iconst (-1), 1) := by decide +kernel
theorem d_Co_appendUnit_8 : decode b_Co_appendUnit 8 = .ok (.ireturn, 1) := by decide +kernel
theorem d_Co_appendUnit_9 : decode b_Co_appendUnit 9 = .ok (.aload_n 0, 1) := by decide +kernel
theorem d_Co_appendUnit_10 : decode b_Co_appendUnit 10 = .ok (.getfield 9, 3) := by decide +kernel
theorem d_Co_appendUnit_13 : decode b_Co_appendUnit 13 = .ok (.aload_n 0, 1) := by decide +kernel
theorem d_Co_appendUnit_14 : decode b_Co_appendUnit 14 = .ok (.getfield 36, 3) := by decide +kernel
theorem d_Co_appendUnit_17 : decode b_Co_appendUnit 17 = .ok (.iload_n 1, 1) := by decide +kernel
theorem d_Co_appendUnit_18 : decode b_Co_appendUnit 18 = .ok (.iastore, 1) := by decide +kernel
theorem d_Co_appendUnit_19 : decode b_Co_appendUnit 19 = .ok (.aload_n 0, 1) := by decide +kernel
theorem d_Co_appendUnit_20 : decode b_Co_appendUnit 20 = .ok (.getfield 15, 3) := by decide +kernel
theorem d_Co_appendUnit_23 : decode b_Co_appendUnit 23 = .ok (.aload_n 0, 1) := by decide +kernel
theorem d_Co_appendUnit_24 : decode b_Co_appendUnit 24 = .ok (.getfield 36, 3) := by decide +kernel
theorem d_Co_appendUnit_27 : decode b_Co_appendUnit 27 = .ok (.iload_n 2, 1) := by decide +kernel
theorem d_Co_appendUnit_28 : decode b_Co_appendUnit 28 = .ok (.iastore, 1) := by decide +kernel
theorem d_Co_appendUnit_29 : decode b_Co_appendUnit 29 = .ok (.aload_n 0, 1) := by decide +kernel
theorem d_Co_appendUnit_30 : decode b_Co_appendUnit 30 = .ok (.getfield 18, 3) := by decide +kernel
theorem d_Co_appendUnit_33 : decode b_Co_appendUnit 33 = .ok (.aload_n 0, 1) := by decide +kernel
theorem d_Co_appendUnit_34 : decode b_Co_appendUnit 34 = .ok (.getfield 36, 3) := by decide +kernel
theorem d_Co_appendUnit_37 : decode b_Co_appendUnit 37 = .ok (.aload_n 0, 1) := by decide +kernel
theorem d_Co_appendUnit_38 : decode b_Co_appendUnit 38 = .ok (.getfield 40, 3) := by decide +kernel
theorem d_Co_appendUnit_41 : decode b_Co_appendUnit 41 = .ok (.iastore, 1) := by decide +kernel
theorem d_Co_appendUnit_42 : decode b_Co_appendUnit 42 = .ok (.aload_n 0, 1) := by decide +kernel
theorem d_Co_appendUnit_43 : decode b_Co_appendUnit 43 = .ok (.getfield 21, 3) := by decide +kernel
theorem d_Co_appendUnit_46 : decode b_Co_appendUnit 46 = .ok (.aload_n 0, 1) := by decide +kernel
theorem d_Co_appendUnit_47 : decode b_Co_appendUnit 47 = .ok (.getfield 36, 3) := by decide +kernel
theorem d_Co_appendUnit_50 : decode b_Co_appendUnit 50 = .ok (.iconst 0, 1) := by decide +kernel
theorem d_Co_appendUnit_51 : decode b_Co_appendUnit 51 = .ok (.iastore, 1) := by decide +kernel
theorem d_Co_appendUnit_52 : decode b_Co_appendUnit 52 = .ok (.aload_n 0, 1) := by decide +kernel
theorem d_Co_appendUnit_53 : decode b_Co_appendUnit 53 = .ok (.dup, 1) := by decide +kernel
theorem d_Co_appendUnit_54 : decode b_Co_appendUnit 54 = .ok (.getfield 36, 3) := by decide +kernel
theorem d_Co_appendUnit_57 : decode b_Co_appendUnit 57 = .ok (.iconst 1, 1) := by decide +kernel
theorem d_Co_appendUnit_58 : decode b_Co_appendUnit 58 = .ok (.iadd, 1) := by decide +kernel
theorem d_Co_appendUnit_59 : decode b_Co_appendUnit 59 = .ok (.putfield 36, 3) := by decide +kernel
theorem d_Co_appendUnit_62 : decode b_Co_appendUnit 62 = .ok (.aload_n 0, 1) := by decide +kernel
theorem d_Co_appendUnit_63 : decode b_Co_appendUnit 63 = .ok (.getfield 36, 3) := by decide +kernel
theorem d_Co_appendUnit_66 : decode b_Co_appendUnit 66 = .ok (.iconst 1, 1) := by decide +kernel
theorem d_Co_appendUnit_67 : decode b_Co_appendUnit 67 = .ok (.isub, 1) := by decide +kernel
theorem d_Co_appendUnit_68 : decode b_Co_appendUnit 68 = .ok (.ireturn, 1) := by decide +kernel
def r_Co_appendUnit (n : Nat) (ko : T_ko) (a0 : Int32) (a1 : Int32) : Option (Int32 × T_ko) := (r_Co_hasRoomForUnit n ko).bind (fun q1 => if q1 = 0 then some ((-1 : Int32), ko) else ga (ko_units ko) 16 (ga (ko_units (ko_frames_s ko (upd (ko_frames ko) (ko_units ko).toNatClampNeg a0))) 16 (ga (ko_units (ko_places_s (ko_frames_s ko (upd (ko_frames ko) (ko_units ko).toNatClampNeg a0)) (upd (ko_places (ko_frames_s ko (upd (ko_frames ko) (ko_units ko).toNatClampNeg a0))) (ko_units (ko_frames_s ko (upd (ko_frames ko) (ko_units ko).toNatClampNeg a0))).toNatClampNeg a1))) 16 (ga (ko_units (ko_firsts_s (ko_places_s (ko_frames_s ko (upd (ko_frames ko) (ko_units ko).toNatClampNeg a0)) (upd (ko_places (ko_frames_s ko (upd (ko_frames ko) (ko_units ko).toNatClampNeg a0))) (ko_units (ko_frames_s ko (upd (ko_frames ko) (ko_units ko).toNatClampNeg a0))).toNatClampNeg a1)) (upd (ko_firsts (ko_places_s (ko_frames_s ko (upd (ko_frames ko) (ko_units ko).toNatClampNeg a0)) (upd (ko_places (ko_frames_s ko (upd (ko_frames ko) (ko_units ko).toNatClampNeg a0))) (ko_units (ko_frames_s ko (upd (ko_frames ko) (ko_units ko).toNatClampNeg a0))).toNatClampNeg a1))) (ko_units (ko_places_s (ko_frames_s ko (upd (ko_frames ko) (ko_units ko).toNatClampNeg a0)) (upd (ko_places (ko_frames_s ko (upd (ko_frames ko) (ko_units ko).toNatClampNeg a0))) (ko_units (ko_frames_s ko (upd (ko_frames ko) (ko_units ko).toNatClampNeg a0))).toNatClampNeg a1))).toNatClampNeg (ko_length (ko_places_s (ko_frames_s ko (upd (ko_frames ko) (ko_units ko).toNatClampNeg a0)) (upd (ko_places (ko_frames_s ko (upd (ko_frames ko) (ko_units ko).toNatClampNeg a0))) (ko_units (ko_frames_s ko (upd (ko_frames ko) (ko_units ko).toNatClampNeg a0))).toNatClampNeg a1)))))) 16 (some (((ko_units (ko_units_s (ko_sizes_s (ko_firsts_s (ko_places_s (ko_frames_s ko (upd (ko_frames ko) (ko_units ko).toNatClampNeg a0)) (upd (ko_places (ko_frames_s ko (upd (ko_frames ko) (ko_units ko).toNatClampNeg a0))) (ko_units (ko_frames_s ko (upd (ko_frames ko) (ko_units ko).toNatClampNeg a0))).toNatClampNeg a1)) (upd (ko_firsts (ko_places_s (ko_frames_s ko (upd (ko_frames ko) (ko_units ko).toNatClampNeg a0)) (upd (ko_places (ko_frames_s ko (upd (ko_frames ko) (ko_units ko).toNatClampNeg a0))) (ko_units (ko_frames_s ko (upd (ko_frames ko) (ko_units ko).toNatClampNeg a0))).toNatClampNeg a1))) (ko_units (ko_places_s (ko_frames_s ko (upd (ko_frames ko) (ko_units ko).toNatClampNeg a0)) (upd (ko_places (ko_frames_s ko (upd (ko_frames ko) (ko_units ko).toNatClampNeg a0))) (ko_units (ko_frames_s ko (upd (ko_frames ko) (ko_units ko).toNatClampNeg a0))).toNatClampNeg a1))).toNatClampNeg (ko_length (ko_places_s (ko_frames_s ko (upd (ko_frames ko) (ko_units ko).toNatClampNeg a0)) (upd (ko_places (ko_frames_s ko (upd (ko_frames ko) (ko_units ko).toNatClampNeg a0))) (ko_units (ko_frames_s ko (upd (ko_frames ko) (ko_units ko).toNatClampNeg a0))).toNatClampNeg a1))))) (upd (ko_sizes (ko_firsts_s (ko_places_s (ko_frames_s ko (upd (ko_frames ko) (ko_units ko).toNatClampNeg a0)) (upd (ko_places (ko_frames_s ko (upd (ko_frames ko) (ko_units ko).toNatClampNeg a0))) (ko_units (ko_frames_s ko (upd (ko_frames ko) (ko_units ko).toNatClampNeg a0))).toNatClampNeg a1)) (upd (ko_firsts (ko_places_s (ko_frames_s ko (upd (ko_frames ko) (ko_units ko).toNatClampNeg a0)) (upd (ko_places (ko_frames_s ko (upd (ko_frames ko) (ko_units ko).toNatClampNeg a0))) (ko_units (ko_frames_s ko (upd (ko_frames ko) (ko_units ko).toNatClampNeg a0))).toNatClampNeg a1))) (ko_units (ko_places_s (ko_frames_s ko (upd (ko_frames ko) (ko_units ko).toNatClampNeg a0)) (upd (ko_places (ko_frames_s ko (upd (ko_frames ko) (ko_units ko).toNatClampNeg a0))) (ko_units (ko_frames_s ko (upd (ko_frames ko) (ko_units ko).toNatClampNeg a0))).toNatClampNeg a1))).toNatClampNeg (ko_length (ko_places_s (ko_frames_s ko (upd (ko_frames ko) (ko_units ko).toNatClampNeg a0)) (upd (ko_places (ko_frames_s ko (upd (ko_frames ko) (ko_units ko).toNatClampNeg a0))) (ko_units (ko_frames_s ko (upd (ko_frames ko) (ko_units ko).toNatClampNeg a0))).toNatClampNeg a1)))))) (ko_units (ko_firsts_s (ko_places_s (ko_frames_s ko (upd (ko_frames ko) (ko_units ko).toNatClampNeg a0)) (upd (ko_places (ko_frames_s ko (upd (ko_frames ko) (ko_units ko).toNatClampNeg a0))) (ko_units (ko_frames_s ko (upd (ko_frames ko) (ko_units ko).toNatClampNeg a0))).toNatClampNeg a1)) (upd (ko_firsts (ko_places_s (ko_frames_s ko (upd (ko_frames ko) (ko_units ko).toNatClampNeg a0)) (upd (ko_places (ko_frames_s ko (upd (ko_frames ko) (ko_units ko).toNatClampNeg a0))) (ko_units (ko_frames_s ko (upd (ko_frames ko) (ko_units ko).toNatClampNeg a0))).toNatClampNeg a1))) (ko_units (ko_places_s (ko_frames_s ko (upd (ko_frames ko) (ko_units ko).toNatClampNeg a0)) (upd (ko_places (ko_frames_s ko (upd (ko_frames ko) (ko_units ko).toNatClampNeg a0))) (ko_units (ko_frames_s ko (upd (ko_frames ko) (ko_units ko).toNatClampNeg a0))).toNatClampNeg a1))).toNatClampNeg (ko_length (ko_places_s (ko_frames_s ko (upd (ko_frames ko) (ko_units ko).toNatClampNeg a0)) (upd (ko_places (ko_frames_s ko (upd (ko_frames ko) (ko_units ko).toNatClampNeg a0))) (ko_units (ko_frames_s ko (upd (ko_frames ko) (ko_units ko).toNatClampNeg a0))).toNatClampNeg a1)))))).toNatClampNeg (0 : Int32))) ((ko_units (ko_sizes_s (ko_firsts_s (ko_places_s (ko_frames_s ko (upd (ko_frames ko) (ko_units ko).toNatClampNeg a0)) (upd (ko_places (ko_frames_s ko (upd (ko_frames ko) (ko_units ko).toNatClampNeg a0))) (ko_units (ko_frames_s ko (upd (ko_frames ko) (ko_units ko).toNatClampNeg a0))).toNatClampNeg a1)) (upd (ko_firsts (ko_places_s (ko_frames_s ko (upd (ko_frames ko) (ko_units ko).toNatClampNeg a0)) (upd (ko_places (ko_frames_s ko (upd (ko_frames ko) (ko_units ko).toNatClampNeg a0))) (ko_units (ko_frames_s ko (upd (ko_frames ko) (ko_units ko).toNatClampNeg a0))).toNatClampNeg a1))) (ko_units (ko_places_s (ko_frames_s ko (upd (ko_frames ko) (ko_units ko).toNatClampNeg a0)) (upd (ko_places (ko_frames_s ko (upd (ko_frames ko) (ko_units ko).toNatClampNeg a0))) (ko_units (ko_frames_s ko (upd (ko_frames ko) (ko_units ko).toNatClampNeg a0))).toNatClampNeg a1))).toNatClampNeg (ko_length (ko_places_s (ko_frames_s ko (upd (ko_frames ko) (ko_units ko).toNatClampNeg a0)) (upd (ko_places (ko_frames_s ko (upd (ko_frames ko) (ko_units ko).toNatClampNeg a0))) (ko_units (ko_frames_s ko (upd (ko_frames ko) (ko_units ko).toNatClampNeg a0))).toNatClampNeg a1))))) (upd (ko_sizes (ko_firsts_s (ko_places_s (ko_frames_s ko (upd (ko_frames ko) (ko_units ko).toNatClampNeg a0)) (upd (ko_places (ko_frames_s ko (upd (ko_frames ko) (ko_units ko).toNatClampNeg a0))) (ko_units (ko_frames_s ko (upd (ko_frames ko) (ko_units ko).toNatClampNeg a0))).toNatClampNeg a1)) (upd (ko_firsts (ko_places_s (ko_frames_s ko (upd (ko_frames ko) (ko_units ko).toNatClampNeg a0)) (upd (ko_places (ko_frames_s ko (upd (ko_frames ko) (ko_units ko).toNatClampNeg a0))) (ko_units (ko_frames_s ko (upd (ko_frames ko) (ko_units ko).toNatClampNeg a0))).toNatClampNeg a1))) (ko_units (ko_places_s (ko_frames_s ko (upd (ko_frames ko) (ko_units ko).toNatClampNeg a0)) (upd (ko_places (ko_frames_s ko (upd (ko_frames ko) (ko_units ko).toNatClampNeg a0))) (ko_units (ko_frames_s ko (upd (ko_frames ko) (ko_units ko).toNatClampNeg a0))).toNatClampNeg a1))).toNatClampNeg (ko_length (ko_places_s (ko_frames_s ko (upd (ko_frames ko) (ko_units ko).toNatClampNeg a0)) (upd (ko_places (ko_frames_s ko (upd (ko_frames ko) (ko_units ko).toNatClampNeg a0))) (ko_units (ko_frames_s ko (upd (ko_frames ko) (ko_units ko).toNatClampNeg a0))).toNatClampNeg a1)))))) (ko_units (ko_firsts_s (ko_places_s (ko_frames_s ko (upd (ko_frames ko) (ko_units ko).toNatClampNeg a0)) (upd (ko_places (ko_frames_s ko (upd (ko_frames ko) (ko_units ko).toNatClampNeg a0))) (ko_units (ko_frames_s ko (upd (ko_frames ko) (ko_units ko).toNatClampNeg a0))).toNatClampNeg a1)) (upd (ko_firsts (ko_places_s (ko_frames_s ko (upd (ko_frames ko) (ko_units ko).toNatClampNeg a0)) (upd (ko_places (ko_frames_s ko (upd (ko_frames ko) (ko_units ko).toNatClampNeg a0))) (ko_units (ko_frames_s ko (upd (ko_frames ko) (ko_units ko).toNatClampNeg a0))).toNatClampNeg a1))) (ko_units (ko_places_s (ko_frames_s ko (upd (ko_frames ko) (ko_units ko).toNatClampNeg a0)) (upd (ko_places (ko_frames_s ko (upd (ko_frames ko) (ko_units ko).toNatClampNeg a0))) (ko_units (ko_frames_s ko (upd (ko_frames ko) (ko_units ko).toNatClampNeg a0))).toNatClampNeg a1))).toNatClampNeg (ko_length (ko_places_s (ko_frames_s ko (upd (ko_frames ko) (ko_units ko).toNatClampNeg a0)) (upd (ko_places (ko_frames_s ko (upd (ko_frames ko) (ko_units ko).toNatClampNeg a0))) (ko_units (ko_frames_s ko (upd (ko_frames ko) (ko_units ko).toNatClampNeg a0))).toNatClampNeg a1)))))).toNatClampNeg (0 : Int32)))) + (1 : Int32)))) - (1 : Int32)), (ko_units_s (ko_sizes_s (ko_firsts_s (ko_places_s (ko_frames_s ko (upd (ko_frames ko) (ko_units ko).toNatClampNeg a0)) (upd (ko_places (ko_frames_s ko (upd (ko_frames ko) (ko_units ko).toNatClampNeg a0))) (ko_units (ko_frames_s ko (upd (ko_frames ko) (ko_units ko).toNatClampNeg a0))).toNatClampNeg a1)) (upd (ko_firsts (ko_places_s (ko_frames_s ko (upd (ko_frames ko) (ko_units ko).toNatClampNeg a0)) (upd (ko_places (ko_frames_s ko (upd (ko_frames ko) (ko_units ko).toNatClampNeg a0))) (ko_units (ko_frames_s ko (upd (ko_frames ko) (ko_units ko).toNatClampNeg a0))).toNatClampNeg a1))) (ko_units (ko_places_s (ko_frames_s ko (upd (ko_frames ko) (ko_units ko).toNatClampNeg a0)) (upd (ko_places (ko_frames_s ko (upd (ko_frames ko) (ko_units ko).toNatClampNeg a0))) (ko_units (ko_frames_s ko (upd (ko_frames ko) (ko_units ko).toNatClampNeg a0))).toNatClampNeg a1))).toNatClampNeg (ko_length (ko_places_s (ko_frames_s ko (upd (ko_frames ko) (ko_units ko).toNatClampNeg a0)) (upd (ko_places (ko_frames_s ko (upd (ko_frames ko) (ko_units ko).toNatClampNeg a0))) (ko_units (ko_frames_s ko (upd (ko_frames ko) (ko_units ko).toNatClampNeg a0))).toNatClampNeg a1))))) (upd (ko_sizes (ko_firsts_s (ko_places_s (ko_frames_s ko (upd (ko_frames ko) (ko_units ko).toNatClampNeg a0)) (upd (ko_places (ko_frames_s ko (upd (ko_frames ko) (ko_units ko).toNatClampNeg a0))) (ko_units (ko_frames_s ko (upd (ko_frames ko) (ko_units ko).toNatClampNeg a0))).toNatClampNeg a1)) (upd (ko_firsts (ko_places_s (ko_frames_s ko (upd (ko_frames ko) (ko_units ko).toNatClampNeg a0)) (upd (ko_places (ko_frames_s ko (upd (ko_frames ko) (ko_units ko).toNatClampNeg a0))) (ko_units (ko_frames_s ko (upd (ko_frames ko) (ko_units ko).toNatClampNeg a0))).toNatClampNeg a1))) (ko_units (ko_places_s (ko_frames_s ko (upd (ko_frames ko) (ko_units ko).toNatClampNeg a0)) (upd (ko_places (ko_frames_s ko (upd (ko_frames ko) (ko_units ko).toNatClampNeg a0))) (ko_units (ko_frames_s ko (upd (ko_frames ko) (ko_units ko).toNatClampNeg a0))).toNatClampNeg a1))).toNatClampNeg (ko_length (ko_places_s (ko_frames_s ko (upd (ko_frames ko) (ko_units ko).toNatClampNeg a0)) (upd (ko_places (ko_frames_s ko (upd (ko_frames ko) (ko_units ko).toNatClampNeg a0))) (ko_units (ko_frames_s ko (upd (ko_frames ko) (ko_units ko).toNatClampNeg a0))).toNatClampNeg a1)))))) (ko_units (ko_firsts_s (ko_places_s (ko_frames_s ko (upd (ko_frames ko) (ko_units ko).toNatClampNeg a0)) (upd (ko_places (ko_frames_s ko (upd (ko_frames ko) (ko_units ko).toNatClampNeg a0))) (ko_units (ko_frames_s ko (upd (ko_frames ko) (ko_units ko).toNatClampNeg a0))).toNatClampNeg a1)) (upd (ko_firsts (ko_places_s (ko_frames_s ko (upd (ko_frames ko) (ko_units ko).toNatClampNeg a0)) (upd (ko_places (ko_frames_s ko (upd (ko_frames ko) (ko_units ko).toNatClampNeg a0))) (ko_units (ko_frames_s ko (upd (ko_frames ko) (ko_units ko).toNatClampNeg a0))).toNatClampNeg a1))) (ko_units (ko_places_s (ko_frames_s ko (upd (ko_frames ko) (ko_units ko).toNatClampNeg a0)) (upd (ko_places (ko_frames_s ko (upd (ko_frames ko) (ko_units ko).toNatClampNeg a0))) (ko_units (ko_frames_s ko (upd (ko_frames ko) (ko_units ko).toNatClampNeg a0))).toNatClampNeg a1))).toNatClampNeg (ko_length (ko_places_s (ko_frames_s ko (upd (ko_frames ko) (ko_units ko).toNatClampNeg a0)) (upd (ko_places (ko_frames_s ko (upd (ko_frames ko) (ko_units ko).toNatClampNeg a0))) (ko_units (ko_frames_s ko (upd (ko_frames ko) (ko_units ko).toNatClampNeg a0))).toNatClampNeg a1)))))).toNatClampNeg (0 : Int32))) ((ko_units (ko_sizes_s (ko_firsts_s (ko_places_s (ko_frames_s ko (upd (ko_frames ko) (ko_units ko).toNatClampNeg a0)) (upd (ko_places (ko_frames_s ko (upd (ko_frames ko) (ko_units ko).toNatClampNeg a0))) (ko_units (ko_frames_s ko (upd (ko_frames ko) (ko_units ko).toNatClampNeg a0))).toNatClampNeg a1)) (upd (ko_firsts (ko_places_s (ko_frames_s ko (upd (ko_frames ko) (ko_units ko).toNatClampNeg a0)) (upd (ko_places (ko_frames_s ko (upd (ko_frames ko) (ko_units ko).toNatClampNeg a0))) (ko_units (ko_frames_s ko (upd (ko_frames ko) (ko_units ko).toNatClampNeg a0))).toNatClampNeg a1))) (ko_units (ko_places_s (ko_frames_s ko (upd (ko_frames ko) (ko_units ko).toNatClampNeg a0)) (upd (ko_places (ko_frames_s ko (upd (ko_frames ko) (ko_units ko).toNatClampNeg a0))) (ko_units (ko_frames_s ko (upd (ko_frames ko) (ko_units ko).toNatClampNeg a0))).toNatClampNeg a1))).toNatClampNeg (ko_length (ko_places_s (ko_frames_s ko (upd (ko_frames ko) (ko_units ko).toNatClampNeg a0)) (upd (ko_places (ko_frames_s ko (upd (ko_frames ko) (ko_units ko).toNatClampNeg a0))) (ko_units (ko_frames_s ko (upd (ko_frames ko) (ko_units ko).toNatClampNeg a0))).toNatClampNeg a1))))) (upd (ko_sizes (ko_firsts_s (ko_places_s (ko_frames_s ko (upd (ko_frames ko) (ko_units ko).toNatClampNeg a0)) (upd (ko_places (ko_frames_s ko (upd (ko_frames ko) (ko_units ko).toNatClampNeg a0))) (ko_units (ko_frames_s ko (upd (ko_frames ko) (ko_units ko).toNatClampNeg a0))).toNatClampNeg a1)) (upd (ko_firsts (ko_places_s (ko_frames_s ko (upd (ko_frames ko) (ko_units ko).toNatClampNeg a0)) (upd (ko_places (ko_frames_s ko (upd (ko_frames ko) (ko_units ko).toNatClampNeg a0))) (ko_units (ko_frames_s ko (upd (ko_frames ko) (ko_units ko).toNatClampNeg a0))).toNatClampNeg a1))) (ko_units (ko_places_s (ko_frames_s ko (upd (ko_frames ko) (ko_units ko).toNatClampNeg a0)) (upd (ko_places (ko_frames_s ko (upd (ko_frames ko) (ko_units ko).toNatClampNeg a0))) (ko_units (ko_frames_s ko (upd (ko_frames ko) (ko_units ko).toNatClampNeg a0))).toNatClampNeg a1))).toNatClampNeg (ko_length (ko_places_s (ko_frames_s ko (upd (ko_frames ko) (ko_units ko).toNatClampNeg a0)) (upd (ko_places (ko_frames_s ko (upd (ko_frames ko) (ko_units ko).toNatClampNeg a0))) (ko_units (ko_frames_s ko (upd (ko_frames ko) (ko_units ko).toNatClampNeg a0))).toNatClampNeg a1)))))) (ko_units (ko_firsts_s (ko_places_s (ko_frames_s ko (upd (ko_frames ko) (ko_units ko).toNatClampNeg a0)) (upd (ko_places (ko_frames_s ko (upd (ko_frames ko) (ko_units ko).toNatClampNeg a0))) (ko_units (ko_frames_s ko (upd (ko_frames ko) (ko_units ko).toNatClampNeg a0))).toNatClampNeg a1)) (upd (ko_firsts (ko_places_s (ko_frames_s ko (upd (ko_frames ko) (ko_units ko).toNatClampNeg a0)) (upd (ko_places (ko_frames_s ko (upd (ko_frames ko) (ko_units ko).toNatClampNeg a0))) (ko_units (ko_frames_s ko (upd (ko_frames ko) (ko_units ko).toNatClampNeg a0))).toNatClampNeg a1))) (ko_units (ko_places_s (ko_frames_s ko (upd (ko_frames ko) (ko_units ko).toNatClampNeg a0)) (upd (ko_places (ko_frames_s ko (upd (ko_frames ko) (ko_units ko).toNatClampNeg a0))) (ko_units (ko_frames_s ko (upd (ko_frames ko) (ko_units ko).toNatClampNeg a0))).toNatClampNeg a1))).toNatClampNeg (ko_length (ko_places_s (ko_frames_s ko (upd (ko_frames ko) (ko_units ko).toNatClampNeg a0)) (upd (ko_places (ko_frames_s ko (upd (ko_frames ko) (ko_units ko).toNatClampNeg a0))) (ko_units (ko_frames_s ko (upd (ko_frames ko) (ko_units ko).toNatClampNeg a0))).toNatClampNeg a1)))))).toNatClampNeg (0 : Int32)))) + (1 : Int32)))))))))
def rm_Co_appendUnit : Jvm.Room := { frames := 1, cells := 0, slots := 0, locals := 20 }
set_option maxHeartbeats 4000000 in
set_option maxRecDepth 100000 in
theorem c_Co_appendUnit {l : Launch} {D : va_G} {cI cL : ClassId} {ad : Nat → Nat} {ma : T_ma} {ko : T_ko} {sh : T_sh} {lo : T_lo} {de : T_de} {wa : T_wa} {me : T_me} {ru : T_ru} {ws0 : va_W} {sz n : Nat} {a0 : Int32} {a1 : Int32} {r9 : Int32} {ko9 : T_ko} (hw : ws0 = (wX cI cL ad ma ko sh lo de wa me ru)) (h : r_Co_appendUnit n ko a0 a1 = some (r9, ko9)) : Met l y_Co_appendUnit (Cond.code y_Co_appendUnit b_Co_appendUnit 3 (some .int) :: TB) rm_Co_appendUnit (PreW D clX (tyX cI cL) ws0 [.ref (ad 1), .int a0, .int a1] sz) (PstI D clX (tyX cI cL) ws0 (wX cI cL ad ma (ko9) sh lo de wa me ru) sz r9) 0 0 (va_A ws0 sz) := by
  refine k_met (by decide) (Nat.le_of_ble_eq_true rfl) ?_
  intro p e s m below meth c ls hx hb hr hml hts hown hlk hnm hsz hP hK hD hA hz hl
  have hP : va_P D clX (wX cI cL ad ma ko sh lo de wa me ru) s.heap := by rw [← hw]; exact hP
  have hD : va_D (va_A ws0 sz) (wX cI cL ad ma ko sh lo de wa me ru) := by rw [← hw]; exact hD
  have hS : va_S (va_A ws0 sz) s.heap s.heap [] := va_S.rf
  have hl : lv_has ls 3 [(0, .ref (ad 1)), (1, .int a0), (2, .int a1)] := hl
  generalize hQ : MQ below (PstI D clX (tyX cI cL) ws0 (wX cI cL ad ma (ko9) sh lo de wa me ru) sz r9) [.ref (ad 1), .int a0, .int a1].toArray s 0 0 (va_A ws0 sz) = Q
  unfold r_Co_appendUnit at h
  refine lv_aload_n hx hb d_Co_appendUnit_0 rfl (lv_at hl 0 rfl) ?_
  obtain ⟨q1, hq1, h⟩ := Option.bind_eq_some_iff.mp h
  refine k_I (k_runV ⟨hx, hb, hml, hown, hts⟩ (c_Co_hasRoomForUnit rfl hq1) ok_Co_hasRoomForUnit is_Co_hasRoomForUnit lk_298 rfl rfl ⟨by decide, by decide⟩ hP hK hD hS hA hz (ci := 1) (q0 := 1) rfl rfl ob_Co rfl hl.1 rfl (Nat.le_of_ble_eq_true rfl) d_Co_appendUnit_1 ⟨Nat.zero_le _, Nat.zero_le _⟩) hD hS hA (fun H locs hP hD hS => ?_)
  refine lv_if_ne (tgt := 9) hx hb d_Co_appendUnit_4 (by decide) (fun c2 => ?_) (fun c2 => ?_)
  · rw [if_neg c2] at h
    refine lv_aload_n hx hb d_Co_appendUnit_9 rfl (lv_at hl 0 rfl) ?_
    refine rd_Co_frames hx hb hts hown hK hP lk_28 d_Co_appendUnit_10 ?_
    refine lv_aload_n hx hb d_Co_appendUnit_13 rfl (lv_at hl 0 rfl) ?_
    refine rd_Co_units hx hb hts hown hK hP lk_36 (v := (ko_units ko)) rfl d_Co_appendUnit_14 ?_
    refine lv_iload_n hx hb d_Co_appendUnit_17 rfl (lv_at hl 1 rfl) ?_
    obtain ⟨hi3, h⟩ := ga_some h
    refine st_Co_frames hx hb hK hP hD hS hi3 d_Co_appendUnit_18 (fun H locs hP hD hS => ?_)
    refine lv_aload_n hx hb d_Co_appendUnit_19 rfl (lv_at hl 0 rfl) ?_
    refine rd_Co_places hx hb hts hown hK hP lk_29 d_Co_appendUnit_20 ?_
    refine lv_aload_n hx hb d_Co_appendUnit_23 rfl (lv_at hl 0 rfl) ?_
    refine rd_Co_units hx hb hts hown hK hP lk_36 (v := (ko_units (ko_frames_s ko (upd (ko_frames ko) (ko_units ko).toNatClampNeg a0)))) rfl d_Co_appendUnit_24 ?_
    refine lv_iload_n hx hb d_Co_appendUnit_27 rfl (lv_at hl 2 rfl) ?_
    obtain ⟨hi4, h⟩ := ga_some h
    refine st_Co_places hx hb hK hP hD hS hi4 d_Co_appendUnit_28 (fun H locs hP hD hS => ?_)
    refine lv_aload_n hx hb d_Co_appendUnit_29 rfl (lv_at hl 0 rfl) ?_
    refine rd_Co_firsts hx hb hts hown hK hP lk_30 d_Co_appendUnit_30 ?_
    refine lv_aload_n hx hb d_Co_appendUnit_33 rfl (lv_at hl 0 rfl) ?_
    refine rd_Co_units hx hb hts hown hK hP lk_36 (v := (ko_units (ko_places_s (ko_frames_s ko (upd (ko_frames ko) (ko_units ko).toNatClampNeg a0)) (upd (ko_places (ko_frames_s ko (upd (ko_frames ko) (ko_units ko).toNatClampNeg a0))) (ko_units (ko_frames_s ko (upd (ko_frames ko) (ko_units ko).toNatClampNeg a0))).toNatClampNeg a1)))) rfl d_Co_appendUnit_34 ?_
    refine lv_aload_n hx hb d_Co_appendUnit_37 rfl (lv_at hl 0 rfl) ?_
    refine rd_Co_length hx hb hts hown hK hP lk_37 (v := (ko_length (ko_places_s (ko_frames_s ko (upd (ko_frames ko) (ko_units ko).toNatClampNeg a0)) (upd (ko_places (ko_frames_s ko (upd (ko_frames ko) (ko_units ko).toNatClampNeg a0))) (ko_units (ko_frames_s ko (upd (ko_frames ko) (ko_units ko).toNatClampNeg a0))).toNatClampNeg a1)))) rfl d_Co_appendUnit_38 ?_
    obtain ⟨hi5, h⟩ := ga_some h
    refine st_Co_firsts hx hb hK hP hD hS hi5 d_Co_appendUnit_41 (fun H locs hP hD hS => ?_)
    refine lv_aload_n hx hb d_Co_appendUnit_42 rfl (lv_at hl 0 rfl) ?_
    refine rd_Co_sizes hx hb hts hown hK hP lk_31 d_Co_appendUnit_43 ?_
    refine lv_aload_n hx hb d_Co_appendUnit_46 rfl (lv_at hl 0 rfl) ?_
    refine rd_Co_units hx hb hts hown hK hP lk_36 (v := (ko_units (ko_firsts_s (ko_places_s (ko_frames_s ko (upd (ko_frames ko) (ko_units ko).toNatClampNeg a0)) (upd (ko_places (ko_frames_s ko (upd (ko_frames ko) (ko_units ko).toNatClampNeg a0))) (ko_units (ko_frames_s ko (upd (ko_frames ko) (ko_units ko).toNatClampNeg a0))).toNatClampNeg a1)) (upd (ko_firsts (ko_places_s (ko_frames_s ko (upd (ko_frames ko) (ko_units ko).toNatClampNeg a0)) (upd (ko_places (ko_frames_s ko (upd (ko_frames ko) (ko_units ko).toNatClampNeg a0))) (ko_units (ko_frames_s ko (upd (ko_frames ko) (ko_units ko).toNatClampNeg a0))).toNatClampNeg a1))) (ko_units (ko_places_s (ko_frames_s ko (upd (ko_frames ko) (ko_units ko).toNatClampNeg a0)) (upd (ko_places (ko_frames_s ko (upd (ko_frames ko) (ko_units ko).toNatClampNeg a0))) (ko_units (ko_frames_s ko (upd (ko_frames ko) (ko_units ko).toNatClampNeg a0))).toNatClampNeg a1))).toNatClampNeg (ko_length (ko_places_s (ko_frames_s ko (upd (ko_frames ko) (ko_units ko).toNatClampNeg a0)) (upd (ko_places (ko_frames_s ko (upd (ko_frames ko) (ko_units ko).toNatClampNeg a0))) (ko_units (ko_frames_s ko (upd (ko_frames ko) (ko_units ko).toNatClampNeg a0))).toNatClampNeg a1))))))) rfl d_Co_appendUnit_47 ?_
    refine lv_iconst (v := 0) hx hb d_Co_appendUnit_50 (by decide) ?_
    obtain ⟨hi6, h⟩ := ga_some h
    refine st_Co_sizes hx hb hK hP hD hS hi6 d_Co_appendUnit_51 (fun H locs hP hD hS => ?_)
    refine lv_aload_n hx hb d_Co_appendUnit_52 rfl (lv_at hl 0 rfl) ?_
    refine lv_dup hx hb d_Co_appendUnit_53 rfl ?_
    refine rd_Co_units hx hb hts hown hK hP lk_36 (v := (ko_units (ko_sizes_s (ko_firsts_s (ko_places_s (ko_frames_s ko (upd (ko_frames ko) (ko_units ko).toNatClampNeg a0)) (upd (ko_places (ko_frames_s ko (upd (ko_frames ko) (ko_units ko).toNatClampNeg a0))) (ko_units (ko_frames_s ko (upd (ko_frames ko) (ko_units ko).toNatClampNeg a0))).toNatClampNeg a1)) (upd (ko_firsts (ko_places_s (ko_frames_s ko (upd (ko_frames ko) (ko_units ko).toNatClampNeg a0)) (upd (ko_places (ko_frames_s ko (upd (ko_frames ko) (ko_units ko).toNatClampNeg a0))) (ko_units (ko_frames_s ko (upd (ko_frames ko) (ko_units ko).toNatClampNeg a0))).toNatClampNeg a1))) (ko_units (ko_places_s (ko_frames_s ko (upd (ko_frames ko) (ko_units ko).toNatClampNeg a0)) (upd (ko_places (ko_frames_s ko (upd (ko_frames ko) (ko_units ko).toNatClampNeg a0))) (ko_units (ko_frames_s ko (upd (ko_frames ko) (ko_units ko).toNatClampNeg a0))).toNatClampNeg a1))).toNatClampNeg (ko_length (ko_places_s (ko_frames_s ko (upd (ko_frames ko) (ko_units ko).toNatClampNeg a0)) (upd (ko_places (ko_frames_s ko (upd (ko_frames ko) (ko_units ko).toNatClampNeg a0))) (ko_units (ko_frames_s ko (upd (ko_frames ko) (ko_units ko).toNatClampNeg a0))).toNatClampNeg a1))))) (upd (ko_sizes (ko_firsts_s (ko_places_s (ko_frames_s ko (upd (ko_frames ko) (ko_units ko).toNatClampNeg a0)) (upd (ko_places (ko_frames_s ko (upd (ko_frames ko) (ko_units ko).toNatClampNeg a0))) (ko_units (ko_frames_s ko (upd (ko_frames ko) (ko_units ko).toNatClampNeg a0))).toNatClampNeg a1)) (upd (ko_firsts (ko_places_s (ko_frames_s ko (upd (ko_frames ko) (ko_units ko).toNatClampNeg a0)) (upd (ko_places (ko_frames_s ko (upd (ko_frames ko) (ko_units ko).toNatClampNeg a0))) (ko_units (ko_frames_s ko (upd (ko_frames ko) (ko_units ko).toNatClampNeg a0))).toNatClampNeg a1))) (ko_units (ko_places_s (ko_frames_s ko (upd (ko_frames ko) (ko_units ko).toNatClampNeg a0)) (upd (ko_places (ko_frames_s ko (upd (ko_frames ko) (ko_units ko).toNatClampNeg a0))) (ko_units (ko_frames_s ko (upd (ko_frames ko) (ko_units ko).toNatClampNeg a0))).toNatClampNeg a1))).toNatClampNeg (ko_length (ko_places_s (ko_frames_s ko (upd (ko_frames ko) (ko_units ko).toNatClampNeg a0)) (upd (ko_places (ko_frames_s ko (upd (ko_frames ko) (ko_units ko).toNatClampNeg a0))) (ko_units (ko_frames_s ko (upd (ko_frames ko) (ko_units ko).toNatClampNeg a0))).toNatClampNeg a1)))))) (ko_units (ko_firsts_s (ko_places_s (ko_frames_s ko (upd (ko_frames ko) (ko_units ko).toNatClampNeg a0)) (upd (ko_places (ko_frames_s ko (upd (ko_frames ko) (ko_units ko).toNatClampNeg a0))) (ko_units (ko_frames_s ko (upd (ko_frames ko) (ko_units ko).toNatClampNeg a0))).toNatClampNeg a1)) (upd (ko_firsts (ko_places_s (ko_frames_s ko (upd (ko_frames ko) (ko_units ko).toNatClampNeg a0)) (upd (ko_places (ko_frames_s ko (upd (ko_frames ko) (ko_units ko).toNatClampNeg a0))) (ko_units (ko_frames_s ko (upd (ko_frames ko) (ko_units ko).toNatClampNeg a0))).toNatClampNeg a1))) (ko_units (ko_places_s (ko_frames_s ko (upd (ko_frames ko) (ko_units ko).toNatClampNeg a0)) (upd (ko_places (ko_frames_s ko (upd (ko_frames ko) (ko_units ko).toNatClampNeg a0))) (ko_units (ko_frames_s ko (upd (ko_frames ko) (ko_units ko).toNatClampNeg a0))).toNatClampNeg a1))).toNatClampNeg (ko_length (ko_places_s (ko_frames_s ko (upd (ko_frames ko) (ko_units ko).toNatClampNeg a0)) (upd (ko_places (ko_frames_s ko (upd (ko_frames ko) (ko_units ko).toNatClampNeg a0))) (ko_units (ko_frames_s ko (upd (ko_frames ko) (ko_units ko).toNatClampNeg a0))).toNatClampNeg a1)))))).toNatClampNeg (0 : Int32))))) rfl d_Co_appendUnit_54 ?_
    refine lv_iconst (v := 1) hx hb d_Co_appendUnit_57 (by decide) ?_
    refine lv_iadd hx hb d_Co_appendUnit_58 ?_
    refine wr_Co_units hx hb hts hown hK hP hD hS lk_36 d_Co_appendUnit_59 (fun H locs hP hD hS => ?_)
    refine lv_aload_n hx hb d_Co_appendUnit_62 rfl (lv_at hl 0 rfl) ?_
    refine rd_Co_units hx hb hts hown hK hP lk_36 (v := (ko_units (ko_units_s (ko_sizes_s (ko_firsts_s (ko_places_s (ko_frames_s ko (upd (ko_frames ko) (ko_units ko).toNatClampNeg a0)) (upd (ko_places (ko_frames_s ko (upd (ko_frames ko) (ko_units ko).toNatClampNeg a0))) (ko_units (ko_frames_s ko (upd (ko_frames ko) (ko_units ko).toNatClampNeg a0))).toNatClampNeg a1)) (upd (ko_firsts (ko_places_s (ko_frames_s ko (upd (ko_frames ko) (ko_units ko).toNatClampNeg a0)) (upd (ko_places (ko_frames_s ko (upd (ko_frames ko) (ko_units ko).toNatClampNeg a0))) (ko_units (ko_frames_s ko (upd (ko_frames ko) (ko_units ko).toNatClampNeg a0))).toNatClampNeg a1))) (ko_units (ko_places_s (ko_frames_s ko (upd (ko_frames ko) (ko_units ko).toNatClampNeg a0)) (upd (ko_places (ko_frames_s ko (upd (ko_frames ko) (ko_units ko).toNatClampNeg a0))) (ko_units (ko_frames_s ko (upd (ko_frames ko) (ko_units ko).toNatClampNeg a0))).toNatClampNeg a1))).toNatClampNeg (ko_length (ko_places_s (ko_frames_s ko (upd (ko_frames ko) (ko_units ko).toNatClampNeg a0)) (upd (ko_places (ko_frames_s ko (upd (ko_frames ko) (ko_units ko).toNatClampNeg a0))) (ko_units (ko_frames_s ko (upd (ko_frames ko) (ko_units ko).toNatClampNeg a0))).toNatClampNeg a1))))) (upd (ko_sizes (ko_firsts_s (ko_places_s (ko_frames_s ko (upd (ko_frames ko) (ko_units ko).toNatClampNeg a0)) (upd (ko_places (ko_frames_s ko (upd (ko_frames ko) (ko_units ko).toNatClampNeg a0))) (ko_units (ko_frames_s ko (upd (ko_frames ko) (ko_units ko).toNatClampNeg a0))).toNatClampNeg a1)) (upd (ko_firsts (ko_places_s (ko_frames_s ko (upd (ko_frames ko) (ko_units ko).toNatClampNeg a0)) (upd (ko_places (ko_frames_s ko (upd (ko_frames ko) (ko_units ko).toNatClampNeg a0))) (ko_units (ko_frames_s ko (upd (ko_frames ko) (ko_units ko).toNatClampNeg a0))).toNatClampNeg a1))) (ko_units (ko_places_s (ko_frames_s ko (upd (ko_frames ko) (ko_units ko).toNatClampNeg a0)) (upd (ko_places (ko_frames_s ko (upd (ko_frames ko) (ko_units ko).toNatClampNeg a0))) (ko_units (ko_frames_s ko (upd (ko_frames ko) (ko_units ko).toNatClampNeg a0))).toNatClampNeg a1))).toNatClampNeg (ko_length (ko_places_s (ko_frames_s ko (upd (ko_frames ko) (ko_units ko).toNatClampNeg a0)) (upd (ko_places (ko_frames_s ko (upd (ko_frames ko) (ko_units ko).toNatClampNeg a0))) (ko_units (ko_frames_s ko (upd (ko_frames ko) (ko_units ko).toNatClampNeg a0))).toNatClampNeg a1)))))) (ko_units (ko_firsts_s (ko_places_s (ko_frames_s ko (upd (ko_frames ko) (ko_units ko).toNatClampNeg a0)) (upd (ko_places (ko_frames_s ko (upd (ko_frames ko) (ko_units ko).toNatClampNeg a0))) (ko_units (ko_frames_s ko (upd (ko_frames ko) (ko_units ko).toNatClampNeg a0))).toNatClampNeg a1)) (upd (ko_firsts (ko_places_s (ko_frames_s ko (upd (ko_frames ko) (ko_units ko).toNatClampNeg a0)) (upd (ko_places (ko_frames_s ko (upd (ko_frames ko) (ko_units ko).toNatClampNeg a0))) (ko_units (ko_frames_s ko (upd (ko_frames ko) (ko_units ko).toNatClampNeg a0))).toNatClampNeg a1))) (ko_units (ko_places_s (ko_frames_s ko (upd (ko_frames ko) (ko_units ko).toNatClampNeg a0)) (upd (ko_places (ko_frames_s ko (upd (ko_frames ko) (ko_units ko).toNatClampNeg a0))) (ko_units (ko_frames_s ko (upd (ko_frames ko) (ko_units ko).toNatClampNeg a0))).toNatClampNeg a1))).toNatClampNeg (ko_length (ko_places_s (ko_frames_s ko (upd (ko_frames ko) (ko_units ko).toNatClampNeg a0)) (upd (ko_places (ko_frames_s ko (upd (ko_frames ko) (ko_units ko).toNatClampNeg a0))) (ko_units (ko_frames_s ko (upd (ko_frames ko) (ko_units ko).toNatClampNeg a0))).toNatClampNeg a1)))))).toNatClampNeg (0 : Int32))) ((ko_units (ko_sizes_s (ko_firsts_s (ko_places_s (ko_frames_s ko (upd (ko_frames ko) (ko_units ko).toNatClampNeg a0)) (upd (ko_places (ko_frames_s ko (upd (ko_frames ko) (ko_units ko).toNatClampNeg a0))) (ko_units (ko_frames_s ko (upd (ko_frames ko) (ko_units ko).toNatClampNeg a0))).toNatClampNeg a1)) (upd (ko_firsts (ko_places_s (ko_frames_s ko (upd (ko_frames ko) (ko_units ko).toNatClampNeg a0)) (upd (ko_places (ko_frames_s ko (upd (ko_frames ko) (ko_units ko).toNatClampNeg a0))) (ko_units (ko_frames_s ko (upd (ko_frames ko) (ko_units ko).toNatClampNeg a0))).toNatClampNeg a1))) (ko_units (ko_places_s (ko_frames_s ko (upd (ko_frames ko) (ko_units ko).toNatClampNeg a0)) (upd (ko_places (ko_frames_s ko (upd (ko_frames ko) (ko_units ko).toNatClampNeg a0))) (ko_units (ko_frames_s ko (upd (ko_frames ko) (ko_units ko).toNatClampNeg a0))).toNatClampNeg a1))).toNatClampNeg (ko_length (ko_places_s (ko_frames_s ko (upd (ko_frames ko) (ko_units ko).toNatClampNeg a0)) (upd (ko_places (ko_frames_s ko (upd (ko_frames ko) (ko_units ko).toNatClampNeg a0))) (ko_units (ko_frames_s ko (upd (ko_frames ko) (ko_units ko).toNatClampNeg a0))).toNatClampNeg a1))))) (upd (ko_sizes (ko_firsts_s (ko_places_s (ko_frames_s ko (upd (ko_frames ko) (ko_units ko).toNatClampNeg a0)) (upd (ko_places (ko_frames_s ko (upd (ko_frames ko) (ko_units ko).toNatClampNeg a0))) (ko_units (ko_frames_s ko (upd (ko_frames ko) (ko_units ko).toNatClampNeg a0))).toNatClampNeg a1)) (upd (ko_firsts (ko_places_s (ko_frames_s ko (upd (ko_frames ko) (ko_units ko).toNatClampNeg a0)) (upd (ko_places (ko_frames_s ko (upd (ko_frames ko) (ko_units ko).toNatClampNeg a0))) (ko_units (ko_frames_s ko (upd (ko_frames ko) (ko_units ko).toNatClampNeg a0))).toNatClampNeg a1))) (ko_units (ko_places_s (ko_frames_s ko (upd (ko_frames ko) (ko_units ko).toNatClampNeg a0)) (upd (ko_places (ko_frames_s ko (upd (ko_frames ko) (ko_units ko).toNatClampNeg a0))) (ko_units (ko_frames_s ko (upd (ko_frames ko) (ko_units ko).toNatClampNeg a0))).toNatClampNeg a1))).toNatClampNeg (ko_length (ko_places_s (ko_frames_s ko (upd (ko_frames ko) (ko_units ko).toNatClampNeg a0)) (upd (ko_places (ko_frames_s ko (upd (ko_frames ko) (ko_units ko).toNatClampNeg a0))) (ko_units (ko_frames_s ko (upd (ko_frames ko) (ko_units ko).toNatClampNeg a0))).toNatClampNeg a1)))))) (ko_units (ko_firsts_s (ko_places_s (ko_frames_s ko (upd (ko_frames ko) (ko_units ko).toNatClampNeg a0)) (upd (ko_places (ko_frames_s ko (upd (ko_frames ko) (ko_units ko).toNatClampNeg a0))) (ko_units (ko_frames_s ko (upd (ko_frames ko) (ko_units ko).toNatClampNeg a0))).toNatClampNeg a1)) (upd (ko_firsts (ko_places_s (ko_frames_s ko (upd (ko_frames ko) (ko_units ko).toNatClampNeg a0)) (upd (ko_places (ko_frames_s ko (upd (ko_frames ko) (ko_units ko).toNatClampNeg a0))) (ko_units (ko_frames_s ko (upd (ko_frames ko) (ko_units ko).toNatClampNeg a0))).toNatClampNeg a1))) (ko_units (ko_places_s (ko_frames_s ko (upd (ko_frames ko) (ko_units ko).toNatClampNeg a0)) (upd (ko_places (ko_frames_s ko (upd (ko_frames ko) (ko_units ko).toNatClampNeg a0))) (ko_units (ko_frames_s ko (upd (ko_frames ko) (ko_units ko).toNatClampNeg a0))).toNatClampNeg a1))).toNatClampNeg (ko_length (ko_places_s (ko_frames_s ko (upd (ko_frames ko) (ko_units ko).toNatClampNeg a0)) (upd (ko_places (ko_frames_s ko (upd (ko_frames ko) (ko_units ko).toNatClampNeg a0))) (ko_units (ko_frames_s ko (upd (ko_frames ko) (ko_units ko).toNatClampNeg a0))).toNatClampNeg a1)))))).toNatClampNeg (0 : Int32)))) + (1 : Int32))))) rfl d_Co_appendUnit_63 ?_
    refine lv_iconst (v := 1) hx hb d_Co_appendUnit_66 (by decide) ?_
    refine lv_isub hx hb d_Co_appendUnit_67 ?_
    cases h
    subst hQ
    exact k_iret hx hb hr hlk hP hK hD hS d_Co_appendUnit_68
  · rw [if_pos c2] at h
    refine lv_iconst (v := -1) hx hb d_Co_appendUnit_7 (by decide) ?_
    cases h
    subst hQ
    exact k_iret hx hb hr hlk hP hK hD hS d_Co_appendUnit_8
theorem d_Co_forget_0 : decode b_Co_forget 0 = .ok (.aload_n 0, 1) := by decide +kernel
theorem d_Co_forget_1 : decode b_Co_forget 1 = .ok (.iconst 0, 1) := by decide +kernel
theorem d_Co_forget_2 : decode b_Co_forget 2 = .ok (.putfield 36, 3) := by decide +kernel
theorem d_Co_forget_5 : decode b_Co_forget 5 = .ok (.aload_n 0, 1) := by decide +kernel
theorem d_Co_forget_6 : decode b_Co_forget 6 = .ok (.iconst 0, 1) := by decide +kernel
theorem d_Co_forget_7 : decode b_Co_forget 7 = .ok (.putfield 40, 3) := by decide +kernel
theorem d_Co_forget_10 : decode b_Co_forget 10 = .ok (.return_, 1) := by decide +kernel
def r_Co_forget (n : Nat) (ko : T_ko)  : Option (T_ko) := some ((ko_length_s (ko_units_s ko (0 : Int32)) (0 : Int32)))
def rm_Co_forget : Jvm.Room := { frames := 0, cells := 0, slots := 0, locals := 0 }
set_option maxHeartbeats 4000000 in
set_option maxRecDepth 100000 in
theorem c_Co_forget {l : Launch} {D : va_G} {cI cL : ClassId} {ad : Nat → Nat} {ma : T_ma} {ko : T_ko} {sh : T_sh} {lo : T_lo} {de : T_de} {wa : T_wa} {me : T_me} {ru : T_ru} {ws0 : va_W} {sz n : Nat}  {ko9 : T_ko} (hw : ws0 = (wX cI cL ad ma ko sh lo de wa me ru)) (h : r_Co_forget n ko  = some ko9) : Met l y_Co_forget (Cond.code y_Co_forget b_Co_forget 1 none :: TB) rm_Co_forget (PreW D clX (tyX cI cL) ws0 [.ref (ad 1)] sz) (PstV D clX (tyX cI cL) ws0 (wX cI cL ad ma (ko9) sh lo de wa me ru) sz) 0 0 (va_A ws0 sz) := by
  refine k_met (by decide) (Nat.le_of_ble_eq_true rfl) ?_
  intro p e s m below meth c ls hx hb hr hml hts hown hlk hnm hsz hP hK hD hA hz hl
  have hP : va_P D clX (wX cI cL ad ma ko sh lo de wa me ru) s.heap := by rw [← hw]; exact hP
  have hD : va_D (va_A ws0 sz) (wX cI cL ad ma ko sh lo de wa me ru) := by rw [← hw]; exact hD
  have hS : va_S (va_A ws0 sz) s.heap s.heap [] := va_S.rf
  have hl : lv_has ls 1 [(0, .ref (ad 1))] := hl
  generalize hQ : MQ below (PstV D clX (tyX cI cL) ws0 (wX cI cL ad ma (ko9) sh lo de wa me ru) sz) [.ref (ad 1)].toArray s 0 0 (va_A ws0 sz) = Q
  unfold r_Co_forget at h
  refine lv_aload_n hx hb d_Co_forget_0 rfl (lv_at hl 0 rfl) ?_
  refine lv_iconst (v := 0) hx hb d_Co_forget_1 (by decide) ?_
  refine wr_Co_units hx hb hts hown hK hP hD hS lk_36 d_Co_forget_2 (fun H locs hP hD hS => ?_)
  refine lv_aload_n hx hb d_Co_forget_5 rfl (lv_at hl 0 rfl) ?_
  refine lv_iconst (v := 0) hx hb d_Co_forget_6 (by decide) ?_
  refine wr_Co_length hx hb hts hown hK hP hD hS lk_37 d_Co_forget_7 (fun H locs hP hD hS => ?_)
  cases h
  subst hQ
  exact k_vret hx hb hr hlk hP hK hD hS d_Co_forget_10
end
