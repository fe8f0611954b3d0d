section
-- ===== PART A: goes FIRST, ahead of the names: the tables' words, and 'selects' of the private methods out of them =====
/-- a private method of a class that the tables say can be made, by its rows of tables_1 -/
def lw_okq (q : MethodName × Nat) : Prop := (q.1.cls ≠ "java/lang/invoke/MethodHandle" ∧ q.1.cls ≠ "java/lang/invoke/VarHandle") ∧ Cond.instantiable q.1.cls q.2 ∈ tables_1 ∧ Cond.privateMethod q.1 ∈ tables_1 ∧ Cond.instanceMethod q.1 ∈ tables_1
theorem lw_p0 : lw_okq (⟨"HoleBank", "textOf", "(I)LHoleBank$Text;"⟩, 13) := ⟨⟨by decide +kernel, by decide +kernel⟩, List.mem_of_getElem? (i := 19) (by decide +kernel), List.mem_of_getElem? (i := 277) (by decide +kernel), List.mem_of_getElem? (i := 278) (by decide +kernel)⟩
theorem lw_p1 : lw_okq (⟨"HoleBank$Text", "append", "(I)I"⟩, 8) := ⟨⟨by decide +kernel, by decide +kernel⟩, List.mem_of_getElem? (i := 27) (by decide +kernel), List.mem_of_getElem? (i := 281) (by decide +kernel), List.mem_of_getElem? (i := 282) (by decide +kernel)⟩
theorem lw_p2 : lw_okq (⟨"HoleBank$Text", "parse", "()V"⟩, 8) := ⟨⟨by decide +kernel, by decide +kernel⟩, List.mem_of_getElem? (i := 27) (by decide +kernel), List.mem_of_getElem? (i := 285) (by decide +kernel), List.mem_of_getElem? (i := 286) (by decide +kernel)⟩
theorem lw_p3 : lw_okq (⟨"HoleBank$Text", "firstFault", "()I"⟩, 8) := ⟨⟨by decide +kernel, by decide +kernel⟩, List.mem_of_getElem? (i := 27) (by decide +kernel), List.mem_of_getElem? (i := 289) (by decide +kernel), List.mem_of_getElem? (i := 290) (by decide +kernel)⟩
theorem lw_p4 : lw_okq (⟨"HoleBank$Text", "goesOnAt", "(I)Z"⟩, 8) := ⟨⟨by decide +kernel, by decide +kernel⟩, List.mem_of_getElem? (i := 27) (by decide +kernel), List.mem_of_getElem? (i := 293) (by decide +kernel), List.mem_of_getElem? (i := 294) (by decide +kernel)⟩
theorem lw_p5 : lw_okq (⟨"HoleBank$Text", "shorten", "(I)V"⟩, 8) := ⟨⟨by decide +kernel, by decide +kernel⟩, List.mem_of_getElem? (i := 27) (by decide +kernel), List.mem_of_getElem? (i := 390) (by decide +kernel), List.mem_of_getElem? (i := 391) (by decide +kernel)⟩
theorem lw_p6 : lw_okq (⟨"HoleBank", "isHole", "(I)Z"⟩, 13) := ⟨⟨by decide +kernel, by decide +kernel⟩, List.mem_of_getElem? (i := 19) (by decide +kernel), List.mem_of_getElem? (i := 406) (by decide +kernel), List.mem_of_getElem? (i := 407) (by decide +kernel)⟩
theorem lw_p7 : lw_okq (⟨"HoleBank$Text", "figure", "(II)I"⟩, 8) := ⟨⟨by decide +kernel, by decide +kernel⟩, List.mem_of_getElem? (i := 27) (by decide +kernel), List.mem_of_getElem? (i := 410) (by decide +kernel), List.mem_of_getElem? (i := 411) (by decide +kernel)⟩
theorem lw_p8 : lw_okq (⟨"HoleBank", "isWork", "(I)Z"⟩, 13) := ⟨⟨by decide +kernel, by decide +kernel⟩, List.mem_of_getElem? (i := 19) (by decide +kernel), List.mem_of_getElem? (i := 418) (by decide +kernel), List.mem_of_getElem? (i := 419) (by decide +kernel)⟩
theorem lw_p9 : lw_okq (⟨"HoleBank$Rows", "isFull", "()Z"⟩, 3) := ⟨⟨by decide +kernel, by decide +kernel⟩, List.mem_of_getElem? (i := 72) (by decide +kernel), List.mem_of_getElem? (i := 429) (by decide +kernel), List.mem_of_getElem? (i := 430) (by decide +kernel)⟩
theorem lw_p10 : lw_okq (⟨"HoleBank$Rows", "add", "(IIII)I"⟩, 3) := ⟨⟨by decide +kernel, by decide +kernel⟩, List.mem_of_getElem? (i := 72) (by decide +kernel), List.mem_of_getElem? (i := 433) (by decide +kernel), List.mem_of_getElem? (i := 434) (by decide +kernel)⟩
theorem lw_p11 : lw_okq (⟨"HoleBank", "tell", "(LHoleBank$Rows;II)I"⟩, 13) := ⟨⟨by decide +kernel, by decide +kernel⟩, List.mem_of_getElem? (i := 19) (by decide +kernel), List.mem_of_getElem? (i := 441) (by decide +kernel), List.mem_of_getElem? (i := 442) (by decide +kernel)⟩
theorem lw_p12 : lw_okq (⟨"HoleBank$Rows", "drop", "(I)I"⟩, 3) := ⟨⟨by decide +kernel, by decide +kernel⟩, List.mem_of_getElem? (i := 72) (by decide +kernel), List.mem_of_getElem? (i := 453) (by decide +kernel), List.mem_of_getElem? (i := 454) (by decide +kernel)⟩
theorem lw_p13 : lw_okq (⟨"HoleBank", "found", "(I)I"⟩, 13) := ⟨⟨by decide +kernel, by decide +kernel⟩, List.mem_of_getElem? (i := 19) (by decide +kernel), List.mem_of_getElem? (i := 465) (by decide +kernel), List.mem_of_getElem? (i := 466) (by decide +kernel)⟩
theorem lw_p14 : lw_okq (⟨"HoleBank$Sheet", "item", "(I)I"⟩, 4) := ⟨⟨by decide +kernel, by decide +kernel⟩, List.mem_of_getElem? (i := 207) (by decide +kernel), List.mem_of_getElem? (i := 469) (by decide +kernel), List.mem_of_getElem? (i := 470) (by decide +kernel)⟩
theorem lw_p15 : lw_okq (⟨"HoleBank", "toldCourse", "()LHoleBank$Course;"⟩, 13) := ⟨⟨by decide +kernel, by decide +kernel⟩, List.mem_of_getElem? (i := 19) (by decide +kernel), List.mem_of_getElem? (i := 482) (by decide +kernel), List.mem_of_getElem? (i := 483) (by decide +kernel)⟩
def lw_privs_1 : List (MethodName × Nat) := [(⟨"HoleBank", "textOf", "(I)LHoleBank$Text;"⟩, 13), (⟨"HoleBank$Text", "append", "(I)I"⟩, 8), (⟨"HoleBank$Text", "parse", "()V"⟩, 8), (⟨"HoleBank$Text", "firstFault", "()I"⟩, 8), (⟨"HoleBank$Text", "goesOnAt", "(I)Z"⟩, 8), (⟨"HoleBank$Text", "shorten", "(I)V"⟩, 8), (⟨"HoleBank", "isHole", "(I)Z"⟩, 13), (⟨"HoleBank$Text", "figure", "(II)I"⟩, 8), (⟨"HoleBank", "isWork", "(I)Z"⟩, 13), (⟨"HoleBank$Rows", "isFull", "()Z"⟩, 3), (⟨"HoleBank$Rows", "add", "(IIII)I"⟩, 3), (⟨"HoleBank", "tell", "(LHoleBank$Rows;II)I"⟩, 13), (⟨"HoleBank$Rows", "drop", "(I)I"⟩, 3), (⟨"HoleBank", "found", "(I)I"⟩, 13), (⟨"HoleBank$Sheet", "item", "(I)I"⟩, 4), (⟨"HoleBank", "toldCourse", "()LHoleBank$Course;"⟩, 13)]
theorem lw_r1 : ∀ q ∈ lw_privs_1, lw_okq q := List.forall_mem_cons.mpr ⟨lw_p0, List.forall_mem_cons.mpr ⟨lw_p1, List.forall_mem_cons.mpr ⟨lw_p2, List.forall_mem_cons.mpr ⟨lw_p3, List.forall_mem_cons.mpr ⟨lw_p4, List.forall_mem_cons.mpr ⟨lw_p5, List.forall_mem_cons.mpr ⟨lw_p6, List.forall_mem_cons.mpr ⟨lw_p7, List.forall_mem_cons.mpr ⟨lw_p8, List.forall_mem_cons.mpr ⟨lw_p9, List.forall_mem_cons.mpr ⟨lw_p10, List.forall_mem_cons.mpr ⟨lw_p11, List.forall_mem_cons.mpr ⟨lw_p12, List.forall_mem_cons.mpr ⟨lw_p13, List.forall_mem_cons.mpr ⟨lw_p14, List.forall_mem_cons.mpr ⟨lw_p15, fun _ h => absurd h List.not_mem_nil⟩⟩⟩⟩⟩⟩⟩⟩⟩⟩⟩⟩⟩⟩⟩⟩
theorem lw_p16 : lw_okq (⟨"HoleBank$Course", "follow", "(LHoleBank$Text;LHoleBank$Book;I)V"⟩, 10) := ⟨⟨by decide +kernel, by decide +kernel⟩, List.mem_of_getElem? (i := 108) (by decide +kernel), List.mem_of_getElem? (i := 486) (by decide +kernel), List.mem_of_getElem? (i := 487) (by decide +kernel)⟩
theorem lw_p17 : lw_okq (⟨"HoleBank$Hole", "begin", "(LHoleBank$Text;I)V"⟩, 8) := ⟨⟨by decide +kernel, by decide +kernel⟩, List.mem_of_getElem? (i := 115) (by decide +kernel), List.mem_of_getElem? (i := 490) (by decide +kernel), List.mem_of_getElem? (i := 491) (by decide +kernel)⟩
theorem lw_p18 : lw_okq (⟨"HoleBank$Course", "lendAll", "(ILHoleBank$Rows;)V"⟩, 10) := ⟨⟨by decide +kernel, by decide +kernel⟩, List.mem_of_getElem? (i := 108) (by decide +kernel), List.mem_of_getElem? (i := 498) (by decide +kernel), List.mem_of_getElem? (i := 499) (by decide +kernel)⟩
theorem lw_p19 : lw_okq (⟨"HoleBank$Rows", "cell", "(II)I"⟩, 3) := ⟨⟨by decide +kernel, by decide +kernel⟩, List.mem_of_getElem? (i := 72) (by decide +kernel), List.mem_of_getElem? (i := 502) (by decide +kernel), List.mem_of_getElem? (i := 503) (by decide +kernel)⟩
theorem lw_p20 : lw_okq (⟨"HoleBank$Hole", "lendBy", "(I)V"⟩, 8) := ⟨⟨by decide +kernel, by decide +kernel⟩, List.mem_of_getElem? (i := 115) (by decide +kernel), List.mem_of_getElem? (i := 506) (by decide +kernel), List.mem_of_getElem? (i := 507) (by decide +kernel)⟩
theorem lw_p21 : lw_okq (⟨"HoleBank$Course", "fillAll", "(ILHoleBank$Rows;)V"⟩, 10) := ⟨⟨by decide +kernel, by decide +kernel⟩, List.mem_of_getElem? (i := 108) (by decide +kernel), List.mem_of_getElem? (i := 510) (by decide +kernel), List.mem_of_getElem? (i := 511) (by decide +kernel)⟩
theorem lw_p22 : lw_okq (⟨"HoleBank$Course", "patchAll", "(ILHoleBank$Rows;)V"⟩, 10) := ⟨⟨by decide +kernel, by decide +kernel⟩, List.mem_of_getElem? (i := 108) (by decide +kernel), List.mem_of_getElem? (i := 514) (by decide +kernel), List.mem_of_getElem? (i := 515) (by decide +kernel)⟩
theorem lw_p23 : lw_okq (⟨"HoleBank$Course", "bitsAtBank", "()I"⟩, 10) := ⟨⟨by decide +kernel, by decide +kernel⟩, List.mem_of_getElem? (i := 108) (by decide +kernel), List.mem_of_getElem? (i := 519) (by decide +kernel), List.mem_of_getElem? (i := 520) (by decide +kernel)⟩
theorem lw_p24 : lw_okq (⟨"HoleBank$Course", "passDayOut", "(ILHoleBank$Hole;LHoleBank$Rows;)V"⟩, 10) := ⟨⟨by decide +kernel, by decide +kernel⟩, List.mem_of_getElem? (i := 108) (by decide +kernel), List.mem_of_getElem? (i := 523) (by decide +kernel), List.mem_of_getElem? (i := 524) (by decide +kernel)⟩
theorem lw_p25 : lw_okq (⟨"HoleBank$Hole", "passDayOut", "()V"⟩, 8) := ⟨⟨by decide +kernel, by decide +kernel⟩, List.mem_of_getElem? (i := 115) (by decide +kernel), List.mem_of_getElem? (i := 527) (by decide +kernel), List.mem_of_getElem? (i := 528) (by decide +kernel)⟩
theorem lw_p26 : lw_okq (⟨"HoleBank$Course", "note", "(II)V"⟩, 10) := ⟨⟨by decide +kernel, by decide +kernel⟩, List.mem_of_getElem? (i := 108) (by decide +kernel), List.mem_of_getElem? (i := 531) (by decide +kernel), List.mem_of_getElem? (i := 532) (by decide +kernel)⟩
theorem lw_p27 : lw_okq (⟨"HoleBank$Course", "bitsFilled", "()I"⟩, 10) := ⟨⟨by decide +kernel, by decide +kernel⟩, List.mem_of_getElem? (i := 108) (by decide +kernel), List.mem_of_getElem? (i := 535) (by decide +kernel), List.mem_of_getElem? (i := 536) (by decide +kernel)⟩
theorem lw_p28 : lw_okq (⟨"HoleBank$Course", "wideBehind", "(II)I"⟩, 10) := ⟨⟨by decide +kernel, by decide +kernel⟩, List.mem_of_getElem? (i := 108) (by decide +kernel), List.mem_of_getElem? (i := 539) (by decide +kernel), List.mem_of_getElem? (i := 540) (by decide +kernel)⟩
theorem lw_p29 : lw_okq (⟨"HoleBank$Course", "deepBehind", "(II)I"⟩, 10) := ⟨⟨by decide +kernel, by decide +kernel⟩, List.mem_of_getElem? (i := 108) (by decide +kernel), List.mem_of_getElem? (i := 543) (by decide +kernel), List.mem_of_getElem? (i := 544) (by decide +kernel)⟩
theorem lw_p30 : lw_okq (⟨"HoleBank$Course", "loanBehind", "(II)I"⟩, 10) := ⟨⟨by decide +kernel, by decide +kernel⟩, List.mem_of_getElem? (i := 108) (by decide +kernel), List.mem_of_getElem? (i := 547) (by decide +kernel), List.mem_of_getElem? (i := 548) (by decide +kernel)⟩
theorem lw_p31 : lw_okq (⟨"HoleBank$Course", "vaultBehind", "(I)I"⟩, 10) := ⟨⟨by decide +kernel, by decide +kernel⟩, List.mem_of_getElem? (i := 108) (by decide +kernel), List.mem_of_getElem? (i := 556) (by decide +kernel), List.mem_of_getElem? (i := 557) (by decide +kernel)⟩
def lw_privs_2 : List (MethodName × Nat) := [(⟨"HoleBank$Course", "follow", "(LHoleBank$Text;LHoleBank$Book;I)V"⟩, 10), (⟨"HoleBank$Hole", "begin", "(LHoleBank$Text;I)V"⟩, 8), (⟨"HoleBank$Course", "lendAll", "(ILHoleBank$Rows;)V"⟩, 10), (⟨"HoleBank$Rows", "cell", "(II)I"⟩, 3), (⟨"HoleBank$Hole", "lendBy", "(I)V"⟩, 8), (⟨"HoleBank$Course", "fillAll", "(ILHoleBank$Rows;)V"⟩, 10), (⟨"HoleBank$Course", "patchAll", "(ILHoleBank$Rows;)V"⟩, 10), (⟨"HoleBank$Course", "bitsAtBank", "()I"⟩, 10), (⟨"HoleBank$Course", "passDayOut", "(ILHoleBank$Hole;LHoleBank$Rows;)V"⟩, 10), (⟨"HoleBank$Hole", "passDayOut", "()V"⟩, 8), (⟨"HoleBank$Course", "note", "(II)V"⟩, 10), (⟨"HoleBank$Course", "bitsFilled", "()I"⟩, 10), (⟨"HoleBank$Course", "wideBehind", "(II)I"⟩, 10), (⟨"HoleBank$Course", "deepBehind", "(II)I"⟩, 10), (⟨"HoleBank$Course", "loanBehind", "(II)I"⟩, 10), (⟨"HoleBank$Course", "vaultBehind", "(I)I"⟩, 10)]
theorem lw_r2 : ∀ q ∈ lw_privs_2, lw_okq q := List.forall_mem_cons.mpr ⟨lw_p16, List.forall_mem_cons.mpr ⟨lw_p17, List.forall_mem_cons.mpr ⟨lw_p18, List.forall_mem_cons.mpr ⟨lw_p19, List.forall_mem_cons.mpr ⟨lw_p20, List.forall_mem_cons.mpr ⟨lw_p21, List.forall_mem_cons.mpr ⟨lw_p22, List.forall_mem_cons.mpr ⟨lw_p23, List.forall_mem_cons.mpr ⟨lw_p24, List.forall_mem_cons.mpr ⟨lw_p25, List.forall_mem_cons.mpr ⟨lw_p26, List.forall_mem_cons.mpr ⟨lw_p27, List.forall_mem_cons.mpr ⟨lw_p28, List.forall_mem_cons.mpr ⟨lw_p29, List.forall_mem_cons.mpr ⟨lw_p30, List.forall_mem_cons.mpr ⟨lw_p31, fun _ h => absurd h List.not_mem_nil⟩⟩⟩⟩⟩⟩⟩⟩⟩⟩⟩⟩⟩⟩⟩⟩
theorem lw_p32 : lw_okq (⟨"HoleBank", "suits", "(IIII)Z"⟩, 13) := ⟨⟨by decide +kernel, by decide +kernel⟩, List.mem_of_getElem? (i := 19) (by decide +kernel), List.mem_of_getElem? (i := 579) (by decide +kernel), List.mem_of_getElem? (i := 580) (by decide +kernel)⟩
theorem lw_p33 : lw_okq (⟨"HoleBank", "mostWorth", "(LHoleBank$Course;I)I"⟩, 13) := ⟨⟨by decide +kernel, by decide +kernel⟩, List.mem_of_getElem? (i := 19) (by decide +kernel), List.mem_of_getElem? (i := 587) (by decide +kernel), List.mem_of_getElem? (i := 588) (by decide +kernel)⟩
theorem lw_p34 : lw_okq (⟨"HoleBank$Match", "begin", "(I)V"⟩, 4) := ⟨⟨by decide +kernel, by decide +kernel⟩, List.mem_of_getElem? (i := 187) (by decide +kernel), List.mem_of_getElem? (i := 591) (by decide +kernel), List.mem_of_getElem? (i := 592) (by decide +kernel)⟩
theorem lw_p35 : lw_okq (⟨"HoleBank$Match", "set", "(III)V"⟩, 4) := ⟨⟨by decide +kernel, by decide +kernel⟩, List.mem_of_getElem? (i := 187) (by decide +kernel), List.mem_of_getElem? (i := 595) (by decide +kernel), List.mem_of_getElem? (i := 596) (by decide +kernel)⟩
theorem lw_p36 : lw_okq (⟨"HoleBank$Match", "solve", "()I"⟩, 4) := ⟨⟨by decide +kernel, by decide +kernel⟩, List.mem_of_getElem? (i := 187) (by decide +kernel), List.mem_of_getElem? (i := 599) (by decide +kernel), List.mem_of_getElem? (i := 600) (by decide +kernel)⟩
theorem lw_p37 : lw_okq (⟨"HoleBank$Match", "mostFrom", "(II)I"⟩, 4) := ⟨⟨by decide +kernel, by decide +kernel⟩, List.mem_of_getElem? (i := 187) (by decide +kernel), List.mem_of_getElem? (i := 603) (by decide +kernel), List.mem_of_getElem? (i := 604) (by decide +kernel)⟩
theorem lw_p38 : lw_okq (⟨"HoleBank$Match", "holeFor", "(I)I"⟩, 4) := ⟨⟨by decide +kernel, by decide +kernel⟩, List.mem_of_getElem? (i := 187) (by decide +kernel), List.mem_of_getElem? (i := 608) (by decide +kernel), List.mem_of_getElem? (i := 609) (by decide +kernel)⟩
theorem lw_p39 : lw_okq (⟨"HoleBank$Match", "leastHole", "(II)I"⟩, 4) := ⟨⟨by decide +kernel, by decide +kernel⟩, List.mem_of_getElem? (i := 187) (by decide +kernel), List.mem_of_getElem? (i := 612) (by decide +kernel), List.mem_of_getElem? (i := 613) (by decide +kernel)⟩
theorem lw_p40 : lw_okq (⟨"HoleBank", "holeMendedBy", "(LHoleBank$Course;III)I"⟩, 13) := ⟨⟨by decide +kernel, by decide +kernel⟩, List.mem_of_getElem? (i := 19) (by decide +kernel), List.mem_of_getElem? (i := 620) (by decide +kernel), List.mem_of_getElem? (i := 621) (by decide +kernel)⟩
theorem lw_p41 : lw_okq (⟨"HoleBank$Course", "couldBePatched", "(II)Z"⟩, 10) := ⟨⟨by decide +kernel, by decide +kernel⟩, List.mem_of_getElem? (i := 108) (by decide +kernel), List.mem_of_getElem? (i := 624) (by decide +kernel), List.mem_of_getElem? (i := 625) (by decide +kernel)⟩
theorem lw_p42 : lw_okq (⟨"HoleBank$Course", "isOutBy", "(III)Z"⟩, 10) := ⟨⟨by decide +kernel, by decide +kernel⟩, List.mem_of_getElem? (i := 108) (by decide +kernel), List.mem_of_getElem? (i := 633) (by decide +kernel), List.mem_of_getElem? (i := 634) (by decide +kernel)⟩
theorem lw_p43 : lw_okq (⟨"HoleBank", "courseWithoutLoan", "(II)LHoleBank$Course;"⟩, 13) := ⟨⟨by decide +kernel, by decide +kernel⟩, List.mem_of_getElem? (i := 19) (by decide +kernel), List.mem_of_getElem? (i := 637) (by decide +kernel), List.mem_of_getElem? (i := 638) (by decide +kernel)⟩
theorem lw_p44 : lw_okq (⟨"HoleBank$Book", "takeAll", "(LHoleBank$Book;)V"⟩, 3) := ⟨⟨by decide +kernel, by decide +kernel⟩, List.mem_of_getElem? (i := 66) (by decide +kernel), List.mem_of_getElem? (i := 641) (by decide +kernel), List.mem_of_getElem? (i := 642) (by decide +kernel)⟩
theorem lw_p45 : lw_okq (⟨"HoleBank$Rows", "takeAll", "(LHoleBank$Rows;)V"⟩, 3) := ⟨⟨by decide +kernel, by decide +kernel⟩, List.mem_of_getElem? (i := 72) (by decide +kernel), List.mem_of_getElem? (i := 645) (by decide +kernel), List.mem_of_getElem? (i := 646) (by decide +kernel)⟩
theorem lw_p46 : lw_okq (⟨"HoleBank$Rows", "clear", "()V"⟩, 3) := ⟨⟨by decide +kernel, by decide +kernel⟩, List.mem_of_getElem? (i := 72) (by decide +kernel), List.mem_of_getElem? (i := 658) (by decide +kernel), List.mem_of_getElem? (i := 659) (by decide +kernel)⟩
theorem lw_p47 : lw_okq (⟨"HoleBank", "lastSightDay", "()I"⟩, 13) := ⟨⟨by decide +kernel, by decide +kernel⟩, List.mem_of_getElem? (i := 19) (by decide +kernel), List.mem_of_getElem? (i := 666) (by decide +kernel), List.mem_of_getElem? (i := 667) (by decide +kernel)⟩
def lw_privs_3 : List (MethodName × Nat) := [(⟨"HoleBank", "suits", "(IIII)Z"⟩, 13), (⟨"HoleBank", "mostWorth", "(LHoleBank$Course;I)I"⟩, 13), (⟨"HoleBank$Match", "begin", "(I)V"⟩, 4), (⟨"HoleBank$Match", "set", "(III)V"⟩, 4), (⟨"HoleBank$Match", "solve", "()I"⟩, 4), (⟨"HoleBank$Match", "mostFrom", "(II)I"⟩, 4), (⟨"HoleBank$Match", "holeFor", "(I)I"⟩, 4), (⟨"HoleBank$Match", "leastHole", "(II)I"⟩, 4), (⟨"HoleBank", "holeMendedBy", "(LHoleBank$Course;III)I"⟩, 13), (⟨"HoleBank$Course", "couldBePatched", "(II)Z"⟩, 10), (⟨"HoleBank$Course", "isOutBy", "(III)Z"⟩, 10), (⟨"HoleBank", "courseWithoutLoan", "(II)LHoleBank$Course;"⟩, 13), (⟨"HoleBank$Book", "takeAll", "(LHoleBank$Book;)V"⟩, 3), (⟨"HoleBank$Rows", "takeAll", "(LHoleBank$Rows;)V"⟩, 3), (⟨"HoleBank$Rows", "clear", "()V"⟩, 3), (⟨"HoleBank", "lastSightDay", "()I"⟩, 13)]
theorem lw_r3 : ∀ q ∈ lw_privs_3, lw_okq q := List.forall_mem_cons.mpr ⟨lw_p32, List.forall_mem_cons.mpr ⟨lw_p33, List.forall_mem_cons.mpr ⟨lw_p34, List.forall_mem_cons.mpr ⟨lw_p35, List.forall_mem_cons.mpr ⟨lw_p36, List.forall_mem_cons.mpr ⟨lw_p37, List.forall_mem_cons.mpr ⟨lw_p38, List.forall_mem_cons.mpr ⟨lw_p39, List.forall_mem_cons.mpr ⟨lw_p40, List.forall_mem_cons.mpr ⟨lw_p41, List.forall_mem_cons.mpr ⟨lw_p42, List.forall_mem_cons.mpr ⟨lw_p43, List.forall_mem_cons.mpr ⟨lw_p44, List.forall_mem_cons.mpr ⟨lw_p45, List.forall_mem_cons.mpr ⟨lw_p46, List.forall_mem_cons.mpr ⟨lw_p47, fun _ h => absurd h List.not_mem_nil⟩⟩⟩⟩⟩⟩⟩⟩⟩⟩⟩⟩⟩⟩⟩⟩
theorem lw_p48 : lw_okq (⟨"HoleBank", "courseWithoutPatch", "(II)LHoleBank$Course;"⟩, 13) := ⟨⟨by decide +kernel, by decide +kernel⟩, List.mem_of_getElem? (i := 19) (by decide +kernel), List.mem_of_getElem? (i := 670) (by decide +kernel), List.mem_of_getElem? (i := 671) (by decide +kernel)⟩
theorem lw_p49 : lw_okq (⟨"HoleBank", "comesOutAsSeen", "(LHoleBank$Course;)Z"⟩, 13) := ⟨⟨by decide +kernel, by decide +kernel⟩, List.mem_of_getElem? (i := 19) (by decide +kernel), List.mem_of_getElem? (i := 674) (by decide +kernel), List.mem_of_getElem? (i := 675) (by decide +kernel)⟩
theorem lw_p50 : lw_okq (⟨"HoleBank$Course", "sightOf", "(II)I"⟩, 10) := ⟨⟨by decide +kernel, by decide +kernel⟩, List.mem_of_getElem? (i := 108) (by decide +kernel), List.mem_of_getElem? (i := 678) (by decide +kernel), List.mem_of_getElem? (i := 679) (by decide +kernel)⟩
theorem lw_p51 : lw_okq (⟨"HoleBank", "addToAlike", "(LHoleBank$Course;I)V"⟩, 13) := ⟨⟨by decide +kernel, by decide +kernel⟩, List.mem_of_getElem? (i := 19) (by decide +kernel), List.mem_of_getElem? (i := 687) (by decide +kernel), List.mem_of_getElem? (i := 688) (by decide +kernel)⟩
theorem lw_p52 : lw_okq (⟨"HoleBank", "greatestAlike", "(I)I"⟩, 13) := ⟨⟨by decide +kernel, by decide +kernel⟩, List.mem_of_getElem? (i := 19) (by decide +kernel), List.mem_of_getElem? (i := 691) (by decide +kernel), List.mem_of_getElem? (i := 692) (by decide +kernel)⟩
theorem lw_p53 : lw_okq (⟨"HoleBank", "sixteenthsServed", "(LHoleBank$Course;IIII)I"⟩, 13) := ⟨⟨by decide +kernel, by decide +kernel⟩, List.mem_of_getElem? (i := 19) (by decide +kernel), List.mem_of_getElem? (i := 700) (by decide +kernel), List.mem_of_getElem? (i := 701) (by decide +kernel)⟩
theorem lw_p54 : lw_okq (⟨"HoleBank$Course", "countedFrom", "(II)I"⟩, 10) := ⟨⟨by decide +kernel, by decide +kernel⟩, List.mem_of_getElem? (i := 108) (by decide +kernel), List.mem_of_getElem? (i := 718) (by decide +kernel), List.mem_of_getElem? (i := 719) (by decide +kernel)⟩
theorem lw_p55 : lw_okq (⟨"HoleBank$Sheet", "begin", "(II)V"⟩, 4) := ⟨⟨by decide +kernel, by decide +kernel⟩, List.mem_of_getElem? (i := 207) (by decide +kernel), List.mem_of_getElem? (i := 726) (by decide +kernel), List.mem_of_getElem? (i := 727) (by decide +kernel)⟩
theorem lw_p56 : lw_okq (⟨"HoleBank$Sheet", "refusal", "(II)I"⟩, 4) := ⟨⟨by decide +kernel, by decide +kernel⟩, List.mem_of_getElem? (i := 207) (by decide +kernel), List.mem_of_getElem? (i := 739) (by decide +kernel), List.mem_of_getElem? (i := 740) (by decide +kernel)⟩
theorem lw_p57 : lw_okq (⟨"HoleBank$Sheet", "put", "(II)V"⟩, 4) := ⟨⟨by decide +kernel, by decide +kernel⟩, List.mem_of_getElem? (i := 207) (by decide +kernel), List.mem_of_getElem? (i := 744) (by decide +kernel), List.mem_of_getElem? (i := 745) (by decide +kernel)⟩
theorem lw_p58 : lw_okq (⟨"HoleBank$Sheet", "hasRange", "(II)Z"⟩, 4) := ⟨⟨by decide +kernel, by decide +kernel⟩, List.mem_of_getElem? (i := 207) (by decide +kernel), List.mem_of_getElem? (i := 757) (by decide +kernel), List.mem_of_getElem? (i := 758) (by decide +kernel)⟩
theorem lw_p59 : lw_okq (⟨"HoleBank", "digestHole", "(JI)J"⟩, 13) := ⟨⟨by decide +kernel, by decide +kernel⟩, List.mem_of_getElem? (i := 19) (by decide +kernel), List.mem_of_getElem? (i := 778) (by decide +kernel), List.mem_of_getElem? (i := 779) (by decide +kernel)⟩
theorem lw_p60 : lw_okq (⟨"HoleBank", "digestWork", "(JI)J"⟩, 13) := ⟨⟨by decide +kernel, by decide +kernel⟩, List.mem_of_getElem? (i := 19) (by decide +kernel), List.mem_of_getElem? (i := 785) (by decide +kernel), List.mem_of_getElem? (i := 786) (by decide +kernel)⟩
theorem lw_p61 : lw_okq (⟨"HoleBank", "digestDay", "(JI)J"⟩, 13) := ⟨⟨by decide +kernel, by decide +kernel⟩, List.mem_of_getElem? (i := 19) (by decide +kernel), List.mem_of_getElem? (i := 793) (by decide +kernel), List.mem_of_getElem? (i := 794) (by decide +kernel)⟩
theorem lw_p62 : lw_okq (⟨"HoleBankModel", "finds", "(I)I"⟩, 34) := ⟨⟨by decide +kernel, by decide +kernel⟩, List.mem_of_getElem? (i := 805) (by decide +kernel), List.mem_of_getElem? (i := 926) (by decide +kernel), List.mem_of_getElem? (i := 927) (by decide +kernel)⟩
theorem lw_p63 : lw_okq (⟨"HoleBankModel", "lacks", "(III)I"⟩, 34) := ⟨⟨by decide +kernel, by decide +kernel⟩, List.mem_of_getElem? (i := 805) (by decide +kernel), List.mem_of_getElem? (i := 938) (by decide +kernel), List.mem_of_getElem? (i := 939) (by decide +kernel)⟩
def lw_privs_4 : List (MethodName × Nat) := [(⟨"HoleBank", "courseWithoutPatch", "(II)LHoleBank$Course;"⟩, 13), (⟨"HoleBank", "comesOutAsSeen", "(LHoleBank$Course;)Z"⟩, 13), (⟨"HoleBank$Course", "sightOf", "(II)I"⟩, 10), (⟨"HoleBank", "addToAlike", "(LHoleBank$Course;I)V"⟩, 13), (⟨"HoleBank", "greatestAlike", "(I)I"⟩, 13), (⟨"HoleBank", "sixteenthsServed", "(LHoleBank$Course;IIII)I"⟩, 13), (⟨"HoleBank$Course", "countedFrom", "(II)I"⟩, 10), (⟨"HoleBank$Sheet", "begin", "(II)V"⟩, 4), (⟨"HoleBank$Sheet", "refusal", "(II)I"⟩, 4), (⟨"HoleBank$Sheet", "put", "(II)V"⟩, 4), (⟨"HoleBank$Sheet", "hasRange", "(II)Z"⟩, 4), (⟨"HoleBank", "digestHole", "(JI)J"⟩, 13), (⟨"HoleBank", "digestWork", "(JI)J"⟩, 13), (⟨"HoleBank", "digestDay", "(JI)J"⟩, 13), (⟨"HoleBankModel", "finds", "(I)I"⟩, 34), (⟨"HoleBankModel", "lacks", "(III)I"⟩, 34)]
theorem lw_r4 : ∀ q ∈ lw_privs_4, lw_okq q := List.forall_mem_cons.mpr ⟨lw_p48, List.forall_mem_cons.mpr ⟨lw_p49, List.forall_mem_cons.mpr ⟨lw_p50, List.forall_mem_cons.mpr ⟨lw_p51, List.forall_mem_cons.mpr ⟨lw_p52, List.forall_mem_cons.mpr ⟨lw_p53, List.forall_mem_cons.mpr ⟨lw_p54, List.forall_mem_cons.mpr ⟨lw_p55, List.forall_mem_cons.mpr ⟨lw_p56, List.forall_mem_cons.mpr ⟨lw_p57, List.forall_mem_cons.mpr ⟨lw_p58, List.forall_mem_cons.mpr ⟨lw_p59, List.forall_mem_cons.mpr ⟨lw_p60, List.forall_mem_cons.mpr ⟨lw_p61, List.forall_mem_cons.mpr ⟨lw_p62, List.forall_mem_cons.mpr ⟨lw_p63, fun _ h => absurd h List.not_mem_nil⟩⟩⟩⟩⟩⟩⟩⟩⟩⟩⟩⟩⟩⟩⟩⟩
theorem lw_p64 : lw_okq (⟨"HoleBankModel", "readsText", "(I)I"⟩, 34) := ⟨⟨by decide +kernel, by decide +kernel⟩, List.mem_of_getElem? (i := 805) (by decide +kernel), List.mem_of_getElem? (i := 974) (by decide +kernel), List.mem_of_getElem? (i := 975) (by decide +kernel)⟩
theorem lw_p65 : lw_okq (⟨"HoleBankModel", "reads", "()V"⟩, 34) := ⟨⟨by decide +kernel, by decide +kernel⟩, List.mem_of_getElem? (i := 805) (by decide +kernel), List.mem_of_getElem? (i := 989) (by decide +kernel), List.mem_of_getElem? (i := 990) (by decide +kernel)⟩
theorem lw_p66 : lw_okq (⟨"HoleBankModel", "isHole", "(I)Z"⟩, 34) := ⟨⟨by decide +kernel, by decide +kernel⟩, List.mem_of_getElem? (i := 805) (by decide +kernel), List.mem_of_getElem? (i := 993) (by decide +kernel), List.mem_of_getElem? (i := 994) (by decide +kernel)⟩
theorem lw_p67 : lw_okq (⟨"HoleBankModel", "isWork", "(I)Z"⟩, 34) := ⟨⟨by decide +kernel, by decide +kernel⟩, List.mem_of_getElem? (i := 805) (by decide +kernel), List.mem_of_getElem? (i := 1001) (by decide +kernel), List.mem_of_getElem? (i := 1002) (by decide +kernel)⟩
theorem lw_p68 : lw_okq (⟨"HoleBankModel", "lends", "(IIII)V"⟩, 34) := ⟨⟨by decide +kernel, by decide +kernel⟩, List.mem_of_getElem? (i := 805) (by decide +kernel), List.mem_of_getElem? (i := 1019) (by decide +kernel), List.mem_of_getElem? (i := 1020) (by decide +kernel)⟩
theorem lw_p69 : lw_okq (⟨"HoleBankModel", "patchesMore", "(II)V"⟩, 34) := ⟨⟨by decide +kernel, by decide +kernel⟩, List.mem_of_getElem? (i := 805) (by decide +kernel), List.mem_of_getElem? (i := 1031) (by decide +kernel), List.mem_of_getElem? (i := 1032) (by decide +kernel)⟩
theorem lw_p70 : lw_okq (⟨"HoleBankModel", "isOf", "(III)I"⟩, 34) := ⟨⟨by decide +kernel, by decide +kernel⟩, List.mem_of_getElem? (i := 805) (by decide +kernel), List.mem_of_getElem? (i := 1053) (by decide +kernel), List.mem_of_getElem? (i := 1054) (by decide +kernel)⟩
theorem lw_p71 : lw_okq (⟨"HoleBankModel", "lives", "(I)V"⟩, 34) := ⟨⟨by decide +kernel, by decide +kernel⟩, List.mem_of_getElem? (i := 805) (by decide +kernel), List.mem_of_getElem? (i := 1057) (by decide +kernel), List.mem_of_getElem? (i := 1058) (by decide +kernel)⟩
theorem lw_p72 : lw_okq (⟨"HoleBankModel", "begins", "()V"⟩, 34) := ⟨⟨by decide +kernel, by decide +kernel⟩, List.mem_of_getElem? (i := 805) (by decide +kernel), List.mem_of_getElem? (i := 1061) (by decide +kernel), List.mem_of_getElem? (i := 1062) (by decide +kernel)⟩
theorem lw_p73 : lw_okq (⟨"HoleBankModel", "day", "(I)V"⟩, 34) := ⟨⟨by decide +kernel, by decide +kernel⟩, List.mem_of_getElem? (i := 805) (by decide +kernel), List.mem_of_getElem? (i := 1065) (by decide +kernel), List.mem_of_getElem? (i := 1066) (by decide +kernel)⟩
theorem lw_p74 : lw_okq (⟨"HoleBankModel", "lendsOn", "(I)V"⟩, 34) := ⟨⟨by decide +kernel, by decide +kernel⟩, List.mem_of_getElem? (i := 805) (by decide +kernel), List.mem_of_getElem? (i := 1069) (by decide +kernel), List.mem_of_getElem? (i := 1070) (by decide +kernel)⟩
theorem lw_p75 : lw_okq (⟨"HoleBankModel", "fillsOn", "(I)V"⟩, 34) := ⟨⟨by decide +kernel, by decide +kernel⟩, List.mem_of_getElem? (i := 805) (by decide +kernel), List.mem_of_getElem? (i := 1073) (by decide +kernel), List.mem_of_getElem? (i := 1074) (by decide +kernel)⟩
theorem lw_p76 : lw_okq (⟨"HoleBankModel", "patchesOn", "(I)V"⟩, 34) := ⟨⟨by decide +kernel, by decide +kernel⟩, List.mem_of_getElem? (i := 805) (by decide +kernel), List.mem_of_getElem? (i := 1077) (by decide +kernel), List.mem_of_getElem? (i := 1078) (by decide +kernel)⟩
theorem lw_p77 : lw_okq (⟨"HoleBankModel", "grows", "(I)V"⟩, 34) := ⟨⟨by decide +kernel, by decide +kernel⟩, List.mem_of_getElem? (i := 805) (by decide +kernel), List.mem_of_getElem? (i := 1084) (by decide +kernel), List.mem_of_getElem? (i := 1085) (by decide +kernel)⟩
theorem lw_p78 : lw_okq (⟨"HoleBankModel", "comesBack", "(II)V"⟩, 34) := ⟨⟨by decide +kernel, by decide +kernel⟩, List.mem_of_getElem? (i := 805) (by decide +kernel), List.mem_of_getElem? (i := 1091) (by decide +kernel), List.mem_of_getElem? (i := 1092) (by decide +kernel)⟩
theorem lw_p79 : lw_okq (⟨"HoleBankModel", "behindOf", "(II)I"⟩, 34) := ⟨⟨by decide +kernel, by decide +kernel⟩, List.mem_of_getElem? (i := 805) (by decide +kernel), List.mem_of_getElem? (i := 1102) (by decide +kernel), List.mem_of_getElem? (i := 1103) (by decide +kernel)⟩
def lw_privs_5 : List (MethodName × Nat) := [(⟨"HoleBankModel", "readsText", "(I)I"⟩, 34), (⟨"HoleBankModel", "reads", "()V"⟩, 34), (⟨"HoleBankModel", "isHole", "(I)Z"⟩, 34), (⟨"HoleBankModel", "isWork", "(I)Z"⟩, 34), (⟨"HoleBankModel", "lends", "(IIII)V"⟩, 34), (⟨"HoleBankModel", "patchesMore", "(II)V"⟩, 34), (⟨"HoleBankModel", "isOf", "(III)I"⟩, 34), (⟨"HoleBankModel", "lives", "(I)V"⟩, 34), (⟨"HoleBankModel", "begins", "()V"⟩, 34), (⟨"HoleBankModel", "day", "(I)V"⟩, 34), (⟨"HoleBankModel", "lendsOn", "(I)V"⟩, 34), (⟨"HoleBankModel", "fillsOn", "(I)V"⟩, 34), (⟨"HoleBankModel", "patchesOn", "(I)V"⟩, 34), (⟨"HoleBankModel", "grows", "(I)V"⟩, 34), (⟨"HoleBankModel", "comesBack", "(II)V"⟩, 34), (⟨"HoleBankModel", "behindOf", "(II)I"⟩, 34)]
theorem lw_r5 : ∀ q ∈ lw_privs_5, lw_okq q := List.forall_mem_cons.mpr ⟨lw_p64, List.forall_mem_cons.mpr ⟨lw_p65, List.forall_mem_cons.mpr ⟨lw_p66, List.forall_mem_cons.mpr ⟨lw_p67, List.forall_mem_cons.mpr ⟨lw_p68, List.forall_mem_cons.mpr ⟨lw_p69, List.forall_mem_cons.mpr ⟨lw_p70, List.forall_mem_cons.mpr ⟨lw_p71, List.forall_mem_cons.mpr ⟨lw_p72, List.forall_mem_cons.mpr ⟨lw_p73, List.forall_mem_cons.mpr ⟨lw_p74, List.forall_mem_cons.mpr ⟨lw_p75, List.forall_mem_cons.mpr ⟨lw_p76, List.forall_mem_cons.mpr ⟨lw_p77, List.forall_mem_cons.mpr ⟨lw_p78, List.forall_mem_cons.mpr ⟨lw_p79, fun _ h => absurd h List.not_mem_nil⟩⟩⟩⟩⟩⟩⟩⟩⟩⟩⟩⟩⟩⟩⟩⟩
theorem lw_p80 : lw_okq (⟨"HoleBankModel", "vaultNow", "()I"⟩, 34) := ⟨⟨by decide +kernel, by decide +kernel⟩, List.mem_of_getElem? (i := 805) (by decide +kernel), List.mem_of_getElem? (i := 1106) (by decide +kernel), List.mem_of_getElem? (i := 1107) (by decide +kernel)⟩
theorem lw_p81 : lw_okq (⟨"HoleBankModel", "cameOf", "(II)I"⟩, 34) := ⟨⟨by decide +kernel, by decide +kernel⟩, List.mem_of_getElem? (i := 805) (by decide +kernel), List.mem_of_getElem? (i := 1114) (by decide +kernel), List.mem_of_getElem? (i := 1115) (by decide +kernel)⟩
theorem lw_p82 : lw_okq (⟨"HoleBankModel", "breachesOf", "(I)I"⟩, 34) := ⟨⟨by decide +kernel, by decide +kernel⟩, List.mem_of_getElem? (i := 805) (by decide +kernel), List.mem_of_getElem? (i := 1122) (by decide +kernel), List.mem_of_getElem? (i := 1123) (by decide +kernel)⟩
theorem lw_p83 : lw_okq (⟨"HoleBankModel", "firstNow", "()I"⟩, 34) := ⟨⟨by decide +kernel, by decide +kernel⟩, List.mem_of_getElem? (i := 805) (by decide +kernel), List.mem_of_getElem? (i := 1130) (by decide +kernel), List.mem_of_getElem? (i := 1131) (by decide +kernel)⟩
theorem lw_p84 : lw_okq (⟨"HoleBankModel", "servesOf", "(II)I"⟩, 34) := ⟨⟨by decide +kernel, by decide +kernel⟩, List.mem_of_getElem? (i := 805) (by decide +kernel), List.mem_of_getElem? (i := 1138) (by decide +kernel), List.mem_of_getElem? (i := 1139) (by decide +kernel)⟩
theorem lw_p85 : lw_okq (⟨"HoleBankModel", "servesNow", "(II)Z"⟩, 34) := ⟨⟨by decide +kernel, by decide +kernel⟩, List.mem_of_getElem? (i := 805) (by decide +kernel), List.mem_of_getElem? (i := 1142) (by decide +kernel), List.mem_of_getElem? (i := 1143) (by decide +kernel)⟩
theorem lw_p86 : lw_okq (⟨"HoleBankModel", "servesBy", "(III)Z"⟩, 34) := ⟨⟨by decide +kernel, by decide +kernel⟩, List.mem_of_getElem? (i := 805) (by decide +kernel), List.mem_of_getElem? (i := 1146) (by decide +kernel), List.mem_of_getElem? (i := 1147) (by decide +kernel)⟩
theorem lw_p87 : lw_okq (⟨"HoleBankModel", "bestOf", "(II)I"⟩, 34) := ⟨⟨by decide +kernel, by decide +kernel⟩, List.mem_of_getElem? (i := 805) (by decide +kernel), List.mem_of_getElem? (i := 1155) (by decide +kernel), List.mem_of_getElem? (i := 1156) (by decide +kernel)⟩
theorem lw_p88 : lw_okq (⟨"HoleBankModel", "bestNow", "()I"⟩, 34) := ⟨⟨by decide +kernel, by decide +kernel⟩, List.mem_of_getElem? (i := 805) (by decide +kernel), List.mem_of_getElem? (i := 1159) (by decide +kernel), List.mem_of_getElem? (i := 1160) (by decide +kernel)⟩
theorem lw_p89 : lw_okq (⟨"HoleBankModel", "may", "(III)Z"⟩, 34) := ⟨⟨by decide +kernel, by decide +kernel⟩, List.mem_of_getElem? (i := 805) (by decide +kernel), List.mem_of_getElem? (i := 1163) (by decide +kernel), List.mem_of_getElem? (i := 1164) (by decide +kernel)⟩
theorem lw_p90 : lw_okq (⟨"HoleBankModel", "worthBy", "(III)I"⟩, 34) := ⟨⟨by decide +kernel, by decide +kernel⟩, List.mem_of_getElem? (i := 805) (by decide +kernel), List.mem_of_getElem? (i := 1167) (by decide +kernel), List.mem_of_getElem? (i := 1168) (by decide +kernel)⟩
theorem lw_p91 : lw_okq (⟨"HoleBankModel", "mendOf", "(III)I"⟩, 34) := ⟨⟨by decide +kernel, by decide +kernel⟩, List.mem_of_getElem? (i := 805) (by decide +kernel), List.mem_of_getElem? (i := 1175) (by decide +kernel), List.mem_of_getElem? (i := 1176) (by decide +kernel)⟩
theorem lw_p92 : lw_okq (⟨"HoleBankModel", "isServed", "(II)Z"⟩, 34) := ⟨⟨by decide +kernel, by decide +kernel⟩, List.mem_of_getElem? (i := 805) (by decide +kernel), List.mem_of_getElem? (i := 1179) (by decide +kernel), List.mem_of_getElem? (i := 1180) (by decide +kernel)⟩
theorem lw_p93 : lw_okq (⟨"HoleBankModel", "goesOn", "(I)Z"⟩, 34) := ⟨⟨by decide +kernel, by decide +kernel⟩, List.mem_of_getElem? (i := 805) (by decide +kernel), List.mem_of_getElem? (i := 1183) (by decide +kernel), List.mem_of_getElem? (i := 1184) (by decide +kernel)⟩
theorem lw_p94 : lw_okq (⟨"HoleBankModel", "callOf", "(II)I"⟩, 34) := ⟨⟨by decide +kernel, by decide +kernel⟩, List.mem_of_getElem? (i := 805) (by decide +kernel), List.mem_of_getElem? (i := 1191) (by decide +kernel), List.mem_of_getElem? (i := 1192) (by decide +kernel)⟩
theorem lw_p95 : lw_okq (⟨"HoleBankModel", "neverOf", "(I)I"⟩, 34) := ⟨⟨by decide +kernel, by decide +kernel⟩, List.mem_of_getElem? (i := 805) (by decide +kernel), List.mem_of_getElem? (i := 1207) (by decide +kernel), List.mem_of_getElem? (i := 1208) (by decide +kernel)⟩
def lw_privs_6 : List (MethodName × Nat) := [(⟨"HoleBankModel", "vaultNow", "()I"⟩, 34), (⟨"HoleBankModel", "cameOf", "(II)I"⟩, 34), (⟨"HoleBankModel", "breachesOf", "(I)I"⟩, 34), (⟨"HoleBankModel", "firstNow", "()I"⟩, 34), (⟨"HoleBankModel", "servesOf", "(II)I"⟩, 34), (⟨"HoleBankModel", "servesNow", "(II)Z"⟩, 34), (⟨"HoleBankModel", "servesBy", "(III)Z"⟩, 34), (⟨"HoleBankModel", "bestOf", "(II)I"⟩, 34), (⟨"HoleBankModel", "bestNow", "()I"⟩, 34), (⟨"HoleBankModel", "may", "(III)Z"⟩, 34), (⟨"HoleBankModel", "worthBy", "(III)I"⟩, 34), (⟨"HoleBankModel", "mendOf", "(III)I"⟩, 34), (⟨"HoleBankModel", "isServed", "(II)Z"⟩, 34), (⟨"HoleBankModel", "goesOn", "(I)Z"⟩, 34), (⟨"HoleBankModel", "callOf", "(II)I"⟩, 34), (⟨"HoleBankModel", "neverOf", "(I)I"⟩, 34)]
theorem lw_r6 : ∀ q ∈ lw_privs_6, lw_okq q := List.forall_mem_cons.mpr ⟨lw_p80, List.forall_mem_cons.mpr ⟨lw_p81, List.forall_mem_cons.mpr ⟨lw_p82, List.forall_mem_cons.mpr ⟨lw_p83, List.forall_mem_cons.mpr ⟨lw_p84, List.forall_mem_cons.mpr ⟨lw_p85, List.forall_mem_cons.mpr ⟨lw_p86, List.forall_mem_cons.mpr ⟨lw_p87, List.forall_mem_cons.mpr ⟨lw_p88, List.forall_mem_cons.mpr ⟨lw_p89, List.forall_mem_cons.mpr ⟨lw_p90, List.forall_mem_cons.mpr ⟨lw_p91, List.forall_mem_cons.mpr ⟨lw_p92, List.forall_mem_cons.mpr ⟨lw_p93, List.forall_mem_cons.mpr ⟨lw_p94, List.forall_mem_cons.mpr ⟨lw_p95, fun _ h => absurd h List.not_mem_nil⟩⟩⟩⟩⟩⟩⟩⟩⟩⟩⟩⟩⟩⟩⟩⟩
theorem lw_p96 : lw_okq (⟨"HoleBankModel", "isSeen", "()Z"⟩, 34) := ⟨⟨by decide +kernel, by decide +kernel⟩, List.mem_of_getElem? (i := 805) (by decide +kernel), List.mem_of_getElem? (i := 1211) (by decide +kernel), List.mem_of_getElem? (i := 1212) (by decide +kernel)⟩
theorem lw_p97 : lw_okq (⟨"HoleBankModel", "looksNow", "(I)I"⟩, 34) := ⟨⟨by decide +kernel, by decide +kernel⟩, List.mem_of_getElem? (i := 805) (by decide +kernel), List.mem_of_getElem? (i := 1215) (by decide +kernel), List.mem_of_getElem? (i := 1216) (by decide +kernel)⟩
theorem lw_p98 : lw_okq (⟨"HoleBankModel", "lookOf", "(I)I"⟩, 34) := ⟨⟨by decide +kernel, by decide +kernel⟩, List.mem_of_getElem? (i := 805) (by decide +kernel), List.mem_of_getElem? (i := 1223) (by decide +kernel), List.mem_of_getElem? (i := 1224) (by decide +kernel)⟩
theorem lw_p99 : lw_okq (⟨"HoleBankModel", "mothsOf", "(IIII)J"⟩, 34) := ⟨⟨by decide +kernel, by decide +kernel⟩, List.mem_of_getElem? (i := 805) (by decide +kernel), List.mem_of_getElem? (i := 1232) (by decide +kernel), List.mem_of_getElem? (i := 1233) (by decide +kernel)⟩
theorem lw_p100 : lw_okq (⟨"HoleBankModel", "runOf", "(III)I"⟩, 34) := ⟨⟨by decide +kernel, by decide +kernel⟩, List.mem_of_getElem? (i := 805) (by decide +kernel), List.mem_of_getElem? (i := 1248) (by decide +kernel), List.mem_of_getElem? (i := 1249) (by decide +kernel)⟩
theorem lw_p101 : lw_okq (⟨"HoleBankModel", "lot", "(I)I"⟩, 34) := ⟨⟨by decide +kernel, by decide +kernel⟩, List.mem_of_getElem? (i := 805) (by decide +kernel), List.mem_of_getElem? (i := 1252) (by decide +kernel), List.mem_of_getElem? (i := 1253) (by decide +kernel)⟩
theorem lw_p102 : lw_okq (⟨"HoleBankModel", "counting", "()I"⟩, 34) := ⟨⟨by decide +kernel, by decide +kernel⟩, List.mem_of_getElem? (i := 805) (by decide +kernel), List.mem_of_getElem? (i := 1265) (by decide +kernel), List.mem_of_getElem? (i := 1266) (by decide +kernel)⟩
theorem lw_p103 : lw_okq (⟨"HoleBankModel", "tellsHole", "(JI)J"⟩, 34) := ⟨⟨by decide +kernel, by decide +kernel⟩, List.mem_of_getElem? (i := 805) (by decide +kernel), List.mem_of_getElem? (i := 1276) (by decide +kernel), List.mem_of_getElem? (i := 1277) (by decide +kernel)⟩
theorem lw_p104 : lw_okq (⟨"HoleBankModel", "tellsWork", "(JI)J"⟩, 34) := ⟨⟨by decide +kernel, by decide +kernel⟩, List.mem_of_getElem? (i := 805) (by decide +kernel), List.mem_of_getElem? (i := 1280) (by decide +kernel), List.mem_of_getElem? (i := 1281) (by decide +kernel)⟩
theorem lw_p105 : lw_okq (⟨"HoleBankModel", "tellsDay", "(JI)J"⟩, 34) := ⟨⟨by decide +kernel, by decide +kernel⟩, List.mem_of_getElem? (i := 805) (by decide +kernel), List.mem_of_getElem? (i := 1284) (by decide +kernel), List.mem_of_getElem? (i := 1285) (by decide +kernel)⟩
def lw_privs_7 : List (MethodName × Nat) := [(⟨"HoleBankModel", "isSeen", "()Z"⟩, 34), (⟨"HoleBankModel", "looksNow", "(I)I"⟩, 34), (⟨"HoleBankModel", "lookOf", "(I)I"⟩, 34), (⟨"HoleBankModel", "mothsOf", "(IIII)J"⟩, 34), (⟨"HoleBankModel", "runOf", "(III)I"⟩, 34), (⟨"HoleBankModel", "lot", "(I)I"⟩, 34), (⟨"HoleBankModel", "counting", "()I"⟩, 34), (⟨"HoleBankModel", "tellsHole", "(JI)J"⟩, 34), (⟨"HoleBankModel", "tellsWork", "(JI)J"⟩, 34), (⟨"HoleBankModel", "tellsDay", "(JI)J"⟩, 34)]
theorem lw_r7 : ∀ q ∈ lw_privs_7, lw_okq q := List.forall_mem_cons.mpr ⟨lw_p96, List.forall_mem_cons.mpr ⟨lw_p97, List.forall_mem_cons.mpr ⟨lw_p98, List.forall_mem_cons.mpr ⟨lw_p99, List.forall_mem_cons.mpr ⟨lw_p100, List.forall_mem_cons.mpr ⟨lw_p101, List.forall_mem_cons.mpr ⟨lw_p102, List.forall_mem_cons.mpr ⟨lw_p103, List.forall_mem_cons.mpr ⟨lw_p104, List.forall_mem_cons.mpr ⟨lw_p105, fun _ h => absurd h List.not_mem_nil⟩⟩⟩⟩⟩⟩⟩⟩⟩⟩
def lw_privs : List (MethodName × Nat) := lw_privs_1 ++ (lw_privs_2 ++ (lw_privs_3 ++ (lw_privs_4 ++ (lw_privs_5 ++ (lw_privs_6 ++ (lw_privs_7))))))
def lw_tbl : List Cond := k2_sels lw_privs ++ tables_1
theorem lw_privs_ok : ∀ q ∈ lw_privs, lw_okq q := by
  show ∀ q ∈ lw_privs_1 ++ (lw_privs_2 ++ (lw_privs_3 ++ (lw_privs_4 ++ (lw_privs_5 ++ (lw_privs_6 ++ (lw_privs_7)))))), lw_okq q
  exact List.forall_mem_append.mpr ⟨lw_r1, List.forall_mem_append.mpr ⟨lw_r2, List.forall_mem_append.mpr ⟨lw_r3, List.forall_mem_append.mpr ⟨lw_r4, List.forall_mem_append.mpr ⟨lw_r5, List.forall_mem_append.mpr ⟨lw_r6, lw_r7⟩⟩⟩⟩⟩⟩
-- ===== end of PART A; then your names; then what follows =====
end
section
def RX0 : String := "HoleBank$Book"
def TX0 : u_T := fun k => match k with
  | 0 => ("HoleBank$Book", "loans", "LHoleBank$Rows;", true)
  | 1 => ("HoleBank$Book", "fillings", "LHoleBank$Rows;", true)
  | _ => ("HoleBank$Book", "patches", "LHoleBank$Rows;", true)
def tyX0 : Nat → FieldType := fun k => match k with
  | 0 => .object "HoleBank$Rows"
  | 1 => .object "HoleBank$Rows"
  | _ => .object "HoleBank$Rows"
abbrev wsX00 : List Cond := u_ws RX0 TX0 3
theorem nmX0 : ∀ a, a < 3 → ∀ b, b < 3 → a ≠ b → (TX0 a).2.1 ≠ (TX0 b).2.1 := by decide +kernel
theorem tyX0_ok : ∀ k, k < 3 → parseFieldDescriptor (TX0 k).2.2.1 = some (tyX0 k) := by decide +kernel
abbrev cX0_init : ByteArray := prog_2_method_1_code
def yX0_init : MethodName := ⟨RX0, "<init>", "(I)V"⟩
abbrev cX0_takeAll : ByteArray := prog_2_method_2_code
def yX0_takeAll : MethodName := ⟨RX0, "takeAll", "(LHoleBank$Book;)V"⟩
def RX1 : String := "HoleBank$Course"
def TX1 : u_T := fun k => match k with
  | 0 => ("HoleBank$Course", "now", "[LHoleBank$Hole;", true)
  | 1 => ("HoleBank$Course", "wide", "[I", true)
  | 2 => ("HoleBank$Course", "deep", "[I", true)
  | 3 => ("HoleBank$Course", "loan", "[I", true)
  | 4 => ("HoleBank$Course", "patchable", "[I", true)
  | 5 => ("HoleBank$Course", "filled", "[I", true)
  | 6 => ("HoleBank$Course", "counted", "[I", true)
  | 7 => ("HoleBank$Course", "breachDay", "[I", true)
  | 8 => ("HoleBank$Course", "more", "[I", true)
  | _ => ("HoleBank$Course", "holes", "I", false)
def tyX1 : Nat → FieldType := fun k => match k with
  | 0 => .array (.object "HoleBank$Hole")
  | 1 => .array .int
  | 2 => .array .int
  | 3 => .array .int
  | 4 => .array .int
  | 5 => .array .int
  | 6 => .array .int
  | 7 => .array .int
  | 8 => .array .int
  | _ => .int
abbrev wsX10 : List Cond := u_ws RX1 TX1 10
theorem nmX1 : ∀ a, a < 10 → ∀ b, b < 10 → a ≠ b → (TX1 a).2.1 ≠ (TX1 b).2.1 := by decide +kernel
theorem tyX1_ok : ∀ k, k < 10 → parseFieldDescriptor (TX1 k).2.2.1 = some (tyX1 k) := by decide +kernel
abbrev cX1_init : ByteArray := prog_3_method_1_code
def yX1_init : MethodName := ⟨RX1, "<init>", "()V"⟩
abbrev cX1_follow : ByteArray := prog_3_method_2_code
def yX1_follow : MethodName := ⟨RX1, "follow", "(LHoleBank$Text;LHoleBank$Book;I)V"⟩
abbrev cX1_lendAll : ByteArray := prog_3_method_3_code
def yX1_lendAll : MethodName := ⟨RX1, "lendAll", "(ILHoleBank$Rows;)V"⟩
abbrev cX1_fillAll : ByteArray := prog_3_method_4_code
def yX1_fillAll : MethodName := ⟨RX1, "fillAll", "(ILHoleBank$Rows;)V"⟩
abbrev cX1_patchAll : ByteArray := prog_3_method_5_code
def yX1_patchAll : MethodName := ⟨RX1, "patchAll", "(ILHoleBank$Rows;)V"⟩
abbrev cX1_passDayOut : ByteArray := prog_3_method_6_code
def yX1_passDayOut : MethodName := ⟨RX1, "passDayOut", "(ILHoleBank$Hole;LHoleBank$Rows;)V"⟩
abbrev cX1_note : ByteArray := prog_3_method_7_code
def yX1_note : MethodName := ⟨RX1, "note", "(II)V"⟩
abbrev cX1_bitsAtBank : ByteArray := prog_3_method_8_code
def yX1_bitsAtBank : MethodName := ⟨RX1, "bitsAtBank", "()I"⟩
abbrev cX1_bitsFilled : ByteArray := prog_3_method_9_code
def yX1_bitsFilled : MethodName := ⟨RX1, "bitsFilled", "()I"⟩
abbrev cX1_wideBehind : ByteArray := prog_3_method_10_code
def yX1_wideBehind : MethodName := ⟨RX1, "wideBehind", "(II)I"⟩
abbrev cX1_deepBehind : ByteArray := prog_3_method_11_code
def yX1_deepBehind : MethodName := ⟨RX1, "deepBehind", "(II)I"⟩
abbrev cX1_loanBehind : ByteArray := prog_3_method_12_code
def yX1_loanBehind : MethodName := ⟨RX1, "loanBehind", "(II)I"⟩
abbrev cX1_couldBePatched : ByteArray := prog_3_method_13_code
def yX1_couldBePatched : MethodName := ⟨RX1, "couldBePatched", "(II)Z"⟩
abbrev cX1_isOutBy : ByteArray := prog_3_method_14_code
def yX1_isOutBy : MethodName := ⟨RX1, "isOutBy", "(III)Z"⟩
abbrev cX1_sightOf : ByteArray := prog_3_method_15_code
def yX1_sightOf : MethodName := ⟨RX1, "sightOf", "(II)I"⟩
abbrev cX1_vaultBehind : ByteArray := prog_3_method_16_code
def yX1_vaultBehind : MethodName := ⟨RX1, "vaultBehind", "(I)I"⟩
abbrev cX1_countedFrom : ByteArray := prog_3_method_17_code
def yX1_countedFrom : MethodName := ⟨RX1, "countedFrom", "(II)I"⟩
def RX2 : String := "HoleBank$Hole"
def TX2 : u_T := fun k => match k with
  | 0 => ("HoleBank$Hole", "shape", "I", false)
  | 1 => ("HoleBank$Hole", "wide", "I", false)
  | 2 => ("HoleBank$Hole", "deep", "I", false)
  | 3 => ("HoleBank$Hole", "grows", "I", false)
  | 4 => ("HoleBank$Hole", "loan", "I", false)
  | 5 => ("HoleBank$Hole", "daysOut", "I", false)
  | 6 => ("HoleBank$Hole", "areaWhenLent", "I", false)
  | _ => ("HoleBank$Hole", "isFilled", "Z", false)
def tyX2 : Nat → FieldType := fun k => match k with
  | 0 => .int
  | 1 => .int
  | 2 => .int
  | 3 => .int
  | 4 => .int
  | 5 => .int
  | 6 => .int
  | _ => .boolean
abbrev wsX20 : List Cond := u_ws RX2 TX2 8
theorem nmX2 : ∀ a, a < 8 → ∀ b, b < 8 → a ≠ b → (TX2 a).2.1 ≠ (TX2 b).2.1 := by decide +kernel
theorem tyX2_ok : ∀ k, k < 8 → parseFieldDescriptor (TX2 k).2.2.1 = some (tyX2 k) := by decide +kernel
abbrev cX2_init : ByteArray := prog_4_method_1_code
def yX2_init : MethodName := ⟨RX2, "<init>", "()V"⟩
abbrev cX2_begin : ByteArray := prog_4_method_2_code
def yX2_begin : MethodName := ⟨RX2, "begin", "(LHoleBank$Text;I)V"⟩
abbrev cX2_lendBy : ByteArray := prog_4_method_3_code
def yX2_lendBy : MethodName := ⟨RX2, "lendBy", "(I)V"⟩
abbrev cX2_passDayOut : ByteArray := prog_4_method_4_code
def yX2_passDayOut : MethodName := ⟨RX2, "passDayOut", "()V"⟩
def RX3 : String := "HoleBank$Match"
def TX3 : u_T := fun k => match k with
  | 0 => ("HoleBank$Match", "worth", "[I", true)
  | 1 => ("HoleBank$Match", "fits", "[I", true)
  | 2 => ("HoleBank$Match", "most", "[I", true)
  | _ => ("HoleBank$Match", "works", "I", false)
def tyX3 : Nat → FieldType := fun k => match k with
  | 0 => .array .int
  | 1 => .array .int
  | 2 => .array .int
  | _ => .int
abbrev wsX30 : List Cond := u_ws RX3 TX3 4
theorem nmX3 : ∀ a, a < 4 → ∀ b, b < 4 → a ≠ b → (TX3 a).2.1 ≠ (TX3 b).2.1 := by decide +kernel
theorem tyX3_ok : ∀ k, k < 4 → parseFieldDescriptor (TX3 k).2.2.1 = some (tyX3 k) := by decide +kernel
abbrev cX3_init : ByteArray := prog_5_method_1_code
def yX3_init : MethodName := ⟨RX3, "<init>", "()V"⟩
abbrev cX3_begin : ByteArray := prog_5_method_2_code
def yX3_begin : MethodName := ⟨RX3, "begin", "(I)V"⟩
abbrev cX3_set : ByteArray := prog_5_method_3_code
def yX3_set : MethodName := ⟨RX3, "set", "(III)V"⟩
abbrev cX3_solve : ByteArray := prog_5_method_4_code
def yX3_solve : MethodName := ⟨RX3, "solve", "()I"⟩
abbrev cX3_mostFrom : ByteArray := prog_5_method_5_code
def yX3_mostFrom : MethodName := ⟨RX3, "mostFrom", "(II)I"⟩
abbrev cX3_holeFor : ByteArray := prog_5_method_6_code
def yX3_holeFor : MethodName := ⟨RX3, "holeFor", "(I)I"⟩
abbrev cX3_leastHole : ByteArray := prog_5_method_7_code
def yX3_leastHole : MethodName := ⟨RX3, "leastHole", "(II)I"⟩
def RX4 : String := "HoleBank$Rows"
def TX4 : u_T := fun k => match k with
  | 0 => ("HoleBank$Rows", "limit", "I", true)
  | 1 => ("HoleBank$Rows", "cells", "[I", true)
  | _ => ("HoleBank$Rows", "size", "I", false)
def tyX4 : Nat → FieldType := fun k => match k with
  | 0 => .int
  | 1 => .array .int
  | _ => .int
abbrev wsX40 : List Cond := u_ws RX4 TX4 3
theorem nmX4 : ∀ a, a < 3 → ∀ b, b < 3 → a ≠ b → (TX4 a).2.1 ≠ (TX4 b).2.1 := by decide +kernel
theorem tyX4_ok : ∀ k, k < 3 → parseFieldDescriptor (TX4 k).2.2.1 = some (tyX4 k) := by decide +kernel
abbrev cX4_init : ByteArray := prog_6_method_1_code
def yX4_init : MethodName := ⟨RX4, "<init>", "(I)V"⟩
abbrev cX4_isFull : ByteArray := prog_6_method_2_code
def yX4_isFull : MethodName := ⟨RX4, "isFull", "()Z"⟩
abbrev cX4_cell : ByteArray := prog_6_method_3_code
def yX4_cell : MethodName := ⟨RX4, "cell", "(II)I"⟩
abbrev cX4_add : ByteArray := prog_6_method_4_code
def yX4_add : MethodName := ⟨RX4, "add", "(IIII)I"⟩
abbrev cX4_drop : ByteArray := prog_6_method_5_code
def yX4_drop : MethodName := ⟨RX4, "drop", "(I)I"⟩
abbrev cX4_clear : ByteArray := prog_6_method_6_code
def yX4_clear : MethodName := ⟨RX4, "clear", "()V"⟩
abbrev cX4_takeAll : ByteArray := prog_6_method_7_code
def yX4_takeAll : MethodName := ⟨RX4, "takeAll", "(LHoleBank$Rows;)V"⟩
def RX5 : String := "HoleBank$Sheet"
def TX5 : u_T := fun k => match k with
  | 0 => ("HoleBank$Sheet", "items", "[I", true)
  | 1 => ("HoleBank$Sheet", "isLost", "Z", false)
  | 2 => ("HoleBank$Sheet", "form", "I", false)
  | _ => ("HoleBank$Sheet", "size", "I", false)
def tyX5 : Nat → FieldType := fun k => match k with
  | 0 => .array .int
  | 1 => .boolean
  | 2 => .int
  | _ => .int
abbrev wsX50 : List Cond := u_ws RX5 TX5 4
theorem nmX5 : ∀ a, a < 4 → ∀ b, b < 4 → a ≠ b → (TX5 a).2.1 ≠ (TX5 b).2.1 := by decide +kernel
theorem tyX5_ok : ∀ k, k < 4 → parseFieldDescriptor (TX5 k).2.2.1 = some (tyX5 k) := by decide +kernel
abbrev cX5_init : ByteArray := prog_7_method_1_code
def yX5_init : MethodName := ⟨RX5, "<init>", "()V"⟩
abbrev cX5_begin : ByteArray := prog_7_method_2_code
def yX5_begin : MethodName := ⟨RX5, "begin", "(II)V"⟩
abbrev cX5_refusal : ByteArray := prog_7_method_3_code
def yX5_refusal : MethodName := ⟨RX5, "refusal", "(II)I"⟩
abbrev cX5_hasRange : ByteArray := prog_7_method_4_code
def yX5_hasRange : MethodName := ⟨RX5, "hasRange", "(II)Z"⟩
abbrev cX5_item : ByteArray := prog_7_method_5_code
def yX5_item : MethodName := ⟨RX5, "item", "(I)I"⟩
abbrev cX5_put : ByteArray := prog_7_method_6_code
def yX5_put : MethodName := ⟨RX5, "put", "(II)V"⟩
def RX6 : String := "HoleBank$Text"
def TX6 : u_T := fun k => match k with
  | 0 => ("HoleBank$Text", "shapes", "Ljava/lang/String;", true)
  | 1 => ("HoleBank$Text", "leastDeep", "I", true)
  | 2 => ("HoleBank$Text", "leastLast", "I", true)
  | 3 => ("HoleBank$Text", "bytes", "[I", true)
  | 4 => ("HoleBank$Text", "figures", "[I", true)
  | 5 => ("HoleBank$Text", "length", "I", false)
  | 6 => ("HoleBank$Text", "fault", "I", false)
  | _ => ("HoleBank$Text", "items", "I", false)
def tyX6 : Nat → FieldType := fun k => match k with
  | 0 => .object "java/lang/String"
  | 1 => .int
  | 2 => .int
  | 3 => .array .int
  | 4 => .array .int
  | 5 => .int
  | 6 => .int
  | _ => .int
abbrev wsX60 : List Cond := u_ws RX6 TX6 8
theorem nmX6 : ∀ a, a < 8 → ∀ b, b < 8 → a ≠ b → (TX6 a).2.1 ≠ (TX6 b).2.1 := by decide +kernel
theorem tyX6_ok : ∀ k, k < 8 → parseFieldDescriptor (TX6 k).2.2.1 = some (tyX6 k) := by decide +kernel
abbrev cX6_init : ByteArray := prog_8_method_1_code
def yX6_init : MethodName := ⟨RX6, "<init>", "(Ljava/lang/String;II)V"⟩
abbrev cX6_figure : ByteArray := prog_8_method_2_code
def yX6_figure : MethodName := ⟨RX6, "figure", "(II)I"⟩
abbrev cX6_append : ByteArray := prog_8_method_3_code
def yX6_append : MethodName := ⟨RX6, "append", "(I)I"⟩
abbrev cX6_shorten : ByteArray := prog_8_method_4_code
def yX6_shorten : MethodName := ⟨RX6, "shorten", "(I)V"⟩
abbrev cX6_parse : ByteArray := prog_8_method_5_code
def yX6_parse : MethodName := ⟨RX6, "parse", "()V"⟩
abbrev cX6_firstFault : ByteArray := prog_8_method_6_code
def yX6_firstFault : MethodName := ⟨RX6, "firstFault", "()I"⟩
abbrev cX6_goesOnAt : ByteArray := prog_8_method_7_code
def yX6_goesOnAt : MethodName := ⟨RX6, "goesOnAt", "(I)Z"⟩
abbrev cX6_isFigureFrom : ByteArray := prog_8_method_8_code
def yX6_isFigureFrom : MethodName := ⟨RX6, "isFigureFrom", "(II)Z"⟩
def RX7 : String := "HoleBank"
def TX7 : u_T := fun k => match k with
  | 0 => ("HoleBank", "holes", "LHoleBank$Text;", true)
  | 1 => ("HoleBank", "works", "LHoleBank$Text;", true)
  | 2 => ("HoleBank", "book", "LHoleBank$Book;", true)
  | 3 => ("HoleBank", "sights", "LHoleBank$Rows;", true)
  | 4 => ("HoleBank", "told", "LHoleBank$Course;", true)
  | 5 => ("HoleBank", "stale", "Z", false)
  | 6 => ("HoleBank", "otherBook", "LHoleBank$Book;", true)
  | 7 => ("HoleBank", "other", "LHoleBank$Course;", true)
  | 8 => ("HoleBank", "match", "LHoleBank$Match;", true)
  | 9 => ("HoleBank", "alike", "[I", true)
  | 10 => ("HoleBank", "sheets", "[LHoleBank$Sheet;", true)
  | 11 => ("HoleBank", "ease", "I", false)
  | _ => ("HoleBank", "finding", "I", false)
def tyX7 : Nat → FieldType := fun k => match k with
  | 0 => .object "HoleBank$Text"
  | 1 => .object "HoleBank$Text"
  | 2 => .object "HoleBank$Book"
  | 3 => .object "HoleBank$Rows"
  | 4 => .object "HoleBank$Course"
  | 5 => .boolean
  | 6 => .object "HoleBank$Book"
  | 7 => .object "HoleBank$Course"
  | 8 => .object "HoleBank$Match"
  | 9 => .array .int
  | 10 => .array (.object "HoleBank$Sheet")
  | 11 => .int
  | _ => .int
abbrev wsX70 : List Cond := u_ws RX7 TX7 13
theorem nmX7 : ∀ a, a < 13 → ∀ b, b < 13 → a ≠ b → (TX7 a).2.1 ≠ (TX7 b).2.1 := by decide +kernel
theorem tyX7_ok : ∀ k, k < 13 → parseFieldDescriptor (TX7 k).2.2.1 = some (tyX7 k) := by decide +kernel
abbrev cX7_init : ByteArray := prog_1_method_1_code
def yX7_init : MethodName := ⟨RX7, "<init>", "()V"⟩
abbrev cX7_type : ByteArray := prog_1_method_2_code
def yX7_type : MethodName := ⟨RX7, "type", "(II)I"⟩
abbrev cX7_wipe : ByteArray := prog_1_method_3_code
def yX7_wipe : MethodName := ⟨RX7, "wipe", "(I)I"⟩
abbrev cX7_undo : ByteArray := prog_1_method_4_code
def yX7_undo : MethodName := ⟨RX7, "undo", "(I)I"⟩
abbrev cX7_fault : ByteArray := prog_1_method_5_code
def yX7_fault : MethodName := ⟨RX7, "fault", "(I)I"⟩
abbrev cX7_hole : ByteArray := prog_1_method_6_code
def yX7_hole : MethodName := ⟨RX7, "hole", "(II)I"⟩
abbrev cX7_work : ByteArray := prog_1_method_7_code
def yX7_work : MethodName := ⟨RX7, "work", "(II)I"⟩
abbrev cX7_loan : ByteArray := prog_1_method_8_code
def yX7_loan : MethodName := ⟨RX7, "loan", "(IIII)I"⟩
abbrev cX7_fill : ByteArray := prog_1_method_9_code
def yX7_fill : MethodName := ⟨RX7, "fill", "(II)I"⟩
abbrev cX7_patch : ByteArray := prog_1_method_10_code
def yX7_patch : MethodName := ⟨RX7, "patch", "(II)I"⟩
abbrev cX7_back : ByteArray := prog_1_method_11_code
def yX7_back : MethodName := ⟨RX7, "back", "(I)I"⟩
abbrev cX7_read : ByteArray := prog_1_method_12_code
def yX7_read : MethodName := ⟨RX7, "read", "(I)I"⟩
abbrev cX7_ease : ByteArray := prog_1_method_13_code
def yX7_ease : MethodName := ⟨RX7, "ease", "(I)I"⟩
abbrev cX7_is : ByteArray := prog_1_method_14_code
def yX7_is : MethodName := ⟨RX7, "is", "(III)I"⟩
abbrev cX7_behind : ByteArray := prog_1_method_15_code
def yX7_behind : MethodName := ⟨RX7, "behind", "(II)I"⟩
abbrev cX7_came : ByteArray := prog_1_method_16_code
def yX7_came : MethodName := ⟨RX7, "came", "(II)I"⟩
abbrev cX7_breaches : ByteArray := prog_1_method_17_code
def yX7_breaches : MethodName := ⟨RX7, "breaches", "(I)I"⟩
abbrev cX7_first : ByteArray := prog_1_method_18_code
def yX7_first : MethodName := ⟨RX7, "first", "()I"⟩
abbrev cX7_serves : ByteArray := prog_1_method_19_code
def yX7_serves : MethodName := ⟨RX7, "serves", "(II)I"⟩
abbrev cX7_best : ByteArray := prog_1_method_20_code
def yX7_best : MethodName := ⟨RX7, "best", "(II)I"⟩
abbrev cX7_mend : ByteArray := prog_1_method_21_code
def yX7_mend : MethodName := ⟨RX7, "mend", "(III)I"⟩
abbrev cX7_call : ByteArray := prog_1_method_22_code
def yX7_call : MethodName := ⟨RX7, "call", "(II)I"⟩
abbrev cX7_seen : ByteArray := prog_1_method_23_code
def yX7_seen : MethodName := ⟨RX7, "seen", "(III)I"⟩
abbrev cX7_forget : ByteArray := prog_1_method_24_code
def yX7_forget : MethodName := ⟨RX7, "forget", "()I"⟩
abbrev cX7_never : ByteArray := prog_1_method_25_code
def yX7_never : MethodName := ⟨RX7, "never", "(I)I"⟩
abbrev cX7_look : ByteArray := prog_1_method_26_code
def yX7_look : MethodName := ⟨RX7, "look", "(I)I"⟩
abbrev cX7_moths : ByteArray := prog_1_method_27_code
def yX7_moths : MethodName := ⟨RX7, "moths", "(IIII)J"⟩
abbrev cX7_run : ByteArray := prog_1_method_28_code
def yX7_run : MethodName := ⟨RX7, "run", "(III)I"⟩
abbrev cX7_sheet : ByteArray := prog_1_method_29_code
def yX7_sheet : MethodName := ⟨RX7, "sheet", "(III)I"⟩
abbrev cX7_lose : ByteArray := prog_1_method_30_code
def yX7_lose : MethodName := ⟨RX7, "lose", "(I)I"⟩
abbrev cX7_lay : ByteArray := prog_1_method_31_code
def yX7_lay : MethodName := ⟨RX7, "lay", "(IIII)I"⟩
abbrev cX7_get : ByteArray := prog_1_method_32_code
def yX7_get : MethodName := ⟨RX7, "get", "(III)I"⟩
abbrev cX7_copy : ByteArray := prog_1_method_33_code
def yX7_copy : MethodName := ⟨RX7, "copy", "(IIIII)I"⟩
abbrev cX7_write : ByteArray := prog_1_method_34_code
def yX7_write : MethodName := ⟨RX7, "write", "(II)I"⟩
abbrev cX7_count : ByteArray := prog_1_method_35_code
def yX7_count : MethodName := ⟨RX7, "count", "(I)I"⟩
abbrev cX7_digest : ByteArray := prog_1_method_36_code
def yX7_digest : MethodName := ⟨RX7, "digest", "()J"⟩
abbrev cX7_digestHole : ByteArray := prog_1_method_37_code
def yX7_digestHole : MethodName := ⟨RX7, "digestHole", "(JI)J"⟩
abbrev cX7_digestWork : ByteArray := prog_1_method_38_code
def yX7_digestWork : MethodName := ⟨RX7, "digestWork", "(JI)J"⟩
abbrev cX7_digestDay : ByteArray := prog_1_method_39_code
def yX7_digestDay : MethodName := ⟨RX7, "digestDay", "(JI)J"⟩
abbrev cX7_isBelow : ByteArray := prog_1_method_40_code
def yX7_isBelow : MethodName := ⟨RX7, "isBelow", "(II)Z"⟩
abbrev cX7_isHole : ByteArray := prog_1_method_41_code
def yX7_isHole : MethodName := ⟨RX7, "isHole", "(I)Z"⟩
abbrev cX7_isWork : ByteArray := prog_1_method_42_code
def yX7_isWork : MethodName := ⟨RX7, "isWork", "(I)Z"⟩
abbrev cX7_mayBeLoan : ByteArray := prog_1_method_43_code
def yX7_mayBeLoan : MethodName := ⟨RX7, "mayBeLoan", "(IIII)Z"⟩
abbrev cX7_tell : ByteArray := prog_1_method_44_code
def yX7_tell : MethodName := ⟨RX7, "tell", "(LHoleBank$Rows;II)I"⟩
abbrev cX7_textOf : ByteArray := prog_1_method_45_code
def yX7_textOf : MethodName := ⟨RX7, "textOf", "(I)LHoleBank$Text;"⟩
abbrev cX7_found : ByteArray := prog_1_method_46_code
def yX7_found : MethodName := ⟨RX7, "found", "(I)I"⟩
abbrev cX7_toldCourse : ByteArray := prog_1_method_47_code
def yX7_toldCourse : MethodName := ⟨RX7, "toldCourse", "()LHoleBank$Course;"⟩
abbrev cX7_courseWithoutLoan : ByteArray := prog_1_method_48_code
def yX7_courseWithoutLoan : MethodName := ⟨RX7, "courseWithoutLoan", "(II)LHoleBank$Course;"⟩
abbrev cX7_courseWithoutPatch : ByteArray := prog_1_method_49_code
def yX7_courseWithoutPatch : MethodName := ⟨RX7, "courseWithoutPatch", "(II)LHoleBank$Course;"⟩
abbrev cX7_suits : ByteArray := prog_1_method_50_code
def yX7_suits : MethodName := ⟨RX7, "suits", "(IIII)Z"⟩
abbrev cX7_mostWorth : ByteArray := prog_1_method_51_code
def yX7_mostWorth : MethodName := ⟨RX7, "mostWorth", "(LHoleBank$Course;I)I"⟩
abbrev cX7_holeMendedBy : ByteArray := prog_1_method_52_code
def yX7_holeMendedBy : MethodName := ⟨RX7, "holeMendedBy", "(LHoleBank$Course;III)I"⟩
abbrev cX7_lastSightDay : ByteArray := prog_1_method_53_code
def yX7_lastSightDay : MethodName := ⟨RX7, "lastSightDay", "()I"⟩
abbrev cX7_comesOutAsSeen : ByteArray := prog_1_method_54_code
def yX7_comesOutAsSeen : MethodName := ⟨RX7, "comesOutAsSeen", "(LHoleBank$Course;)Z"⟩
abbrev cX7_addToAlike : ByteArray := prog_1_method_55_code
def yX7_addToAlike : MethodName := ⟨RX7, "addToAlike", "(LHoleBank$Course;I)V"⟩
abbrev cX7_greatestAlike : ByteArray := prog_1_method_56_code
def yX7_greatestAlike : MethodName := ⟨RX7, "greatestAlike", "(I)I"⟩
abbrev cX7_sixteenthsServed : ByteArray := prog_1_method_57_code
def yX7_sixteenthsServed : MethodName := ⟨RX7, "sixteenthsServed", "(LHoleBank$Course;IIII)I"⟩
abbrev cX7_nextLot : ByteArray := prog_1_method_58_code
def yX7_nextLot : MethodName := ⟨RX7, "nextLot", "(I)I"⟩
abbrev cX7_lotOf : ByteArray := prog_1_method_59_code
def yX7_lotOf : MethodName := ⟨RX7, "lotOf", "(II)I"⟩
def RX8 : String := "HoleBankModel"
def TX8 : u_T := fun k => match k with
  | 0 => ("HoleBankModel", "forms", "[I", true)
  | 1 => ("HoleBankModel", "sizes", "[I", true)
  | 2 => ("HoleBankModel", "items", "[I", true)
  | 3 => ("HoleBankModel", "moved", "[I", true)
  | 4 => ("HoleBankModel", "latest", "I", false)
  | 5 => ("HoleBankModel", "bytes", "[I", true)
  | 6 => ("HoleBankModel", "typed", "[I", true)
  | 7 => ("HoleBankModel", "many", "[I", true)
  | 8 => ("HoleBankModel", "thing", "[I", true)
  | 9 => ("HoleBankModel", "loans", "I", false)
  | 10 => ("HoleBankModel", "loan", "[I", true)
  | 11 => ("HoleBankModel", "fillings", "I", false)
  | 12 => ("HoleBankModel", "filling", "[I", true)
  | 13 => ("HoleBankModel", "patches", "I", false)
  | 14 => ("HoleBankModel", "patch", "[I", true)
  | 15 => ("HoleBankModel", "ease", "I", false)
  | 16 => ("HoleBankModel", "wide", "[I", true)
  | 17 => ("HoleBankModel", "deep", "[I", true)
  | 18 => ("HoleBankModel", "outBy", "[I", true)
  | 19 => ("HoleBankModel", "due", "[I", true)
  | 20 => ("HoleBankModel", "days", "[I", true)
  | 21 => ("HoleBankModel", "filled", "I", false)
  | 22 => ("HoleBankModel", "counts", "[I", true)
  | 23 => ("HoleBankModel", "breach", "[I", true)
  | 24 => ("HoleBankModel", "lentAs", "[I", true)
  | 25 => ("HoleBankModel", "backAs", "[I", true)
  | 26 => ("HoleBankModel", "noLoan", "I", false)
  | 27 => ("HoleBankModel", "noPatch", "I", false)
  | 28 => ("HoleBankModel", "most", "[I", true)
  | 29 => ("HoleBankModel", "row", "[I", true)
  | 30 => ("HoleBankModel", "sights", "I", false)
  | 31 => ("HoleBankModel", "sight", "[I", true)
  | 32 => ("HoleBankModel", "alike", "[I", true)
  | _ => ("HoleBankModel", "drawn", "I", false)
def tyX8 : Nat → FieldType := fun k => match k with
  | 0 => .array .int
  | 1 => .array .int
  | 2 => .array .int
  | 3 => .array .int
  | 4 => .int
  | 5 => .array .int
  | 6 => .array .int
  | 7 => .array .int
  | 8 => .array .int
  | 9 => .int
  | 10 => .array .int
  | 11 => .int
  | 12 => .array .int
  | 13 => .int
  | 14 => .array .int
  | 15 => .int
  | 16 => .array .int
  | 17 => .array .int
  | 18 => .array .int
  | 19 => .array .int
  | 20 => .array .int
  | 21 => .int
  | 22 => .array .int
  | 23 => .array .int
  | 24 => .array .int
  | 25 => .array .int
  | 26 => .int
  | 27 => .int
  | 28 => .array .int
  | 29 => .array .int
  | 30 => .int
  | 31 => .array .int
  | 32 => .array .int
  | _ => .int
abbrev wsX80 : List Cond := u_ws RX8 TX8 34
theorem nmX8 : ∀ a, a < 34 → ∀ b, b < 34 → a ≠ b → (TX8 a).2.1 ≠ (TX8 b).2.1 := by decide +kernel
theorem tyX8_ok : ∀ k, k < 34 → parseFieldDescriptor (TX8 k).2.2.1 = some (tyX8 k) := by decide +kernel
abbrev cX8_init : ByteArray := prog_10_method_1_code
def yX8_init : MethodName := ⟨RX8, "<init>", "()V"⟩
abbrev cX8_in : ByteArray := prog_10_method_3_code
def yX8_in : MethodName := ⟨RX8, "in", "(JJJ)Z"⟩
abbrev cX8_no : ByteArray := prog_10_method_4_code
def yX8_no : MethodName := ⟨RX8, "no", "(I)J"⟩
abbrev cX8_isTwo : ByteArray := prog_10_method_5_code
def yX8_isTwo : MethodName := ⟨RX8, "isTwo", "(I)Z"⟩
abbrev cX8_isIn : ByteArray := prog_10_method_6_code
def yX8_isIn : MethodName := ⟨RX8, "isIn", "(II)Z"⟩
abbrev cX8_lesser : ByteArray := prog_10_method_7_code
def yX8_lesser : MethodName := ⟨RX8, "lesser", "(II)I"⟩
abbrev cX8_greater : ByteArray := prog_10_method_8_code
def yX8_greater : MethodName := ⟨RX8, "greater", "(II)I"⟩
abbrev cX8_part : ByteArray := prog_10_method_9_code
def yX8_part : MethodName := ⟨RX8, "part", "(JJI)J"⟩
abbrev cX8_finds : ByteArray := prog_10_method_10_code
def yX8_finds : MethodName := ⟨RX8, "finds", "(I)I"⟩
abbrev cX8_isSheet : ByteArray := prog_10_method_11_code
def yX8_isSheet : MethodName := ⟨RX8, "isSheet", "(I)Z"⟩
abbrev cX8_sheet : ByteArray := prog_10_method_12_code
def yX8_sheet : MethodName := ⟨RX8, "sheet", "(III)I"⟩
abbrev cX8_lose : ByteArray := prog_10_method_13_code
def yX8_lose : MethodName := ⟨RX8, "lose", "(I)I"⟩
abbrev cX8_lacks : ByteArray := prog_10_method_14_code
def yX8_lacks : MethodName := ⟨RX8, "lacks", "(III)I"⟩
abbrev cX8_cut : ByteArray := prog_10_method_15_code
def yX8_cut : MethodName := ⟨RX8, "cut", "(II)I"⟩
abbrev cX8_lay : ByteArray := prog_10_method_16_code
def yX8_lay : MethodName := ⟨RX8, "lay", "(IIII)I"⟩
abbrev cX8_get : ByteArray := prog_10_method_17_code
def yX8_get : MethodName := ⟨RX8, "get", "(III)I"⟩
abbrev cX8_copy : ByteArray := prog_10_method_18_code
def yX8_copy : MethodName := ⟨RX8, "copy", "(IIIII)I"⟩
abbrev cX8_type : ByteArray := prog_10_method_19_code
def yX8_type : MethodName := ⟨RX8, "type", "(II)I"⟩
abbrev cX8_wipe : ByteArray := prog_10_method_20_code
def yX8_wipe : MethodName := ⟨RX8, "wipe", "(I)I"⟩
abbrev cX8_undo : ByteArray := prog_10_method_21_code
def yX8_undo : MethodName := ⟨RX8, "undo", "(I)I"⟩
abbrev cX8_shapeOf : ByteArray := prog_10_method_22_code
def yX8_shapeOf : MethodName := ⟨RX8, "shapeOf", "(II)I"⟩
abbrev cX8_tellsOf : ByteArray := prog_10_method_23_code
def yX8_tellsOf : MethodName := ⟨RX8, "tellsOf", "(III)I"⟩
abbrev cX8_readsText : ByteArray := prog_10_method_24_code
def yX8_readsText : MethodName := ⟨RX8, "readsText", "(I)I"⟩
abbrev cX8_reads : ByteArray := prog_10_method_25_code
def yX8_reads : MethodName := ⟨RX8, "reads", "()V"⟩
abbrev cX8_fault : ByteArray := prog_10_method_26_code
def yX8_fault : MethodName := ⟨RX8, "fault", "(I)I"⟩
abbrev cX8_isHole : ByteArray := prog_10_method_27_code
def yX8_isHole : MethodName := ⟨RX8, "isHole", "(I)Z"⟩
abbrev cX8_isWork : ByteArray := prog_10_method_28_code
def yX8_isWork : MethodName := ⟨RX8, "isWork", "(I)Z"⟩
abbrev cX8_isDay : ByteArray := prog_10_method_29_code
def yX8_isDay : MethodName := ⟨RX8, "isDay", "(I)Z"⟩
abbrev cX8_isAnyHole : ByteArray := prog_10_method_30_code
def yX8_isAnyHole : MethodName := ⟨RX8, "isAnyHole", "(I)Z"⟩
abbrev cX8_hole : ByteArray := prog_10_method_31_code
def yX8_hole : MethodName := ⟨RX8, "hole", "(II)I"⟩
abbrev cX8_work : ByteArray := prog_10_method_32_code
def yX8_work : MethodName := ⟨RX8, "work", "(II)I"⟩
abbrev cX8_lends : ByteArray := prog_10_method_33_code
def yX8_lends : MethodName := ⟨RX8, "lends", "(IIII)V"⟩
abbrev cX8_loan : ByteArray := prog_10_method_34_code
def yX8_loan : MethodName := ⟨RX8, "loan", "(IIII)I"⟩
abbrev cX8_fill : ByteArray := prog_10_method_35_code
def yX8_fill : MethodName := ⟨RX8, "fill", "(II)I"⟩
abbrev cX8_patchesMore : ByteArray := prog_10_method_36_code
def yX8_patchesMore : MethodName := ⟨RX8, "patchesMore", "(II)V"⟩
abbrev cX8_patch : ByteArray := prog_10_method_37_code
def yX8_patch : MethodName := ⟨RX8, "patch", "(II)I"⟩
abbrev cX8_back : ByteArray := prog_10_method_38_code
def yX8_back : MethodName := ⟨RX8, "back", "(I)I"⟩
abbrev cX8_read : ByteArray := prog_10_method_39_code
def yX8_read : MethodName := ⟨RX8, "read", "(I)I"⟩
abbrev cX8_ease : ByteArray := prog_10_method_40_code
def yX8_ease : MethodName := ⟨RX8, "ease", "(I)I"⟩
abbrev cX8_begins : ByteArray := prog_10_method_41_code
def yX8_begins : MethodName := ⟨RX8, "begins", "()V"⟩
abbrev cX8_lendsOn : ByteArray := prog_10_method_42_code
def yX8_lendsOn : MethodName := ⟨RX8, "lendsOn", "(I)V"⟩
abbrev cX8_fillsOn : ByteArray := prog_10_method_43_code
def yX8_fillsOn : MethodName := ⟨RX8, "fillsOn", "(I)V"⟩
abbrev cX8_patchesOn : ByteArray := prog_10_method_44_code
def yX8_patchesOn : MethodName := ⟨RX8, "patchesOn", "(I)V"⟩
abbrev cX8_grows : ByteArray := prog_10_method_45_code
def yX8_grows : MethodName := ⟨RX8, "grows", "(I)V"⟩
abbrev cX8_comesBack : ByteArray := prog_10_method_46_code
def yX8_comesBack : MethodName := ⟨RX8, "comesBack", "(II)V"⟩
abbrev cX8_day : ByteArray := prog_10_method_47_code
def yX8_day : MethodName := ⟨RX8, "day", "(I)V"⟩
abbrev cX8_lives : ByteArray := prog_10_method_48_code
def yX8_lives : MethodName := ⟨RX8, "lives", "(I)V"⟩
abbrev cX8_isOf : ByteArray := prog_10_method_49_code
def yX8_isOf : MethodName := ⟨RX8, "isOf", "(III)I"⟩
abbrev cX8_is : ByteArray := prog_10_method_50_code
def yX8_is : MethodName := ⟨RX8, "is", "(III)I"⟩
abbrev cX8_vaultNow : ByteArray := prog_10_method_51_code
def yX8_vaultNow : MethodName := ⟨RX8, "vaultNow", "()I"⟩
abbrev cX8_behindOf : ByteArray := prog_10_method_52_code
def yX8_behindOf : MethodName := ⟨RX8, "behindOf", "(II)I"⟩
abbrev cX8_behind : ByteArray := prog_10_method_53_code
def yX8_behind : MethodName := ⟨RX8, "behind", "(II)I"⟩
abbrev cX8_cameOf : ByteArray := prog_10_method_54_code
def yX8_cameOf : MethodName := ⟨RX8, "cameOf", "(II)I"⟩
abbrev cX8_came : ByteArray := prog_10_method_55_code
def yX8_came : MethodName := ⟨RX8, "came", "(II)I"⟩
abbrev cX8_breachesOf : ByteArray := prog_10_method_56_code
def yX8_breachesOf : MethodName := ⟨RX8, "breachesOf", "(I)I"⟩
abbrev cX8_breaches : ByteArray := prog_10_method_57_code
def yX8_breaches : MethodName := ⟨RX8, "breaches", "(I)I"⟩
abbrev cX8_firstNow : ByteArray := prog_10_method_58_code
def yX8_firstNow : MethodName := ⟨RX8, "firstNow", "()I"⟩
abbrev cX8_first : ByteArray := prog_10_method_59_code
def yX8_first : MethodName := ⟨RX8, "first", "()I"⟩
abbrev cX8_servesBy : ByteArray := prog_10_method_60_code
def yX8_servesBy : MethodName := ⟨RX8, "servesBy", "(III)Z"⟩
abbrev cX8_servesNow : ByteArray := prog_10_method_61_code
def yX8_servesNow : MethodName := ⟨RX8, "servesNow", "(II)Z"⟩
abbrev cX8_servesOf : ByteArray := prog_10_method_62_code
def yX8_servesOf : MethodName := ⟨RX8, "servesOf", "(II)I"⟩
abbrev cX8_serves : ByteArray := prog_10_method_63_code
def yX8_serves : MethodName := ⟨RX8, "serves", "(II)I"⟩
abbrev cX8_may : ByteArray := prog_10_method_64_code
def yX8_may : MethodName := ⟨RX8, "may", "(III)Z"⟩
abbrev cX8_worthBy : ByteArray := prog_10_method_65_code
def yX8_worthBy : MethodName := ⟨RX8, "worthBy", "(III)I"⟩
abbrev cX8_bestNow : ByteArray := prog_10_method_66_code
def yX8_bestNow : MethodName := ⟨RX8, "bestNow", "()I"⟩
abbrev cX8_bestOf : ByteArray := prog_10_method_67_code
def yX8_bestOf : MethodName := ⟨RX8, "bestOf", "(II)I"⟩
abbrev cX8_best : ByteArray := prog_10_method_68_code
def yX8_best : MethodName := ⟨RX8, "best", "(II)I"⟩
abbrev cX8_isServed : ByteArray := prog_10_method_69_code
def yX8_isServed : MethodName := ⟨RX8, "isServed", "(II)Z"⟩
abbrev cX8_goesOn : ByteArray := prog_10_method_70_code
def yX8_goesOn : MethodName := ⟨RX8, "goesOn", "(I)Z"⟩
abbrev cX8_mendOf : ByteArray := prog_10_method_71_code
def yX8_mendOf : MethodName := ⟨RX8, "mendOf", "(III)I"⟩
abbrev cX8_mend : ByteArray := prog_10_method_72_code
def yX8_mend : MethodName := ⟨RX8, "mend", "(III)I"⟩
abbrev cX8_callOf : ByteArray := prog_10_method_73_code
def yX8_callOf : MethodName := ⟨RX8, "callOf", "(II)I"⟩
abbrev cX8_call : ByteArray := prog_10_method_74_code
def yX8_call : MethodName := ⟨RX8, "call", "(II)I"⟩
abbrev cX8_seen : ByteArray := prog_10_method_75_code
def yX8_seen : MethodName := ⟨RX8, "seen", "(III)I"⟩
abbrev cX8_forget : ByteArray := prog_10_method_76_code
def yX8_forget : MethodName := ⟨RX8, "forget", "()I"⟩
abbrev cX8_looksNow : ByteArray := prog_10_method_77_code
def yX8_looksNow : MethodName := ⟨RX8, "looksNow", "(I)I"⟩
abbrev cX8_isSeen : ByteArray := prog_10_method_78_code
def yX8_isSeen : MethodName := ⟨RX8, "isSeen", "()Z"⟩
abbrev cX8_neverOf : ByteArray := prog_10_method_79_code
def yX8_neverOf : MethodName := ⟨RX8, "neverOf", "(I)I"⟩
abbrev cX8_never : ByteArray := prog_10_method_80_code
def yX8_never : MethodName := ⟨RX8, "never", "(I)I"⟩
abbrev cX8_lookOf : ByteArray := prog_10_method_81_code
def yX8_lookOf : MethodName := ⟨RX8, "lookOf", "(I)I"⟩
abbrev cX8_look : ByteArray := prog_10_method_82_code
def yX8_look : MethodName := ⟨RX8, "look", "(I)I"⟩
abbrev cX8_mothsOf : ByteArray := prog_10_method_83_code
def yX8_mothsOf : MethodName := ⟨RX8, "mothsOf", "(IIII)J"⟩
abbrev cX8_moths : ByteArray := prog_10_method_84_code
def yX8_moths : MethodName := ⟨RX8, "moths", "(IIII)J"⟩
abbrev cX8_lot : ByteArray := prog_10_method_85_code
def yX8_lot : MethodName := ⟨RX8, "lot", "(I)I"⟩
abbrev cX8_runOf : ByteArray := prog_10_method_86_code
def yX8_runOf : MethodName := ⟨RX8, "runOf", "(III)I"⟩
abbrev cX8_run : ByteArray := prog_10_method_87_code
def yX8_run : MethodName := ⟨RX8, "run", "(III)I"⟩
abbrev cX8_write : ByteArray := prog_10_method_88_code
def yX8_write : MethodName := ⟨RX8, "write", "(II)I"⟩
abbrev cX8_counting : ByteArray := prog_10_method_89_code
def yX8_counting : MethodName := ⟨RX8, "counting", "()I"⟩
abbrev cX8_count : ByteArray := prog_10_method_90_code
def yX8_count : MethodName := ⟨RX8, "count", "(I)I"⟩
abbrev cX8_tellsHole : ByteArray := prog_10_method_91_code
def yX8_tellsHole : MethodName := ⟨RX8, "tellsHole", "(JI)J"⟩
abbrev cX8_tellsWork : ByteArray := prog_10_method_92_code
def yX8_tellsWork : MethodName := ⟨RX8, "tellsWork", "(JI)J"⟩
abbrev cX8_tellsDay : ByteArray := prog_10_method_93_code
def yX8_tellsDay : MethodName := ⟨RX8, "tellsDay", "(JI)J"⟩
abbrev cX8_digest : ByteArray := prog_10_method_94_code
def yX8_digest : MethodName := ⟨RX8, "digest", "()J"⟩
def RJx145de : String := "java/io/Serializable"
def TJx145de : u_T := fun k => match k with
  | _ => ("", "", "", false)
def RJx9f9b0 : String := "java/lang/CharSequence"
def TJx9f9b0 : u_T := fun k => match k with
  | _ => ("", "", "", false)
def RJ11 : String := "java/lang/Character"
def TJ11 : u_T := fun k => match k with
  | _ => ("", "", "", false)
abbrev cJ11_isValidCodePoint_9a6ad : ByteArray := prog_11_method_11_code
def yJ11_isValidCodePoint_9a6ad : MethodName := ⟨RJ11, "isValidCodePoint", "(I)Z"⟩
abbrev cJ11_highSurrogate_5068e : ByteArray := prog_11_method_28_code
def yJ11_highSurrogate_5068e : MethodName := ⟨RJ11, "highSurrogate", "(I)C"⟩
abbrev cJ11_lowSurrogate_5068e : ByteArray := prog_11_method_29_code
def yJ11_lowSurrogate_5068e : MethodName := ⟨RJ11, "lowSurrogate", "(I)C"⟩
def RJxb160c : String := "java/lang/Comparable"
def TJxb160c : u_T := fun k => match k with
  | _ => ("", "", "", false)
def RJ9 : String := "java/lang/Math"
def TJ9 : u_T := fun k => match k with
  | _ => ("", "", "", false)
abbrev cJ9_max_7cf53 : ByteArray := prog_12_method_65_code
def yJ9_max_7cf53 : MethodName := ⟨RJ9, "max", "(II)I"⟩
abbrev cJ9_min_7cf53 : ByteArray := prog_12_method_69_code
def yJ9_min_7cf53 : MethodName := ⟨RJ9, "min", "(II)I"⟩
def RJ0 : String := "java/lang/String"
def TJ0 : u_T := fun k => match k with
  | _ => ("", "", "", false)
abbrev cJ0_length_8abf5 : ByteArray := prog_13_method_54_code
def yJ0_length_8abf5 : MethodName := ⟨RJ0, "length", "()I"⟩
abbrev cJ0_indexOf_0f7a4 : ByteArray := prog_13_method_79_code
def yJ0_indexOf_0f7a4 : MethodName := ⟨RJ0, "indexOf", "(I)I"⟩
abbrev cJ0_indexOf_7cf53 : ByteArray := prog_13_method_80_code
def yJ0_indexOf_7cf53 : MethodName := ⟨RJ0, "indexOf", "(II)I"⟩
abbrev cJ0_coder_7d493 : ByteArray := prog_13_method_152_code
def yJ0_coder_7d493 : MethodName := ⟨RJ0, "coder", "()B"⟩
abbrev cJ0_isLatin1_aae02 : ByteArray := prog_13_method_154_code
def yJ0_isLatin1_aae02 : MethodName := ⟨RJ0, "isLatin1", "()Z"⟩
abbrev cJ0_checkBoundsBeginEnd_23922 : ByteArray := prog_13_method_158_code
def yJ0_checkBoundsBeginEnd_23922 : MethodName := ⟨RJ0, "checkBoundsBeginEnd", "(III)V"⟩
def RJ1 : String := "java/lang/StringLatin1"
def TJ1 : u_T := fun k => match k with
  | _ => ("", "", "", false)
abbrev cJ1_canEncode_9a6ad : ByteArray := prog_14_method_4_code
def yJ1_canEncode_9a6ad : MethodName := ⟨RJ1, "canEncode", "(I)Z"⟩
abbrev cJ1_indexOf_4cfef : ByteArray := prog_14_method_22_code
def yJ1_indexOf_4cfef : MethodName := ⟨RJ1, "indexOf", "([BIII)I"⟩
abbrev cJ1_indexOfChar_4cfef : ByteArray := prog_14_method_23_code
def yJ1_indexOfChar_4cfef : MethodName := ⟨RJ1, "indexOfChar", "([BIII)I"⟩
def RJ2 : String := "java/lang/StringUTF16"
def TJ2 : u_T := fun k => match k with
  | _ => ("", "", "", false)
abbrev cJ2_getChar_3b067 : ByteArray := prog_15_method_5_code
def yJ2_getChar_3b067 : MethodName := ⟨RJ2, "getChar", "([BI)C"⟩
abbrev cJ2_length_9d52b : ByteArray := prog_15_method_6_code
def yJ2_length_9d52b : MethodName := ⟨RJ2, "length", "([B)I"⟩
abbrev cJ2_indexOf_4cfef : ByteArray := prog_15_method_40_code
def yJ2_indexOf_4cfef : MethodName := ⟨RJ2, "indexOf", "([BIII)I"⟩
abbrev cJ2_indexOfChar_4cfef : ByteArray := prog_15_method_47_code
def yJ2_indexOfChar_4cfef : MethodName := ⟨RJ2, "indexOfChar", "([BIII)I"⟩
abbrev cJ2_indexOfCharUnsafe_4cfef : ByteArray := prog_15_method_48_code
def yJ2_indexOfCharUnsafe_4cfef : MethodName := ⟨RJ2, "indexOfCharUnsafe", "([BIII)I"⟩
abbrev cJ2_indexOfSupplementary_4cfef : ByteArray := prog_15_method_49_code
def yJ2_indexOfSupplementary_4cfef : MethodName := ⟨RJ2, "indexOfSupplementary", "([BIII)I"⟩
abbrev cJ2_checkBoundsBeginEnd_d044e : ByteArray := prog_15_method_93_code
def yJ2_checkBoundsBeginEnd_d044e : MethodName := ⟨RJ2, "checkBoundsBeginEnd", "(II[B)V"⟩
def RJ10 : String := "java/lang/System"
def TJ10 : u_T := fun k => match k with
  | _ => ("", "", "", false)
def RJxfd54e : String := "java/lang/constant/Constable"
def TJxfd54e : u_T := fun k => match k with
  | _ => ("", "", "", false)
def RJx3cf43 : String := "java/lang/constant/ConstantDesc"
def TJx3cf43 : u_T := fun k => match k with
  | _ => ("", "", "", false)
def RJ7 : String := "java/util/Arrays"
def TJ7 : u_T := fun k => match k with
  | _ => ("", "", "", false)
abbrev cJ7_fill_53178 : ByteArray := prog_17_method_103_code
def yJ7_fill_53178 : MethodName := ⟨RJ7, "fill", "([II)V"⟩
def RJ3 : String := "jdk/internal/util/Preconditions"
def TJ3 : u_T := fun k => match k with
  | _ => ("", "", "", false)
abbrev cJ3_checkFromToIndex_8c36e : ByteArray := prog_18_method_12_code
def yJ3_checkFromToIndex_8c36e : MethodName := ⟨RJ3, "checkFromToIndex", "(IIILjava/util/function/BiFunction;)I"⟩
def RL : String := "HoleBankLaw"
abbrev cL_law : ByteArray := code
def yL_law : MethodName := ⟨RL, "law", "([I)Z"⟩
end
section
abbrev St : Type := Nat → Nat → Int32
def s2 (σ : St) (k j : Nat) (v : Int32) : St := fun k' j' => if k' = k ∧ j' = j then v else σ k' j'
theorem s2_ne {σ : St} {k j i : Nat} {v : Int32} (h : i ≠ k) : s2 σ k j v i = σ i := by
  funext j'; simp [s2, h]
theorem s2_row {σ : St} {k j : Nat} {v : Int32} : s2 σ k j v k = upd (σ k) j v := by
  funext j'; simp [s2, upd]
/-- a whole row of a cell anew -/
def s1 (σ : St) (k : Nat) (f : Nat → Int32) : St := fun k' => if k' = k then f else σ k'
theorem s1_ne {σ : St} {k i : Nat} {f : Nat → Int32} (h : i ≠ k) : s1 σ k f i = σ i := by simp [s1, h]
theorem s1_row {σ : St} {k : Nat} {f : Nat → Int32} : s1 σ k f k = f := by simp [s1]
def NN : Nat := 98
def kdL : List Nat := [8, 9, 9, 9, 9, 9, 9, 9, 9, 9, 9, 9, 9, 9, 9, 9, 9, 9, 9, 9, 9, 9, 9, 9, 9, 7, 6, 9, 9, 6, 9, 9, 0, 4, 9, 4, 9, 4, 9, 0, 4, 9, 4, 9, 4, 9, 4, 9, 1, 10, 9, 9, 9, 9, 9, 9, 9, 9, 2, 2, 2, 2, 2, 2, 2, 2, 1, 10, 9, 9, 9, 9, 9, 9, 9, 9, 2, 2, 2, 2, 2, 2, 2, 2, 3, 9, 9, 9, 9, 11, 5, 9, 5, 9, 5, 9, 5, 9]
def lnL : List Nat := [0, 4, 4, 240, 60, 80, 2, 2, 64, 208, 16, 22, 8, 8, 8, 8, 8, 52, 52, 52, 52, 2304, 3, 24, 80, 0, 0, 39, 32, 0, 39, 32, 0, 0, 48, 0, 32, 0, 32, 0, 0, 208, 0, 32, 0, 32, 0, 32, 0, 8, 320, 320, 320, 40, 40, 52, 52, 52, 0, 0, 0, 0, 0, 0, 0, 0, 0, 8, 320, 320, 320, 40, 40, 52, 52, 52, 0, 0, 0, 0, 0, 0, 0, 0, 0, 8, 8, 2304, 80, 4, 0, 60, 0, 60, 0, 60, 0, 60]
def kd (k : Nat) : Nat := kdL.getD k 12
def ln (k : Nat) : Nat := lnL.getD k 0
abbrev Gd : Type := va_G × ClassId × ClassId × ClassId
abbrev cls : List vw_C := [(RX0, TX0, 3), (RX1, TX1, 10), (RX2, TX2, 8), (RX3, TX3, 4), (RX4, TX4, 3), (RX5, TX5, 4), (RX6, TX6, 8), (RX7, TX7, 13), (RX8, TX8, 34)]
abbrev tysG (g : Gd) : List (ClassId × FieldType) := [(g.2.1, .int), (g.2.2.1, .object RX2), (g.2.2.2, .object RX5)]
def cel (κ : Nat) (g : Gd) (a : Nat → Nat) (σ : St) (k : Nat) : va_E := match κ with
  | 0 => .inr (0, [.ref (a (k + 1)), .ref (a (k + 3)), .ref (a (k + 5))])
  | 1 => .inr (1, [.ref (a (k + 1)), .ref (a (k + 2)), .ref (a (k + 3)), .ref (a (k + 4)), .ref (a (k + 5)), .ref (a (k + 6)), .ref (a (k + 7)), .ref (a (k + 8)), .ref (a (k + 9)), .int (σ k 9)])
  | 2 => .inr (2, [.int (σ k 0), .int (σ k 1), .int (σ k 2), .int (σ k 3), .int (σ k 4), .int (σ k 5), .int (σ k 6), .int (σ k 7)])
  | 3 => .inr (3, [.ref (a (k + 1)), .ref (a (k + 2)), .ref (a (k + 3)), .int (σ k 3)])
  | 4 => .inr (4, [.int (σ k 0), .ref (a (k + 1)), .int (σ k 2)])
  | 5 => .inr (5, [.ref (a (k + 1)), .int (σ k 1), .int (σ k 2), .int (σ k 3)])
  | 6 => .inr (6, [.ref (a (98 + (k - 26) / 3)), .int (σ k 1), .int (σ k 2), .ref (a (k + 1)), .ref (a (k + 2)), .int (σ k 5), .int (σ k 6), .int (σ k 7)])
  | 7 => .inr (7, [.ref (a (k + 1)), .ref (a (k + 4)), .ref (a (k + 7)), .ref (a (k + 21)), .ref (a (k + 23)), .int (σ k 5), .ref (a (k + 14)), .ref (a (k + 41)), .ref (a (k + 59)), .ref (a (k + 63)), .ref (a (k + 64)), .int (σ k 11), .int (σ k 12)])
  | 8 => .inr (8, [.ref (a (k + 1)), .ref (a (k + 2)), .ref (a (k + 3)), .ref (a (k + 4)), .int (σ k 4), .ref (a (k + 5)), .ref (a (k + 6)), .ref (a (k + 7)), .ref (a (k + 8)), .int (σ k 9), .ref (a (k + 9)), .int (σ k 11), .ref (a (k + 10)), .int (σ k 13), .ref (a (k + 11)), .int (σ k 15), .ref (a (k + 12)), .ref (a (k + 13)), .ref (a (k + 14)), .ref (a (k + 15)), .ref (a (k + 16)), .int (σ k 21), .ref (a (k + 17)), .ref (a (k + 18)), .ref (a (k + 19)), .ref (a (k + 20)), .int (σ k 26), .int (σ k 27), .ref (a (k + 21)), .ref (a (k + 22)), .int (σ k 30), .ref (a (k + 23)), .ref (a (k + 24)), .int (σ k 33)])
  | 9 => .inl (g.2.1, ln k, .inl (σ k))
  | 10 => .inl (g.2.2.1, 8, .inr (.inr (.inr (.inr (fun i => some (a (k + 9 + i)))))))
  | _ => .inl (g.2.2.2, 4, .inr (.inr (.inr (.inr (fun i => some (a (k + 1 + 2 * i)))))))
def wl (g : Gd) (a : Nat → Nat) (σ : St) : va_W := (List.range NN).map (fun k => (a k, cel (kd k) g a σ k))
theorem kd_lt {k κ : Nat} (h : kd k = κ) (hκ : κ < 12) : k < NN := by
  rcases Nat.lt_or_ge k NN with q | q
  · exact q
  · exfalso
    have : kd k = 12 := by
      unfold kd
      have h0 : kdL[k]? = none := List.getElem?_eq_none (by simpa [kdL, NN] using q)
      simp [List.getD, h0]
    omega
theorem wl_get {g : Gd} {a : Nat → Nat} {σ : St} {k : Nat} (hk : k < NN) : (wl g a σ)[k]? = some (a k, cel (kd k) g a σ k) := by
  simp [wl, hk]
theorem wl_at {g : Gd} {a : Nat → Nat} {σ : St} {k κ : Nat} (h : kd k = κ) (hκ : κ < 12) : (wl g a σ)[k]? = some (a k, cel κ g a σ k) := by
  rw [wl_get (kd_lt h hκ), h]
theorem cel_congr {κ : Nat} {g : Gd} {a : Nat → Nat} {σ σ' : St} {k : Nat} (h : σ' k = σ k) : cel κ g a σ' k = cel κ g a σ k := by
  unfold cel; split <;> simp [h]
theorem wl_set {g : Gd} {a : Nat → Nat} {σ σ' : St} {k κ : Nat} {x : va_E} (hk : kd k = κ) (hκ : κ < 12) (h1 : x = cel κ g a σ' k) (h2 : ∀ i, i ≠ k → σ' i = σ i) : (wl g a σ).set k (a k, x) = wl g a σ' := by
  apply List.ext_getElem?
  intro i
  rw [List.getElem?_set]
  by_cases hi : k = i
  · subst hi
    rw [if_pos rfl, if_pos (by simpa [wl] using kd_lt hk hκ), wl_at hk hκ, h1]
  · rw [if_neg hi]
    by_cases hn : i < NN
    · rw [wl_get hn, wl_get hn, cel_congr (h2 i (Ne.symm hi))]
    · have e1 : (wl g a σ)[i]? = none := List.getElem?_eq_none (by simp [wl]; omega)
      have e2 : (wl g a σ')[i]? = none := List.getElem?_eq_none (by simp [wl]; omega)
      rw [e1, e2]
def Ad (a : Nat → Nat) : Nat → Prop := fun q => ∃ k, k < NN ∧ q = a k
def Inj (a : Nat → Nat) : Prop := ∀ i j, i < NN → j < NN → a i = a j → i = j
theorem wl_lt {g : Gd} {a : Nat → Nat} {σ : St} {i : Nat} {q : Nat × va_E} (h : (wl g a σ)[i]? = some q) : i < NN ∧ q.1 = a i := by
  have hi : i < NN := by
    have := (List.getElem?_eq_some_iff.mp h).1
    simpa [wl] using this
  rw [wl_get hi] at h
  cases h
  exact ⟨hi, rfl⟩
theorem wl_D {g : Gd} {a : Nat → Nat} (h : Inj a) (σ : St) : va_D (Ad a) (wl g a σ) := by
  refine ⟨fun i j p q hp hq e => ?_, fun k q hk => ?_⟩
  · obtain ⟨h1, h2⟩ := wl_lt hp
    obtain ⟨h3, h4⟩ := wl_lt hq
    exact h i j h1 h3 (by rw [← h2, ← h4, e])
  · obtain ⟨h1, h2⟩ := wl_lt hk
    exact ⟨k, h1, h2⟩
def TB : List Cond := lw_tbl.filter goodWord
def isNestW : Cond → Bool
  | .fieldLinkNest .. => true
  | .methodLinkNest .. => true
  | _ => false
def NL : List Cond := tables_1.filter isNestW
def SK (a : Nat → Nat) (U : State) : Prop := vk_S 2 [3, 4] [[114, 115, 108], [114, 115, 108, 97]] (fun i => a (98 + i)) (fun i => a (100 + i)) (Ad a) U U.heap ∧ va_Z "java/lang/String" "COMPACT_STRINGS" "Z" (.int 1) (Ad a) U U.heap
def KP (g : Gd) (a : Nat → Nat) (U : State) : Prop := va_K g.1 cls (tysG g) U ∧ Inj a ∧ (∀ w ∈ NL, va_Nw w U) ∧ SK a U
theorem KP.moved {g : Gd} {a : Nat → Nat} {s U : State} (hW : s.WarmedH U.vm) (hq : ∀ q : Nat, q < s.heap.size → ¬ Ad a q → U.heap[q]? = s.heap[q]?) (h : KP g a s) : KP g a U := by
  obtain ⟨h1, h2, h3, h4, h5⟩ := h
  refine ⟨va_K.moved hW.alike h1, h2, fun w hw => ?_, vk_S.moved hW.alike (h4.kept hq), va_Z.moved hW.alike (h5.kept hq)⟩
  have hz := h3 w hw
  have hn : isNestW w = true := (List.mem_filter.mp hw).2
  match w, hn, hz with
  | .fieldLinkNest .., _, hz => exact va_Nw.warmF hW hz
  | .methodLinkNest .., _, hz => exact va_Nw.warmM hW hz
theorem KP.calling {g : Gd} {a : Nat → Nat} {U : State} {fr : JFrame} {mk : MethodId} {av : Array Value} (h : KP g a U) : KP g a (U.calling fr mk av) := by
  obtain ⟨h1, h2, h3, h4, h5⟩ := h
  refine ⟨va_K.moved (u := U) (Vm.Alike.refl U.vm) h1, h2, fun w hw => ?_, vk_S.moved (u := U) (Vm.Alike.refl U.vm) h4, va_Z.moved (u := U) (Vm.Alike.refl U.vm) h5⟩
  have hn : isNestW w = true := (List.mem_filter.mp hw).2
  exact va_Nw.same (by match w, hn with
    | .fieldLinkNest .., _ => rfl
    | .methodLinkNest .., _ => rfl) (u := U) rfl (h3 w hw)
/-- what stands fixed while a method runs -/
def Fx (p : Program) (s : State) (m : MethodId) (args : Array Value) (meth : Method) (c : Code) (cc : ByteArray) (nL : Nat) (own : String) (rt : Option FieldType) (R : Room) (cz sz : Nat) (g : Gd) (a : Nat → Nat) : Prop :=
  p.tables.exec = Jvm.exec ∧ c.code = cc ∧ c.maxLocals = nL ∧ s.vm.findClass own = some m.cls ∧ (∀ w ∈ TB, w.before args s = true) ∧ KP g a s ∧ meth.sig.returnType = rt ∧ meth.locks = false ∧ cz ≤ R.cells ∧ sz ≤ R.slots
/-- the machine at pc, over the world σ, comes to Q -/
def Z (p : Program) (l : Launch) (e : Env) (R : Room) (s : State) (m : MethodId) (args : Array Value) (below : List Frame) (meth : Method) (c : Code) (Q : State → Prop) (nL : Nat) (g : Gd) (a : Nat → Nat) (cz sz : Nat) (σ : St) (pc : Nat) (lv : List (Nat × Value)) (st : List Value) : Prop :=
  ∀ (H : Heap) (locs : List Loc) (ls : Array Slot), va_P g.1 cls (wl g a σ) H → va_S (Ad a) s.heap H locs → lv_has ls nL lv → W p l e R s m args below meth c H locs cz sz Q (F0 m pc ls st)
end
section
section RowsZ
variable {p : Program} {l : Launch} {e : Env} {R : Room} {s : State} {m : MethodId} {args : Array Value} {below : List Frame} {meth : Method} {c : Code} {Q : State → Prop} {cc : ByteArray} {nL : Nat} {own : String} {rt : Option FieldType} {g : Gd} {a : Nat → Nat} {cz sz : Nat} {σ σ1 σ' : St} {pc : Nat} {lv lv' : List (Nat × Value)} {st st0 rest : List Value}
theorem z_iadd {x y : Int32} (F : Fx p s m args meth c cc nL own rt R cz sz g a) (d : decode cc pc = .ok (.iadd, 1)) (z : Z p l e R s m args below meth c Q nL g a cz sz σ (pc + 1) lv (.int (x + y) :: st)) : Z p l e R s m args below meth c Q nL g a cz sz σ pc lv (.int y :: .int x :: st) :=
  fun H locs ls hP hS hl => lv_iadd F.1 F.2.1 d (z H locs ls hP hS hl)
theorem z_isub {x y : Int32} (F : Fx p s m args meth c cc nL own rt R cz sz g a) (d : decode cc pc = .ok (.isub, 1)) (z : Z p l e R s m args below meth c Q nL g a cz sz σ (pc + 1) lv (.int (x - y) :: st)) : Z p l e R s m args below meth c Q nL g a cz sz σ pc lv (.int y :: .int x :: st) :=
  fun H locs ls hP hS hl => lv_isub F.1 F.2.1 d (z H locs ls hP hS hl)
theorem z_imul {x y : Int32} (F : Fx p s m args meth c cc nL own rt R cz sz g a) (d : decode cc pc = .ok (.imul, 1)) (z : Z p l e R s m args below meth c Q nL g a cz sz σ (pc + 1) lv (.int (x * y) :: st)) : Z p l e R s m args below meth c Q nL g a cz sz σ pc lv (.int y :: .int x :: st) :=
  fun H locs ls hP hS hl => lv_imul F.1 F.2.1 d (z H locs ls hP hS hl)
theorem z_iand {x y : Int32} (F : Fx p s m args meth c cc nL own rt R cz sz g a) (d : decode cc pc = .ok (.iand, 1)) (z : Z p l e R s m args below meth c Q nL g a cz sz σ (pc + 1) lv (.int (x &&& y) :: st)) : Z p l e R s m args below meth c Q nL g a cz sz σ pc lv (.int y :: .int x :: st) :=
  fun H locs ls hP hS hl => lv_iand F.1 F.2.1 d (z H locs ls hP hS hl)
theorem z_ior {x y : Int32} (F : Fx p s m args meth c cc nL own rt R cz sz g a) (d : decode cc pc = .ok (.ior, 1)) (z : Z p l e R s m args below meth c Q nL g a cz sz σ (pc + 1) lv (.int (x ||| y) :: st)) : Z p l e R s m args below meth c Q nL g a cz sz σ pc lv (.int y :: .int x :: st) :=
  fun H locs ls hP hS hl => lv_ior F.1 F.2.1 d (z H locs ls hP hS hl)
theorem z_ixor {x y : Int32} (F : Fx p s m args meth c cc nL own rt R cz sz g a) (d : decode cc pc = .ok (.ixor, 1)) (z : Z p l e R s m args below meth c Q nL g a cz sz σ (pc + 1) lv (.int (x ^^^ y) :: st)) : Z p l e R s m args below meth c Q nL g a cz sz σ pc lv (.int y :: .int x :: st) :=
  fun H locs ls hP hS hl => lv_ixor F.1 F.2.1 d (z H locs ls hP hS hl)
theorem z_ladd {x y : Int64} (F : Fx p s m args meth c cc nL own rt R cz sz g a) (d : decode cc pc = .ok (.ladd, 1)) (z : Z p l e R s m args below meth c Q nL g a cz sz σ (pc + 1) lv (.long (x + y) :: st)) : Z p l e R s m args below meth c Q nL g a cz sz σ pc lv (.long y :: .long x :: st) :=
  fun H locs ls hP hS hl => lv_ladd F.1 F.2.1 d (z H locs ls hP hS hl)
theorem z_lsub {x y : Int64} (F : Fx p s m args meth c cc nL own rt R cz sz g a) (d : decode cc pc = .ok (.lsub, 1)) (z : Z p l e R s m args below meth c Q nL g a cz sz σ (pc + 1) lv (.long (x - y) :: st)) : Z p l e R s m args below meth c Q nL g a cz sz σ pc lv (.long y :: .long x :: st) :=
  fun H locs ls hP hS hl => lv_lsub F.1 F.2.1 d (z H locs ls hP hS hl)
theorem z_lmul {x y : Int64} (F : Fx p s m args meth c cc nL own rt R cz sz g a) (d : decode cc pc = .ok (.lmul, 1)) (z : Z p l e R s m args below meth c Q nL g a cz sz σ (pc + 1) lv (.long (x * y) :: st)) : Z p l e R s m args below meth c Q nL g a cz sz σ pc lv (.long y :: .long x :: st) :=
  fun H locs ls hP hS hl => lv_lmul F.1 F.2.1 d (z H locs ls hP hS hl)
theorem z_idiv {x y : Int32} (F : Fx p s m args meth c cc nL own rt R cz sz g a) (d : decode cc pc = .ok (.idiv, 1)) (hne : ¬ y = 0) (z : Z p l e R s m args below meth c Q nL g a cz sz σ (pc + 1) lv (.int (x / y) :: st)) : Z p l e R s m args below meth c Q nL g a cz sz σ pc lv (.int y :: .int x :: st) :=
  fun H locs ls hP hS hl => lv_idiv F.1 F.2.1 d hne (z H locs ls hP hS hl)
theorem z_irem {x y : Int32} (F : Fx p s m args meth c cc nL own rt R cz sz g a) (d : decode cc pc = .ok (.irem, 1)) (hne : ¬ y = 0) (z : Z p l e R s m args below meth c Q nL g a cz sz σ (pc + 1) lv (.int (x - x / y * y) :: st)) : Z p l e R s m args below meth c Q nL g a cz sz σ pc lv (.int y :: .int x :: st) :=
  fun H locs ls hP hS hl => lv_irem F.1 F.2.1 d hne (z H locs ls hP hS hl)
theorem z_ldiv {x y : Int64} (F : Fx p s m args meth c cc nL own rt R cz sz g a) (d : decode cc pc = .ok (.ldiv, 1)) (hne : ¬ y = 0) (z : Z p l e R s m args below meth c Q nL g a cz sz σ (pc + 1) lv (.long (x / y) :: st)) : Z p l e R s m args below meth c Q nL g a cz sz σ pc lv (.long y :: .long x :: st) :=
  fun H locs ls hP hS hl => lv_ldiv F.1 F.2.1 d hne (z H locs ls hP hS hl)
theorem z_lrem {x y : Int64} (F : Fx p s m args meth c cc nL own rt R cz sz g a) (d : decode cc pc = .ok (.lrem, 1)) (hne : ¬ y = 0) (z : Z p l e R s m args below meth c Q nL g a cz sz σ (pc + 1) lv (.long (x - x / y * y) :: st)) : Z p l e R s m args below meth c Q nL g a cz sz σ pc lv (.long y :: .long x :: st) :=
  fun H locs ls hP hS hl => lv_lrem F.1 F.2.1 d hne (z H locs ls hP hS hl)
theorem z_ishl {x y : Int32} (F : Fx p s m args meth c cc nL own rt R cz sz g a) (d : decode cc pc = .ok (.ishl, 1)) (z : Z p l e R s m args below meth c Q nL g a cz sz σ (pc + 1) lv (.int (x <<< (y &&& 31)) :: st)) : Z p l e R s m args below meth c Q nL g a cz sz σ pc lv (.int y :: .int x :: st) :=
  fun H locs ls hP hS hl => lv_ishl F.1 F.2.1 d (z H locs ls hP hS hl)
theorem z_ishr {x y : Int32} (F : Fx p s m args meth c cc nL own rt R cz sz g a) (d : decode cc pc = .ok (.ishr, 1)) (z : Z p l e R s m args below meth c Q nL g a cz sz σ (pc + 1) lv (.int (x >>> (y &&& 31)) :: st)) : Z p l e R s m args below meth c Q nL g a cz sz σ pc lv (.int y :: .int x :: st) :=
  fun H locs ls hP hS hl => lv_ishr F.1 F.2.1 d (z H locs ls hP hS hl)
theorem z_iushr {x y : Int32} (F : Fx p s m args meth c cc nL own rt R cz sz g a) (d : decode cc pc = .ok (.iushr, 1)) (z : Z p l e R s m args below meth c Q nL g a cz sz σ (pc + 1) lv (.int ((x.toUInt32 >>> (y.toUInt32 &&& Int32.toUInt32 31)).toInt32) :: st)) : Z p l e R s m args below meth c Q nL g a cz sz σ pc lv (.int y :: .int x :: st) :=
  fun H locs ls hP hS hl => lv_iushr F.1 F.2.1 d rfl (z H locs ls hP hS hl)
theorem z_i2l {x : Int32} (F : Fx p s m args meth c cc nL own rt R cz sz g a) (d : decode cc pc = .ok (.i2l, 1)) (z : Z p l e R s m args below meth c Q nL g a cz sz σ (pc + 1) lv (.long x.toInt64 :: st)) : Z p l e R s m args below meth c Q nL g a cz sz σ pc lv (.int x :: st) :=
  fun H locs ls hP hS hl => lv_i2l F.1 F.2.1 d rfl (z H locs ls hP hS hl)
theorem z_i2b {x : Int32} (F : Fx p s m args meth c cc nL own rt R cz sz g a) (d : decode cc pc = .ok (.i2b, 1)) (z : Z p l e R s m args below meth c Q nL g a cz sz σ (pc + 1) lv (.int x.toInt8.toInt32 :: st)) : Z p l e R s m args below meth c Q nL g a cz sz σ pc lv (.int x :: st) :=
  fun H locs ls hP hS hl => lv_i2b F.1 F.2.1 d rfl (z H locs ls hP hS hl)
theorem z_i2s {x : Int32} (F : Fx p s m args meth c cc nL own rt R cz sz g a) (d : decode cc pc = .ok (.i2s, 1)) (z : Z p l e R s m args below meth c Q nL g a cz sz σ (pc + 1) lv (.int x.toInt16.toInt32 :: st)) : Z p l e R s m args below meth c Q nL g a cz sz σ pc lv (.int x :: st) :=
  fun H locs ls hP hS hl => lv_i2s F.1 F.2.1 d rfl (z H locs ls hP hS hl)
theorem z_i2c {x : Int32} (F : Fx p s m args meth c cc nL own rt R cz sz g a) (d : decode cc pc = .ok (.i2c, 1)) (z : Z p l e R s m args below meth c Q nL g a cz sz σ (pc + 1) lv (.int (x.toUInt32 % 65536).toInt32 :: st)) : Z p l e R s m args below meth c Q nL g a cz sz σ pc lv (.int x :: st) :=
  fun H locs ls hP hS hl => lv_i2c F.1 F.2.1 d rfl (z H locs ls hP hS hl)
theorem z_lcmp {x y : Int64} (F : Fx p s m args meth c cc nL own rt R cz sz g a) (d : decode cc pc = .ok (.lcmp, 1)) (z : Z p l e R s m args below meth c Q nL g a cz sz σ (pc + 1) lv (.int (lg_cmp x y) :: st)) : Z p l e R s m args below meth c Q nL g a cz sz σ pc lv (.long y :: .long x :: st) :=
  fun H locs ls hP hS hl => W.lcmp F.1 F.2.1 d (z H locs ls hP hS hl)
theorem z_iconst {n : Int} {v : Int32} (F : Fx p s m args meth c cc nL own rt R cz sz g a) (d : decode cc pc = .ok (.iconst n, 1)) (hv : Int32.ofInt n = v) (z : Z p l e R s m args below meth c Q nL g a cz sz σ (pc + 1) lv (.int v :: st)) : Z p l e R s m args below meth c Q nL g a cz sz σ pc lv (st) :=
  fun H locs ls hP hS hl => lv_iconst F.1 F.2.1 d hv (z H locs ls hP hS hl)
theorem z_bipush {n : Int} {v : Int32} (F : Fx p s m args meth c cc nL own rt R cz sz g a) (d : decode cc pc = .ok (.bipush n, 2)) (hv : (Int8.ofInt n).toInt32 = v) (z : Z p l e R s m args below meth c Q nL g a cz sz σ (pc + 2) lv (.int v :: st)) : Z p l e R s m args below meth c Q nL g a cz sz σ pc lv (st) :=
  fun H locs ls hP hS hl => lv_bipush F.1 F.2.1 d hv (z H locs ls hP hS hl)
theorem z_sipush {n : Int} {v : Int32} (F : Fx p s m args meth c cc nL own rt R cz sz g a) (d : decode cc pc = .ok (.sipush n, 3)) (hv : (Int16.ofInt n).toInt32 = v) (z : Z p l e R s m args below meth c Q nL g a cz sz σ (pc + 3) lv (.int v :: st)) : Z p l e R s m args below meth c Q nL g a cz sz σ pc lv (st) :=
  fun H locs ls hP hS hl => lv_sipush F.1 F.2.1 d hv (z H locs ls hP hS hl)
theorem z_lconst {n : Fin 2} {v : Int64} (F : Fx p s m args meth c cc nL own rt R cz sz g a) (d : decode cc pc = .ok (.lconst n, 1)) (hv : Int64.ofNat (n : Nat) = v) (z : Z p l e R s m args below meth c Q nL g a cz sz σ (pc + 1) lv (.long v :: st)) : Z p l e R s m args below meth c Q nL g a cz sz σ pc lv (st) :=
  fun H locs ls hP hS hl => lv_lconst F.1 F.2.1 d hv (z H locs ls hP hS hl)
theorem z_ldc {index : Nat} {v : Int32} (F : Fx p s m args meth c cc nL own rt R cz sz g a) (d : decode cc pc = .ok (.ldc index, 2)) (hc : Cond.constant own index v ∈ TB) (z : Z p l e R s m args below meth c Q nL g a cz sz σ (pc + 2) lv (.int v :: st)) : Z p l e R s m args below meth c Q nL g a cz sz σ pc lv (st) :=
  fun H locs ls hP hS hl => lv_ldc F.1 F.2.1 F.2.2.2.1 (F.2.2.2.2.1 _ hc) d (z H locs ls hP hS hl)
theorem z_ldcw {index : Nat} {v : Int32} (F : Fx p s m args meth c cc nL own rt R cz sz g a) (d : decode cc pc = .ok (.ldc_w index, 3)) (hc : Cond.constant own index v ∈ TB) (z : Z p l e R s m args below meth c Q nL g a cz sz σ (pc + 3) lv (.int v :: st)) : Z p l e R s m args below meth c Q nL g a cz sz σ pc lv (st) :=
  fun H locs ls hP hS hl => lv_ldcw F.1 F.2.1 F.2.2.2.1 (F.2.2.2.2.1 _ hc) d (z H locs ls hP hS hl)
theorem z_ldc2 {index : Nat} {v : Int64} (F : Fx p s m args meth c cc nL own rt R cz sz g a) (d : decode cc pc = .ok (.ldc2_w index, 3)) (hc : Cond.constantLong own index v ∈ TB) (z : Z p l e R s m args below meth c Q nL g a cz sz σ (pc + 3) lv (.long v :: st)) : Z p l e R s m args below meth c Q nL g a cz sz σ pc lv (st) :=
  fun H locs ls hP hS hl => lv_ldc2 F.1 F.2.1 F.2.2.2.1 (F.2.2.2.2.1 _ hc) d (z H locs ls hP hS hl)
theorem z_dup {v : Value} (F : Fx p s m args meth c cc nL own rt R cz sz g a) (d : decode cc pc = .ok (.dup, 1)) (hv : v.category = 1) (z : Z p l e R s m args below meth c Q nL g a cz sz σ (pc + 1) lv (v :: v :: st)) : Z p l e R s m args below meth c Q nL g a cz sz σ pc lv (v :: st) :=
  fun H locs ls hP hS hl => lv_dup F.1 F.2.1 d hv (z H locs ls hP hS hl)
theorem z_dup2 {v w : Value} (F : Fx p s m args meth c cc nL own rt R cz sz g a) (d : decode cc pc = .ok (.dup2, 1)) (hv : v.category = 1) (hw : w.category = 1) (z : Z p l e R s m args below meth c Q nL g a cz sz σ (pc + 1) lv (v :: w :: v :: w :: st)) : Z p l e R s m args below meth c Q nL g a cz sz σ pc lv (v :: w :: st) :=
  fun H locs ls hP hS hl => lv_dup2_11 F.1 F.2.1 d hv hw (z H locs ls hP hS hl)
theorem z_pop {v : Value} (F : Fx p s m args meth c cc nL own rt R cz sz g a) (d : decode cc pc = .ok (.pop, 1)) (hv : v.category = 1) (z : Z p l e R s m args below meth c Q nL g a cz sz σ (pc + 1) lv (st)) : Z p l e R s m args below meth c Q nL g a cz sz σ pc lv (v :: st) :=
  fun H locs ls hP hS hl => lv_pop F.1 F.2.1 d hv (z H locs ls hP hS hl)
theorem z_iload_n {k : Fin 4} {i q : Nat} {x : Int32} (F : Fx p s m args meth c cc nL own rt R cz sz g a) (d : decode cc pc = .ok (.iload_n k, 1)) (hi : (k : Nat) = i) (hq : lv[q]? = some (i, .int x)) (z : Z p l e R s m args below meth c Q nL g a cz sz σ (pc + 1) lv (.int x :: st)) : Z p l e R s m args below meth c Q nL g a cz sz σ pc lv (st) :=
  fun H locs ls hP hS hl => lv_iload_n F.1 F.2.1 d hi (lv_at hl q hq) (z H locs ls hP hS hl)
theorem z_iload {i q : Nat} {x : Int32} (F : Fx p s m args meth c cc nL own rt R cz sz g a) (d : decode cc pc = .ok (.iload i, 2)) (hq : lv[q]? = some (i, .int x)) (z : Z p l e R s m args below meth c Q nL g a cz sz σ (pc + 2) lv (.int x :: st)) : Z p l e R s m args below meth c Q nL g a cz sz σ pc lv (st) :=
  fun H locs ls hP hS hl => lv_iload F.1 F.2.1 d (lv_at hl q hq) (z H locs ls hP hS hl)
theorem z_istore_n {k : Fin 4} {i : Nat} {x : Int32} (F : Fx p s m args meth c cc nL own rt R cz sz g a) (d : decode cc pc = .ok (.istore_n k, 1)) (hi : (k : Nat) = i) (hn : i < nL) (hl' : (i, Value.int x) :: lv.filter (fun q => !(q.1 == i) && !(q.1 + 1 == i && q.2.category == 2)) = lv') (z : Z p l e R s m args below meth c Q nL g a cz sz σ (pc + 1) lv' st) : Z p l e R s m args below meth c Q nL g a cz sz σ pc lv (.int x :: st) :=
  fun H locs ls hP hS hl => lv_istore_n F.1 F.2.1 d hi hl hn hl' (fun ls hl => z H locs ls hP hS hl)
theorem z_istore {i : Nat} {x : Int32} (F : Fx p s m args meth c cc nL own rt R cz sz g a) (d : decode cc pc = .ok (.istore i, 2)) (hn : i < nL) (hl' : (i, Value.int x) :: lv.filter (fun q => !(q.1 == i) && !(q.1 + 1 == i && q.2.category == 2)) = lv') (z : Z p l e R s m args below meth c Q nL g a cz sz σ (pc + 2) lv' st) : Z p l e R s m args below meth c Q nL g a cz sz σ pc lv (.int x :: st) :=
  fun H locs ls hP hS hl => lv_istore F.1 F.2.1 d hl hn hl' (fun ls hl => z H locs ls hP hS hl)
theorem z_lload_n {k : Fin 4} {i q : Nat} {x : Int64} (F : Fx p s m args meth c cc nL own rt R cz sz g a) (d : decode cc pc = .ok (.lload_n k, 1)) (hi : (k : Nat) = i) (hq : lv[q]? = some (i, .long x)) (z : Z p l e R s m args below meth c Q nL g a cz sz σ (pc + 1) lv (.long x :: st)) : Z p l e R s m args below meth c Q nL g a cz sz σ pc lv (st) :=
  fun H locs ls hP hS hl => lv_lload_n F.1 F.2.1 d hi (lv_at hl q hq) (z H locs ls hP hS hl)
theorem z_lload {i q : Nat} {x : Int64} (F : Fx p s m args meth c cc nL own rt R cz sz g a) (d : decode cc pc = .ok (.lload i, 2)) (hq : lv[q]? = some (i, .long x)) (z : Z p l e R s m args below meth c Q nL g a cz sz σ (pc + 2) lv (.long x :: st)) : Z p l e R s m args below meth c Q nL g a cz sz σ pc lv (st) :=
  fun H locs ls hP hS hl => lv_lload F.1 F.2.1 d (lv_at hl q hq) (z H locs ls hP hS hl)
theorem z_lstore_n {k : Fin 4} {i : Nat} {x : Int64} (F : Fx p s m args meth c cc nL own rt R cz sz g a) (d : decode cc pc = .ok (.lstore_n k, 1)) (hi : (k : Nat) = i) (hn : i + 1 < nL) (hl' : (i, Value.long x) :: lv.filter (fun q => !(q.1 == i) && (!(q.1 == i + 1) && !(q.1 + 1 == i && q.2.category == 2))) = lv') (z : Z p l e R s m args below meth c Q nL g a cz sz σ (pc + 1) lv' st) : Z p l e R s m args below meth c Q nL g a cz sz σ pc lv (.long x :: st) :=
  fun H locs ls hP hS hl => lv_lstore_n F.1 F.2.1 d hi hl hn hl' (fun ls hl => z H locs ls hP hS hl)
theorem z_lstore {i : Nat} {x : Int64} (F : Fx p s m args meth c cc nL own rt R cz sz g a) (d : decode cc pc = .ok (.lstore i, 2)) (hn : i + 1 < nL) (hl' : (i, Value.long x) :: lv.filter (fun q => !(q.1 == i) && (!(q.1 == i + 1) && !(q.1 + 1 == i && q.2.category == 2))) = lv') (z : Z p l e R s m args below meth c Q nL g a cz sz σ (pc + 2) lv' st) : Z p l e R s m args below meth c Q nL g a cz sz σ pc lv (.long x :: st) :=
  fun H locs ls hP hS hl => lv_lstore F.1 F.2.1 d hl hn hl' (fun ls hl => z H locs ls hP hS hl)
theorem z_aload_n {k : Fin 4} {i q : Nat} {x : Nat} (F : Fx p s m args meth c cc nL own rt R cz sz g a) (d : decode cc pc = .ok (.aload_n k, 1)) (hi : (k : Nat) = i) (hq : lv[q]? = some (i, .ref x)) (z : Z p l e R s m args below meth c Q nL g a cz sz σ (pc + 1) lv (.ref x :: st)) : Z p l e R s m args below meth c Q nL g a cz sz σ pc lv (st) :=
  fun H locs ls hP hS hl => lv_aload_n F.1 F.2.1 d hi (lv_at hl q hq) (z H locs ls hP hS hl)
theorem z_aload {i q : Nat} {x : Nat} (F : Fx p s m args meth c cc nL own rt R cz sz g a) (d : decode cc pc = .ok (.aload i, 2)) (hq : lv[q]? = some (i, .ref x)) (z : Z p l e R s m args below meth c Q nL g a cz sz σ (pc + 2) lv (.ref x :: st)) : Z p l e R s m args below meth c Q nL g a cz sz σ pc lv (st) :=
  fun H locs ls hP hS hl => lv_aload F.1 F.2.1 d (lv_at hl q hq) (z H locs ls hP hS hl)
theorem z_astore_n {k : Fin 4} {i : Nat} {x : Nat} (F : Fx p s m args meth c cc nL own rt R cz sz g a) (d : decode cc pc = .ok (.astore_n k, 1)) (hi : (k : Nat) = i) (hn : i < nL) (hl' : (i, Value.ref x) :: lv.filter (fun q => !(q.1 == i) && !(q.1 + 1 == i && q.2.category == 2)) = lv') (z : Z p l e R s m args below meth c Q nL g a cz sz σ (pc + 1) lv' st) : Z p l e R s m args below meth c Q nL g a cz sz σ pc lv (.ref x :: st) :=
  fun H locs ls hP hS hl => lv_astore_n F.1 F.2.1 d hi hl hn hl' (fun ls hl => z H locs ls hP hS hl)
theorem z_astore {i : Nat} {x : Nat} (F : Fx p s m args meth c cc nL own rt R cz sz g a) (d : decode cc pc = .ok (.astore i, 2)) (hn : i < nL) (hl' : (i, Value.ref x) :: lv.filter (fun q => !(q.1 == i) && !(q.1 + 1 == i && q.2.category == 2)) = lv') (z : Z p l e R s m args below meth c Q nL g a cz sz σ (pc + 2) lv' st) : Z p l e R s m args below meth c Q nL g a cz sz σ pc lv (.ref x :: st) :=
  fun H locs ls hP hS hl => lv_astore F.1 F.2.1 d hl hn hl' (fun ls hl => z H locs ls hP hS hl)
theorem z_iinc {i q : Nat} {n : Int} {x v : Int32} (F : Fx p s m args meth c cc nL own rt R cz sz g a) (d : decode cc pc = .ok (.iinc i n, 3)) (hq : lv[q]? = some (i, .int x)) (hv : x + Int32.ofInt n = v) (hn : i < nL) (hl' : (i, Value.int v) :: lv.filter (fun q => !(q.1 == i) && !(q.1 + 1 == i && q.2.category == 2)) = lv') (z : Z p l e R s m args below meth c Q nL g a cz sz σ (pc + 3) lv' st) : Z p l e R s m args below meth c Q nL g a cz sz σ pc lv st :=
  fun H locs ls hP hS hl => lv_iinc F.1 F.2.1 d hl hq hv hn hl' (fun ls hl => z H locs ls hP hS hl)
theorem z_goto {off : Int} {tgt : Nat} (F : Fx p s m args meth c cc nL own rt R cz sz g a) (d : decode cc pc = .ok (.goto off, 3)) (ht : (pc : Int) + off = (tgt : Int)) (z : Z p l e R s m args below meth c Q nL g a cz sz σ tgt lv st) : Z p l e R s m args below meth c Q nL g a cz sz σ pc lv st :=
  fun H locs ls hP hS hl => lv_goto F.1 F.2.1 d ht (z H locs ls hP hS hl)
theorem z_if_eq {x : Int32} {off : Int} {tgt : Nat} (F : Fx p s m args meth c cc nL own rt R cz sz g a) (d : decode cc pc = .ok (.ifCond .eq off, 3)) (ht : (pc : Int) + off = (tgt : Int)) (kt : x = 0 → Z p l e R s m args below meth c Q nL g a cz sz σ tgt lv st) (kf : ¬ (x = 0) → Z p l e R s m args below meth c Q nL g a cz sz σ (pc + 3) lv st) : Z p l e R s m args below meth c Q nL g a cz sz σ pc lv (.int x :: st) :=
  fun H locs ls hP hS hl => lv_if_eq F.1 F.2.1 d ht (fun h => kt h H locs ls hP hS hl) (fun h => kf h H locs ls hP hS hl)
theorem z_icmp_eq {x y : Int32} {off : Int} {tgt : Nat} (F : Fx p s m args meth c cc nL own rt R cz sz g a) (d : decode cc pc = .ok (.if_icmp .eq off, 3)) (ht : (pc : Int) + off = (tgt : Int)) (kt : x = y → Z p l e R s m args below meth c Q nL g a cz sz σ tgt lv st) (kf : ¬ (x = y) → Z p l e R s m args below meth c Q nL g a cz sz σ (pc + 3) lv st) : Z p l e R s m args below meth c Q nL g a cz sz σ pc lv (.int y :: .int x :: st) :=
  fun H locs ls hP hS hl => lv_icmp_eq F.1 F.2.1 d ht (fun h => kt h H locs ls hP hS hl) (fun h => kf h H locs ls hP hS hl)
theorem z_if_ne {x : Int32} {off : Int} {tgt : Nat} (F : Fx p s m args meth c cc nL own rt R cz sz g a) (d : decode cc pc = .ok (.ifCond .ne off, 3)) (ht : (pc : Int) + off = (tgt : Int)) (kt : ¬ x = 0 → Z p l e R s m args below meth c Q nL g a cz sz σ tgt lv st) (kf : x = 0 → Z p l e R s m args below meth c Q nL g a cz sz σ (pc + 3) lv st) : Z p l e R s m args below meth c Q nL g a cz sz σ pc lv (.int x :: st) :=
  fun H locs ls hP hS hl => lv_if_ne F.1 F.2.1 d ht (fun h => kt h H locs ls hP hS hl) (fun h => kf h H locs ls hP hS hl)
theorem z_icmp_ne {x y : Int32} {off : Int} {tgt : Nat} (F : Fx p s m args meth c cc nL own rt R cz sz g a) (d : decode cc pc = .ok (.if_icmp .ne off, 3)) (ht : (pc : Int) + off = (tgt : Int)) (kt : ¬ x = y → Z p l e R s m args below meth c Q nL g a cz sz σ tgt lv st) (kf : x = y → Z p l e R s m args below meth c Q nL g a cz sz σ (pc + 3) lv st) : Z p l e R s m args below meth c Q nL g a cz sz σ pc lv (.int y :: .int x :: st) :=
  fun H locs ls hP hS hl => lv_icmp_ne F.1 F.2.1 d ht (fun h => kt h H locs ls hP hS hl) (fun h => kf h H locs ls hP hS hl)
theorem z_if_lt {x : Int32} {off : Int} {tgt : Nat} (F : Fx p s m args meth c cc nL own rt R cz sz g a) (d : decode cc pc = .ok (.ifCond .lt off, 3)) (ht : (pc : Int) + off = (tgt : Int)) (kt : x < 0 → Z p l e R s m args below meth c Q nL g a cz sz σ tgt lv st) (kf : ¬ (x < 0) → Z p l e R s m args below meth c Q nL g a cz sz σ (pc + 3) lv st) : Z p l e R s m args below meth c Q nL g a cz sz σ pc lv (.int x :: st) :=
  fun H locs ls hP hS hl => lv_if_lt F.1 F.2.1 d ht (fun h => kt h H locs ls hP hS hl) (fun h => kf h H locs ls hP hS hl)
theorem z_icmp_lt {x y : Int32} {off : Int} {tgt : Nat} (F : Fx p s m args meth c cc nL own rt R cz sz g a) (d : decode cc pc = .ok (.if_icmp .lt off, 3)) (ht : (pc : Int) + off = (tgt : Int)) (kt : x < y → Z p l e R s m args below meth c Q nL g a cz sz σ tgt lv st) (kf : ¬ (x < y) → Z p l e R s m args below meth c Q nL g a cz sz σ (pc + 3) lv st) : Z p l e R s m args below meth c Q nL g a cz sz σ pc lv (.int y :: .int x :: st) :=
  fun H locs ls hP hS hl => lv_icmp_lt F.1 F.2.1 d ht (fun h => kt h H locs ls hP hS hl) (fun h => kf h H locs ls hP hS hl)
theorem z_if_ge {x : Int32} {off : Int} {tgt : Nat} (F : Fx p s m args meth c cc nL own rt R cz sz g a) (d : decode cc pc = .ok (.ifCond .ge off, 3)) (ht : (pc : Int) + off = (tgt : Int)) (kt : 0 ≤ x → Z p l e R s m args below meth c Q nL g a cz sz σ tgt lv st) (kf : ¬ (0 ≤ x) → Z p l e R s m args below meth c Q nL g a cz sz σ (pc + 3) lv st) : Z p l e R s m args below meth c Q nL g a cz sz σ pc lv (.int x :: st) :=
  fun H locs ls hP hS hl => lv_if_ge F.1 F.2.1 d ht (fun h => kt h H locs ls hP hS hl) (fun h => kf h H locs ls hP hS hl)
theorem z_icmp_ge {x y : Int32} {off : Int} {tgt : Nat} (F : Fx p s m args meth c cc nL own rt R cz sz g a) (d : decode cc pc = .ok (.if_icmp .ge off, 3)) (ht : (pc : Int) + off = (tgt : Int)) (kt : y ≤ x → Z p l e R s m args below meth c Q nL g a cz sz σ tgt lv st) (kf : ¬ (y ≤ x) → Z p l e R s m args below meth c Q nL g a cz sz σ (pc + 3) lv st) : Z p l e R s m args below meth c Q nL g a cz sz σ pc lv (.int y :: .int x :: st) :=
  fun H locs ls hP hS hl => lv_icmp_ge F.1 F.2.1 d ht (fun h => kt h H locs ls hP hS hl) (fun h => kf h H locs ls hP hS hl)
theorem z_if_gt {x : Int32} {off : Int} {tgt : Nat} (F : Fx p s m args meth c cc nL own rt R cz sz g a) (d : decode cc pc = .ok (.ifCond .gt off, 3)) (ht : (pc : Int) + off = (tgt : Int)) (kt : 0 < x → Z p l e R s m args below meth c Q nL g a cz sz σ tgt lv st) (kf : ¬ (0 < x) → Z p l e R s m args below meth c Q nL g a cz sz σ (pc + 3) lv st) : Z p l e R s m args below meth c Q nL g a cz sz σ pc lv (.int x :: st) :=
  fun H locs ls hP hS hl => lv_if_gt F.1 F.2.1 d ht (fun h => kt h H locs ls hP hS hl) (fun h => kf h H locs ls hP hS hl)
theorem z_icmp_gt {x y : Int32} {off : Int} {tgt : Nat} (F : Fx p s m args meth c cc nL own rt R cz sz g a) (d : decode cc pc = .ok (.if_icmp .gt off, 3)) (ht : (pc : Int) + off = (tgt : Int)) (kt : y < x → Z p l e R s m args below meth c Q nL g a cz sz σ tgt lv st) (kf : ¬ (y < x) → Z p l e R s m args below meth c Q nL g a cz sz σ (pc + 3) lv st) : Z p l e R s m args below meth c Q nL g a cz sz σ pc lv (.int y :: .int x :: st) :=
  fun H locs ls hP hS hl => lv_icmp_gt F.1 F.2.1 d ht (fun h => kt h H locs ls hP hS hl) (fun h => kf h H locs ls hP hS hl)
theorem z_if_le {x : Int32} {off : Int} {tgt : Nat} (F : Fx p s m args meth c cc nL own rt R cz sz g a) (d : decode cc pc = .ok (.ifCond .le off, 3)) (ht : (pc : Int) + off = (tgt : Int)) (kt : x ≤ 0 → Z p l e R s m args below meth c Q nL g a cz sz σ tgt lv st) (kf : ¬ (x ≤ 0) → Z p l e R s m args below meth c Q nL g a cz sz σ (pc + 3) lv st) : Z p l e R s m args below meth c Q nL g a cz sz σ pc lv (.int x :: st) :=
  fun H locs ls hP hS hl => lv_if_le F.1 F.2.1 d ht (fun h => kt h H locs ls hP hS hl) (fun h => kf h H locs ls hP hS hl)
theorem z_icmp_le {x y : Int32} {off : Int} {tgt : Nat} (F : Fx p s m args meth c cc nL own rt R cz sz g a) (d : decode cc pc = .ok (.if_icmp .le off, 3)) (ht : (pc : Int) + off = (tgt : Int)) (kt : x ≤ y → Z p l e R s m args below meth c Q nL g a cz sz σ tgt lv st) (kf : ¬ (x ≤ y) → Z p l e R s m args below meth c Q nL g a cz sz σ (pc + 3) lv st) : Z p l e R s m args below meth c Q nL g a cz sz σ pc lv (.int y :: .int x :: st) :=
  fun H locs ls hP hS hl => lv_icmp_le F.1 F.2.1 d ht (fun h => kt h H locs ls hP hS hl) (fun h => kf h H locs ls hP hS hl)
theorem z_sub (ks : List Nat) (h : lv_pick lv ks = lv') (z : Z p l e R s m args below meth c Q nL g a cz sz σ pc lv' st) : Z p l e R s m args below meth c Q nL g a cz sz σ pc lv st :=
  fun H locs ls hP hS hl => z H locs ls hP hS (lv_sub hl ks h)
theorem z_tabIn {dflt lo hi : Int} {offs : Array Int} {len : Nat} {x : Int32} {off : Int} {tgt : Nat} (F : Fx p s m args meth c cc nL own rt R cz sz g a) (d : decode cc pc = .ok (.tableswitch dflt lo hi offs, len)) (h1 : ¬ x.toInt < lo) (h2 : ¬ hi < x.toInt) (ho : offs[(x.toInt - lo).toNat]? = some off) (ht : (pc : Int) + off = (tgt : Int)) (z : Z p l e R s m args below meth c Q nL g a cz sz σ tgt lv st) : Z p l e R s m args below meth c Q nL g a cz sz σ pc lv (.int x :: st) :=
  fun H locs ls hP hS hl => lv_tableIn F.1 F.2.1 d h1 h2 ho ht (z H locs ls hP hS hl)
theorem z_tabOut {dflt lo hi : Int} {offs : Array Int} {len : Nat} {x : Int32} {tgt : Nat} (F : Fx p s m args meth c cc nL own rt R cz sz g a) (d : decode cc pc = .ok (.tableswitch dflt lo hi offs, len)) (h : x.toInt < lo ∨ hi < x.toInt) (ht : (pc : Int) + dflt = (tgt : Int)) (z : Z p l e R s m args below meth c Q nL g a cz sz σ tgt lv st) : Z p l e R s m args below meth c Q nL g a cz sz σ pc lv (.int x :: st) :=
  fun H locs ls hP hS hl => lv_tableOut F.1 F.2.1 d h ht (z H locs ls hP hS hl)
theorem z_iald {k : Nat} {i : Int32} (F : Fx p s m args meth c cc nL own rt R cz sz g a) (hk : kd k = 9) (hi : vp_in i (ln k)) (d : decode cc pc = .ok (.iaload, 1)) (z : Z p l e R s m args below meth c Q nL g a cz sz σ (pc + 1) lv (.int (σ k i.toNatClampNeg) :: st)) : Z p l e R s m args below meth c Q nL g a cz sz σ pc lv (.int i :: .ref (a k) :: st) :=
  fun H locs ls hP hS hl => va_iald F.1 F.2.1 F.2.2.2.2.2.1.1 hP k 0 (wl_at hk (by decide)) rfl hi d (z H locs ls hP hS hl)
theorem z_iast {k : Nat} {i x : Int32} (F : Fx p s m args meth c cc nL own rt R cz sz g a) (hk : kd k = 9) (hi : vp_in i (ln k)) (d : decode cc pc = .ok (.iastore, 1)) (z : Z p l e R s m args below meth c Q nL g a cz sz (s2 σ k i.toNatClampNeg x) (pc + 1) lv st) : Z p l e R s m args below meth c Q nL g a cz sz σ pc lv (.int x :: .int i :: .ref (a k) :: st) :=
  fun H locs ls hP hS hl => va_iast F.1 F.2.1 F.2.2.2.2.2.1.1 hP (wl_D F.2.2.2.2.2.1.2.1 σ) hS k 0 (wl_at hk (by decide)) rfl hi d (fun H1 locs1 hP1 _ hS1 => by
    rw [wl_set (σ' := s2 σ k i.toNatClampNeg x) hk (by decide) (by simp [cel, s2_row]) (fun j hj => s2_ne hj)] at hP1
    exact z H1 locs1 ls hP1 hS1 hl)
theorem z_aldH {k : Nat} {i : Int32} (F : Fx p s m args meth c cc nL own rt R cz sz g a) (hk : kd k = 10) (hi : vp_in i 8) (d : decode cc pc = .ok (.aaload, 1)) (z : Z p l e R s m args below meth c Q nL g a cz sz σ (pc + 1) lv (.ref (a (k + 9 + i.toNatClampNeg)) :: st)) : Z p l e R s m args below meth c Q nL g a cz sz σ pc lv (.int i :: .ref (a k) :: st) :=
  fun H locs ls hP hS hl => va_aldq F.1 F.2.1 F.2.2.2.2.2.1.1 hP k 1 (wl_at hk (by decide)) rfl hi d (z H locs ls hP hS hl)
theorem z_aldS {k : Nat} {i : Int32} (F : Fx p s m args meth c cc nL own rt R cz sz g a) (hk : kd k = 11) (hi : vp_in i 4) (d : decode cc pc = .ok (.aaload, 1)) (z : Z p l e R s m args below meth c Q nL g a cz sz σ (pc + 1) lv (.ref (a (k + 1 + 2 * i.toNatClampNeg)) :: st)) : Z p l e R s m args below meth c Q nL g a cz sz σ pc lv (.int i :: .ref (a k) :: st) :=
  fun H locs ls hP hS hl => va_aldq F.1 F.2.1 F.2.2.2.2.2.1.1 hP k 2 (wl_at hk (by decide)) rfl hi d (z H locs ls hP hS hl)
end RowsZ
end
section
section CallsZ
variable {p : Program} {l : Launch} {e : Env} {R : Room} {s : State} {m : MethodId} {args : Array Value} {below : List Frame} {meth : Method} {c : Code} {Q : State → Prop} {cc : ByteArray} {nL : Nat} {own : String} {rt : Option FieldType} {g : Gd} {a : Nat → Nat} {cz sz : Nat} {σ σ1 σ' : St} {pc : Nat} {lv lv' : List (Nat × Value)} {st st0 rest : List Value}
theorem tbm {w : Cond} (i : Nat) (h : tables_1[i]? = some w) (hg : goodWord w = true) : w ∈ TB := List.mem_filter.mpr ⟨List.mem_append_right _ (List.mem_of_getElem? h), hg⟩
theorem tbs {w : Cond} (i : Nat) (h : (k2_sels lw_privs)[i]? = some w) (hg : goodWord w = true) : w ∈ TB := List.mem_filter.mpr ⟨List.mem_append_left _ (List.mem_of_getElem? h), hg⟩
theorem nlm {w : Cond} (i : Nat) (h : tables_1[i]? = some w) (hg : isNestW w = true) : w ∈ NL := List.mem_filter.mpr ⟨List.mem_of_getElem? h, hg⟩
theorem good_TB {ws : List Cond} (h : ∀ w ∈ ws, w ∈ TB) : GoodIn TB ws := fun w hw => ⟨h w hw, good_of_word (List.mem_filter.mp (h w hw)).2⟩
def wsY (y : MethodName) (b : ByteArray) (n : Nat) (r : Option FieldType) : List Cond := .code y b n r :: TB
def rmL (L : Nat) : Room := { frames := L, cells := 0, slots := 0, locals := 31 * L }
def PcW (g : Gd) (a : Nat → Nat) (av : List Value) (σ : St) : Array Value → State → Prop := va_Pc av (fun U => va_P g.1 cls (wl g a σ) U.heap ∧ KP g a U)
def QiW (g : Gd) (a : Nat → Nat) (r : Int32) (σ' : St) : Array Value → State → Outcome → State → Prop := va_Qi (S := Unit) (fun x _ => x = r) (fun _ t => va_P g.1 cls (wl g a σ') t.heap) (Ad a)
def QlW (g : Gd) (a : Nat → Nat) (r : Int64) (σ' : St) : Array Value → State → Outcome → State → Prop := va_Ql (S := Unit) (fun x _ => x = r) (fun _ t => va_P g.1 cls (wl g a σ') t.heap) (Ad a)
def QvW (g : Gd) (a : Nat → Nat) (_ : Unit) (σ' : St) : Array Value → State → Outcome → State → Prop := va_Qv (S := Unit) (fun _ => True) (fun _ t => va_P g.1 cls (wl g a σ') t.heap) (Ad a)
def QrW (g : Gd) (a : Nat → Nat) (r : Nat) (σ' : St) : Array Value → State → Outcome → State → Prop := va_Qr (S := Unit) (fun _ => True) (fun _ x t => x = a r ∧ va_P g.1 cls (wl g a σ') t.heap) (Ad a)
theorem pc_blind {av : List Value} : FrameBlind (PcW g a av σ) := fun _ _ _ _ q => ⟨q.1, q.2.1, KP.calling q.2.2⟩
theorem pc_at {av : List Value} {H : Heap} {locs : List Loc} (kp : KP g a s) (hP : va_P g.1 cls (wl g a σ) H) (hS : va_S (Ad a) s.heap H locs) : ∀ U : State, U.heap = H → s.WarmedH U.vm → PcW g a av σ av.toArray U :=
  fun U hU hW => ⟨rfl, by rw [hU]; exact hP, KP.moved hW (fun q h1 h2 => by rw [hU]; exact hS.2.1 q h1 h2) kp⟩
theorem pre_V {C : String} {ci k : Nat} {As : List Value} {r : vw_C} {fs : List Value} {H : Heap} {locs : List Loc} (kp : KP g a s) (hP : va_P g.1 cls (wl g a σ) H) (hS : va_S (Ad a) s.heap H locs) (hk : kd k = ci) (hci : ci < 12) (hc : cls[ci]? = some r) (hC : r.1 = C) (hcel : cel ci g a σ k = .inr (ci, fs)) : PreV s H C (a k) (PcW g a (.ref (a k) :: As) σ) As := by
  subst hC
  exact ⟨pc_blind, va_recv kp.1 hP hc (by rw [wl_at hk hci, hcel]), pc_at kp hP hS⟩
theorem pre_S {As : List Value} {H : Heap} {locs : List Loc} (kp : KP g a s) (hP : va_P g.1 cls (wl g a σ) H) (hS : va_S (Ad a) s.heap H locs) : PreS s H (PcW g a As σ) As := ⟨pc_blind, pc_at kp hP hS⟩
/-- the words of a virtual call -/
def CwV (own C : String) (index : Nat) (y : MethodName) (b : ByteArray) (n : Nat) (r : Option FieldType) : Prop := Cond.methodLink own index y ∈ TB ∧ Cond.instanceMethod y ∈ TB ∧ Cond.selects C y y ∈ TB ∧ Cond.initialized C ∈ TB ∧ Cond.code y b n r ∈ TB
theorem CwV.good {C : String} {index n : Nat} {y : MethodName} {b : ByteArray} {r : Option FieldType} (h : CwV own C index y b n r) : GoodIn TB (wsV own index C y (wsY y b n r)) := good_TB (by
  intro w hw
  obtain ⟨h1, h2, h3, h4, h5⟩ := h
  simp only [wsV, wsY, List.mem_append, List.mem_cons, List.not_mem_nil, or_false] at hw
  rcases hw with (rfl | rfl | rfl | rfl) | rfl | hw <;> assumption)
def CwS (own : String) (index : Nat) (y : MethodName) (b : ByteArray) (n : Nat) (r : Option FieldType) : Prop := Cond.methodLink own index y ∈ TB ∧ Cond.static y ∈ TB ∧ Cond.initialized own ∈ TB ∧ Cond.code y b n r ∈ TB
theorem CwS.good {index n : Nat} {y : MethodName} {b : ByteArray} {r : Option FieldType} (h : CwS own index y b n r) : GoodIn TB (wsS own index y (wsY y b n r)) := good_TB (by
  intro w hw
  obtain ⟨h1, h2, h3, h5⟩ := h
  simp only [wsS, wsY, List.mem_append, List.mem_cons, List.not_mem_nil, or_false] at hw
  rcases hw with (rfl | rfl | rfl) | rfl | hw <;> assumption)
theorem wsY_good {n : Nat} {y : MethodName} {b : ByteArray} {r : Option FieldType} (h : Cond.code y b n r ∈ TB) : GoodIn TB (wsY y b n r) := good_TB (by
  intro w hw
  rcases List.mem_cons.mp hw with rfl | hw
  · exact h
  · exact hw)
def CwVN (own C : String) (index : Nat) (y : MethodName) (host : String) (b : ByteArray) (n : Nat) (r : Option FieldType) : Prop := Cond.methodLinkNest own index y host ∈ NL ∧ Cond.instanceMethod y ∈ TB ∧ Cond.selects C y y ∈ TB ∧ Cond.initialized y.cls ∈ TB ∧ Cond.code y b n r ∈ TB
def CwSN (own : String) (index : Nat) (y : MethodName) (host : String) (b : ByteArray) (n : Nat) (r : Option FieldType) : Prop := Cond.methodLinkNest own index y host ∈ NL ∧ Cond.static y ∈ TB ∧ Cond.initialized y.cls ∈ TB ∧ Cond.code y b n r ∈ TB
theorem gd_of {α : Type} {q : Prop} [Decidable q] {x : Option α} {y : α} (h : (if q then x else none) = some y) : q ∧ x = some y := by
  by_cases hq : q
  · rw [if_pos hq] at h; exact ⟨hq, h⟩
  · rw [if_neg hq] at h; cases h
theorem bd_of {α β : Type} {x : Option α} {f : α → Option β} {y : β} (h : x.bind f = some y) : ∃ q, x = some q ∧ f q = some y := by
  cases x with
  | none => cases h
  | some q => exact ⟨q, rfl, h⟩
theorem pr_of {α β : Type} {x x' : α} {y y' : β} (h : some (x, y) = some (x', y')) : x = x' ∧ y = y' := by cases h; exact ⟨rfl, rfl⟩
/-- an index is within a row of n -/
def inb (i : Int32) (n : Nat) : Prop := 0 ≤ i.toInt ∧ i.toInt < (n : Int)
theorem inb_in {i : Int32} {n : Nat} (h : inb i n) : vp_in i n := vp_in_iff.mpr h
theorem fx_of {y : MethodName} {b : ByteArray} {n : Nat} {r : Option FieldType} {s1 : State} {L : Nat} {av : List Value} (B : BodyLoose p l y (headSpec (wsY y b n r) (rmL L)) b n r e s m args below meth c s1) (hml : c.maxLocals = n) (hv : PcW g a av σ args s) : Fx p s m args meth c b n y.cls r (rmL L) 0 0 g a := by
  have hts := atoms_spec (ws := wsY y b n r) B.pre
  exact ⟨B.exec, B.bytes, hml, findClass_of_methodNamed B.named, fun w hw => hts w (List.mem_cons_of_mem _ hw), hv.2.2, B.returns, B.notSynchronized, Nat.le_refl _, Nat.le_refl _⟩

/-- a contract out of its walk -/
theorem ct_I {y : MethodName} {b : ByteArray} {n L : Nat} {ret : Option FieldType} {av : List Value} {r : Int32} (hy : plainName y.cls = true) (hn : (lg_sl av).length ≤ n)
    (h : ∀ p e s m args below meth c, Fx p s m args meth c b n y.cls ret (rmL L) 0 0 g a → Z p l e (rmL L) s m args below meth c (MQ below (QiW g a r σ') args s 0 0 (Ad a)) n g a 0 0 σ 0 (lv_args 0 av) []) :
    Met l y (wsY y b n ret) (rmL L) (PcW g a av σ) (QiW g a r σ') 0 0 (Ad a) := by
  refine Met.ofW (cc := b) (maxL := n) (ret := ret) hy rfl ?_
  intro p e s m args below meth c s1 B hml hv
  have F := fx_of (g := g) (a := a) (σ := σ) B hml hv
  have h1 := h p e s m args below meth c F
  have hl := lv_entry av (n := n) hn
  obtain ⟨rfl, hP, -⟩ := hv
  rw [lg_entry_eq]
  exact h1 _ _ _ hP va_S.rf hl
/-- a contract out of its walk -/
theorem ct_L {y : MethodName} {b : ByteArray} {n L : Nat} {ret : Option FieldType} {av : List Value} {r : Int64} (hy : plainName y.cls = true) (hn : (lg_sl av).length ≤ n)
    (h : ∀ p e s m args below meth c, Fx p s m args meth c b n y.cls ret (rmL L) 0 0 g a → Z p l e (rmL L) s m args below meth c (MQ below (QlW g a r σ') args s 0 0 (Ad a)) n g a 0 0 σ 0 (lv_args 0 av) []) :
    Met l y (wsY y b n ret) (rmL L) (PcW g a av σ) (QlW g a r σ') 0 0 (Ad a) := by
  refine Met.ofW (cc := b) (maxL := n) (ret := ret) hy rfl ?_
  intro p e s m args below meth c s1 B hml hv
  have F := fx_of (g := g) (a := a) (σ := σ) B hml hv
  have h1 := h p e s m args below meth c F
  have hl := lv_entry av (n := n) hn
  obtain ⟨rfl, hP, -⟩ := hv
  rw [lg_entry_eq]
  exact h1 _ _ _ hP va_S.rf hl
/-- a contract out of its walk -/
theorem ct_V {y : MethodName} {b : ByteArray} {n L : Nat} {ret : Option FieldType} {av : List Value} {r : Unit} (hy : plainName y.cls = true) (hn : (lg_sl av).length ≤ n)
    (h : ∀ p e s m args below meth c, Fx p s m args meth c b n y.cls ret (rmL L) 0 0 g a → Z p l e (rmL L) s m args below meth c (MQ below (QvW g a r σ') args s 0 0 (Ad a)) n g a 0 0 σ 0 (lv_args 0 av) []) :
    Met l y (wsY y b n ret) (rmL L) (PcW g a av σ) (QvW g a r σ') 0 0 (Ad a) := by
  refine Met.ofW (cc := b) (maxL := n) (ret := ret) hy rfl ?_
  intro p e s m args below meth c s1 B hml hv
  have F := fx_of (g := g) (a := a) (σ := σ) B hml hv
  have h1 := h p e s m args below meth c F
  have hl := lv_entry av (n := n) hn
  obtain ⟨rfl, hP, -⟩ := hv
  rw [lg_entry_eq]
  exact h1 _ _ _ hP va_S.rf hl
/-- a contract out of its walk -/
theorem ct_R {y : MethodName} {b : ByteArray} {n L : Nat} {ret : Option FieldType} {av : List Value} {r : Nat} (hy : plainName y.cls = true) (hn : (lg_sl av).length ≤ n)
    (h : ∀ p e s m args below meth c, Fx p s m args meth c b n y.cls ret (rmL L) 0 0 g a → Z p l e (rmL L) s m args below meth c (MQ below (QrW g a r σ') args s 0 0 (Ad a)) n g a 0 0 σ 0 (lv_args 0 av) []) :
    Met l y (wsY y b n ret) (rmL L) (PcW g a av σ) (QrW g a r σ') 0 0 (Ad a) := by
  refine Met.ofW (cc := b) (maxL := n) (ret := ret) hy rfl ?_
  intro p e s m args below meth c s1 B hml hv
  have F := fx_of (g := g) (a := a) (σ := σ) B hml hv
  have h1 := h p e s m args below meth c F
  have hl := lv_entry av (n := n) hn
  obtain ⟨rfl, hP, -⟩ := hv
  rw [lg_entry_eq]
  exact h1 _ _ _ hP va_S.rf hl
theorem z_iret {v r : Int32} (F : Fx p s m args meth c cc nL own (some .int) R cz sz g a) (h : some (v, σ) = some (r, σ')) (d : decode cc pc = .ok (.ireturn, 1)) : Z p l e R s m args below meth c (MQ below (QiW g a r σ') args s cz sz (Ad a)) nL g a cz sz σ pc lv [.int v] := by
  obtain ⟨rfl, rfl⟩ := pr_of h
  intro H locs ls hP hS hl
  exact W.iret F.1 F.2.1 F.2.2.2.2.2.2.1 (fun t ht _ => ⟨⟨v, (), rfl, rfl, by subst ht; exact hP⟩, hS.F ht⟩) hS.2.2 d F.2.2.2.2.2.2.2.1
theorem z_bret {v r : Int32} (F : Fx p s m args meth c cc nL own (some .boolean) R cz sz g a) (hv : v = 0 ∨ v = 1) (h : some (v, σ) = some (r, σ')) (d : decode cc pc = .ok (.ireturn, 1)) : Z p l e R s m args below meth c (MQ below (QiW g a r σ') args s cz sz (Ad a)) nL g a cz sz σ pc lv [.int v] := by
  obtain ⟨rfl, rfl⟩ := pr_of h
  intro H locs ls hP hS hl
  exact W.zret F.1 F.2.1 F.2.2.2.2.2.2.1 (by rcases hv with rfl | rfl <;> rfl) (fun t ht _ => ⟨⟨v, (), rfl, rfl, by subst ht; exact hP⟩, hS.F ht⟩) hS.2.2 d F.2.2.2.2.2.2.2.1
theorem z_lret {v r : Int64} (F : Fx p s m args meth c cc nL own (some .long) R cz sz g a) (h : some (v, σ) = some (r, σ')) (d : decode cc pc = .ok (.lreturn, 1)) : Z p l e R s m args below meth c (MQ below (QlW g a r σ') args s cz sz (Ad a)) nL g a cz sz σ pc lv [.long v] := by
  obtain ⟨rfl, rfl⟩ := pr_of h
  intro H locs ls hP hS hl
  exact W.lret F.1 F.2.1 F.2.2.2.2.2.2.1 (fun t ht _ => ⟨⟨v, (), rfl, rfl, by subst ht; exact hP⟩, hS.F ht⟩) hS.2.2 d F.2.2.2.2.2.2.2.1
theorem z_vret {v r : Unit} (F : Fx p s m args meth c cc nL own none R cz sz g a) (h : some (v, σ) = some (r, σ')) (d : decode cc pc = .ok (.return_, 1)) : Z p l e R s m args below meth c (MQ below (QvW g a r σ') args s cz sz (Ad a)) nL g a cz sz σ pc lv [] := by
  obtain ⟨rfl, rfl⟩ := pr_of h
  intro H locs ls hP hS hl
  exact W.vret F.1 F.2.1 F.2.2.2.2.2.2.1 (fun t ht _ => ⟨⟨(), rfl, trivial, by subst ht; exact hP⟩, hS.F ht⟩) hS.2.2 d F.2.2.2.2.2.2.2.1
theorem z_aret {v r : Nat} {C : String} (F : Fx p s m args meth c cc nL own (some (.object C)) R cz sz g a) (h : some (v, σ) = some (r, σ')) (d : decode cc pc = .ok (.areturn, 1)) : Z p l e R s m args below meth c (MQ below (QrW g a r σ') args s cz sz (Ad a)) nL g a cz sz σ pc lv [.ref (a v)] := by
  obtain ⟨rfl, rfl⟩ := pr_of h
  intro H locs ls hP hS hl
  exact W.aret F.1 F.2.1 F.2.2.2.2.2.2.1 (Or.inl ⟨_, rfl⟩) (Or.inr ⟨_, rfl⟩) (fun t ht _ => ⟨⟨(), _, rfl, trivial, rfl, by subst ht; exact hP⟩, hS.F ht⟩) hS.2.2 d F.2.2.2.2.2.2.2.1

theorem z_get {ci k j index N : Nat} {C ref : String} {T : u_T} {fs : List Value} {v : Value} (F : Fx p s m args meth c cc nL own rt R cz sz g a) (hk : kd k = ci) (hci : ci < 12) (hc : cls[ci]? = some (C, T, N)) (hin : ∀ w ∈ u_ws C T N, w ∈ TB) (hj : j < N) (hlink : Cond.fieldLink own index ref (T j).2.1 (T j).2.2.1 ∈ TB) (hsame : (T j).1 = ref) (hcel : cel ci g a σ k = .inr (ci, fs)) (hv : fs[j]? = some v) (d : decode cc pc = .ok (.getfield index, 3)) (z : Z p l e R s m args below meth c Q nL g a cz sz σ (pc + 3) lv (v :: st)) : Z p l e R s m args below meth c Q nL g a cz sz σ pc lv (.ref (a k) :: st) :=
  fun H locs ls hP hS hl => va_get F.1 F.2.1 F.2.2.2.2.1 hin F.2.2.2.1 F.2.2.2.2.2.1.1 hP k (by rw [wl_at hk hci, hcel]) hc j hj (F.2.2.2.2.1 _ hlink) (fun x hx => by rw [← hsame]; exact hx) hv d (z H locs ls hP hS hl)
theorem z_put {ci k j index N : Nat} {C ref : String} {T : u_T} {fs : List Value} {ty : FieldType} {v : Int32} (F : Fx p s m args meth c cc nL own rt R cz sz g a) (hk : kd k = ci) (hci : ci < 12) (hc : cls[ci]? = some (C, T, N)) (hin : ∀ w ∈ u_ws C T N, w ∈ TB) (ty0 : Nat → FieldType) (hty : ∀ k, k < N → parseFieldDescriptor (T k).2.2.1 = some (ty0 k)) (hnm : ∀ a, a < N → ∀ b, b < N → a ≠ b → (T a).2.1 ≠ (T b).2.1) (hj : j < N) (hlink : Cond.fieldLink own index ref (T j).2.1 (T j).2.2.1 ∈ TB) (hsame : (T j).1 = ref) (hfin : (T j).2.2.2 = false) (hd : parseFieldDescriptor (T j).2.2.1 = some ty) (hn : narrow ty (.int v) = .int v) (hfit : fits ty (.int v) = true) (hcel : cel ci g a σ k = .inr (ci, fs)) (hlen : j < fs.length) (hcel' : cel ci g a (s2 σ k j v) k = .inr (ci, fs.set j (.int v))) (d : decode cc pc = .ok (.putfield index, 3)) (z : Z p l e R s m args below meth c Q nL g a cz sz (s2 σ k j v) (pc + 3) lv st) : Z p l e R s m args below meth c Q nL g a cz sz σ pc lv (.int v :: .ref (a k) :: st) :=
  fun H locs ls hP hS hl => va_put F.1 F.2.1 F.2.2.2.2.1 hin ty0 hty hnm F.2.2.2.1 F.2.2.2.2.2.1.1 hP (wl_D F.2.2.2.2.2.1.2.1 σ) hS k (by rw [wl_at hk hci, hcel]) hc j hj (F.2.2.2.2.1 _ hlink) (fun x hx => by rw [← hsame]; exact hx) hfin hd hn hfit hlen d (fun H1 locs1 hP1 _ hS1 => by
    rw [wl_set (σ' := s2 σ k j v) hk hci hcel'.symm (fun i hi => s2_ne hi)] at hP1
    exact z H1 locs1 ls hP1 hS1 hl)
theorem z_getN {ci k j index N : Nat} {C ref : String} {host : String} {T : u_T} {fs : List Value} {v : Value} (F : Fx p s m args meth c cc nL own rt R cz sz g a) (hk : kd k = ci) (hci : ci < 12) (hc : cls[ci]? = some (C, T, N)) (hin : ∀ w ∈ u_ws C T N, w ∈ TB) (hj : j < N) (hlink : Cond.fieldLinkNest own index ref (T j).2.1 (T j).2.2.1 host ∈ NL) (hsame : (T j).1 = ref) (hcel : cel ci g a σ k = .inr (ci, fs)) (hv : fs[j]? = some v) (d : decode cc pc = .ok (.getfield index, 3)) (z : Z p l e R s m args below meth c Q nL g a cz sz σ (pc + 3) lv (v :: st)) : Z p l e R s m args below meth c Q nL g a cz sz σ pc lv (.ref (a k) :: st) :=
  fun H locs ls hP hS hl => va_getN F.1 F.2.1 F.2.2.2.2.1 hin F.2.2.2.1 F.2.2.2.2.2.1.1 hP k (by rw [wl_at hk hci, hcel]) hc j hj (va_Nw.use rfl (F.2.2.2.2.2.1.2.2.1 _ hlink)) (fun x hx => by rw [← hsame]; exact hx) hv d (z H locs ls hP hS hl)
theorem z_putN {ci k j index N : Nat} {C ref : String} {host : String} {T : u_T} {fs : List Value} {ty : FieldType} {v : Int32} (F : Fx p s m args meth c cc nL own rt R cz sz g a) (hk : kd k = ci) (hci : ci < 12) (hc : cls[ci]? = some (C, T, N)) (hin : ∀ w ∈ u_ws C T N, w ∈ TB) (ty0 : Nat → FieldType) (hty : ∀ k, k < N → parseFieldDescriptor (T k).2.2.1 = some (ty0 k)) (hnm : ∀ a, a < N → ∀ b, b < N → a ≠ b → (T a).2.1 ≠ (T b).2.1) (hj : j < N) (hlink : Cond.fieldLinkNest own index ref (T j).2.1 (T j).2.2.1 host ∈ NL) (hsame : (T j).1 = ref) (hfin : (T j).2.2.2 = false) (hd : parseFieldDescriptor (T j).2.2.1 = some ty) (hn : narrow ty (.int v) = .int v) (hfit : fits ty (.int v) = true) (hcel : cel ci g a σ k = .inr (ci, fs)) (hlen : j < fs.length) (hcel' : cel ci g a (s2 σ k j v) k = .inr (ci, fs.set j (.int v))) (d : decode cc pc = .ok (.putfield index, 3)) (z : Z p l e R s m args below meth c Q nL g a cz sz (s2 σ k j v) (pc + 3) lv st) : Z p l e R s m args below meth c Q nL g a cz sz σ pc lv (.int v :: .ref (a k) :: st) :=
  fun H locs ls hP hS hl => va_putN F.1 F.2.1 F.2.2.2.2.1 hin ty0 hty hnm F.2.2.2.1 F.2.2.2.2.2.1.1 hP (wl_D F.2.2.2.2.2.1.2.1 σ) hS k (by rw [wl_at hk hci, hcel]) hc j hj (va_Nw.use rfl (F.2.2.2.2.2.1.2.2.1 _ hlink)) (fun x hx => by rw [← hsame]; exact hx) hfin hd hn hfit hlen d (fun H1 locs1 hP1 _ hS1 => by
    rw [wl_set (σ' := s2 σ k j v) hk hci hcel'.symm (fun i hi => s2_ne hi)] at hP1
    exact z H1 locs1 ls hP1 hS1 hl)
theorem z_callVI {y : MethodName} {b : ByteArray} {n L nA index : Nat} {ret : Option FieldType} {r : Int32} {As : List Value} {ci k : Nat} {C : String} {q : vw_C} {fs : List Value} (F : Fx p s m args meth c cc nL own rt R cz sz g a) (hM : Met l y (wsY y b n ret) (rmL L) (PcW g a (.ref (a k) :: As) σ) (QiW g a r σ1) 0 0 (Ad a)) (cw : CwV own C index y b n ret) (hd : y.cls = C ∧ y.cls ≠ "java/lang/invoke/MethodHandle" ∧ y.cls ≠ "java/lang/invoke/VarHandle" ∧ (parseMethodDescriptor y.desc).map (fun d => d.parameters.length) = some nA) (hlen : As.length = nA) (hk : kd k = ci) (hci : ci < 12) (hc : cls[ci]? = some q) (hC : q.1 = C) (hcel : cel ci g a σ k = .inr (ci, fs)) (hR : L + 1 ≤ R.frames ∧ 8 + (n + 11) + 31 * L ≤ R.locals) (d : decode cc pc = .ok (.invokevirtual index, 3)) (hst : st0 = As.reverse ++ .ref (a k) :: rest) (hrm : (rest.map fun v => v.category).sum ≤ 8) (z : Z p l e R s m args below meth c Q nL g a cz sz σ1 (pc + 3) lv (.int r :: rest)) : Z p l e R s m args below meth c Q nL g a cz sz σ pc lv st0 :=
  fun H locs ls hP hS hl => va_calli (va_runV (As := As) (rest := rest) ⟨F.1, F.2.1, F.2.2.1, F.2.2.2.1, F.2.2.2.2.1⟩ hM (cwV nA F.2.2.2.2.1 cw.good rfl rfl rfl hd hR) (pre_V F.2.2.2.2.2.1 hP hS hk hci hc hC hcel) rfl hlen hl.1 hst (lv_room hrm) d ⟨F.2.2.2.2.2.2.2.2.1, F.2.2.2.2.2.2.2.2.2⟩) hS (fun q _ h => h) (fun q h => h) (fun r1 u t H1 locs1 ht hvm hw hB hz1 hk1 hS1 => by subst hw; rw [ht] at hB; exact z H1 locs1 ls hB hS1 hl)
theorem z_callVNI {y : MethodName} {b : ByteArray} {n L nA index : Nat} {ret : Option FieldType} {r : Int32} {As : List Value} {ci k : Nat} {C host : String} {q : vw_C} {fs : List Value} (F : Fx p s m args meth c cc nL own rt R cz sz g a) (hM : Met l y (wsY y b n ret) (rmL L) (PcW g a (.ref (a k) :: As) σ) (QiW g a r σ1) 0 0 (Ad a)) (cw : CwVN own C index y host b n ret) (hd : y.cls ≠ "java/lang/invoke/MethodHandle" ∧ y.cls ≠ "java/lang/invoke/VarHandle" ∧ (parseMethodDescriptor y.desc).map (fun d => d.parameters.length) = some nA) (hlen : As.length = nA) (hk : kd k = ci) (hci : ci < 12) (hc : cls[ci]? = some q) (hC : q.1 = C) (hcel : cel ci g a σ k = .inr (ci, fs)) (hR : L + 1 ≤ R.frames ∧ 8 + (n + 11) + 31 * L ≤ R.locals) (d : decode cc pc = .ok (.invokevirtual index, 3)) (hst : st0 = As.reverse ++ .ref (a k) :: rest) (hrm : (rest.map fun v => v.category).sum ≤ 8) (z : Z p l e R s m args below meth c Q nL g a cz sz σ1 (pc + 3) lv (.int r :: rest)) : Z p l e R s m args below meth c Q nL g a cz sz σ pc lv st0 :=
  fun H locs ls hP hS hl => va_calli (va_runVN (As := As) (rest := rest) (host := host) ⟨F.1, F.2.1, F.2.2.1, F.2.2.2.1, F.2.2.2.2.1⟩ hM ⟨va_cnB nA F.2.2.2.2.1 (wsY_good cw.2.2.2.2) rfl rfl rfl (F.2.2.2.2.2.1.2.2.1 _ cw.1) (F.2.2.2.2.1 _ cw.2.2.2.1) hd hR, F.2.2.2.2.1 _ cw.2.1, F.2.2.2.2.1 _ cw.2.2.1⟩ (pre_V F.2.2.2.2.2.1 hP hS hk hci hc hC hcel) rfl hlen hl.1 hst (lv_room hrm) d ⟨F.2.2.2.2.2.2.2.2.1, F.2.2.2.2.2.2.2.2.2⟩) hS (fun q _ h => h) (fun q h => h) (fun r1 u t H1 locs1 ht hvm hw hB hz1 hk1 hS1 => by subst hw; rw [ht] at hB; exact z H1 locs1 ls hB hS1 hl)
theorem z_callSI {y : MethodName} {b : ByteArray} {n L nA index : Nat} {ret : Option FieldType} {r : Int32} {As : List Value} (F : Fx p s m args meth c cc nL own rt R cz sz g a) (hM : Met l y (wsY y b n ret) (rmL L) (PcW g a As σ) (QiW g a r σ1) 0 0 (Ad a)) (cw : CwS own index y b n ret) (hd : y.cls = own ∧ y.cls ≠ "java/lang/invoke/MethodHandle" ∧ y.cls ≠ "java/lang/invoke/VarHandle" ∧ (parseMethodDescriptor y.desc).map (fun d => d.parameters.length) = some nA) (hlen : As.length = nA) (hR : L + 1 ≤ R.frames ∧ 8 + (n + 11) + 31 * L ≤ R.locals) (d : decode cc pc = .ok (.invokestatic index, 3)) (hst : st0 = As.reverse ++ rest) (hrm : (rest.map fun v => v.category).sum ≤ 8) (z : Z p l e R s m args below meth c Q nL g a cz sz σ1 (pc + 3) lv (.int r :: rest)) : Z p l e R s m args below meth c Q nL g a cz sz σ pc lv st0 :=
  fun H locs ls hP hS hl => va_calli (va_runS (As := As) (rest := rest) ⟨F.1, F.2.1, F.2.2.1, F.2.2.2.1, F.2.2.2.2.1⟩ hM (cwS nA F.2.2.2.2.1 cw.good rfl rfl rfl hd hR) (pre_S F.2.2.2.2.2.1 hP hS) rfl hlen hl.1 hst (lv_room hrm) d ⟨F.2.2.2.2.2.2.2.2.1, F.2.2.2.2.2.2.2.2.2⟩) hS (fun q _ h => h) (fun q h => h) (fun r1 u t H1 locs1 ht hvm hw hB hz1 hk1 hS1 => by subst hw; rw [ht] at hB; exact z H1 locs1 ls hB hS1 hl)
theorem z_callSNI {y : MethodName} {b : ByteArray} {n L nA index : Nat} {ret : Option FieldType} {r : Int32} {As : List Value} {host : String} (F : Fx p s m args meth c cc nL own rt R cz sz g a) (hM : Met l y (wsY y b n ret) (rmL L) (PcW g a As σ) (QiW g a r σ1) 0 0 (Ad a)) (cw : CwSN own index y host b n ret) (hd : y.cls ≠ "java/lang/invoke/MethodHandle" ∧ y.cls ≠ "java/lang/invoke/VarHandle" ∧ (parseMethodDescriptor y.desc).map (fun d => d.parameters.length) = some nA) (hlen : As.length = nA) (hR : L + 1 ≤ R.frames ∧ 8 + (n + 11) + 31 * L ≤ R.locals) (d : decode cc pc = .ok (.invokestatic index, 3)) (hst : st0 = As.reverse ++ rest) (hrm : (rest.map fun v => v.category).sum ≤ 8) (z : Z p l e R s m args below meth c Q nL g a cz sz σ1 (pc + 3) lv (.int r :: rest)) : Z p l e R s m args below meth c Q nL g a cz sz σ pc lv st0 :=
  fun H locs ls hP hS hl => va_calli (va_runSN (As := As) (rest := rest) (host := host) ⟨F.1, F.2.1, F.2.2.1, F.2.2.2.1, F.2.2.2.2.1⟩ hM ⟨va_cnB nA F.2.2.2.2.1 (wsY_good cw.2.2.2) rfl rfl rfl (F.2.2.2.2.2.1.2.2.1 _ cw.1) (F.2.2.2.2.1 _ cw.2.2.1) hd hR, F.2.2.2.2.1 _ cw.2.1, trivial⟩ (pre_S F.2.2.2.2.2.1 hP hS) rfl hlen hl.1 hst (lv_room hrm) d ⟨F.2.2.2.2.2.2.2.2.1, F.2.2.2.2.2.2.2.2.2⟩) hS (fun q _ h => h) (fun q h => h) (fun r1 u t H1 locs1 ht hvm hw hB hz1 hk1 hS1 => by subst hw; rw [ht] at hB; exact z H1 locs1 ls hB hS1 hl)
theorem z_callVL {y : MethodName} {b : ByteArray} {n L nA index : Nat} {ret : Option FieldType} {r : Int64} {As : List Value} {ci k : Nat} {C : String} {q : vw_C} {fs : List Value} (F : Fx p s m args meth c cc nL own rt R cz sz g a) (hM : Met l y (wsY y b n ret) (rmL L) (PcW g a (.ref (a k) :: As) σ) (QlW g a r σ1) 0 0 (Ad a)) (cw : CwV own C index y b n ret) (hd : y.cls = C ∧ y.cls ≠ "java/lang/invoke/MethodHandle" ∧ y.cls ≠ "java/lang/invoke/VarHandle" ∧ (parseMethodDescriptor y.desc).map (fun d => d.parameters.length) = some nA) (hlen : As.length = nA) (hk : kd k = ci) (hci : ci < 12) (hc : cls[ci]? = some q) (hC : q.1 = C) (hcel : cel ci g a σ k = .inr (ci, fs)) (hR : L + 1 ≤ R.frames ∧ 8 + (n + 11) + 31 * L ≤ R.locals) (d : decode cc pc = .ok (.invokevirtual index, 3)) (hst : st0 = As.reverse ++ .ref (a k) :: rest) (hrm : (rest.map fun v => v.category).sum ≤ 8) (z : Z p l e R s m args below meth c Q nL g a cz sz σ1 (pc + 3) lv (.long r :: rest)) : Z p l e R s m args below meth c Q nL g a cz sz σ pc lv st0 :=
  fun H locs ls hP hS hl => va_calll (va_runV (As := As) (rest := rest) ⟨F.1, F.2.1, F.2.2.1, F.2.2.2.1, F.2.2.2.2.1⟩ hM (cwV nA F.2.2.2.2.1 cw.good rfl rfl rfl hd hR) (pre_V F.2.2.2.2.2.1 hP hS hk hci hc hC hcel) rfl hlen hl.1 hst (lv_room hrm) d ⟨F.2.2.2.2.2.2.2.2.1, F.2.2.2.2.2.2.2.2.2⟩) hS (fun q _ h => h) (fun q h => h) (fun r1 u t H1 locs1 ht hvm hw hB hz1 hk1 hS1 => by subst hw; rw [ht] at hB; exact z H1 locs1 ls hB hS1 hl)
theorem z_callVNL {y : MethodName} {b : ByteArray} {n L nA index : Nat} {ret : Option FieldType} {r : Int64} {As : List Value} {ci k : Nat} {C host : String} {q : vw_C} {fs : List Value} (F : Fx p s m args meth c cc nL own rt R cz sz g a) (hM : Met l y (wsY y b n ret) (rmL L) (PcW g a (.ref (a k) :: As) σ) (QlW g a r σ1) 0 0 (Ad a)) (cw : CwVN own C index y host b n ret) (hd : y.cls ≠ "java/lang/invoke/MethodHandle" ∧ y.cls ≠ "java/lang/invoke/VarHandle" ∧ (parseMethodDescriptor y.desc).map (fun d => d.parameters.length) = some nA) (hlen : As.length = nA) (hk : kd k = ci) (hci : ci < 12) (hc : cls[ci]? = some q) (hC : q.1 = C) (hcel : cel ci g a σ k = .inr (ci, fs)) (hR : L + 1 ≤ R.frames ∧ 8 + (n + 11) + 31 * L ≤ R.locals) (d : decode cc pc = .ok (.invokevirtual index, 3)) (hst : st0 = As.reverse ++ .ref (a k) :: rest) (hrm : (rest.map fun v => v.category).sum ≤ 8) (z : Z p l e R s m args below meth c Q nL g a cz sz σ1 (pc + 3) lv (.long r :: rest)) : Z p l e R s m args below meth c Q nL g a cz sz σ pc lv st0 :=
  fun H locs ls hP hS hl => va_calll (va_runVN (As := As) (rest := rest) (host := host) ⟨F.1, F.2.1, F.2.2.1, F.2.2.2.1, F.2.2.2.2.1⟩ hM ⟨va_cnB nA F.2.2.2.2.1 (wsY_good cw.2.2.2.2) rfl rfl rfl (F.2.2.2.2.2.1.2.2.1 _ cw.1) (F.2.2.2.2.1 _ cw.2.2.2.1) hd hR, F.2.2.2.2.1 _ cw.2.1, F.2.2.2.2.1 _ cw.2.2.1⟩ (pre_V F.2.2.2.2.2.1 hP hS hk hci hc hC hcel) rfl hlen hl.1 hst (lv_room hrm) d ⟨F.2.2.2.2.2.2.2.2.1, F.2.2.2.2.2.2.2.2.2⟩) hS (fun q _ h => h) (fun q h => h) (fun r1 u t H1 locs1 ht hvm hw hB hz1 hk1 hS1 => by subst hw; rw [ht] at hB; exact z H1 locs1 ls hB hS1 hl)
theorem z_callSL {y : MethodName} {b : ByteArray} {n L nA index : Nat} {ret : Option FieldType} {r : Int64} {As : List Value} (F : Fx p s m args meth c cc nL own rt R cz sz g a) (hM : Met l y (wsY y b n ret) (rmL L) (PcW g a As σ) (QlW g a r σ1) 0 0 (Ad a)) (cw : CwS own index y b n ret) (hd : y.cls = own ∧ y.cls ≠ "java/lang/invoke/MethodHandle" ∧ y.cls ≠ "java/lang/invoke/VarHandle" ∧ (parseMethodDescriptor y.desc).map (fun d => d.parameters.length) = some nA) (hlen : As.length = nA) (hR : L + 1 ≤ R.frames ∧ 8 + (n + 11) + 31 * L ≤ R.locals) (d : decode cc pc = .ok (.invokestatic index, 3)) (hst : st0 = As.reverse ++ rest) (hrm : (rest.map fun v => v.category).sum ≤ 8) (z : Z p l e R s m args below meth c Q nL g a cz sz σ1 (pc + 3) lv (.long r :: rest)) : Z p l e R s m args below meth c Q nL g a cz sz σ pc lv st0 :=
  fun H locs ls hP hS hl => va_calll (va_runS (As := As) (rest := rest) ⟨F.1, F.2.1, F.2.2.1, F.2.2.2.1, F.2.2.2.2.1⟩ hM (cwS nA F.2.2.2.2.1 cw.good rfl rfl rfl hd hR) (pre_S F.2.2.2.2.2.1 hP hS) rfl hlen hl.1 hst (lv_room hrm) d ⟨F.2.2.2.2.2.2.2.2.1, F.2.2.2.2.2.2.2.2.2⟩) hS (fun q _ h => h) (fun q h => h) (fun r1 u t H1 locs1 ht hvm hw hB hz1 hk1 hS1 => by subst hw; rw [ht] at hB; exact z H1 locs1 ls hB hS1 hl)
theorem z_callSNL {y : MethodName} {b : ByteArray} {n L nA index : Nat} {ret : Option FieldType} {r : Int64} {As : List Value} {host : String} (F : Fx p s m args meth c cc nL own rt R cz sz g a) (hM : Met l y (wsY y b n ret) (rmL L) (PcW g a As σ) (QlW g a r σ1) 0 0 (Ad a)) (cw : CwSN own index y host b n ret) (hd : y.cls ≠ "java/lang/invoke/MethodHandle" ∧ y.cls ≠ "java/lang/invoke/VarHandle" ∧ (parseMethodDescriptor y.desc).map (fun d => d.parameters.length) = some nA) (hlen : As.length = nA) (hR : L + 1 ≤ R.frames ∧ 8 + (n + 11) + 31 * L ≤ R.locals) (d : decode cc pc = .ok (.invokestatic index, 3)) (hst : st0 = As.reverse ++ rest) (hrm : (rest.map fun v => v.category).sum ≤ 8) (z : Z p l e R s m args below meth c Q nL g a cz sz σ1 (pc + 3) lv (.long r :: rest)) : Z p l e R s m args below meth c Q nL g a cz sz σ pc lv st0 :=
  fun H locs ls hP hS hl => va_calll (va_runSN (As := As) (rest := rest) (host := host) ⟨F.1, F.2.1, F.2.2.1, F.2.2.2.1, F.2.2.2.2.1⟩ hM ⟨va_cnB nA F.2.2.2.2.1 (wsY_good cw.2.2.2) rfl rfl rfl (F.2.2.2.2.2.1.2.2.1 _ cw.1) (F.2.2.2.2.1 _ cw.2.2.1) hd hR, F.2.2.2.2.1 _ cw.2.1, trivial⟩ (pre_S F.2.2.2.2.2.1 hP hS) rfl hlen hl.1 hst (lv_room hrm) d ⟨F.2.2.2.2.2.2.2.2.1, F.2.2.2.2.2.2.2.2.2⟩) hS (fun q _ h => h) (fun q h => h) (fun r1 u t H1 locs1 ht hvm hw hB hz1 hk1 hS1 => by subst hw; rw [ht] at hB; exact z H1 locs1 ls hB hS1 hl)
theorem z_callVV {y : MethodName} {b : ByteArray} {n L nA index : Nat} {ret : Option FieldType} {r : Unit} {As : List Value} {ci k : Nat} {C : String} {q : vw_C} {fs : List Value} (F : Fx p s m args meth c cc nL own rt R cz sz g a) (hM : Met l y (wsY y b n ret) (rmL L) (PcW g a (.ref (a k) :: As) σ) (QvW g a r σ1) 0 0 (Ad a)) (cw : CwV own C index y b n ret) (hd : y.cls = C ∧ y.cls ≠ "java/lang/invoke/MethodHandle" ∧ y.cls ≠ "java/lang/invoke/VarHandle" ∧ (parseMethodDescriptor y.desc).map (fun d => d.parameters.length) = some nA) (hlen : As.length = nA) (hk : kd k = ci) (hci : ci < 12) (hc : cls[ci]? = some q) (hC : q.1 = C) (hcel : cel ci g a σ k = .inr (ci, fs)) (hR : L + 1 ≤ R.frames ∧ 8 + (n + 11) + 31 * L ≤ R.locals) (d : decode cc pc = .ok (.invokevirtual index, 3)) (hst : st0 = As.reverse ++ .ref (a k) :: rest) (hrm : (rest.map fun v => v.category).sum ≤ 8) (z : Z p l e R s m args below meth c Q nL g a cz sz σ1 (pc + 3) lv (rest)) : Z p l e R s m args below meth c Q nL g a cz sz σ pc lv st0 :=
  fun H locs ls hP hS hl => va_callv (va_runV (As := As) (rest := rest) ⟨F.1, F.2.1, F.2.2.1, F.2.2.2.1, F.2.2.2.2.1⟩ hM (cwV nA F.2.2.2.2.1 cw.good rfl rfl rfl hd hR) (pre_V F.2.2.2.2.2.1 hP hS hk hci hc hC hcel) rfl hlen hl.1 hst (lv_room hrm) d ⟨F.2.2.2.2.2.2.2.2.1, F.2.2.2.2.2.2.2.2.2⟩) hS (fun q _ h => h) (fun q h => h) (fun u t H1 locs1 ht hvm hw hB hz1 hk1 hS1 => by rw [ht] at hB; exact z H1 locs1 ls hB hS1 hl)
theorem z_callVNV {y : MethodName} {b : ByteArray} {n L nA index : Nat} {ret : Option FieldType} {r : Unit} {As : List Value} {ci k : Nat} {C host : String} {q : vw_C} {fs : List Value} (F : Fx p s m args meth c cc nL own rt R cz sz g a) (hM : Met l y (wsY y b n ret) (rmL L) (PcW g a (.ref (a k) :: As) σ) (QvW g a r σ1) 0 0 (Ad a)) (cw : CwVN own C index y host b n ret) (hd : y.cls ≠ "java/lang/invoke/MethodHandle" ∧ y.cls ≠ "java/lang/invoke/VarHandle" ∧ (parseMethodDescriptor y.desc).map (fun d => d.parameters.length) = some nA) (hlen : As.length = nA) (hk : kd k = ci) (hci : ci < 12) (hc : cls[ci]? = some q) (hC : q.1 = C) (hcel : cel ci g a σ k = .inr (ci, fs)) (hR : L + 1 ≤ R.frames ∧ 8 + (n + 11) + 31 * L ≤ R.locals) (d : decode cc pc = .ok (.invokevirtual index, 3)) (hst : st0 = As.reverse ++ .ref (a k) :: rest) (hrm : (rest.map fun v => v.category).sum ≤ 8) (z : Z p l e R s m args below meth c Q nL g a cz sz σ1 (pc + 3) lv (rest)) : Z p l e R s m args below meth c Q nL g a cz sz σ pc lv st0 :=
  fun H locs ls hP hS hl => va_callv (va_runVN (As := As) (rest := rest) (host := host) ⟨F.1, F.2.1, F.2.2.1, F.2.2.2.1, F.2.2.2.2.1⟩ hM ⟨va_cnB nA F.2.2.2.2.1 (wsY_good cw.2.2.2.2) rfl rfl rfl (F.2.2.2.2.2.1.2.2.1 _ cw.1) (F.2.2.2.2.1 _ cw.2.2.2.1) hd hR, F.2.2.2.2.1 _ cw.2.1, F.2.2.2.2.1 _ cw.2.2.1⟩ (pre_V F.2.2.2.2.2.1 hP hS hk hci hc hC hcel) rfl hlen hl.1 hst (lv_room hrm) d ⟨F.2.2.2.2.2.2.2.2.1, F.2.2.2.2.2.2.2.2.2⟩) hS (fun q _ h => h) (fun q h => h) (fun u t H1 locs1 ht hvm hw hB hz1 hk1 hS1 => by rw [ht] at hB; exact z H1 locs1 ls hB hS1 hl)
theorem z_callSV {y : MethodName} {b : ByteArray} {n L nA index : Nat} {ret : Option FieldType} {r : Unit} {As : List Value} (F : Fx p s m args meth c cc nL own rt R cz sz g a) (hM : Met l y (wsY y b n ret) (rmL L) (PcW g a As σ) (QvW g a r σ1) 0 0 (Ad a)) (cw : CwS own index y b n ret) (hd : y.cls = own ∧ y.cls ≠ "java/lang/invoke/MethodHandle" ∧ y.cls ≠ "java/lang/invoke/VarHandle" ∧ (parseMethodDescriptor y.desc).map (fun d => d.parameters.length) = some nA) (hlen : As.length = nA) (hR : L + 1 ≤ R.frames ∧ 8 + (n + 11) + 31 * L ≤ R.locals) (d : decode cc pc = .ok (.invokestatic index, 3)) (hst : st0 = As.reverse ++ rest) (hrm : (rest.map fun v => v.category).sum ≤ 8) (z : Z p l e R s m args below meth c Q nL g a cz sz σ1 (pc + 3) lv (rest)) : Z p l e R s m args below meth c Q nL g a cz sz σ pc lv st0 :=
  fun H locs ls hP hS hl => va_callv (va_runS (As := As) (rest := rest) ⟨F.1, F.2.1, F.2.2.1, F.2.2.2.1, F.2.2.2.2.1⟩ hM (cwS nA F.2.2.2.2.1 cw.good rfl rfl rfl hd hR) (pre_S F.2.2.2.2.2.1 hP hS) rfl hlen hl.1 hst (lv_room hrm) d ⟨F.2.2.2.2.2.2.2.2.1, F.2.2.2.2.2.2.2.2.2⟩) hS (fun q _ h => h) (fun q h => h) (fun u t H1 locs1 ht hvm hw hB hz1 hk1 hS1 => by rw [ht] at hB; exact z H1 locs1 ls hB hS1 hl)
theorem z_callSNV {y : MethodName} {b : ByteArray} {n L nA index : Nat} {ret : Option FieldType} {r : Unit} {As : List Value} {host : String} (F : Fx p s m args meth c cc nL own rt R cz sz g a) (hM : Met l y (wsY y b n ret) (rmL L) (PcW g a As σ) (QvW g a r σ1) 0 0 (Ad a)) (cw : CwSN own index y host b n ret) (hd : y.cls ≠ "java/lang/invoke/MethodHandle" ∧ y.cls ≠ "java/lang/invoke/VarHandle" ∧ (parseMethodDescriptor y.desc).map (fun d => d.parameters.length) = some nA) (hlen : As.length = nA) (hR : L + 1 ≤ R.frames ∧ 8 + (n + 11) + 31 * L ≤ R.locals) (d : decode cc pc = .ok (.invokestatic index, 3)) (hst : st0 = As.reverse ++ rest) (hrm : (rest.map fun v => v.category).sum ≤ 8) (z : Z p l e R s m args below meth c Q nL g a cz sz σ1 (pc + 3) lv (rest)) : Z p l e R s m args below meth c Q nL g a cz sz σ pc lv st0 :=
  fun H locs ls hP hS hl => va_callv (va_runSN (As := As) (rest := rest) (host := host) ⟨F.1, F.2.1, F.2.2.1, F.2.2.2.1, F.2.2.2.2.1⟩ hM ⟨va_cnB nA F.2.2.2.2.1 (wsY_good cw.2.2.2) rfl rfl rfl (F.2.2.2.2.2.1.2.2.1 _ cw.1) (F.2.2.2.2.1 _ cw.2.2.1) hd hR, F.2.2.2.2.1 _ cw.2.1, trivial⟩ (pre_S F.2.2.2.2.2.1 hP hS) rfl hlen hl.1 hst (lv_room hrm) d ⟨F.2.2.2.2.2.2.2.2.1, F.2.2.2.2.2.2.2.2.2⟩) hS (fun q _ h => h) (fun q h => h) (fun u t H1 locs1 ht hvm hw hB hz1 hk1 hS1 => by rw [ht] at hB; exact z H1 locs1 ls hB hS1 hl)
theorem z_callVR {y : MethodName} {b : ByteArray} {n L nA index : Nat} {ret : Option FieldType} {r : Nat} {As : List Value} {ci k : Nat} {C : String} {q : vw_C} {fs : List Value} (F : Fx p s m args meth c cc nL own rt R cz sz g a) (hM : Met l y (wsY y b n ret) (rmL L) (PcW g a (.ref (a k) :: As) σ) (QrW g a r σ1) 0 0 (Ad a)) (cw : CwV own C index y b n ret) (hd : y.cls = C ∧ y.cls ≠ "java/lang/invoke/MethodHandle" ∧ y.cls ≠ "java/lang/invoke/VarHandle" ∧ (parseMethodDescriptor y.desc).map (fun d => d.parameters.length) = some nA) (hlen : As.length = nA) (hk : kd k = ci) (hci : ci < 12) (hc : cls[ci]? = some q) (hC : q.1 = C) (hcel : cel ci g a σ k = .inr (ci, fs)) (hR : L + 1 ≤ R.frames ∧ 8 + (n + 11) + 31 * L ≤ R.locals) (d : decode cc pc = .ok (.invokevirtual index, 3)) (hst : st0 = As.reverse ++ .ref (a k) :: rest) (hrm : (rest.map fun v => v.category).sum ≤ 8) (z : Z p l e R s m args below meth c Q nL g a cz sz σ1 (pc + 3) lv (.ref (a r) :: rest)) : Z p l e R s m args below meth c Q nL g a cz sz σ pc lv st0 :=
  fun H locs ls hP hS hl => va_callr (va_runV (As := As) (rest := rest) ⟨F.1, F.2.1, F.2.2.1, F.2.2.2.1, F.2.2.2.2.1⟩ hM (cwV nA F.2.2.2.2.1 cw.good rfl rfl rfl hd hR) (pre_V F.2.2.2.2.2.1 hP hS hk hci hc hC hcel) rfl hlen hl.1 hst (lv_room hrm) d ⟨F.2.2.2.2.2.2.2.2.1, F.2.2.2.2.2.2.2.2.2⟩) hS (fun q _ h => h) (fun q h => h) (fun u ra t H1 locs1 ht hvm hw hB hz1 hk1 hS1 => by obtain ⟨hB0, hB⟩ := hB; subst hB0; rw [ht] at hB; exact z H1 locs1 ls hB hS1 hl)
theorem z_callVNR {y : MethodName} {b : ByteArray} {n L nA index : Nat} {ret : Option FieldType} {r : Nat} {As : List Value} {ci k : Nat} {C host : String} {q : vw_C} {fs : List Value} (F : Fx p s m args meth c cc nL own rt R cz sz g a) (hM : Met l y (wsY y b n ret) (rmL L) (PcW g a (.ref (a k) :: As) σ) (QrW g a r σ1) 0 0 (Ad a)) (cw : CwVN own C index y host b n ret) (hd : y.cls ≠ "java/lang/invoke/MethodHandle" ∧ y.cls ≠ "java/lang/invoke/VarHandle" ∧ (parseMethodDescriptor y.desc).map (fun d => d.parameters.length) = some nA) (hlen : As.length = nA) (hk : kd k = ci) (hci : ci < 12) (hc : cls[ci]? = some q) (hC : q.1 = C) (hcel : cel ci g a σ k = .inr (ci, fs)) (hR : L + 1 ≤ R.frames ∧ 8 + (n + 11) + 31 * L ≤ R.locals) (d : decode cc pc = .ok (.invokevirtual index, 3)) (hst : st0 = As.reverse ++ .ref (a k) :: rest) (hrm : (rest.map fun v => v.category).sum ≤ 8) (z : Z p l e R s m args below meth c Q nL g a cz sz σ1 (pc + 3) lv (.ref (a r) :: rest)) : Z p l e R s m args below meth c Q nL g a cz sz σ pc lv st0 :=
  fun H locs ls hP hS hl => va_callr (va_runVN (As := As) (rest := rest) (host := host) ⟨F.1, F.2.1, F.2.2.1, F.2.2.2.1, F.2.2.2.2.1⟩ hM ⟨va_cnB nA F.2.2.2.2.1 (wsY_good cw.2.2.2.2) rfl rfl rfl (F.2.2.2.2.2.1.2.2.1 _ cw.1) (F.2.2.2.2.1 _ cw.2.2.2.1) hd hR, F.2.2.2.2.1 _ cw.2.1, F.2.2.2.2.1 _ cw.2.2.1⟩ (pre_V F.2.2.2.2.2.1 hP hS hk hci hc hC hcel) rfl hlen hl.1 hst (lv_room hrm) d ⟨F.2.2.2.2.2.2.2.2.1, F.2.2.2.2.2.2.2.2.2⟩) hS (fun q _ h => h) (fun q h => h) (fun u ra t H1 locs1 ht hvm hw hB hz1 hk1 hS1 => by obtain ⟨hB0, hB⟩ := hB; subst hB0; rw [ht] at hB; exact z H1 locs1 ls hB hS1 hl)
theorem z_callSR {y : MethodName} {b : ByteArray} {n L nA index : Nat} {ret : Option FieldType} {r : Nat} {As : List Value} (F : Fx p s m args meth c cc nL own rt R cz sz g a) (hM : Met l y (wsY y b n ret) (rmL L) (PcW g a As σ) (QrW g a r σ1) 0 0 (Ad a)) (cw : CwS own index y b n ret) (hd : y.cls = own ∧ y.cls ≠ "java/lang/invoke/MethodHandle" ∧ y.cls ≠ "java/lang/invoke/VarHandle" ∧ (parseMethodDescriptor y.desc).map (fun d => d.parameters.length) = some nA) (hlen : As.length = nA) (hR : L + 1 ≤ R.frames ∧ 8 + (n + 11) + 31 * L ≤ R.locals) (d : decode cc pc = .ok (.invokestatic index, 3)) (hst : st0 = As.reverse ++ rest) (hrm : (rest.map fun v => v.category).sum ≤ 8) (z : Z p l e R s m args below meth c Q nL g a cz sz σ1 (pc + 3) lv (.ref (a r) :: rest)) : Z p l e R s m args below meth c Q nL g a cz sz σ pc lv st0 :=
  fun H locs ls hP hS hl => va_callr (va_runS (As := As) (rest := rest) ⟨F.1, F.2.1, F.2.2.1, F.2.2.2.1, F.2.2.2.2.1⟩ hM (cwS nA F.2.2.2.2.1 cw.good rfl rfl rfl hd hR) (pre_S F.2.2.2.2.2.1 hP hS) rfl hlen hl.1 hst (lv_room hrm) d ⟨F.2.2.2.2.2.2.2.2.1, F.2.2.2.2.2.2.2.2.2⟩) hS (fun q _ h => h) (fun q h => h) (fun u ra t H1 locs1 ht hvm hw hB hz1 hk1 hS1 => by obtain ⟨hB0, hB⟩ := hB; subst hB0; rw [ht] at hB; exact z H1 locs1 ls hB hS1 hl)
theorem z_callSNR {y : MethodName} {b : ByteArray} {n L nA index : Nat} {ret : Option FieldType} {r : Nat} {As : List Value} {host : String} (F : Fx p s m args meth c cc nL own rt R cz sz g a) (hM : Met l y (wsY y b n ret) (rmL L) (PcW g a As σ) (QrW g a r σ1) 0 0 (Ad a)) (cw : CwSN own index y host b n ret) (hd : y.cls ≠ "java/lang/invoke/MethodHandle" ∧ y.cls ≠ "java/lang/invoke/VarHandle" ∧ (parseMethodDescriptor y.desc).map (fun d => d.parameters.length) = some nA) (hlen : As.length = nA) (hR : L + 1 ≤ R.frames ∧ 8 + (n + 11) + 31 * L ≤ R.locals) (d : decode cc pc = .ok (.invokestatic index, 3)) (hst : st0 = As.reverse ++ rest) (hrm : (rest.map fun v => v.category).sum ≤ 8) (z : Z p l e R s m args below meth c Q nL g a cz sz σ1 (pc + 3) lv (.ref (a r) :: rest)) : Z p l e R s m args below meth c Q nL g a cz sz σ pc lv st0 :=
  fun H locs ls hP hS hl => va_callr (va_runSN (As := As) (rest := rest) (host := host) ⟨F.1, F.2.1, F.2.2.1, F.2.2.2.1, F.2.2.2.2.1⟩ hM ⟨va_cnB nA F.2.2.2.2.1 (wsY_good cw.2.2.2) rfl rfl rfl (F.2.2.2.2.2.1.2.2.1 _ cw.1) (F.2.2.2.2.1 _ cw.2.2.1) hd hR, F.2.2.2.2.1 _ cw.2.1, trivial⟩ (pre_S F.2.2.2.2.2.1 hP hS) rfl hlen hl.1 hst (lv_room hrm) d ⟨F.2.2.2.2.2.2.2.2.1, F.2.2.2.2.2.2.2.2.2⟩) hS (fun q _ h => h) (fun q h => h) (fun u ra t H1 locs1 ht hvm hw hB hz1 hk1 hS1 => by obtain ⟨hB0, hB⟩ := hB; subst hB0; rw [ht] at hB; exact z H1 locs1 ls hB hS1 hl)
end CallsZ
theorem inTB0 : ∀ w ∈ u_ws RX0 TX0 3, w ∈ TB := by decide +kernel
theorem inTB1 : ∀ w ∈ u_ws RX1 TX1 10, w ∈ TB := by decide +kernel
theorem inTB2 : ∀ w ∈ u_ws RX2 TX2 8, w ∈ TB := by decide +kernel
theorem inTB3 : ∀ w ∈ u_ws RX3 TX3 4, w ∈ TB := by decide +kernel
theorem inTB4 : ∀ w ∈ u_ws RX4 TX4 3, w ∈ TB := by decide +kernel
theorem inTB5 : ∀ w ∈ u_ws RX5 TX5 4, w ∈ TB := by decide +kernel
theorem inTB6 : ∀ w ∈ u_ws RX6 TX6 8, w ∈ TB := by decide +kernel
theorem inTB7 : ∀ w ∈ u_ws RX7 TX7 13, w ∈ TB := by decide +kernel
theorem inTB8 : ∀ w ∈ u_ws RX8 TX8 34, w ∈ TB := by decide +kernel
end
