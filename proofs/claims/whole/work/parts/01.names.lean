-- ===== PART A: goes FIRST, ahead of the names: the tables' words, and 'selects' of the private methods out of them =====
/-- a private method of a class that the tables say can be made, by its rows of tables_1 -/
def lw_okq (q : MethodName × Nat) : Prop := (q.1.cls ≠ "java/lang/invoke/MethodHandle" ∧ q.1.cls ≠ "java/lang/invoke/VarHandle") ∧ Cond.instantiable q.1.cls q.2 ∈ tables_1 ∧ Cond.privateMethod q.1 ∈ tables_1 ∧ Cond.instanceMethod q.1 ∈ tables_1
theorem lw_p0 : lw_okq (⟨"LostTicket$House", "parse", "()V"⟩, 11) := ⟨⟨by decide +kernel, by decide +kernel⟩, List.mem_of_getElem? (i := 23) (by decide +kernel), List.mem_of_getElem? (i := 31) (by decide +kernel), List.mem_of_getElem? (i := 32) (by decide +kernel)⟩
theorem lw_p1 : lw_okq (⟨"LostTicket$House", "parseSeats", "()V"⟩, 11) := ⟨⟨by decide +kernel, by decide +kernel⟩, List.mem_of_getElem? (i := 23) (by decide +kernel), List.mem_of_getElem? (i := 35) (by decide +kernel), List.mem_of_getElem? (i := 36) (by decide +kernel)⟩
theorem lw_p2 : lw_okq (⟨"LostTicket$House", "addSeat", "(I)V"⟩, 11) := ⟨⟨by decide +kernel, by decide +kernel⟩, List.mem_of_getElem? (i := 23) (by decide +kernel), List.mem_of_getElem? (i := 42) (by decide +kernel), List.mem_of_getElem? (i := 43) (by decide +kernel)⟩
theorem lw_p3 : lw_okq (⟨"LostTicket$House", "parsePeople", "()V"⟩, 11) := ⟨⟨by decide +kernel, by decide +kernel⟩, List.mem_of_getElem? (i := 23) (by decide +kernel), List.mem_of_getElem? (i := 49) (by decide +kernel), List.mem_of_getElem? (i := 50) (by decide +kernel)⟩
theorem lw_p4 : lw_okq (⟨"LostTicket", "spoilAnswers", "()V"⟩, 8) := ⟨⟨by decide +kernel, by decide +kernel⟩, List.mem_of_getElem? (i := 15) (by decide +kernel), List.mem_of_getElem? (i := 341) (by decide +kernel), List.mem_of_getElem? (i := 342) (by decide +kernel)⟩
theorem lw_p5 : lw_okq (⟨"LostTicket", "isNoSeat", "(I)Z"⟩, 8) := ⟨⟨by decide +kernel, by decide +kernel⟩, List.mem_of_getElem? (i := 15) (by decide +kernel), List.mem_of_getElem? (i := 361) (by decide +kernel), List.mem_of_getElem? (i := 362) (by decide +kernel)⟩
theorem lw_p6 : lw_okq (⟨"LostTicket", "isNobody", "(I)Z"⟩, 8) := ⟨⟨by decide +kernel, by decide +kernel⟩, List.mem_of_getElem? (i := 15) (by decide +kernel), List.mem_of_getElem? (i := 373) (by decide +kernel), List.mem_of_getElem? (i := 374) (by decide +kernel)⟩
theorem lw_p7 : lw_okq (⟨"LostTicket$Chances", "clear", "()V"⟩, 9) := ⟨⟨by decide +kernel, by decide +kernel⟩, List.mem_of_getElem? (i := 119) (by decide +kernel), List.mem_of_getElem? (i := 392) (by decide +kernel), List.mem_of_getElem? (i := 393) (by decide +kernel)⟩
theorem lw_p8 : lw_okq (⟨"LostTicket$Chances", "goOn", "(II)V"⟩, 9) := ⟨⟨by decide +kernel, by decide +kernel⟩, List.mem_of_getElem? (i := 119) (by decide +kernel), List.mem_of_getElem? (i := 410) (by decide +kernel), List.mem_of_getElem? (i := 411) (by decide +kernel)⟩
theorem lw_p9 : lw_okq (⟨"LostTicket$Chances", "close", "(II)V"⟩, 9) := ⟨⟨by decide +kernel, by decide +kernel⟩, List.mem_of_getElem? (i := 119) (by decide +kernel), List.mem_of_getElem? (i := 414) (by decide +kernel), List.mem_of_getElem? (i := 415) (by decide +kernel)⟩
theorem lw_p10 : lw_okq (⟨"LostTicket$House", "nextFree", "(II)I"⟩, 11) := ⟨⟨by decide +kernel, by decide +kernel⟩, List.mem_of_getElem? (i := 23) (by decide +kernel), List.mem_of_getElem? (i := 427) (by decide +kernel), List.mem_of_getElem? (i := 428) (by decide +kernel)⟩
theorem lw_p11 : lw_okq (⟨"LostTicket$Chances", "sitDown", "(IIII)V"⟩, 9) := ⟨⟨by decide +kernel, by decide +kernel⟩, List.mem_of_getElem? (i := 119) (by decide +kernel), List.mem_of_getElem? (i := 431) (by decide +kernel), List.mem_of_getElem? (i := 432) (by decide +kernel)⟩
theorem lw_p12 : lw_okq (⟨"LostTicket", "refuseSitting", "(IZ)I"⟩, 8) := ⟨⟨by decide +kernel, by decide +kernel⟩, List.mem_of_getElem? (i := 15) (by decide +kernel), List.mem_of_getElem? (i := 468) (by decide +kernel), List.mem_of_getElem? (i := 469) (by decide +kernel)⟩
theorem lw_p13 : lw_okq (⟨"LostTicket", "refuseSheet", "(IZ)I"⟩, 8) := ⟨⟨by decide +kernel, by decide +kernel⟩, List.mem_of_getElem? (i := 15) (by decide +kernel), List.mem_of_getElem? (i := 472) (by decide +kernel), List.mem_of_getElem? (i := 473) (by decide +kernel)⟩
theorem lw_p14 : lw_okq (⟨"LostTicket", "find", "(I)I"⟩, 8) := ⟨⟨by decide +kernel, by decide +kernel⟩, List.mem_of_getElem? (i := 15) (by decide +kernel), List.mem_of_getElem? (i := 479) (by decide +kernel), List.mem_of_getElem? (i := 480) (by decide +kernel)⟩
theorem lw_p15 : lw_okq (⟨"LostTicket$House", "isIn", "(II)Z"⟩, 11) := ⟨⟨by decide +kernel, by decide +kernel⟩, List.mem_of_getElem? (i := 23) (by decide +kernel), List.mem_of_getElem? (i := 488) (by decide +kernel), List.mem_of_getElem? (i := 489) (by decide +kernel)⟩
def lw_privs_1 : List (MethodName × Nat) := [(⟨"LostTicket$House", "parse", "()V"⟩, 11), (⟨"LostTicket$House", "parseSeats", "()V"⟩, 11), (⟨"LostTicket$House", "addSeat", "(I)V"⟩, 11), (⟨"LostTicket$House", "parsePeople", "()V"⟩, 11), (⟨"LostTicket", "spoilAnswers", "()V"⟩, 8), (⟨"LostTicket", "isNoSeat", "(I)Z"⟩, 8), (⟨"LostTicket", "isNobody", "(I)Z"⟩, 8), (⟨"LostTicket$Chances", "clear", "()V"⟩, 9), (⟨"LostTicket$Chances", "goOn", "(II)V"⟩, 9), (⟨"LostTicket$Chances", "close", "(II)V"⟩, 9), (⟨"LostTicket$House", "nextFree", "(II)I"⟩, 11), (⟨"LostTicket$Chances", "sitDown", "(IIII)V"⟩, 9), (⟨"LostTicket", "refuseSitting", "(IZ)I"⟩, 8), (⟨"LostTicket", "refuseSheet", "(IZ)I"⟩, 8), (⟨"LostTicket", "find", "(I)I"⟩, 8), (⟨"LostTicket$House", "isIn", "(II)Z"⟩, 11)]
theorem lw_r1 : ∀ q ∈ lw_privs_1, lw_okq q := List.forall_mem_cons.mpr ⟨lw_p0, List.forall_mem_cons.mpr ⟨lw_p1, List.forall_mem_cons.mpr ⟨lw_p2, List.forall_mem_cons.mpr ⟨lw_p3, List.forall_mem_cons.mpr ⟨lw_p4, List.forall_mem_cons.mpr ⟨lw_p5, List.forall_mem_cons.mpr ⟨lw_p6, List.forall_mem_cons.mpr ⟨lw_p7, List.forall_mem_cons.mpr ⟨lw_p8, List.forall_mem_cons.mpr ⟨lw_p9, List.forall_mem_cons.mpr ⟨lw_p10, List.forall_mem_cons.mpr ⟨lw_p11, List.forall_mem_cons.mpr ⟨lw_p12, List.forall_mem_cons.mpr ⟨lw_p13, List.forall_mem_cons.mpr ⟨lw_p14, List.forall_mem_cons.mpr ⟨lw_p15, fun _ h => absurd h List.not_mem_nil⟩⟩⟩⟩⟩⟩⟩⟩⟩⟩⟩⟩⟩⟩⟩⟩
theorem lw_p16 : lw_okq (⟨"LostTicket$Doors", "letIn", "(IIJ)V"⟩, 7) := ⟨⟨by decide +kernel, by decide +kernel⟩, List.mem_of_getElem? (i := 161) (by decide +kernel), List.mem_of_getElem? (i := 512) (by decide +kernel), List.mem_of_getElem? (i := 513) (by decide +kernel)⟩
theorem lw_p17 : lw_okq (⟨"LostTicket$Doors", "keep", "(J)V"⟩, 7) := ⟨⟨by decide +kernel, by decide +kernel⟩, List.mem_of_getElem? (i := 161) (by decide +kernel), List.mem_of_getElem? (i := 516) (by decide +kernel), List.mem_of_getElem? (i := 517) (by decide +kernel)⟩
theorem lw_p18 : lw_okq (⟨"LostTicket$Doors", "leastToCome", "(II)J"⟩, 7) := ⟨⟨by decide +kernel, by decide +kernel⟩, List.mem_of_getElem? (i := 161) (by decide +kernel), List.mem_of_getElem? (i := 523) (by decide +kernel), List.mem_of_getElem? (i := 524) (by decide +kernel)⟩
theorem lw_p19 : lw_okq (⟨"LostTicket$Doors", "wrongAmong", "(III)J"⟩, 7) := ⟨⟨by decide +kernel, by decide +kernel⟩, List.mem_of_getElem? (i := 161) (by decide +kernel), List.mem_of_getElem? (i := 528) (by decide +kernel), List.mem_of_getElem? (i := 529) (by decide +kernel)⟩
theorem lw_p20 : lw_okq (⟨"LostTicket$Doors", "onlyLostOutside", "(I)Z"⟩, 7) := ⟨⟨by decide +kernel, by decide +kernel⟩, List.mem_of_getElem? (i := 161) (by decide +kernel), List.mem_of_getElem? (i := 532) (by decide +kernel), List.mem_of_getElem? (i := 533) (by decide +kernel)⟩
theorem lw_p21 : lw_okq (⟨"LostTicket$Doors", "letInLost", "(IIJ)V"⟩, 7) := ⟨⟨by decide +kernel, by decide +kernel⟩, List.mem_of_getElem? (i := 161) (by decide +kernel), List.mem_of_getElem? (i := 536) (by decide +kernel), List.mem_of_getElem? (i := 537) (by decide +kernel)⟩
theorem lw_p22 : lw_okq (⟨"LostTicket$Doors", "wrongNext", "(II)J"⟩, 7) := ⟨⟨by decide +kernel, by decide +kernel⟩, List.mem_of_getElem? (i := 161) (by decide +kernel), List.mem_of_getElem? (i := 540) (by decide +kernel), List.mem_of_getElem? (i := 541) (by decide +kernel)⟩
theorem lw_p23 : lw_okq (⟨"LostTicket$Doors", "hasTwinOutside", "(II)Z"⟩, 7) := ⟨⟨by decide +kernel, by decide +kernel⟩, List.mem_of_getElem? (i := 161) (by decide +kernel), List.mem_of_getElem? (i := 544) (by decide +kernel), List.mem_of_getElem? (i := 545) (by decide +kernel)⟩
theorem lw_p24 : lw_okq (⟨"LostTicket$Doors", "seatNext", "(II)V"⟩, 7) := ⟨⟨by decide +kernel, by decide +kernel⟩, List.mem_of_getElem? (i := 161) (by decide +kernel), List.mem_of_getElem? (i := 548) (by decide +kernel), List.mem_of_getElem? (i := 549) (by decide +kernel)⟩
theorem lw_p25 : lw_okq (⟨"LostTicket$Doors", "clearSets", "(I)V"⟩, 7) := ⟨⟨by decide +kernel, by decide +kernel⟩, List.mem_of_getElem? (i := 161) (by decide +kernel), List.mem_of_getElem? (i := 552) (by decide +kernel), List.mem_of_getElem? (i := 553) (by decide +kernel)⟩
theorem lw_p26 : lw_okq (⟨"LostTicket$Doors", "copyTaken", "(I)V"⟩, 7) := ⟨⟨by decide +kernel, by decide +kernel⟩, List.mem_of_getElem? (i := 161) (by decide +kernel), List.mem_of_getElem? (i := 560) (by decide +kernel), List.mem_of_getElem? (i := 561) (by decide +kernel)⟩
theorem lw_p27 : lw_okq (⟨"LostTicket$Doors", "spread", "(III)V"⟩, 7) := ⟨⟨by decide +kernel, by decide +kernel⟩, List.mem_of_getElem? (i := 161) (by decide +kernel), List.mem_of_getElem? (i := 565) (by decide +kernel), List.mem_of_getElem? (i := 566) (by decide +kernel)⟩
theorem lw_p28 : lw_okq (⟨"LostTicket$Rings", "isWhole", "([I)Z"⟩, 5) := ⟨⟨by decide +kernel, by decide +kernel⟩, List.mem_of_getElem? (i := 261) (by decide +kernel), List.mem_of_getElem? (i := 582) (by decide +kernel), List.mem_of_getElem? (i := 583) (by decide +kernel)⟩
theorem lw_p29 : lw_okq (⟨"LostTicket$Rings", "countRings", "()V"⟩, 5) := ⟨⟨by decide +kernel, by decide +kernel⟩, List.mem_of_getElem? (i := 261) (by decide +kernel), List.mem_of_getElem? (i := 587) (by decide +kernel), List.mem_of_getElem? (i := 588) (by decide +kernel)⟩
theorem lw_p30 : lw_okq (⟨"LostTicket$Witness", "narrow", "()V"⟩, 12) := ⟨⟨by decide +kernel, by decide +kernel⟩, List.mem_of_getElem? (i := 192) (by decide +kernel), List.mem_of_getElem? (i := 633) (by decide +kernel), List.mem_of_getElem? (i := 634) (by decide +kernel)⟩
theorem lw_p31 : lw_okq (⟨"LostTicket$Witness", "forbid", "(I)V"⟩, 12) := ⟨⟨by decide +kernel, by decide +kernel⟩, List.mem_of_getElem? (i := 192) (by decide +kernel), List.mem_of_getElem? (i := 638) (by decide +kernel), List.mem_of_getElem? (i := 639) (by decide +kernel)⟩
def lw_privs_2 : List (MethodName × Nat) := [(⟨"LostTicket$Doors", "letIn", "(IIJ)V"⟩, 7), (⟨"LostTicket$Doors", "keep", "(J)V"⟩, 7), (⟨"LostTicket$Doors", "leastToCome", "(II)J"⟩, 7), (⟨"LostTicket$Doors", "wrongAmong", "(III)J"⟩, 7), (⟨"LostTicket$Doors", "onlyLostOutside", "(I)Z"⟩, 7), (⟨"LostTicket$Doors", "letInLost", "(IIJ)V"⟩, 7), (⟨"LostTicket$Doors", "wrongNext", "(II)J"⟩, 7), (⟨"LostTicket$Doors", "hasTwinOutside", "(II)Z"⟩, 7), (⟨"LostTicket$Doors", "seatNext", "(II)V"⟩, 7), (⟨"LostTicket$Doors", "clearSets", "(I)V"⟩, 7), (⟨"LostTicket$Doors", "copyTaken", "(I)V"⟩, 7), (⟨"LostTicket$Doors", "spread", "(III)V"⟩, 7), (⟨"LostTicket$Rings", "isWhole", "([I)Z"⟩, 5), (⟨"LostTicket$Rings", "countRings", "()V"⟩, 5), (⟨"LostTicket$Witness", "narrow", "()V"⟩, 12), (⟨"LostTicket$Witness", "forbid", "(I)V"⟩, 12)]
theorem lw_r2 : ∀ q ∈ lw_privs_2, lw_okq q := List.forall_mem_cons.mpr ⟨lw_p16, List.forall_mem_cons.mpr ⟨lw_p17, List.forall_mem_cons.mpr ⟨lw_p18, List.forall_mem_cons.mpr ⟨lw_p19, List.forall_mem_cons.mpr ⟨lw_p20, List.forall_mem_cons.mpr ⟨lw_p21, List.forall_mem_cons.mpr ⟨lw_p22, List.forall_mem_cons.mpr ⟨lw_p23, List.forall_mem_cons.mpr ⟨lw_p24, List.forall_mem_cons.mpr ⟨lw_p25, List.forall_mem_cons.mpr ⟨lw_p26, List.forall_mem_cons.mpr ⟨lw_p27, List.forall_mem_cons.mpr ⟨lw_p28, List.forall_mem_cons.mpr ⟨lw_p29, List.forall_mem_cons.mpr ⟨lw_p30, List.forall_mem_cons.mpr ⟨lw_p31, fun _ h => absurd h List.not_mem_nil⟩⟩⟩⟩⟩⟩⟩⟩⟩⟩⟩⟩⟩⟩⟩⟩
theorem lw_p32 : lw_okq (⟨"LostTicket$Witness", "suspect", "(I)V"⟩, 12) := ⟨⟨by decide +kernel, by decide +kernel⟩, List.mem_of_getElem? (i := 192) (by decide +kernel), List.mem_of_getElem? (i := 642) (by decide +kernel), List.mem_of_getElem? (i := 643) (by decide +kernel)⟩
theorem lw_p33 : lw_okq (⟨"LostTicket$Witness", "walkForward", "()V"⟩, 12) := ⟨⟨by decide +kernel, by decide +kernel⟩, List.mem_of_getElem? (i := 192) (by decide +kernel), List.mem_of_getElem? (i := 647) (by decide +kernel), List.mem_of_getElem? (i := 648) (by decide +kernel)⟩
theorem lw_p34 : lw_okq (⟨"LostTicket$Witness", "spread", "(III)V"⟩, 12) := ⟨⟨by decide +kernel, by decide +kernel⟩, List.mem_of_getElem? (i := 192) (by decide +kernel), List.mem_of_getElem? (i := 654) (by decide +kernel), List.mem_of_getElem? (i := 655) (by decide +kernel)⟩
theorem lw_p35 : lw_okq (⟨"LostTicket$Witness", "weightAtLast", "()J"⟩, 12) := ⟨⟨by decide +kernel, by decide +kernel⟩, List.mem_of_getElem? (i := 192) (by decide +kernel), List.mem_of_getElem? (i := 659) (by decide +kernel), List.mem_of_getElem? (i := 660) (by decide +kernel)⟩
theorem lw_p36 : lw_okq (⟨"LostTicket$Witness", "walkBackward", "(I)V"⟩, 12) := ⟨⟨by decide +kernel, by decide +kernel⟩, List.mem_of_getElem? (i := 192) (by decide +kernel), List.mem_of_getElem? (i := 663) (by decide +kernel), List.mem_of_getElem? (i := 664) (by decide +kernel)⟩
theorem lw_p37 : lw_okq (⟨"LostTicket$Witness", "waysOn", "(II)I"⟩, 12) := ⟨⟨by decide +kernel, by decide +kernel⟩, List.mem_of_getElem? (i := 192) (by decide +kernel), List.mem_of_getElem? (i := 667) (by decide +kernel), List.mem_of_getElem? (i := 668) (by decide +kernel)⟩
theorem lw_p38 : lw_okq (⟨"LostTicket$Witness", "wasSeen", "(I)Z"⟩, 12) := ⟨⟨by decide +kernel, by decide +kernel⟩, List.mem_of_getElem? (i := 192) (by decide +kernel), List.mem_of_getElem? (i := 696) (by decide +kernel), List.mem_of_getElem? (i := 697) (by decide +kernel)⟩
theorem lw_p39 : lw_okq (⟨"LostTicket$Evening", "place", "(III)I"⟩, 4) := ⟨⟨by decide +kernel, by decide +kernel⟩, List.mem_of_getElem? (i := 240) (by decide +kernel), List.mem_of_getElem? (i := 714) (by decide +kernel), List.mem_of_getElem? (i := 715) (by decide +kernel)⟩
theorem lw_p40 : lw_okq (⟨"LostTicket$Evening", "lot", "(I)I"⟩, 4) := ⟨⟨by decide +kernel, by decide +kernel⟩, List.mem_of_getElem? (i := 240) (by decide +kernel), List.mem_of_getElem? (i := 721) (by decide +kernel), List.mem_of_getElem? (i := 722) (by decide +kernel)⟩
theorem lw_p41 : lw_okq (⟨"LostTicket$Evening", "member", "(II)I"⟩, 4) := ⟨⟨by decide +kernel, by decide +kernel⟩, List.mem_of_getElem? (i := 240) (by decide +kernel), List.mem_of_getElem? (i := 726) (by decide +kernel), List.mem_of_getElem? (i := 727) (by decide +kernel)⟩
theorem lw_p42 : lw_okq (⟨"LostTicket", "refuseItem", "(III)I"⟩, 8) := ⟨⟨by decide +kernel, by decide +kernel⟩, List.mem_of_getElem? (i := 15) (by decide +kernel), List.mem_of_getElem? (i := 750) (by decide +kernel), List.mem_of_getElem? (i := 751) (by decide +kernel)⟩
theorem lw_p43 : lw_okq (⟨"LostTicket", "mixSeats", "(J)J"⟩, 8) := ⟨⟨by decide +kernel, by decide +kernel⟩, List.mem_of_getElem? (i := 15) (by decide +kernel), List.mem_of_getElem? (i := 800) (by decide +kernel), List.mem_of_getElem? (i := 801) (by decide +kernel)⟩
theorem lw_p44 : lw_okq (⟨"LostTicket", "mixPeople", "(J)J"⟩, 8) := ⟨⟨by decide +kernel, by decide +kernel⟩, List.mem_of_getElem? (i := 15) (by decide +kernel), List.mem_of_getElem? (i := 809) (by decide +kernel), List.mem_of_getElem? (i := 810) (by decide +kernel)⟩
theorem lw_p45 : lw_okq (⟨"LostTicketModel", "met", "(I)I"⟩, 36) := ⟨⟨by decide +kernel, by decide +kernel⟩, List.mem_of_getElem? (i := 824) (by decide +kernel), List.mem_of_getElem? (i := 951) (by decide +kernel), List.mem_of_getElem? (i := 952) (by decide +kernel)⟩
theorem lw_p46 : lw_okq (⟨"LostTicketModel", "lacks", "(III)I"⟩, 36) := ⟨⟨by decide +kernel, by decide +kernel⟩, List.mem_of_getElem? (i := 824) (by decide +kernel), List.mem_of_getElem? (i := 963) (by decide +kernel), List.mem_of_getElem? (i := 964) (by decide +kernel)⟩
theorem lw_p47 : lw_okq (⟨"LostTicketModel", "faultOf", "(I)I"⟩, 36) := ⟨⟨by decide +kernel, by decide +kernel⟩, List.mem_of_getElem? (i := 824) (by decide +kernel), List.mem_of_getElem? (i := 995) (by decide +kernel), List.mem_of_getElem? (i := 996) (by decide +kernel)⟩
def lw_privs_3 : List (MethodName × Nat) := [(⟨"LostTicket$Witness", "suspect", "(I)V"⟩, 12), (⟨"LostTicket$Witness", "walkForward", "()V"⟩, 12), (⟨"LostTicket$Witness", "spread", "(III)V"⟩, 12), (⟨"LostTicket$Witness", "weightAtLast", "()J"⟩, 12), (⟨"LostTicket$Witness", "walkBackward", "(I)V"⟩, 12), (⟨"LostTicket$Witness", "waysOn", "(II)I"⟩, 12), (⟨"LostTicket$Witness", "wasSeen", "(I)Z"⟩, 12), (⟨"LostTicket$Evening", "place", "(III)I"⟩, 4), (⟨"LostTicket$Evening", "lot", "(I)I"⟩, 4), (⟨"LostTicket$Evening", "member", "(II)I"⟩, 4), (⟨"LostTicket", "refuseItem", "(III)I"⟩, 8), (⟨"LostTicket", "mixSeats", "(J)J"⟩, 8), (⟨"LostTicket", "mixPeople", "(J)J"⟩, 8), (⟨"LostTicketModel", "met", "(I)I"⟩, 36), (⟨"LostTicketModel", "lacks", "(III)I"⟩, 36), (⟨"LostTicketModel", "faultOf", "(I)I"⟩, 36)]
theorem lw_r3 : ∀ q ∈ lw_privs_3, lw_okq q := List.forall_mem_cons.mpr ⟨lw_p32, List.forall_mem_cons.mpr ⟨lw_p33, List.forall_mem_cons.mpr ⟨lw_p34, List.forall_mem_cons.mpr ⟨lw_p35, List.forall_mem_cons.mpr ⟨lw_p36, List.forall_mem_cons.mpr ⟨lw_p37, List.forall_mem_cons.mpr ⟨lw_p38, List.forall_mem_cons.mpr ⟨lw_p39, List.forall_mem_cons.mpr ⟨lw_p40, List.forall_mem_cons.mpr ⟨lw_p41, List.forall_mem_cons.mpr ⟨lw_p42, List.forall_mem_cons.mpr ⟨lw_p43, List.forall_mem_cons.mpr ⟨lw_p44, List.forall_mem_cons.mpr ⟨lw_p45, List.forall_mem_cons.mpr ⟨lw_p46, List.forall_mem_cons.mpr ⟨lw_p47, fun _ h => absurd h List.not_mem_nil⟩⟩⟩⟩⟩⟩⟩⟩⟩⟩⟩⟩⟩⟩⟩⟩
theorem lw_p48 : lw_okq (⟨"LostTicketModel", "readsSeats", "()I"⟩, 36) := ⟨⟨by decide +kernel, by decide +kernel⟩, List.mem_of_getElem? (i := 824) (by decide +kernel), List.mem_of_getElem? (i := 999) (by decide +kernel), List.mem_of_getElem? (i := 1000) (by decide +kernel)⟩
theorem lw_p49 : lw_okq (⟨"LostTicketModel", "here", "(I)I"⟩, 36) := ⟨⟨by decide +kernel, by decide +kernel⟩, List.mem_of_getElem? (i := 824) (by decide +kernel), List.mem_of_getElem? (i := 1003) (by decide +kernel), List.mem_of_getElem? (i := 1004) (by decide +kernel)⟩
theorem lw_p50 : lw_okq (⟨"LostTicketModel", "noSeats", "()I"⟩, 36) := ⟨⟨by decide +kernel, by decide +kernel⟩, List.mem_of_getElem? (i := 824) (by decide +kernel), List.mem_of_getElem? (i := 1007) (by decide +kernel), List.mem_of_getElem? (i := 1008) (by decide +kernel)⟩
theorem lw_p51 : lw_okq (⟨"LostTicketModel", "readsPeople", "()I"⟩, 36) := ⟨⟨by decide +kernel, by decide +kernel⟩, List.mem_of_getElem? (i := 824) (by decide +kernel), List.mem_of_getElem? (i := 1011) (by decide +kernel), List.mem_of_getElem? (i := 1012) (by decide +kernel)⟩
theorem lw_p52 : lw_okq (⟨"LostTicketModel", "nobody", "()I"⟩, 36) := ⟨⟨by decide +kernel, by decide +kernel⟩, List.mem_of_getElem? (i := 824) (by decide +kernel), List.mem_of_getElem? (i := 1015) (by decide +kernel), List.mem_of_getElem? (i := 1016) (by decide +kernel)⟩
theorem lw_p53 : lw_okq (⟨"LostTicketModel", "isSeat", "(I)Z"⟩, 36) := ⟨⟨by decide +kernel, by decide +kernel⟩, List.mem_of_getElem? (i := 824) (by decide +kernel), List.mem_of_getElem? (i := 1026) (by decide +kernel), List.mem_of_getElem? (i := 1027) (by decide +kernel)⟩
theorem lw_p54 : lw_okq (⟨"LostTicketModel", "find", "()V"⟩, 36) := ⟨⟨by decide +kernel, by decide +kernel⟩, List.mem_of_getElem? (i := 824) (by decide +kernel), List.mem_of_getElem? (i := 1030) (by decide +kernel), List.mem_of_getElem? (i := 1031) (by decide +kernel)⟩
theorem lw_p55 : lw_okq (⟨"LostTicketModel", "seatOf", "(II)I"⟩, 36) := ⟨⟨by decide +kernel, by decide +kernel⟩, List.mem_of_getElem? (i := 824) (by decide +kernel), List.mem_of_getElem? (i := 1034) (by decide +kernel), List.mem_of_getElem? (i := 1035) (by decide +kernel)⟩
theorem lw_p56 : lw_okq (⟨"LostTicketModel", "ownersOf", "(I)I"⟩, 36) := ⟨⟨by decide +kernel, by decide +kernel⟩, List.mem_of_getElem? (i := 824) (by decide +kernel), List.mem_of_getElem? (i := 1038) (by decide +kernel), List.mem_of_getElem? (i := 1039) (by decide +kernel)⟩
theorem lw_p57 : lw_okq (⟨"LostTicketModel", "isPerson", "(I)Z"⟩, 36) := ⟨⟨by decide +kernel, by decide +kernel⟩, List.mem_of_getElem? (i := 824) (by decide +kernel), List.mem_of_getElem? (i := 1046) (by decide +kernel), List.mem_of_getElem? (i := 1047) (by decide +kernel)⟩
theorem lw_p58 : lw_okq (⟨"LostTicketModel", "likelyOf", "(III)J"⟩, 36) := ⟨⟨by decide +kernel, by decide +kernel⟩, List.mem_of_getElem? (i := 824) (by decide +kernel), List.mem_of_getElem? (i := 1054) (by decide +kernel), List.mem_of_getElem? (i := 1055) (by decide +kernel)⟩
theorem lw_p59 : lw_okq (⟨"LostTicketModel", "firstSit", "(I)V"⟩, 36) := ⟨⟨by decide +kernel, by decide +kernel⟩, List.mem_of_getElem? (i := 824) (by decide +kernel), List.mem_of_getElem? (i := 1058) (by decide +kernel), List.mem_of_getElem? (i := 1059) (by decide +kernel)⟩
theorem lw_p60 : lw_okq (⟨"LostTicketModel", "noBounds", "()V"⟩, 36) := ⟨⟨by decide +kernel, by decide +kernel⟩, List.mem_of_getElem? (i := 824) (by decide +kernel), List.mem_of_getElem? (i := 1062) (by decide +kernel), List.mem_of_getElem? (i := 1063) (by decide +kernel)⟩
theorem lw_p61 : lw_okq (⟨"LostTicketModel", "begins", "()V"⟩, 36) := ⟨⟨by decide +kernel, by decide +kernel⟩, List.mem_of_getElem? (i := 824) (by decide +kernel), List.mem_of_getElem? (i := 1066) (by decide +kernel), List.mem_of_getElem? (i := 1067) (by decide +kernel)⟩
theorem lw_p62 : lw_okq (⟨"LostTicketModel", "sits", "(II)V"⟩, 36) := ⟨⟨by decide +kernel, by decide +kernel⟩, List.mem_of_getElem? (i := 824) (by decide +kernel), List.mem_of_getElem? (i := 1070) (by decide +kernel), List.mem_of_getElem? (i := 1071) (by decide +kernel)⟩
theorem lw_p63 : lw_okq (⟨"LostTicketModel", "whole", "()I"⟩, 36) := ⟨⟨by decide +kernel, by decide +kernel⟩, List.mem_of_getElem? (i := 824) (by decide +kernel), List.mem_of_getElem? (i := 1082) (by decide +kernel), List.mem_of_getElem? (i := 1083) (by decide +kernel)⟩
def lw_privs_4 : List (MethodName × Nat) := [(⟨"LostTicketModel", "readsSeats", "()I"⟩, 36), (⟨"LostTicketModel", "here", "(I)I"⟩, 36), (⟨"LostTicketModel", "noSeats", "()I"⟩, 36), (⟨"LostTicketModel", "readsPeople", "()I"⟩, 36), (⟨"LostTicketModel", "nobody", "()I"⟩, 36), (⟨"LostTicketModel", "isSeat", "(I)Z"⟩, 36), (⟨"LostTicketModel", "find", "()V"⟩, 36), (⟨"LostTicketModel", "seatOf", "(II)I"⟩, 36), (⟨"LostTicketModel", "ownersOf", "(I)I"⟩, 36), (⟨"LostTicketModel", "isPerson", "(I)Z"⟩, 36), (⟨"LostTicketModel", "likelyOf", "(III)J"⟩, 36), (⟨"LostTicketModel", "firstSit", "(I)V"⟩, 36), (⟨"LostTicketModel", "noBounds", "()V"⟩, 36), (⟨"LostTicketModel", "begins", "()V"⟩, 36), (⟨"LostTicketModel", "sits", "(II)V"⟩, 36), (⟨"LostTicketModel", "whole", "()I"⟩, 36)]
theorem lw_r4 : ∀ q ∈ lw_privs_4, lw_okq q := List.forall_mem_cons.mpr ⟨lw_p48, List.forall_mem_cons.mpr ⟨lw_p49, List.forall_mem_cons.mpr ⟨lw_p50, List.forall_mem_cons.mpr ⟨lw_p51, List.forall_mem_cons.mpr ⟨lw_p52, List.forall_mem_cons.mpr ⟨lw_p53, List.forall_mem_cons.mpr ⟨lw_p54, List.forall_mem_cons.mpr ⟨lw_p55, List.forall_mem_cons.mpr ⟨lw_p56, List.forall_mem_cons.mpr ⟨lw_p57, List.forall_mem_cons.mpr ⟨lw_p58, List.forall_mem_cons.mpr ⟨lw_p59, List.forall_mem_cons.mpr ⟨lw_p60, List.forall_mem_cons.mpr ⟨lw_p61, List.forall_mem_cons.mpr ⟨lw_p62, List.forall_mem_cons.mpr ⟨lw_p63, fun _ h => absurd h List.not_mem_nil⟩⟩⟩⟩⟩⟩⟩⟩⟩⟩⟩⟩⟩⟩⟩⟩
theorem lw_p64 : lw_okq (⟨"LostTicketModel", "kindNow", "(I)I"⟩, 36) := ⟨⟨by decide +kernel, by decide +kernel⟩, List.mem_of_getElem? (i := 824) (by decide +kernel), List.mem_of_getElem? (i := 1086) (by decide +kernel), List.mem_of_getElem? (i := 1087) (by decide +kernel)⟩
theorem lw_p65 : lw_okq (⟨"LostTicketModel", "choices", "(III)I"⟩, 36) := ⟨⟨by decide +kernel, by decide +kernel⟩, List.mem_of_getElem? (i := 824) (by decide +kernel), List.mem_of_getElem? (i := 1090) (by decide +kernel), List.mem_of_getElem? (i := 1091) (by decide +kernel)⟩
theorem lw_p66 : lw_okq (⟨"LostTicketModel", "nextFree", "(II)I"⟩, 36) := ⟨⟨by decide +kernel, by decide +kernel⟩, List.mem_of_getElem? (i := 824) (by decide +kernel), List.mem_of_getElem? (i := 1097) (by decide +kernel), List.mem_of_getElem? (i := 1098) (by decide +kernel)⟩
theorem lw_p67 : lw_okq (⟨"LostTicketModel", "ofSort", "(I)I"⟩, 36) := ⟨⟨by decide +kernel, by decide +kernel⟩, List.mem_of_getElem? (i := 824) (by decide +kernel), List.mem_of_getElem? (i := 1101) (by decide +kernel), List.mem_of_getElem? (i := 1102) (by decide +kernel)⟩
theorem lw_p68 : lw_okq (⟨"LostTicketModel", "mayBe", "(II)Z"⟩, 36) := ⟨⟨by decide +kernel, by decide +kernel⟩, List.mem_of_getElem? (i := 824) (by decide +kernel), List.mem_of_getElem? (i := 1108) (by decide +kernel), List.mem_of_getElem? (i := 1109) (by decide +kernel)⟩
theorem lw_p69 : lw_okq (⟨"LostTicketModel", "nextOn", "(III)J"⟩, 36) := ⟨⟨by decide +kernel, by decide +kernel⟩, List.mem_of_getElem? (i := 824) (by decide +kernel), List.mem_of_getElem? (i := 1112) (by decide +kernel), List.mem_of_getElem? (i := 1113) (by decide +kernel)⟩
theorem lw_p70 : lw_okq (⟨"LostTicketModel", "takenOf", "(III)J"⟩, 36) := ⟨⟨by decide +kernel, by decide +kernel⟩, List.mem_of_getElem? (i := 824) (by decide +kernel), List.mem_of_getElem? (i := 1127) (by decide +kernel), List.mem_of_getElem? (i := 1128) (by decide +kernel)⟩
theorem lw_p71 : lw_okq (⟨"LostTicketModel", "meanOf", "(I)J"⟩, 36) := ⟨⟨by decide +kernel, by decide +kernel⟩, List.mem_of_getElem? (i := 824) (by decide +kernel), List.mem_of_getElem? (i := 1136) (by decide +kernel), List.mem_of_getElem? (i := 1137) (by decide +kernel)⟩
theorem lw_p72 : lw_okq (⟨"LostTicketModel", "asTheyCome", "()V"⟩, 36) := ⟨⟨by decide +kernel, by decide +kernel⟩, List.mem_of_getElem? (i := 824) (by decide +kernel), List.mem_of_getElem? (i := 1140) (by decide +kernel), List.mem_of_getElem? (i := 1141) (by decide +kernel)⟩
theorem lw_p73 : lw_okq (⟨"LostTicketModel", "rightByOrder", "(I)J"⟩, 36) := ⟨⟨by decide +kernel, by decide +kernel⟩, List.mem_of_getElem? (i := 824) (by decide +kernel), List.mem_of_getElem? (i := 1144) (by decide +kernel), List.mem_of_getElem? (i := 1145) (by decide +kernel)⟩
theorem lw_p74 : lw_okq (⟨"LostTicketModel", "justOf", "(II)J"⟩, 36) := ⟨⟨by decide +kernel, by decide +kernel⟩, List.mem_of_getElem? (i := 824) (by decide +kernel), List.mem_of_getElem? (i := 1148) (by decide +kernel), List.mem_of_getElem? (i := 1149) (by decide +kernel)⟩
theorem lw_p75 : lw_okq (⟨"LostTicketModel", "leftOf", "(II)J"⟩, 36) := ⟨⟨by decide +kernel, by decide +kernel⟩, List.mem_of_getElem? (i := 824) (by decide +kernel), List.mem_of_getElem? (i := 1156) (by decide +kernel), List.mem_of_getElem? (i := 1157) (by decide +kernel)⟩
theorem lw_p76 : lw_okq (⟨"LostTicketModel", "looksNow", "(I)J"⟩, 36) := ⟨⟨by decide +kernel, by decide +kernel⟩, List.mem_of_getElem? (i := 824) (by decide +kernel), List.mem_of_getElem? (i := 1164) (by decide +kernel), List.mem_of_getElem? (i := 1165) (by decide +kernel)⟩
theorem lw_p77 : lw_okq (⟨"LostTicketModel", "noSitting", "(I)I"⟩, 36) := ⟨⟨by decide +kernel, by decide +kernel⟩, List.mem_of_getElem? (i := 824) (by decide +kernel), List.mem_of_getElem? (i := 1172) (by decide +kernel), List.mem_of_getElem? (i := 1173) (by decide +kernel)⟩
theorem lw_p78 : lw_okq (⟨"LostTicketModel", "isSeatNow", "(I)Z"⟩, 36) := ⟨⟨by decide +kernel, by decide +kernel⟩, List.mem_of_getElem? (i := 824) (by decide +kernel), List.mem_of_getElem? (i := 1176) (by decide +kernel), List.mem_of_getElem? (i := 1177) (by decide +kernel)⟩
theorem lw_p79 : lw_okq (⟨"LostTicketModel", "sittingOf", "(II)J"⟩, 36) := ⟨⟨by decide +kernel, by decide +kernel⟩, List.mem_of_getElem? (i := 824) (by decide +kernel), List.mem_of_getElem? (i := 1184) (by decide +kernel), List.mem_of_getElem? (i := 1185) (by decide +kernel)⟩
def lw_privs_5 : List (MethodName × Nat) := [(⟨"LostTicketModel", "kindNow", "(I)I"⟩, 36), (⟨"LostTicketModel", "choices", "(III)I"⟩, 36), (⟨"LostTicketModel", "nextFree", "(II)I"⟩, 36), (⟨"LostTicketModel", "ofSort", "(I)I"⟩, 36), (⟨"LostTicketModel", "mayBe", "(II)Z"⟩, 36), (⟨"LostTicketModel", "nextOn", "(III)J"⟩, 36), (⟨"LostTicketModel", "takenOf", "(III)J"⟩, 36), (⟨"LostTicketModel", "meanOf", "(I)J"⟩, 36), (⟨"LostTicketModel", "asTheyCome", "()V"⟩, 36), (⟨"LostTicketModel", "rightByOrder", "(I)J"⟩, 36), (⟨"LostTicketModel", "justOf", "(II)J"⟩, 36), (⟨"LostTicketModel", "leftOf", "(II)J"⟩, 36), (⟨"LostTicketModel", "looksNow", "(I)J"⟩, 36), (⟨"LostTicketModel", "noSitting", "(I)I"⟩, 36), (⟨"LostTicketModel", "isSeatNow", "(I)Z"⟩, 36), (⟨"LostTicketModel", "sittingOf", "(II)J"⟩, 36)]
theorem lw_r5 : ∀ q ∈ lw_privs_5, lw_okq q := List.forall_mem_cons.mpr ⟨lw_p64, List.forall_mem_cons.mpr ⟨lw_p65, List.forall_mem_cons.mpr ⟨lw_p66, List.forall_mem_cons.mpr ⟨lw_p67, List.forall_mem_cons.mpr ⟨lw_p68, List.forall_mem_cons.mpr ⟨lw_p69, List.forall_mem_cons.mpr ⟨lw_p70, List.forall_mem_cons.mpr ⟨lw_p71, List.forall_mem_cons.mpr ⟨lw_p72, List.forall_mem_cons.mpr ⟨lw_p73, List.forall_mem_cons.mpr ⟨lw_p74, List.forall_mem_cons.mpr ⟨lw_p75, List.forall_mem_cons.mpr ⟨lw_p76, List.forall_mem_cons.mpr ⟨lw_p77, List.forall_mem_cons.mpr ⟨lw_p78, List.forall_mem_cons.mpr ⟨lw_p79, fun _ h => absurd h List.not_mem_nil⟩⟩⟩⟩⟩⟩⟩⟩⟩⟩⟩⟩⟩⟩⟩⟩
theorem lw_p80 : lw_okq (⟨"LostTicketModel", "findOrder", "()V"⟩, 36) := ⟨⟨by decide +kernel, by decide +kernel⟩, List.mem_of_getElem? (i := 824) (by decide +kernel), List.mem_of_getElem? (i := 1192) (by decide +kernel), List.mem_of_getElem? (i := 1193) (by decide +kernel)⟩
theorem lw_p81 : lw_okq (⟨"LostTicketModel", "goesOn", "(I)Z"⟩, 36) := ⟨⟨by decide +kernel, by decide +kernel⟩, List.mem_of_getElem? (i := 824) (by decide +kernel), List.mem_of_getElem? (i := 1196) (by decide +kernel), List.mem_of_getElem? (i := 1197) (by decide +kernel)⟩
theorem lw_p82 : lw_okq (⟨"LostTicketModel", "swaps", "(II)V"⟩, 36) := ⟨⟨by decide +kernel, by decide +kernel⟩, List.mem_of_getElem? (i := 824) (by decide +kernel), List.mem_of_getElem? (i := 1200) (by decide +kernel), List.mem_of_getElem? (i := 1201) (by decide +kernel)⟩
theorem lw_p83 : lw_okq (⟨"LostTicketModel", "bestOf", "(I)J"⟩, 36) := ⟨⟨by decide +kernel, by decide +kernel⟩, List.mem_of_getElem? (i := 824) (by decide +kernel), List.mem_of_getElem? (i := 1208) (by decide +kernel), List.mem_of_getElem? (i := 1209) (by decide +kernel)⟩
theorem lw_p84 : lw_okq (⟨"LostTicketModel", "findRings", "(I)Z"⟩, 36) := ⟨⟨by decide +kernel, by decide +kernel⟩, List.mem_of_getElem? (i := 824) (by decide +kernel), List.mem_of_getElem? (i := 1216) (by decide +kernel), List.mem_of_getElem? (i := 1217) (by decide +kernel)⟩
theorem lw_p85 : lw_okq (⟨"LostTicketModel", "sitter", "(II)I"⟩, 36) := ⟨⟨by decide +kernel, by decide +kernel⟩, List.mem_of_getElem? (i := 824) (by decide +kernel), List.mem_of_getElem? (i := 1220) (by decide +kernel), List.mem_of_getElem? (i := 1221) (by decide +kernel)⟩
theorem lw_p86 : lw_okq (⟨"LostTicketModel", "losersNow", "()I"⟩, 36) := ⟨⟨by decide +kernel, by decide +kernel⟩, List.mem_of_getElem? (i := 824) (by decide +kernel), List.mem_of_getElem? (i := 1242) (by decide +kernel), List.mem_of_getElem? (i := 1243) (by decide +kernel)⟩
theorem lw_p87 : lw_okq (⟨"LostTicketModel", "seenWith", "(III)J"⟩, 36) := ⟨⟨by decide +kernel, by decide +kernel⟩, List.mem_of_getElem? (i := 824) (by decide +kernel), List.mem_of_getElem? (i := 1246) (by decide +kernel), List.mem_of_getElem? (i := 1247) (by decide +kernel)⟩
theorem lw_p88 : lw_okq (⟨"LostTicketModel", "laysBounds", "()Z"⟩, 36) := ⟨⟨by decide +kernel, by decide +kernel⟩, List.mem_of_getElem? (i := 824) (by decide +kernel), List.mem_of_getElem? (i := 1250) (by decide +kernel), List.mem_of_getElem? (i := 1251) (by decide +kernel)⟩
theorem lw_p89 : lw_okq (⟨"LostTicketModel", "likeliestNow", "()I"⟩, 36) := ⟨⟨by decide +kernel, by decide +kernel⟩, List.mem_of_getElem? (i := 824) (by decide +kernel), List.mem_of_getElem? (i := 1262) (by decide +kernel), List.mem_of_getElem? (i := 1263) (by decide +kernel)⟩
theorem lw_p90 : lw_okq (⟨"LostTicketModel", "askNow", "(I)I"⟩, 36) := ⟨⟨by decide +kernel, by decide +kernel⟩, List.mem_of_getElem? (i := 824) (by decide +kernel), List.mem_of_getElem? (i := 1270) (by decide +kernel), List.mem_of_getElem? (i := 1271) (by decide +kernel)⟩
theorem lw_p91 : lw_okq (⟨"LostTicketModel", "wasSeen", "(I)Z"⟩, 36) := ⟨⟨by decide +kernel, by decide +kernel⟩, List.mem_of_getElem? (i := 824) (by decide +kernel), List.mem_of_getElem? (i := 1274) (by decide +kernel), List.mem_of_getElem? (i := 1275) (by decide +kernel)⟩
theorem lw_p92 : lw_okq (⟨"LostTicketModel", "worstBy", "(II)I"⟩, 36) := ⟨⟨by decide +kernel, by decide +kernel⟩, List.mem_of_getElem? (i := 824) (by decide +kernel), List.mem_of_getElem? (i := 1278) (by decide +kernel), List.mem_of_getElem? (i := 1279) (by decide +kernel)⟩
theorem lw_p93 : lw_okq (⟨"LostTicketModel", "eveningOf", "(II)I"⟩, 36) := ⟨⟨by decide +kernel, by decide +kernel⟩, List.mem_of_getElem? (i := 824) (by decide +kernel), List.mem_of_getElem? (i := 1295) (by decide +kernel), List.mem_of_getElem? (i := 1296) (by decide +kernel)⟩
theorem lw_p94 : lw_okq (⟨"LostTicketModel", "findEvening", "(I)I"⟩, 36) := ⟨⟨by decide +kernel, by decide +kernel⟩, List.mem_of_getElem? (i := 824) (by decide +kernel), List.mem_of_getElem? (i := 1299) (by decide +kernel), List.mem_of_getElem? (i := 1300) (by decide +kernel)⟩
theorem lw_p95 : lw_okq (⟨"LostTicketModel", "lot", "(I)I"⟩, 36) := ⟨⟨by decide +kernel, by decide +kernel⟩, List.mem_of_getElem? (i := 824) (by decide +kernel), List.mem_of_getElem? (i := 1303) (by decide +kernel), List.mem_of_getElem? (i := 1304) (by decide +kernel)⟩
def lw_privs_6 : List (MethodName × Nat) := [(⟨"LostTicketModel", "findOrder", "()V"⟩, 36), (⟨"LostTicketModel", "goesOn", "(I)Z"⟩, 36), (⟨"LostTicketModel", "swaps", "(II)V"⟩, 36), (⟨"LostTicketModel", "bestOf", "(I)J"⟩, 36), (⟨"LostTicketModel", "findRings", "(I)Z"⟩, 36), (⟨"LostTicketModel", "sitter", "(II)I"⟩, 36), (⟨"LostTicketModel", "losersNow", "()I"⟩, 36), (⟨"LostTicketModel", "seenWith", "(III)J"⟩, 36), (⟨"LostTicketModel", "laysBounds", "()Z"⟩, 36), (⟨"LostTicketModel", "likeliestNow", "()I"⟩, 36), (⟨"LostTicketModel", "askNow", "(I)I"⟩, 36), (⟨"LostTicketModel", "wasSeen", "(I)Z"⟩, 36), (⟨"LostTicketModel", "worstBy", "(II)I"⟩, 36), (⟨"LostTicketModel", "eveningOf", "(II)I"⟩, 36), (⟨"LostTicketModel", "findEvening", "(I)I"⟩, 36), (⟨"LostTicketModel", "lot", "(I)I"⟩, 36)]
theorem lw_r6 : ∀ q ∈ lw_privs_6, lw_okq q := List.forall_mem_cons.mpr ⟨lw_p80, List.forall_mem_cons.mpr ⟨lw_p81, List.forall_mem_cons.mpr ⟨lw_p82, List.forall_mem_cons.mpr ⟨lw_p83, List.forall_mem_cons.mpr ⟨lw_p84, List.forall_mem_cons.mpr ⟨lw_p85, List.forall_mem_cons.mpr ⟨lw_p86, List.forall_mem_cons.mpr ⟨lw_p87, List.forall_mem_cons.mpr ⟨lw_p88, List.forall_mem_cons.mpr ⟨lw_p89, List.forall_mem_cons.mpr ⟨lw_p90, List.forall_mem_cons.mpr ⟨lw_p91, List.forall_mem_cons.mpr ⟨lw_p92, List.forall_mem_cons.mpr ⟨lw_p93, List.forall_mem_cons.mpr ⟨lw_p94, List.forall_mem_cons.mpr ⟨lw_p95, fun _ h => absurd h List.not_mem_nil⟩⟩⟩⟩⟩⟩⟩⟩⟩⟩⟩⟩⟩⟩⟩⟩
def lw_privs : List (MethodName × Nat) := lw_privs_1 ++ (lw_privs_2 ++ (lw_privs_3 ++ (lw_privs_4 ++ (lw_privs_5 ++ (lw_privs_6)))))
def lw_tbl : List Cond := k2_sels lw_privs ++ tables_1
theorem lw_privs_ok : ∀ q ∈ lw_privs, lw_okq q := by
  show ∀ q ∈ lw_privs_1 ++ (lw_privs_2 ++ (lw_privs_3 ++ (lw_privs_4 ++ (lw_privs_5 ++ (lw_privs_6))))), lw_okq q
  exact List.forall_mem_append.mpr ⟨lw_r1, List.forall_mem_append.mpr ⟨lw_r2, List.forall_mem_append.mpr ⟨lw_r3, List.forall_mem_append.mpr ⟨lw_r4, List.forall_mem_append.mpr ⟨lw_r5, lw_r6⟩⟩⟩⟩⟩
def RX0 : String := "LostTicket$Chances"
def TX0 : u_T := fun k => match k with
  | 0 => ("LostTicket$Chances", "reach", "[J", true)
  | 1 => ("LostTicket$Chances", "sits", "[J", true)
  | 2 => ("LostTicket$Chances", "wrongs", "[J", true)
  | 3 => ("LostTicket$Chances", "free", "[J", true)
  | 4 => ("LostTicket$Chances", "meanWrong", "J", false)
  | 5 => ("LostTicket$Chances", "meanLooks", "J", false)
  | 6 => ("LostTicket$Chances", "ready", "Z", false)
  | 7 => ("LostTicket$Chances", "house", "LLostTicket$House;", true)
  | _ => ("LostTicket$Chances", "wrongIn", "[J", true)
def tyX0 : Nat → FieldType := fun k => match k with
  | 0 => .array .long
  | 1 => .array .long
  | 2 => .array .long
  | 3 => .array .long
  | 4 => .long
  | 5 => .long
  | 6 => .boolean
  | 7 => .object "LostTicket$House"
  | _ => .array .long
abbrev wsX00 : List Cond := u_ws RX0 TX0 9
theorem nmX0 : ∀ a, a < 9 → ∀ b, b < 9 → a ≠ b → (TX0 a).2.1 ≠ (TX0 b).2.1 := by decide +kernel
theorem tyX0_ok : ∀ k, k < 9 → parseFieldDescriptor (TX0 k).2.2.1 = some (tyX0 k) := by decide +kernel
abbrev cX0_init : ByteArray := prog_2_method_1_code
def yX0_init : MethodName := ⟨RX0, "<init>", "(LLostTicket$House;)V"⟩
abbrev cX0_refresh : ByteArray := prog_2_method_2_code
def yX0_refresh : MethodName := ⟨RX0, "refresh", "()V"⟩
abbrev cX0_clear : ByteArray := prog_2_method_3_code
def yX0_clear : MethodName := ⟨RX0, "clear", "()V"⟩
abbrev cX0_goOn : ByteArray := prog_2_method_4_code
def yX0_goOn : MethodName := ⟨RX0, "goOn", "(II)V"⟩
abbrev cX0_sitDown : ByteArray := prog_2_method_5_code
def yX0_sitDown : MethodName := ⟨RX0, "sitDown", "(IIII)V"⟩
abbrev cX0_close : ByteArray := prog_2_method_6_code
def yX0_close : MethodName := ⟨RX0, "close", "(II)V"⟩
def RX1 : String := "LostTicket$Doors"
def TX1 : u_T := fun k => match k with
  | 0 => ("LostTicket$Doors", "best", "[I", true)
  | 1 => ("LostTicket$Doors", "least", "J", false)
  | 2 => ("LostTicket$Doors", "ready", "Z", false)
  | 3 => ("LostTicket$Doors", "house", "LLostTicket$House;", true)
  | 4 => ("LostTicket$Doors", "row", "[I", true)
  | 5 => ("LostTicket$Doors", "reach", "[J", true)
  | _ => ("LostTicket$Doors", "takenBehind", "[J", true)
def tyX1 : Nat → FieldType := fun k => match k with
  | 0 => .array .int
  | 1 => .long
  | 2 => .boolean
  | 3 => .object "LostTicket$House"
  | 4 => .array .int
  | 5 => .array .long
  | _ => .array .long
abbrev wsX10 : List Cond := u_ws RX1 TX1 7
theorem nmX1 : ∀ a, a < 7 → ∀ b, b < 7 → a ≠ b → (TX1 a).2.1 ≠ (TX1 b).2.1 := by decide +kernel
theorem tyX1_ok : ∀ k, k < 7 → parseFieldDescriptor (TX1 k).2.2.1 = some (tyX1 k) := by decide +kernel
abbrev cX1_init : ByteArray := prog_3_method_1_code
def yX1_init : MethodName := ⟨RX1, "<init>", "(LLostTicket$House;)V"⟩
abbrev cX1_refresh : ByteArray := prog_3_method_2_code
def yX1_refresh : MethodName := ⟨RX1, "refresh", "()V"⟩
abbrev cX1_letIn : ByteArray := prog_3_method_3_code
def yX1_letIn : MethodName := ⟨RX1, "letIn", "(IIJ)V"⟩
abbrev cX1_onlyLostOutside : ByteArray := prog_3_method_4_code
def yX1_onlyLostOutside : MethodName := ⟨RX1, "onlyLostOutside", "(I)Z"⟩
abbrev cX1_letInLost : ByteArray := prog_3_method_5_code
def yX1_letInLost : MethodName := ⟨RX1, "letInLost", "(IIJ)V"⟩
abbrev cX1_keep : ByteArray := prog_3_method_6_code
def yX1_keep : MethodName := ⟨RX1, "keep", "(J)V"⟩
abbrev cX1_hasTwinOutside : ByteArray := prog_3_method_7_code
def yX1_hasTwinOutside : MethodName := ⟨RX1, "hasTwinOutside", "(II)Z"⟩
abbrev cX1_leastToCome : ByteArray := prog_3_method_8_code
def yX1_leastToCome : MethodName := ⟨RX1, "leastToCome", "(II)J"⟩
abbrev cX1_wrongNext : ByteArray := prog_3_method_9_code
def yX1_wrongNext : MethodName := ⟨RX1, "wrongNext", "(II)J"⟩
abbrev cX1_wrongAmong : ByteArray := prog_3_method_10_code
def yX1_wrongAmong : MethodName := ⟨RX1, "wrongAmong", "(III)J"⟩
abbrev cX1_seatNext : ByteArray := prog_3_method_11_code
def yX1_seatNext : MethodName := ⟨RX1, "seatNext", "(II)V"⟩
abbrev cX1_copyTaken : ByteArray := prog_3_method_12_code
def yX1_copyTaken : MethodName := ⟨RX1, "copyTaken", "(I)V"⟩
abbrev cX1_clearSets : ByteArray := prog_3_method_13_code
def yX1_clearSets : MethodName := ⟨RX1, "clearSets", "(I)V"⟩
abbrev cX1_spread : ByteArray := prog_3_method_14_code
def yX1_spread : MethodName := ⟨RX1, "spread", "(III)V"⟩
abbrev cX1_nextAsLarge : ByteArray := prog_3_method_15_code
def yX1_nextAsLarge : MethodName := ⟨RX1, "nextAsLarge", "(I)I"⟩
def RX2 : String := "LostTicket$Evening"
def TX2 : u_T := fun k => match k with
  | 0 => ("LostTicket$Evening", "places", "[I", true)
  | 1 => ("LostTicket$Evening", "wrongs", "I", false)
  | 2 => ("LostTicket$Evening", "house", "LLostTicket$House;", true)
  | _ => ("LostTicket$Evening", "state", "I", false)
def tyX2 : Nat → FieldType := fun k => match k with
  | 0 => .array .int
  | 1 => .int
  | 2 => .object "LostTicket$House"
  | _ => .int
abbrev wsX20 : List Cond := u_ws RX2 TX2 4
theorem nmX2 : ∀ a, a < 4 → ∀ b, b < 4 → a ≠ b → (TX2 a).2.1 ≠ (TX2 b).2.1 := by decide +kernel
theorem tyX2_ok : ∀ k, k < 4 → parseFieldDescriptor (TX2 k).2.2.1 = some (tyX2 k) := by decide +kernel
abbrev cX2_init : ByteArray := prog_4_method_1_code
def yX2_init : MethodName := ⟨RX2, "<init>", "(LLostTicket$House;)V"⟩
abbrev cX2_run : ByteArray := prog_4_method_2_code
def yX2_run : MethodName := ⟨RX2, "run", "(I)V"⟩
abbrev cX2_place : ByteArray := prog_4_method_3_code
def yX2_place : MethodName := ⟨RX2, "place", "(III)I"⟩
abbrev cX2_lot : ByteArray := prog_4_method_4_code
def yX2_lot : MethodName := ⟨RX2, "lot", "(I)I"⟩
abbrev cX2_member : ByteArray := prog_4_method_5_code
def yX2_member : MethodName := ⟨RX2, "member", "(II)I"⟩
def RX3 : String := "LostTicket$House"
def TX3 : u_T := fun k => match k with
  | 0 => ("LostTicket$House", "bytes", "[[I", true)
  | 1 => ("LostTicket$House", "lengths", "[I", true)
  | 2 => ("LostTicket$House", "faults", "[I", true)
  | 3 => ("LostTicket$House", "sorts", "[I", true)
  | 4 => ("LostTicket$House", "rowOf", "[I", true)
  | 5 => ("LostTicket$House", "bySort", "[I", true)
  | 6 => ("LostTicket$House", "owns", "[I", true)
  | 7 => ("LostTicket$House", "kinds", "[I", true)
  | 8 => ("LostTicket$House", "seats", "I", false)
  | 9 => ("LostTicket$House", "rows", "I", false)
  | _ => ("LostTicket$House", "people", "I", false)
def tyX3 : Nat → FieldType := fun k => match k with
  | 0 => .array (.array .int)
  | 1 => .array .int
  | 2 => .array .int
  | 3 => .array .int
  | 4 => .array .int
  | 5 => .array .int
  | 6 => .array .int
  | 7 => .array .int
  | 8 => .int
  | 9 => .int
  | _ => .int
abbrev wsX30 : List Cond := u_ws RX3 TX3 11
theorem nmX3 : ∀ a, a < 11 → ∀ b, b < 11 → a ≠ b → (TX3 a).2.1 ≠ (TX3 b).2.1 := by decide +kernel
theorem tyX3_ok : ∀ k, k < 11 → parseFieldDescriptor (TX3 k).2.2.1 = some (tyX3 k) := by decide +kernel
abbrev cX3_init : ByteArray := prog_5_method_1_code
def yX3_init : MethodName := ⟨RX3, "<init>", "()V"⟩
abbrev cX3_append : ByteArray := prog_5_method_2_code
def yX3_append : MethodName := ⟨RX3, "append", "(II)V"⟩
abbrev cX3_empty : ByteArray := prog_5_method_3_code
def yX3_empty : MethodName := ⟨RX3, "empty", "(I)V"⟩
abbrev cX3_parse : ByteArray := prog_5_method_4_code
def yX3_parse : MethodName := ⟨RX3, "parse", "()V"⟩
abbrev cX3_parseSeats : ByteArray := prog_5_method_5_code
def yX3_parseSeats : MethodName := ⟨RX3, "parseSeats", "()V"⟩
abbrev cX3_addSeat : ByteArray := prog_5_method_6_code
def yX3_addSeat : MethodName := ⟨RX3, "addSeat", "(I)V"⟩
abbrev cX3_parsePeople : ByteArray := prog_5_method_7_code
def yX3_parsePeople : MethodName := ⟨RX3, "parsePeople", "()V"⟩
abbrev cX3_sortOf : ByteArray := prog_5_method_8_code
def yX3_sortOf : MethodName := ⟨RX3, "sortOf", "(I)I"⟩
abbrev cX3_kindOf : ByteArray := prog_5_method_9_code
def yX3_kindOf : MethodName := ⟨RX3, "kindOf", "(I)I"⟩
abbrev cX3_allSeats : ByteArray := prog_5_method_10_code
def yX3_allSeats : MethodName := ⟨RX3, "allSeats", "()I"⟩
abbrev cX3_ownersOf : ByteArray := prog_5_method_11_code
def yX3_ownersOf : MethodName := ⟨RX3, "ownersOf", "(I)I"⟩
abbrev cX3_countLost : ByteArray := prog_5_method_12_code
def yX3_countLost : MethodName := ⟨RX3, "countLost", "()I"⟩
abbrev cX3_countUnowned : ByteArray := prog_5_method_13_code
def yX3_countUnowned : MethodName := ⟨RX3, "countUnowned", "()I"⟩
abbrev cX3_choices : ByteArray := prog_5_method_14_code
def yX3_choices : MethodName := ⟨RX3, "choices", "(III)I"⟩
abbrev cX3_nextFree : ByteArray := prog_5_method_15_code
def yX3_nextFree : MethodName := ⟨RX3, "nextFree", "(II)I"⟩
abbrev cX3_passedOver : ByteArray := prog_5_method_16_code
def yX3_passedOver : MethodName := ⟨RX3, "passedOver", "(II)I"⟩
abbrev cX3_firstWhoCannot : ByteArray := prog_5_method_17_code
def yX3_firstWhoCannot : MethodName := ⟨RX3, "firstWhoCannot", "([I)I"⟩
abbrev cX3_chanceOf : ByteArray := prog_5_method_18_code
def yX3_chanceOf : MethodName := ⟨RX3, "chanceOf", "([I)J"⟩
abbrev cX3_isIn : ByteArray := prog_5_method_19_code
def yX3_isIn : MethodName := ⟨RX3, "isIn", "(II)Z"⟩
abbrev cX3_has : ByteArray := prog_5_method_20_code
def yX3_has : MethodName := ⟨RX3, "has", "(II)Z"⟩
def RX4 : String := "LostTicket$Rings"
def TX4 : u_T := fun k => match k with
  | 0 => ("LostTicket$Rings", "number", "I", false)
  | 1 => ("LostTicket$Rings", "changes", "I", false)
  | 2 => ("LostTicket$Rings", "longest", "I", false)
  | 3 => ("LostTicket$Rings", "house", "LLostTicket$House;", true)
  | _ => ("LostTicket$Rings", "goal", "[I", true)
def tyX4 : Nat → FieldType := fun k => match k with
  | 0 => .int
  | 1 => .int
  | 2 => .int
  | 3 => .object "LostTicket$House"
  | _ => .array .int
abbrev wsX40 : List Cond := u_ws RX4 TX4 5
theorem nmX4 : ∀ a, a < 5 → ∀ b, b < 5 → a ≠ b → (TX4 a).2.1 ≠ (TX4 b).2.1 := by decide +kernel
theorem tyX4_ok : ∀ k, k < 5 → parseFieldDescriptor (TX4 k).2.2.1 = some (tyX4 k) := by decide +kernel
abbrev cX4_init : ByteArray := prog_6_method_1_code
def yX4_init : MethodName := ⟨RX4, "<init>", "(LLostTicket$House;)V"⟩
abbrev cX4_follow : ByteArray := prog_6_method_2_code
def yX4_follow : MethodName := ⟨RX4, "follow", "([I)Z"⟩
abbrev cX4_isWhole : ByteArray := prog_6_method_3_code
def yX4_isWhole : MethodName := ⟨RX4, "isWhole", "([I)Z"⟩
abbrev cX4_countRings : ByteArray := prog_6_method_4_code
def yX4_countRings : MethodName := ⟨RX4, "countRings", "()V"⟩
abbrev cX4_rounds : ByteArray := prog_6_method_5_code
def yX4_rounds : MethodName := ⟨RX4, "rounds", "()I"⟩
def RX5 : String := "LostTicket$Sheet"
def TX5 : u_T := fun k => match k with
  | 0 => ("LostTicket$Sheet", "items", "[I", true)
  | 1 => ("LostTicket$Sheet", "form", "I", false)
  | _ => ("LostTicket$Sheet", "size", "I", false)
def tyX5 : Nat → FieldType := fun k => match k with
  | 0 => .array .int
  | 1 => .int
  | _ => .int
abbrev wsX50 : List Cond := u_ws RX5 TX5 3
theorem nmX5 : ∀ a, a < 3 → ∀ b, b < 3 → a ≠ b → (TX5 a).2.1 ≠ (TX5 b).2.1 := by decide +kernel
theorem tyX5_ok : ∀ k, k < 3 → parseFieldDescriptor (TX5 k).2.2.1 = some (tyX5 k) := by decide +kernel
abbrev cX5_init : ByteArray := prog_7_method_1_code
def yX5_init : MethodName := ⟨RX5, "<init>", "()V"⟩
abbrev cX5_renew : ByteArray := prog_7_method_2_code
def yX5_renew : MethodName := ⟨RX5, "renew", "(II)V"⟩
abbrev cX5_holds : ByteArray := prog_7_method_3_code
def yX5_holds : MethodName := ⟨RX5, "holds", "(II)Z"⟩
abbrev cX5_put : ByteArray := prog_7_method_4_code
def yX5_put : MethodName := ⟨RX5, "put", "(II)V"⟩
def RX6 : String := "LostTicket$Witness"
def TX6 : u_T := fun k => match k with
  | 0 => ("LostTicket$Witness", "weights", "[J", true)
  | 1 => ("LostTicket$Witness", "size", "I", false)
  | 2 => ("LostTicket$Witness", "suspects", "I", false)
  | 3 => ("LostTicket$Witness", "total", "J", false)
  | 4 => ("LostTicket$Witness", "ready", "Z", false)
  | 5 => ("LostTicket$Witness", "house", "LLostTicket$House;", true)
  | 6 => ("LostTicket$Witness", "persons", "[I", true)
  | 7 => ("LostTicket$Witness", "places", "[I", true)
  | 8 => ("LostTicket$Witness", "allowed", "[I", true)
  | 9 => ("LostTicket$Witness", "kinds", "[I", true)
  | 10 => ("LostTicket$Witness", "answers", "[I", true)
  | _ => ("LostTicket$Witness", "reach", "[J", true)
def tyX6 : Nat → FieldType := fun k => match k with
  | 0 => .array .long
  | 1 => .int
  | 2 => .int
  | 3 => .long
  | 4 => .boolean
  | 5 => .object "LostTicket$House"
  | 6 => .array .int
  | 7 => .array .int
  | 8 => .array .int
  | 9 => .array .int
  | 10 => .array .int
  | _ => .array .long
abbrev wsX60 : List Cond := u_ws RX6 TX6 12
theorem nmX6 : ∀ a, a < 12 → ∀ b, b < 12 → a ≠ b → (TX6 a).2.1 ≠ (TX6 b).2.1 := by decide +kernel
theorem tyX6_ok : ∀ k, k < 12 → parseFieldDescriptor (TX6 k).2.2.1 = some (tyX6 k) := by decide +kernel
abbrev cX6_init : ByteArray := prog_8_method_1_code
def yX6_init : MethodName := ⟨RX6, "<init>", "(LLostTicket$House;)V"⟩
abbrev cX6_mayTell : ByteArray := prog_8_method_2_code
def yX6_mayTell : MethodName := ⟨RX6, "mayTell", "(II)Z"⟩
abbrev cX6_tell : ByteArray := prog_8_method_3_code
def yX6_tell : MethodName := ⟨RX6, "tell", "(II)V"⟩
abbrev cX6_clear : ByteArray := prog_8_method_4_code
def yX6_clear : MethodName := ⟨RX6, "clear", "()V"⟩
abbrev cX6_refresh : ByteArray := prog_8_method_5_code
def yX6_refresh : MethodName := ⟨RX6, "refresh", "()V"⟩
abbrev cX6_narrow : ByteArray := prog_8_method_6_code
def yX6_narrow : MethodName := ⟨RX6, "narrow", "()V"⟩
abbrev cX6_forbid : ByteArray := prog_8_method_7_code
def yX6_forbid : MethodName := ⟨RX6, "forbid", "(I)V"⟩
abbrev cX6_suspect : ByteArray := prog_8_method_8_code
def yX6_suspect : MethodName := ⟨RX6, "suspect", "(I)V"⟩
abbrev cX6_walkForward : ByteArray := prog_8_method_9_code
def yX6_walkForward : MethodName := ⟨RX6, "walkForward", "()V"⟩
abbrev cX6_spread : ByteArray := prog_8_method_10_code
def yX6_spread : MethodName := ⟨RX6, "spread", "(III)V"⟩
abbrev cX6_weightAtLast : ByteArray := prog_8_method_11_code
def yX6_weightAtLast : MethodName := ⟨RX6, "weightAtLast", "()J"⟩
abbrev cX6_walkBackward : ByteArray := prog_8_method_12_code
def yX6_walkBackward : MethodName := ⟨RX6, "walkBackward", "(I)V"⟩
abbrev cX6_waysOn : ByteArray := prog_8_method_13_code
def yX6_waysOn : MethodName := ⟨RX6, "waysOn", "(II)I"⟩
abbrev cX6_heaviest : ByteArray := prog_8_method_14_code
def yX6_heaviest : MethodName := ⟨RX6, "heaviest", "()I"⟩
abbrev cX6_whomToAsk : ByteArray := prog_8_method_15_code
def yX6_whomToAsk : MethodName := ⟨RX6, "whomToAsk", "()I"⟩
abbrev cX6_wasSeen : ByteArray := prog_8_method_16_code
def yX6_wasSeen : MethodName := ⟨RX6, "wasSeen", "(I)Z"⟩
abbrev cX6_worstCase : ByteArray := prog_8_method_17_code
def yX6_worstCase : MethodName := ⟨RX6, "worstCase", "(I)I"⟩
def RX7 : String := "LostTicket"
def TX7 : u_T := fun k => match k with
  | 0 => ("LostTicket", "house", "LLostTicket$House;", true)
  | 1 => ("LostTicket", "chances", "LLostTicket$Chances;", true)
  | 2 => ("LostTicket", "doors", "LLostTicket$Doors;", true)
  | 3 => ("LostTicket", "witness", "LLostTicket$Witness;", true)
  | 4 => ("LostTicket", "play", "LLostTicket$Evening;", true)
  | 5 => ("LostTicket", "rings", "LLostTicket$Rings;", true)
  | 6 => ("LostTicket", "sheets", "[LLostTicket$Sheet;", true)
  | _ => ("LostTicket", "finding", "I", false)
def tyX7 : Nat → FieldType := fun k => match k with
  | 0 => .object "LostTicket$House"
  | 1 => .object "LostTicket$Chances"
  | 2 => .object "LostTicket$Doors"
  | 3 => .object "LostTicket$Witness"
  | 4 => .object "LostTicket$Evening"
  | 5 => .object "LostTicket$Rings"
  | 6 => .array (.object "LostTicket$Sheet")
  | _ => .int
abbrev wsX70 : List Cond := u_ws RX7 TX7 8
theorem nmX7 : ∀ a, a < 8 → ∀ b, b < 8 → a ≠ b → (TX7 a).2.1 ≠ (TX7 b).2.1 := by decide +kernel
theorem tyX7_ok : ∀ k, k < 8 → parseFieldDescriptor (TX7 k).2.2.1 = some (tyX7 k) := by decide +kernel
abbrev cX7_init : ByteArray := prog_1_method_1_code
def yX7_init : MethodName := ⟨RX7, "<init>", "()V"⟩
abbrev cX7_type : ByteArray := prog_1_method_2_code
def yX7_type : MethodName := ⟨RX7, "type", "(II)I"⟩
abbrev cX7_wipe : ByteArray := prog_1_method_3_code
def yX7_wipe : MethodName := ⟨RX7, "wipe", "(I)I"⟩
abbrev cX7_fault : ByteArray := prog_1_method_4_code
def yX7_fault : MethodName := ⟨RX7, "fault", "(I)I"⟩
abbrev cX7_seat : ByteArray := prog_1_method_5_code
def yX7_seat : MethodName := ⟨RX7, "seat", "(II)I"⟩
abbrev cX7_person : ByteArray := prog_1_method_6_code
def yX7_person : MethodName := ⟨RX7, "person", "(II)I"⟩
abbrev cX7_likely : ByteArray := prog_1_method_7_code
def yX7_likely : MethodName := ⟨RX7, "likely", "(III)J"⟩
abbrev cX7_taken : ByteArray := prog_1_method_8_code
def yX7_taken : MethodName := ⟨RX7, "taken", "(III)J"⟩
abbrev cX7_wrong : ByteArray := prog_1_method_9_code
def yX7_wrong : MethodName := ⟨RX7, "wrong", "(II)J"⟩
abbrev cX7_left : ByteArray := prog_1_method_10_code
def yX7_left : MethodName := ⟨RX7, "left", "(II)J"⟩
abbrev cX7_looks : ByteArray := prog_1_method_11_code
def yX7_looks : MethodName := ⟨RX7, "looks", "(I)J"⟩
abbrev cX7_judged : ByteArray := prog_1_method_12_code
def yX7_judged : MethodName := ⟨RX7, "judged", "(I)I"⟩
abbrev cX7_sitting : ByteArray := prog_1_method_13_code
def yX7_sitting : MethodName := ⟨RX7, "sitting", "(II)J"⟩
abbrev cX7_order : ByteArray := prog_1_method_14_code
def yX7_order : MethodName := ⟨RX7, "order", "(I)I"⟩
abbrev cX7_best : ByteArray := prog_1_method_15_code
def yX7_best : MethodName := ⟨RX7, "best", "(I)J"⟩
abbrev cX7_back : ByteArray := prog_1_method_16_code
def yX7_back : MethodName := ⟨RX7, "back", "(II)I"⟩
abbrev cX7_seen : ByteArray := prog_1_method_17_code
def yX7_seen : MethodName := ⟨RX7, "seen", "(II)I"⟩
abbrev cX7_read : ByteArray := prog_1_method_18_code
def yX7_read : MethodName := ⟨RX7, "read", "(I)I"⟩
abbrev cX7_forget : ByteArray := prog_1_method_19_code
def yX7_forget : MethodName := ⟨RX7, "forget", "()I"⟩
abbrev cX7_losers : ByteArray := prog_1_method_20_code
def yX7_losers : MethodName := ⟨RX7, "losers", "()I"⟩
abbrev cX7_share : ByteArray := prog_1_method_21_code
def yX7_share : MethodName := ⟨RX7, "share", "(II)J"⟩
abbrev cX7_likeliest : ByteArray := prog_1_method_22_code
def yX7_likeliest : MethodName := ⟨RX7, "likeliest", "()I"⟩
abbrev cX7_ask : ByteArray := prog_1_method_23_code
def yX7_ask : MethodName := ⟨RX7, "ask", "(I)I"⟩
abbrev cX7_turned : ByteArray := prog_1_method_24_code
def yX7_turned : MethodName := ⟨RX7, "turned", "(III)J"⟩
abbrev cX7_evening : ByteArray := prog_1_method_25_code
def yX7_evening : MethodName := ⟨RX7, "evening", "(II)I"⟩
abbrev cX7_sheet : ByteArray := prog_1_method_26_code
def yX7_sheet : MethodName := ⟨RX7, "sheet", "(III)I"⟩
abbrev cX7_lose : ByteArray := prog_1_method_27_code
def yX7_lose : MethodName := ⟨RX7, "lose", "(I)I"⟩
abbrev cX7_lay : ByteArray := prog_1_method_28_code
def yX7_lay : MethodName := ⟨RX7, "lay", "(IIII)I"⟩
abbrev cX7_get : ByteArray := prog_1_method_29_code
def yX7_get : MethodName := ⟨RX7, "get", "(III)I"⟩
abbrev cX7_copy : ByteArray := prog_1_method_30_code
def yX7_copy : MethodName := ⟨RX7, "copy", "(IIIII)I"⟩
abbrev cX7_write : ByteArray := prog_1_method_31_code
def yX7_write : MethodName := ⟨RX7, "write", "(II)I"⟩
abbrev cX7_count : ByteArray := prog_1_method_32_code
def yX7_count : MethodName := ⟨RX7, "count", "(I)I"⟩
abbrev cX7_digest : ByteArray := prog_1_method_33_code
def yX7_digest : MethodName := ⟨RX7, "digest", "()J"⟩
abbrev cX7_mixSeats : ByteArray := prog_1_method_34_code
def yX7_mixSeats : MethodName := ⟨RX7, "mixSeats", "(J)J"⟩
abbrev cX7_mixPeople : ByteArray := prog_1_method_35_code
def yX7_mixPeople : MethodName := ⟨RX7, "mixPeople", "(J)J"⟩
abbrev cX7_mix : ByteArray := prog_1_method_36_code
def yX7_mix : MethodName := ⟨RX7, "mix", "(JJJ)J"⟩
abbrev cX7_spoilAnswers : ByteArray := prog_1_method_37_code
def yX7_spoilAnswers : MethodName := ⟨RX7, "spoilAnswers", "()V"⟩
abbrev cX7_isNoText : ByteArray := prog_1_method_38_code
def yX7_isNoText : MethodName := ⟨RX7, "isNoText", "(I)Z"⟩
abbrev cX7_isNoSeat : ByteArray := prog_1_method_39_code
def yX7_isNoSeat : MethodName := ⟨RX7, "isNoSeat", "(I)Z"⟩
abbrev cX7_isNobody : ByteArray := prog_1_method_40_code
def yX7_isNobody : MethodName := ⟨RX7, "isNobody", "(I)Z"⟩
abbrev cX7_isNoPart : ByteArray := prog_1_method_41_code
def yX7_isNoPart : MethodName := ⟨RX7, "isNoPart", "(I)Z"⟩
abbrev cX7_isNoSheet : ByteArray := prog_1_method_42_code
def yX7_isNoSheet : MethodName := ⟨RX7, "isNoSheet", "(I)Z"⟩
abbrev cX7_isNoForm : ByteArray := prog_1_method_43_code
def yX7_isNoForm : MethodName := ⟨RX7, "isNoForm", "(I)Z"⟩
abbrev cX7_find : ByteArray := prog_1_method_44_code
def yX7_find : MethodName := ⟨RX7, "find", "(I)I"⟩
abbrev cX7_refuseSheet : ByteArray := prog_1_method_45_code
def yX7_refuseSheet : MethodName := ⟨RX7, "refuseSheet", "(IZ)I"⟩
abbrev cX7_refuseSitting : ByteArray := prog_1_method_46_code
def yX7_refuseSitting : MethodName := ⟨RX7, "refuseSitting", "(IZ)I"⟩
abbrev cX7_refuseItem : ByteArray := prog_1_method_47_code
def yX7_refuseItem : MethodName := ⟨RX7, "refuseItem", "(III)I"⟩
abbrev cX7_asLong : ByteArray := prog_1_method_48_code
def yX7_asLong : MethodName := ⟨RX7, "asLong", "(I)J"⟩
abbrev cX7_part : ByteArray := prog_1_method_49_code
def yX7_part : MethodName := ⟨RX7, "part", "(JJI)J"⟩
abbrev cX7_commonDivisor : ByteArray := prog_1_method_50_code
def yX7_commonDivisor : MethodName := ⟨RX7, "commonDivisor", "(JJ)J"⟩
def RX8 : String := "LostTicketModel"
def TX8 : u_T := fun k => match k with
  | 0 => ("LostTicketModel", "forms", "[I", true)
  | 1 => ("LostTicketModel", "sizes", "[I", true)
  | 2 => ("LostTicketModel", "items", "[I", true)
  | 3 => ("LostTicketModel", "moved", "[I", true)
  | 4 => ("LostTicketModel", "latest", "I", false)
  | 5 => ("LostTicketModel", "bytes", "[I", true)
  | 6 => ("LostTicketModel", "typed", "[I", true)
  | 7 => ("LostTicketModel", "at", "I", false)
  | 8 => ("LostTicketModel", "seats", "I", false)
  | 9 => ("LostTicketModel", "rows", "I", false)
  | 10 => ("LostTicketModel", "sorts", "[I", true)
  | 11 => ("LostTicketModel", "rowOf", "[I", true)
  | 12 => ("LostTicketModel", "people", "I", false)
  | 13 => ("LostTicketModel", "own", "[I", true)
  | 14 => ("LostTicketModel", "kinds", "[I", true)
  | 15 => ("LostTicketModel", "ways", "[J", true)
  | 16 => ("LostTicketModel", "next", "[J", true)
  | 17 => ("LostTicketModel", "all", "J", false)
  | 18 => ("LostTicketModel", "loser", "I", false)
  | 19 => ("LostTicketModel", "onlyWho", "I", false)
  | 20 => ("LostTicketModel", "onlyWhere", "I", false)
  | 21 => ("LostTicketModel", "keptFree", "I", false)
  | 22 => ("LostTicketModel", "keptSeat", "[I", true)
  | 23 => ("LostTicketModel", "order", "[I", true)
  | 24 => ("LostTicketModel", "bestOrder", "[I", true)
  | 25 => ("LostTicketModel", "both", "[J", true)
  | 26 => ("LostTicketModel", "bothNext", "[J", true)
  | 27 => ("LostTicketModel", "bestRight", "J", false)
  | 28 => ("LostTicketModel", "rings", "I", false)
  | 29 => ("LostTicketModel", "wrongOnes", "I", false)
  | 30 => ("LostTicketModel", "longer", "Z", false)
  | 31 => ("LostTicketModel", "sights", "I", false)
  | 32 => ("LostTicketModel", "sightWho", "[I", true)
  | 33 => ("LostTicketModel", "sightWhere", "[I", true)
  | 34 => ("LostTicketModel", "seedNow", "I", false)
  | _ => ("LostTicketModel", "evening", "[I", true)
def tyX8 : Nat → FieldType := fun k => match k with
  | 0 => .array .int
  | 1 => .array .int
  | 2 => .array .int
  | 3 => .array .int
  | 4 => .int
  | 5 => .array .int
  | 6 => .array .int
  | 7 => .int
  | 8 => .int
  | 9 => .int
  | 10 => .array .int
  | 11 => .array .int
  | 12 => .int
  | 13 => .array .int
  | 14 => .array .int
  | 15 => .array .long
  | 16 => .array .long
  | 17 => .long
  | 18 => .int
  | 19 => .int
  | 20 => .int
  | 21 => .int
  | 22 => .array .int
  | 23 => .array .int
  | 24 => .array .int
  | 25 => .array .long
  | 26 => .array .long
  | 27 => .long
  | 28 => .int
  | 29 => .int
  | 30 => .boolean
  | 31 => .int
  | 32 => .array .int
  | 33 => .array .int
  | 34 => .int
  | _ => .array .int
abbrev wsX80 : List Cond := u_ws RX8 TX8 36
theorem nmX8 : ∀ a, a < 36 → ∀ b, b < 36 → a ≠ b → (TX8 a).2.1 ≠ (TX8 b).2.1 := by decide +kernel
theorem tyX8_ok : ∀ k, k < 36 → parseFieldDescriptor (TX8 k).2.2.1 = some (tyX8 k) := by decide +kernel
abbrev cX8_init : ByteArray := prog_10_method_1_code
def yX8_init : MethodName := ⟨RX8, "<init>", "()V"⟩
abbrev cX8_in : ByteArray := prog_10_method_3_code
def yX8_in : MethodName := ⟨RX8, "in", "(JJJ)Z"⟩
abbrev cX8_no : ByteArray := prog_10_method_4_code
def yX8_no : MethodName := ⟨RX8, "no", "(I)J"⟩
abbrev cX8_isTwo : ByteArray := prog_10_method_5_code
def yX8_isTwo : MethodName := ⟨RX8, "isTwo", "(I)Z"⟩
abbrev cX8_isIn : ByteArray := prog_10_method_6_code
def yX8_isIn : MethodName := ⟨RX8, "isIn", "(II)Z"⟩
abbrev cX8_ones : ByteArray := prog_10_method_7_code
def yX8_ones : MethodName := ⟨RX8, "ones", "(I)I"⟩
abbrev cX8_part : ByteArray := prog_10_method_8_code
def yX8_part : MethodName := ⟨RX8, "part", "(JJI)J"⟩
abbrev cX8_met : ByteArray := prog_10_method_9_code
def yX8_met : MethodName := ⟨RX8, "met", "(I)I"⟩
abbrev cX8_isSheet : ByteArray := prog_10_method_10_code
def yX8_isSheet : MethodName := ⟨RX8, "isSheet", "(I)Z"⟩
abbrev cX8_sheet : ByteArray := prog_10_method_11_code
def yX8_sheet : MethodName := ⟨RX8, "sheet", "(III)I"⟩
abbrev cX8_lose : ByteArray := prog_10_method_12_code
def yX8_lose : MethodName := ⟨RX8, "lose", "(I)I"⟩
abbrev cX8_lacks : ByteArray := prog_10_method_13_code
def yX8_lacks : MethodName := ⟨RX8, "lacks", "(III)I"⟩
abbrev cX8_cut : ByteArray := prog_10_method_14_code
def yX8_cut : MethodName := ⟨RX8, "cut", "(II)I"⟩
abbrev cX8_lay : ByteArray := prog_10_method_15_code
def yX8_lay : MethodName := ⟨RX8, "lay", "(IIII)I"⟩
abbrev cX8_get : ByteArray := prog_10_method_16_code
def yX8_get : MethodName := ⟨RX8, "get", "(III)I"⟩
abbrev cX8_copy : ByteArray := prog_10_method_17_code
def yX8_copy : MethodName := ⟨RX8, "copy", "(IIIII)I"⟩
abbrev cX8_type : ByteArray := prog_10_method_18_code
def yX8_type : MethodName := ⟨RX8, "type", "(II)I"⟩
abbrev cX8_wipe : ByteArray := prog_10_method_19_code
def yX8_wipe : MethodName := ⟨RX8, "wipe", "(I)I"⟩
abbrev cX8_here : ByteArray := prog_10_method_20_code
def yX8_here : MethodName := ⟨RX8, "here", "(I)I"⟩
abbrev cX8_noSeats : ByteArray := prog_10_method_21_code
def yX8_noSeats : MethodName := ⟨RX8, "noSeats", "()I"⟩
abbrev cX8_readsSeats : ByteArray := prog_10_method_22_code
def yX8_readsSeats : MethodName := ⟨RX8, "readsSeats", "()I"⟩
abbrev cX8_kindOf : ByteArray := prog_10_method_23_code
def yX8_kindOf : MethodName := ⟨RX8, "kindOf", "(I)I"⟩
abbrev cX8_nobody : ByteArray := prog_10_method_24_code
def yX8_nobody : MethodName := ⟨RX8, "nobody", "()I"⟩
abbrev cX8_readsPeople : ByteArray := prog_10_method_25_code
def yX8_readsPeople : MethodName := ⟨RX8, "readsPeople", "()I"⟩
abbrev cX8_find : ByteArray := prog_10_method_26_code
def yX8_find : MethodName := ⟨RX8, "find", "()V"⟩
abbrev cX8_faultOf : ByteArray := prog_10_method_27_code
def yX8_faultOf : MethodName := ⟨RX8, "faultOf", "(I)I"⟩
abbrev cX8_fault : ByteArray := prog_10_method_28_code
def yX8_fault : MethodName := ⟨RX8, "fault", "(I)I"⟩
abbrev cX8_isSeat : ByteArray := prog_10_method_29_code
def yX8_isSeat : MethodName := ⟨RX8, "isSeat", "(I)Z"⟩
abbrev cX8_isPerson : ByteArray := prog_10_method_30_code
def yX8_isPerson : MethodName := ⟨RX8, "isPerson", "(I)Z"⟩
abbrev cX8_ownersOf : ByteArray := prog_10_method_31_code
def yX8_ownersOf : MethodName := ⟨RX8, "ownersOf", "(I)I"⟩
abbrev cX8_seatOf : ByteArray := prog_10_method_32_code
def yX8_seatOf : MethodName := ⟨RX8, "seatOf", "(II)I"⟩
abbrev cX8_seat : ByteArray := prog_10_method_33_code
def yX8_seat : MethodName := ⟨RX8, "seat", "(II)I"⟩
abbrev cX8_person : ByteArray := prog_10_method_34_code
def yX8_person : MethodName := ⟨RX8, "person", "(II)I"⟩
abbrev cX8_whole : ByteArray := prog_10_method_35_code
def yX8_whole : MethodName := ⟨RX8, "whole", "()I"⟩
abbrev cX8_ofSort : ByteArray := prog_10_method_36_code
def yX8_ofSort : MethodName := ⟨RX8, "ofSort", "(I)I"⟩
abbrev cX8_nextFree : ByteArray := prog_10_method_37_code
def yX8_nextFree : MethodName := ⟨RX8, "nextFree", "(II)I"⟩
abbrev cX8_choices : ByteArray := prog_10_method_38_code
def yX8_choices : MethodName := ⟨RX8, "choices", "(III)I"⟩
abbrev cX8_partsOf : ByteArray := prog_10_method_39_code
def yX8_partsOf : MethodName := ⟨RX8, "partsOf", "(I)J"⟩
abbrev cX8_begins : ByteArray := prog_10_method_40_code
def yX8_begins : MethodName := ⟨RX8, "begins", "()V"⟩
abbrev cX8_kindNow : ByteArray := prog_10_method_41_code
def yX8_kindNow : MethodName := ⟨RX8, "kindNow", "(I)I"⟩
abbrev cX8_noBounds : ByteArray := prog_10_method_42_code
def yX8_noBounds : MethodName := ⟨RX8, "noBounds", "()V"⟩
abbrev cX8_mayBe : ByteArray := prog_10_method_43_code
def yX8_mayBe : MethodName := ⟨RX8, "mayBe", "(II)Z"⟩
abbrev cX8_sits : ByteArray := prog_10_method_44_code
def yX8_sits : MethodName := ⟨RX8, "sits", "(II)V"⟩
abbrev cX8_firstSit : ByteArray := prog_10_method_45_code
def yX8_firstSit : MethodName := ⟨RX8, "firstSit", "(I)V"⟩
abbrev cX8_nextOn : ByteArray := prog_10_method_46_code
def yX8_nextOn : MethodName := ⟨RX8, "nextOn", "(III)J"⟩
abbrev cX8_likelyOf : ByteArray := prog_10_method_47_code
def yX8_likelyOf : MethodName := ⟨RX8, "likelyOf", "(III)J"⟩
abbrev cX8_likely : ByteArray := prog_10_method_48_code
def yX8_likely : MethodName := ⟨RX8, "likely", "(III)J"⟩
abbrev cX8_takenOf : ByteArray := prog_10_method_49_code
def yX8_takenOf : MethodName := ⟨RX8, "takenOf", "(III)J"⟩
abbrev cX8_taken : ByteArray := prog_10_method_50_code
def yX8_taken : MethodName := ⟨RX8, "taken", "(III)J"⟩
abbrev cX8_rightByOrder : ByteArray := prog_10_method_51_code
def yX8_rightByOrder : MethodName := ⟨RX8, "rightByOrder", "(I)J"⟩
abbrev cX8_asTheyCome : ByteArray := prog_10_method_52_code
def yX8_asTheyCome : MethodName := ⟨RX8, "asTheyCome", "()V"⟩
abbrev cX8_meanOf : ByteArray := prog_10_method_53_code
def yX8_meanOf : MethodName := ⟨RX8, "meanOf", "(I)J"⟩
abbrev cX8_justOf : ByteArray := prog_10_method_54_code
def yX8_justOf : MethodName := ⟨RX8, "justOf", "(II)J"⟩
abbrev cX8_wrong : ByteArray := prog_10_method_55_code
def yX8_wrong : MethodName := ⟨RX8, "wrong", "(II)J"⟩
abbrev cX8_leftOf : ByteArray := prog_10_method_56_code
def yX8_leftOf : MethodName := ⟨RX8, "leftOf", "(II)J"⟩
abbrev cX8_left : ByteArray := prog_10_method_57_code
def yX8_left : MethodName := ⟨RX8, "left", "(II)J"⟩
abbrev cX8_looksNow : ByteArray := prog_10_method_58_code
def yX8_looksNow : MethodName := ⟨RX8, "looksNow", "(I)J"⟩
abbrev cX8_looks : ByteArray := prog_10_method_59_code
def yX8_looks : MethodName := ⟨RX8, "looks", "(I)J"⟩
abbrev cX8_noSitting : ByteArray := prog_10_method_60_code
def yX8_noSitting : MethodName := ⟨RX8, "noSitting", "(I)I"⟩
abbrev cX8_isSeatNow : ByteArray := prog_10_method_61_code
def yX8_isSeatNow : MethodName := ⟨RX8, "isSeatNow", "(I)Z"⟩
abbrev cX8_judged : ByteArray := prog_10_method_62_code
def yX8_judged : MethodName := ⟨RX8, "judged", "(I)I"⟩
abbrev cX8_sittingOf : ByteArray := prog_10_method_63_code
def yX8_sittingOf : MethodName := ⟨RX8, "sittingOf", "(II)J"⟩
abbrev cX8_sitting : ByteArray := prog_10_method_64_code
def yX8_sitting : MethodName := ⟨RX8, "sitting", "(II)J"⟩
abbrev cX8_goesOn : ByteArray := prog_10_method_65_code
def yX8_goesOn : MethodName := ⟨RX8, "goesOn", "(I)Z"⟩
abbrev cX8_swaps : ByteArray := prog_10_method_66_code
def yX8_swaps : MethodName := ⟨RX8, "swaps", "(II)V"⟩
abbrev cX8_findOrder : ByteArray := prog_10_method_67_code
def yX8_findOrder : MethodName := ⟨RX8, "findOrder", "()V"⟩
abbrev cX8_order : ByteArray := prog_10_method_68_code
def yX8_order : MethodName := ⟨RX8, "order", "(I)I"⟩
abbrev cX8_bestOf : ByteArray := prog_10_method_69_code
def yX8_bestOf : MethodName := ⟨RX8, "bestOf", "(I)J"⟩
abbrev cX8_best : ByteArray := prog_10_method_70_code
def yX8_best : MethodName := ⟨RX8, "best", "(I)J"⟩
abbrev cX8_findRings : ByteArray := prog_10_method_71_code
def yX8_findRings : MethodName := ⟨RX8, "findRings", "(I)Z"⟩
abbrev cX8_sitter : ByteArray := prog_10_method_72_code
def yX8_sitter : MethodName := ⟨RX8, "sitter", "(II)I"⟩
abbrev cX8_back : ByteArray := prog_10_method_73_code
def yX8_back : MethodName := ⟨RX8, "back", "(II)I"⟩
abbrev cX8_seen : ByteArray := prog_10_method_74_code
def yX8_seen : MethodName := ⟨RX8, "seen", "(II)I"⟩
abbrev cX8_read : ByteArray := prog_10_method_75_code
def yX8_read : MethodName := ⟨RX8, "read", "(I)I"⟩
abbrev cX8_forget : ByteArray := prog_10_method_76_code
def yX8_forget : MethodName := ⟨RX8, "forget", "()I"⟩
abbrev cX8_laysBounds : ByteArray := prog_10_method_77_code
def yX8_laysBounds : MethodName := ⟨RX8, "laysBounds", "()Z"⟩
abbrev cX8_seenWith : ByteArray := prog_10_method_78_code
def yX8_seenWith : MethodName := ⟨RX8, "seenWith", "(III)J"⟩
abbrev cX8_losersNow : ByteArray := prog_10_method_79_code
def yX8_losersNow : MethodName := ⟨RX8, "losersNow", "()I"⟩
abbrev cX8_losers : ByteArray := prog_10_method_80_code
def yX8_losers : MethodName := ⟨RX8, "losers", "()I"⟩
abbrev cX8_share : ByteArray := prog_10_method_81_code
def yX8_share : MethodName := ⟨RX8, "share", "(II)J"⟩
abbrev cX8_likeliestNow : ByteArray := prog_10_method_82_code
def yX8_likeliestNow : MethodName := ⟨RX8, "likeliestNow", "()I"⟩
abbrev cX8_likeliest : ByteArray := prog_10_method_83_code
def yX8_likeliest : MethodName := ⟨RX8, "likeliest", "()I"⟩
abbrev cX8_wasSeen : ByteArray := prog_10_method_84_code
def yX8_wasSeen : MethodName := ⟨RX8, "wasSeen", "(I)Z"⟩
abbrev cX8_worstBy : ByteArray := prog_10_method_85_code
def yX8_worstBy : MethodName := ⟨RX8, "worstBy", "(II)I"⟩
abbrev cX8_askNow : ByteArray := prog_10_method_86_code
def yX8_askNow : MethodName := ⟨RX8, "askNow", "(I)I"⟩
abbrev cX8_ask : ByteArray := prog_10_method_87_code
def yX8_ask : MethodName := ⟨RX8, "ask", "(I)I"⟩
abbrev cX8_turnedOf : ByteArray := prog_10_method_88_code
def yX8_turnedOf : MethodName := ⟨RX8, "turnedOf", "(III)J"⟩
abbrev cX8_turned : ByteArray := prog_10_method_89_code
def yX8_turned : MethodName := ⟨RX8, "turned", "(III)J"⟩
abbrev cX8_lot : ByteArray := prog_10_method_90_code
def yX8_lot : MethodName := ⟨RX8, "lot", "(I)I"⟩
abbrev cX8_findEvening : ByteArray := prog_10_method_91_code
def yX8_findEvening : MethodName := ⟨RX8, "findEvening", "(I)I"⟩
abbrev cX8_eveningOf : ByteArray := prog_10_method_92_code
def yX8_eveningOf : MethodName := ⟨RX8, "eveningOf", "(II)I"⟩
abbrev cX8_evening : ByteArray := prog_10_method_93_code
def yX8_evening : MethodName := ⟨RX8, "evening", "(II)I"⟩
abbrev cX8_write : ByteArray := prog_10_method_94_code
def yX8_write : MethodName := ⟨RX8, "write", "(II)I"⟩
abbrev cX8_count : ByteArray := prog_10_method_95_code
def yX8_count : MethodName := ⟨RX8, "count", "(I)I"⟩
abbrev cX8_digest : ByteArray := prog_10_method_96_code
def yX8_digest : MethodName := ⟨RX8, "digest", "()J"⟩
def RJ6 : String := "java/lang/Integer"
def TJ6 : u_T := fun k => match k with
  | _ => ("", "", "", false)
def tyJ6 : Nat → FieldType := fun k => match k with
  | _ => .int
abbrev wsJ60 : List Cond := u_ws RJ6 TJ6 0
theorem nmJ6 : ∀ a, a < 0 → ∀ b, b < 0 → a ≠ b → (TJ6 a).2.1 ≠ (TJ6 b).2.1 := by decide +kernel
theorem tyJ6_ok : ∀ k, k < 0 → parseFieldDescriptor (TJ6 k).2.2.1 = some (tyJ6 k) := by decide +kernel
abbrev cJ6_bitCount_0f7a4 : ByteArray := prog_11_method_49_code
def yJ6_bitCount_0f7a4 : MethodName := ⟨RJ6, "bitCount", "(I)I"⟩
def RJ9 : String := "java/lang/Math"
def TJ9 : u_T := fun k => match k with
  | _ => ("", "", "", false)
def tyJ9 : Nat → FieldType := fun k => match k with
  | _ => .int
abbrev wsJ90 : List Cond := u_ws RJ9 TJ9 0
theorem nmJ9 : ∀ a, a < 0 → ∀ b, b < 0 → a ≠ b → (TJ9 a).2.1 ≠ (TJ9 b).2.1 := by decide +kernel
theorem tyJ9_ok : ∀ k, k < 0 → parseFieldDescriptor (TJ9 k).2.2.1 = some (tyJ9 k) := by decide +kernel
abbrev cJ9_max_7cf53 : ByteArray := prog_12_method_65_code
def yJ9_max_7cf53 : MethodName := ⟨RJ9, "max", "(II)I"⟩
abbrev cJ9_min_7cf53 : ByteArray := prog_12_method_69_code
def yJ9_min_7cf53 : MethodName := ⟨RJ9, "min", "(II)I"⟩
def RJ10 : String := "java/lang/System"
def TJ10 : u_T := fun k => match k with
  | _ => ("", "", "", false)
def tyJ10 : Nat → FieldType := fun k => match k with
  | _ => .int
abbrev wsJ100 : List Cond := u_ws RJ10 TJ10 0
theorem nmJ10 : ∀ a, a < 0 → ∀ b, b < 0 → a ≠ b → (TJ10 a).2.1 ≠ (TJ10 b).2.1 := by decide +kernel
theorem tyJ10_ok : ∀ k, k < 0 → parseFieldDescriptor (TJ10 k).2.2.1 = some (tyJ10 k) := by decide +kernel
def RJ7 : String := "java/util/Arrays"
def TJ7 : u_T := fun k => match k with
  | _ => ("", "", "", false)
def tyJ7 : Nat → FieldType := fun k => match k with
  | _ => .int
abbrev wsJ70 : List Cond := u_ws RJ7 TJ7 0
theorem nmJ7 : ∀ a, a < 0 → ∀ b, b < 0 → a ≠ b → (TJ7 a).2.1 ≠ (TJ7 b).2.1 := by decide +kernel
theorem tyJ7_ok : ∀ k, k < 0 → parseFieldDescriptor (TJ7 k).2.2.1 = some (tyJ7 k) := by decide +kernel
abbrev cJ7_fill_d0a16 : ByteArray := prog_14_method_101_code
def yJ7_fill_d0a16 : MethodName := ⟨RJ7, "fill", "([JJ)V"⟩
abbrev cJ7_fill_53178 : ByteArray := prog_14_method_103_code
def yJ7_fill_53178 : MethodName := ⟨RJ7, "fill", "([II)V"⟩
def RL : String := "LostTicketLaw"
abbrev cL_law : ByteArray := code
def yL_law : MethodName := ⟨RL, "law", "([I)Z"⟩
abbrev vwCl : List vw_C := [(RX0, TX0, 9), (RX1, TX1, 7), (RX2, TX2, 4), (RX3, TX3, 11), (RX4, TX4, 5), (RX5, TX5, 3), (RX6, TX6, 12), (RX7, TX7, 8), (RX8, TX8, 36)]
