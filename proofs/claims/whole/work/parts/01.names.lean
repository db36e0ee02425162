-- ===== PART A: goes FIRST, ahead of the names: the tables' words, and 'selects' of the private methods out of them =====
/-- a private method of a class that the tables say can be made, by its rows of tables_1 -/
def lw_okq (q : MethodName × Nat) : Prop := (q.1.cls ≠ "java/lang/invoke/MethodHandle" ∧ q.1.cls ≠ "java/lang/invoke/VarHandle") ∧ Cond.instantiable q.1.cls q.2 ∈ tables_1 ∧ Cond.privateMethod q.1 ∈ tables_1 ∧ Cond.instanceMethod q.1 ∈ tables_1
theorem lw_p0 : lw_okq (⟨"DawnHouse$Tokens", "skipBlanks", "()V"⟩, 6) := ⟨⟨by decide +kernel, by decide +kernel⟩, List.mem_of_getElem? (i := 41) (by decide +kernel), List.mem_of_getElem? (i := 452) (by decide +kernel), List.mem_of_getElem? (i := 453) (by decide +kernel)⟩
theorem lw_p1 : lw_okq (⟨"DawnHouse$Tokens", "scanToken", "()I"⟩, 6) := ⟨⟨by decide +kernel, by decide +kernel⟩, List.mem_of_getElem? (i := 41) (by decide +kernel), List.mem_of_getElem? (i := 466) (by decide +kernel), List.mem_of_getElem? (i := 467) (by decide +kernel)⟩
theorem lw_p2 : lw_okq (⟨"DawnHouse$Tokens", "scanWord", "()I"⟩, 6) := ⟨⟨by decide +kernel, by decide +kernel⟩, List.mem_of_getElem? (i := 41) (by decide +kernel), List.mem_of_getElem? (i := 473) (by decide +kernel), List.mem_of_getElem? (i := 474) (by decide +kernel)⟩
theorem lw_p3 : lw_okq (⟨"DawnHouse$Tokens", "scanNumber", "()I"⟩, 6) := ⟨⟨by decide +kernel, by decide +kernel⟩, List.mem_of_getElem? (i := 41) (by decide +kernel), List.mem_of_getElem? (i := 492) (by decide +kernel), List.mem_of_getElem? (i := 493) (by decide +kernel)⟩
theorem lw_p4 : lw_okq (⟨"DawnHouse$Parser", "peek", "()I"⟩, 7) := ⟨⟨by decide +kernel, by decide +kernel⟩, List.mem_of_getElem? (i := 71) (by decide +kernel), List.mem_of_getElem? (i := 509) (by decide +kernel), List.mem_of_getElem? (i := 510) (by decide +kernel)⟩
theorem lw_p5 : lw_okq (⟨"DawnHouse$Parser", "parseStep", "()V"⟩, 7) := ⟨⟨by decide +kernel, by decide +kernel⟩, List.mem_of_getElem? (i := 71) (by decide +kernel), List.mem_of_getElem? (i := 513) (by decide +kernel), List.mem_of_getElem? (i := 514) (by decide +kernel)⟩
theorem lw_p6 : lw_okq (⟨"DawnHouse$Parser", "fail", "(I)V"⟩, 7) := ⟨⟨by decide +kernel, by decide +kernel⟩, List.mem_of_getElem? (i := 71) (by decide +kernel), List.mem_of_getElem? (i := 517) (by decide +kernel), List.mem_of_getElem? (i := 518) (by decide +kernel)⟩
theorem lw_p7 : lw_okq (⟨"DawnHouse$Parser", "accept", "(I)V"⟩, 7) := ⟨⟨by decide +kernel, by decide +kernel⟩, List.mem_of_getElem? (i := 71) (by decide +kernel), List.mem_of_getElem? (i := 525) (by decide +kernel), List.mem_of_getElem? (i := 526) (by decide +kernel)⟩
theorem lw_p8 : lw_okq (⟨"DawnHouse$Parser", "parseHead", "(IZ)V"⟩, 7) := ⟨⟨by decide +kernel, by decide +kernel⟩, List.mem_of_getElem? (i := 71) (by decide +kernel), List.mem_of_getElem? (i := 529) (by decide +kernel), List.mem_of_getElem? (i := 530) (by decide +kernel)⟩
theorem lw_p9 : lw_okq (⟨"DawnHouse$Parser", "acceptNewName", "()J"⟩, 7) := ⟨⟨by decide +kernel, by decide +kernel⟩, List.mem_of_getElem? (i := 71) (by decide +kernel), List.mem_of_getElem? (i := 534) (by decide +kernel), List.mem_of_getElem? (i := 535) (by decide +kernel)⟩
theorem lw_p10 : lw_okq (⟨"DawnHouse$Parser", "noteSense", "(I)V"⟩, 7) := ⟨⟨by decide +kernel, by decide +kernel⟩, List.mem_of_getElem? (i := 71) (by decide +kernel), List.mem_of_getElem? (i := 542) (by decide +kernel), List.mem_of_getElem? (i := 543) (by decide +kernel)⟩
theorem lw_p11 : lw_okq (⟨"DawnHouse$Parser", "acceptInt", "(II)I"⟩, 7) := ⟨⟨by decide +kernel, by decide +kernel⟩, List.mem_of_getElem? (i := 71) (by decide +kernel), List.mem_of_getElem? (i := 546) (by decide +kernel), List.mem_of_getElem? (i := 547) (by decide +kernel)⟩
theorem lw_p12 : lw_okq (⟨"DawnHouse$Parser", "parseSum", "(I)V"⟩, 7) := ⟨⟨by decide +kernel, by decide +kernel⟩, List.mem_of_getElem? (i := 71) (by decide +kernel), List.mem_of_getElem? (i := 550) (by decide +kernel), List.mem_of_getElem? (i := 551) (by decide +kernel)⟩
theorem lw_p13 : lw_okq (⟨"DawnHouse$Parser", "parseProduct", "(I)V"⟩, 7) := ⟨⟨by decide +kernel, by decide +kernel⟩, List.mem_of_getElem? (i := 71) (by decide +kernel), List.mem_of_getElem? (i := 554) (by decide +kernel), List.mem_of_getElem? (i := 555) (by decide +kernel)⟩
theorem lw_p14 : lw_okq (⟨"DawnHouse$Parser", "parseUnit", "(I)V"⟩, 7) := ⟨⟨by decide +kernel, by decide +kernel⟩, List.mem_of_getElem? (i := 71) (by decide +kernel), List.mem_of_getElem? (i := 558) (by decide +kernel), List.mem_of_getElem? (i := 559) (by decide +kernel)⟩
theorem lw_p15 : lw_okq (⟨"DawnHouse$Parser", "acceptPart", "()I"⟩, 7) := ⟨⟨by decide +kernel, by decide +kernel⟩, List.mem_of_getElem? (i := 71) (by decide +kernel), List.mem_of_getElem? (i := 566) (by decide +kernel), List.mem_of_getElem? (i := 567) (by decide +kernel)⟩
def lw_privs_1 : List (MethodName × Nat) := [(⟨"DawnHouse$Tokens", "skipBlanks", "()V"⟩, 6), (⟨"DawnHouse$Tokens", "scanToken", "()I"⟩, 6), (⟨"DawnHouse$Tokens", "scanWord", "()I"⟩, 6), (⟨"DawnHouse$Tokens", "scanNumber", "()I"⟩, 6), (⟨"DawnHouse$Parser", "peek", "()I"⟩, 7), (⟨"DawnHouse$Parser", "parseStep", "()V"⟩, 7), (⟨"DawnHouse$Parser", "fail", "(I)V"⟩, 7), (⟨"DawnHouse$Parser", "accept", "(I)V"⟩, 7), (⟨"DawnHouse$Parser", "parseHead", "(IZ)V"⟩, 7), (⟨"DawnHouse$Parser", "acceptNewName", "()J"⟩, 7), (⟨"DawnHouse$Parser", "noteSense", "(I)V"⟩, 7), (⟨"DawnHouse$Parser", "acceptInt", "(II)I"⟩, 7), (⟨"DawnHouse$Parser", "parseSum", "(I)V"⟩, 7), (⟨"DawnHouse$Parser", "parseProduct", "(I)V"⟩, 7), (⟨"DawnHouse$Parser", "parseUnit", "(I)V"⟩, 7), (⟨"DawnHouse$Parser", "acceptPart", "()I"⟩, 7)]
theorem lw_r1 : ∀ q ∈ lw_privs_1, lw_okq q := List.forall_mem_cons.mpr ⟨lw_p0, List.forall_mem_cons.mpr ⟨lw_p1, List.forall_mem_cons.mpr ⟨lw_p2, List.forall_mem_cons.mpr ⟨lw_p3, List.forall_mem_cons.mpr ⟨lw_p4, List.forall_mem_cons.mpr ⟨lw_p5, List.forall_mem_cons.mpr ⟨lw_p6, List.forall_mem_cons.mpr ⟨lw_p7, List.forall_mem_cons.mpr ⟨lw_p8, List.forall_mem_cons.mpr ⟨lw_p9, List.forall_mem_cons.mpr ⟨lw_p10, List.forall_mem_cons.mpr ⟨lw_p11, List.forall_mem_cons.mpr ⟨lw_p12, List.forall_mem_cons.mpr ⟨lw_p13, List.forall_mem_cons.mpr ⟨lw_p14, List.forall_mem_cons.mpr ⟨lw_p15, fun _ h => absurd h List.not_mem_nil⟩⟩⟩⟩⟩⟩⟩⟩⟩⟩⟩⟩⟩⟩⟩⟩
theorem lw_p16 : lw_okq (⟨"DawnHouse$Parser", "acceptOpening", "(I)V"⟩, 7) := ⟨⟨by decide +kernel, by decide +kernel⟩, List.mem_of_getElem? (i := 71) (by decide +kernel), List.mem_of_getElem? (i := 579) (by decide +kernel), List.mem_of_getElem? (i := 580) (by decide +kernel)⟩
theorem lw_p17 : lw_okq (⟨"DawnHouse$Parser", "parseInside", "(I)V"⟩, 7) := ⟨⟨by decide +kernel, by decide +kernel⟩, List.mem_of_getElem? (i := 71) (by decide +kernel), List.mem_of_getElem? (i := 587) (by decide +kernel), List.mem_of_getElem? (i := 588) (by decide +kernel)⟩
theorem lw_p18 : lw_okq (⟨"DawnHouse$Post", "offer", "(II)V"⟩, 8) := ⟨⟨by decide +kernel, by decide +kernel⟩, List.mem_of_getElem? (i := 256) (by decide +kernel), List.mem_of_getElem? (i := 688) (by decide +kernel), List.mem_of_getElem? (i := 689) (by decide +kernel)⟩
theorem lw_p19 : lw_okq (⟨"DawnHouse$Work", "beginAt", "(I)V"⟩, 13) := ⟨⟨by decide +kernel, by decide +kernel⟩, List.mem_of_getElem? (i := 294) (by decide +kernel), List.mem_of_getElem? (i := 724) (by decide +kernel), List.mem_of_getElem? (i := 725) (by decide +kernel)⟩
theorem lw_p20 : lw_okq (⟨"DawnHouse$Work", "firstReady", "()I"⟩, 13) := ⟨⟨by decide +kernel, by decide +kernel⟩, List.mem_of_getElem? (i := 294) (by decide +kernel), List.mem_of_getElem? (i := 728) (by decide +kernel), List.mem_of_getElem? (i := 729) (by decide +kernel)⟩
theorem lw_p21 : lw_okq (⟨"DawnHouse$Work", "isReady", "(I)Z"⟩, 13) := ⟨⟨by decide +kernel, by decide +kernel⟩, List.mem_of_getElem? (i := 294) (by decide +kernel), List.mem_of_getElem? (i := 732) (by decide +kernel), List.mem_of_getElem? (i := 733) (by decide +kernel)⟩
theorem lw_p22 : lw_okq (⟨"DawnHouse$Work", "workAt", "(I)V"⟩, 13) := ⟨⟨by decide +kernel, by decide +kernel⟩, List.mem_of_getElem? (i := 294) (by decide +kernel), List.mem_of_getElem? (i := 741) (by decide +kernel), List.mem_of_getElem? (i := 742) (by decide +kernel)⟩
theorem lw_p23 : lw_okq (⟨"DawnHouse$Work", "finish", "(I)V"⟩, 13) := ⟨⟨by decide +kernel, by decide +kernel⟩, List.mem_of_getElem? (i := 294) (by decide +kernel), List.mem_of_getElem? (i := 745) (by decide +kernel), List.mem_of_getElem? (i := 746) (by decide +kernel)⟩
theorem lw_p24 : lw_okq (⟨"DawnHouse$Values", "perform", "(III)V"⟩, 5) := ⟨⟨by decide +kernel, by decide +kernel⟩, List.mem_of_getElem? (i := 232) (by decide +kernel), List.mem_of_getElem? (i := 761) (by decide +kernel), List.mem_of_getElem? (i := 762) (by decide +kernel)⟩
theorem lw_p25 : lw_okq (⟨"DawnHouse$Values", "push", "(J)V"⟩, 5) := ⟨⟨by decide +kernel, by decide +kernel⟩, List.mem_of_getElem? (i := 232) (by decide +kernel), List.mem_of_getElem? (i := 765) (by decide +kernel), List.mem_of_getElem? (i := 766) (by decide +kernel)⟩
theorem lw_p26 : lw_okq (⟨"DawnHouse$Values", "figure", "(III)J"⟩, 5) := ⟨⟨by decide +kernel, by decide +kernel⟩, List.mem_of_getElem? (i := 232) (by decide +kernel), List.mem_of_getElem? (i := 769) (by decide +kernel), List.mem_of_getElem? (i := 770) (by decide +kernel)⟩
theorem lw_p27 : lw_okq (⟨"DawnHouse$Values", "pop", "()J"⟩, 5) := ⟨⟨by decide +kernel, by decide +kernel⟩, List.mem_of_getElem? (i := 232) (by decide +kernel), List.mem_of_getElem? (i := 774) (by decide +kernel), List.mem_of_getElem? (i := 775) (by decide +kernel)⟩
theorem lw_p28 : lw_okq (⟨"DawnHouse$Forecast", "reckonSoonest", "([I)V"⟩, 15) := ⟨⟨by decide +kernel, by decide +kernel⟩, List.mem_of_getElem? (i := 355) (by decide +kernel), List.mem_of_getElem? (i := 796) (by decide +kernel), List.mem_of_getElem? (i := 797) (by decide +kernel)⟩
theorem lw_p29 : lw_okq (⟨"DawnHouse$Forecast", "openingOf", "(I[I)I"⟩, 15) := ⟨⟨by decide +kernel, by decide +kernel⟩, List.mem_of_getElem? (i := 355) (by decide +kernel), List.mem_of_getElem? (i := 800) (by decide +kernel), List.mem_of_getElem? (i := 801) (by decide +kernel)⟩
theorem lw_p30 : lw_okq (⟨"DawnHouse$Forecast", "partsOpening", "(I)I"⟩, 15) := ⟨⟨by decide +kernel, by decide +kernel⟩, List.mem_of_getElem? (i := 355) (by decide +kernel), List.mem_of_getElem? (i := 810) (by decide +kernel), List.mem_of_getElem? (i := 811) (by decide +kernel)⟩
theorem lw_p31 : lw_okq (⟨"DawnHouse$Forecast", "costOf", "(II)I"⟩, 15) := ⟨⟨by decide +kernel, by decide +kernel⟩, List.mem_of_getElem? (i := 355) (by decide +kernel), List.mem_of_getElem? (i := 814) (by decide +kernel), List.mem_of_getElem? (i := 815) (by decide +kernel)⟩
def lw_privs_2 : List (MethodName × Nat) := [(⟨"DawnHouse$Parser", "acceptOpening", "(I)V"⟩, 7), (⟨"DawnHouse$Parser", "parseInside", "(I)V"⟩, 7), (⟨"DawnHouse$Post", "offer", "(II)V"⟩, 8), (⟨"DawnHouse$Work", "beginAt", "(I)V"⟩, 13), (⟨"DawnHouse$Work", "firstReady", "()I"⟩, 13), (⟨"DawnHouse$Work", "isReady", "(I)Z"⟩, 13), (⟨"DawnHouse$Work", "workAt", "(I)V"⟩, 13), (⟨"DawnHouse$Work", "finish", "(I)V"⟩, 13), (⟨"DawnHouse$Values", "perform", "(III)V"⟩, 5), (⟨"DawnHouse$Values", "push", "(J)V"⟩, 5), (⟨"DawnHouse$Values", "figure", "(III)J"⟩, 5), (⟨"DawnHouse$Values", "pop", "()J"⟩, 5), (⟨"DawnHouse$Forecast", "reckonSoonest", "([I)V"⟩, 15), (⟨"DawnHouse$Forecast", "openingOf", "(I[I)I"⟩, 15), (⟨"DawnHouse$Forecast", "partsOpening", "(I)I"⟩, 15), (⟨"DawnHouse$Forecast", "costOf", "(II)I"⟩, 15)]
theorem lw_r2 : ∀ q ∈ lw_privs_2, lw_okq q := List.forall_mem_cons.mpr ⟨lw_p16, List.forall_mem_cons.mpr ⟨lw_p17, List.forall_mem_cons.mpr ⟨lw_p18, List.forall_mem_cons.mpr ⟨lw_p19, List.forall_mem_cons.mpr ⟨lw_p20, List.forall_mem_cons.mpr ⟨lw_p21, List.forall_mem_cons.mpr ⟨lw_p22, List.forall_mem_cons.mpr ⟨lw_p23, List.forall_mem_cons.mpr ⟨lw_p24, List.forall_mem_cons.mpr ⟨lw_p25, List.forall_mem_cons.mpr ⟨lw_p26, List.forall_mem_cons.mpr ⟨lw_p27, List.forall_mem_cons.mpr ⟨lw_p28, List.forall_mem_cons.mpr ⟨lw_p29, List.forall_mem_cons.mpr ⟨lw_p30, List.forall_mem_cons.mpr ⟨lw_p31, fun _ h => absurd h List.not_mem_nil⟩⟩⟩⟩⟩⟩⟩⟩⟩⟩⟩⟩⟩⟩⟩⟩
theorem lw_p32 : lw_okq (⟨"DawnHouse$Forecast", "queueByNumbers", "()V"⟩, 15) := ⟨⟨by decide +kernel, by decide +kernel⟩, List.mem_of_getElem? (i := 355) (by decide +kernel), List.mem_of_getElem? (i := 818) (by decide +kernel), List.mem_of_getElem? (i := 819) (by decide +kernel)⟩
theorem lw_p33 : lw_okq (⟨"DawnHouse$Forecast", "enqueue", "(I)V"⟩, 15) := ⟨⟨by decide +kernel, by decide +kernel⟩, List.mem_of_getElem? (i := 355) (by decide +kernel), List.mem_of_getElem? (i := 822) (by decide +kernel), List.mem_of_getElem? (i := 823) (by decide +kernel)⟩
theorem lw_p34 : lw_okq (⟨"DawnHouse$Forecast", "isWaiting", "(I)Z"⟩, 15) := ⟨⟨by decide +kernel, by decide +kernel⟩, List.mem_of_getElem? (i := 355) (by decide +kernel), List.mem_of_getElem? (i := 827) (by decide +kernel), List.mem_of_getElem? (i := 828) (by decide +kernel)⟩
theorem lw_p35 : lw_okq (⟨"DawnHouse$Forecast", "runAhead", "(I)V"⟩, 15) := ⟨⟨by decide +kernel, by decide +kernel⟩, List.mem_of_getElem? (i := 355) (by decide +kernel), List.mem_of_getElem? (i := 832) (by decide +kernel), List.mem_of_getElem? (i := 833) (by decide +kernel)⟩
theorem lw_p36 : lw_okq (⟨"DawnHouse$Forecast", "startRun", "()V"⟩, 15) := ⟨⟨by decide +kernel, by decide +kernel⟩, List.mem_of_getElem? (i := 355) (by decide +kernel), List.mem_of_getElem? (i := 836) (by decide +kernel), List.mem_of_getElem? (i := 837) (by decide +kernel)⟩
theorem lw_p37 : lw_okq (⟨"DawnHouse$Forecast", "isOpen", "(I)Z"⟩, 15) := ⟨⟨by decide +kernel, by decide +kernel⟩, List.mem_of_getElem? (i := 355) (by decide +kernel), List.mem_of_getElem? (i := 840) (by decide +kernel), List.mem_of_getElem? (i := 841) (by decide +kernel)⟩
theorem lw_p38 : lw_okq (⟨"DawnHouse$Forecast", "noteEnded", "(I)V"⟩, 15) := ⟨⟨by decide +kernel, by decide +kernel⟩, List.mem_of_getElem? (i := 355) (by decide +kernel), List.mem_of_getElem? (i := 850) (by decide +kernel), List.mem_of_getElem? (i := 851) (by decide +kernel)⟩
theorem lw_p39 : lw_okq (⟨"DawnHouse$Forecast", "beginFirst", "(II)V"⟩, 15) := ⟨⟨by decide +kernel, by decide +kernel⟩, List.mem_of_getElem? (i := 355) (by decide +kernel), List.mem_of_getElem? (i := 854) (by decide +kernel), List.mem_of_getElem? (i := 855) (by decide +kernel)⟩
theorem lw_p40 : lw_okq (⟨"DawnHouse$Forecast", "isReady", "(II)Z"⟩, 15) := ⟨⟨by decide +kernel, by decide +kernel⟩, List.mem_of_getElem? (i := 355) (by decide +kernel), List.mem_of_getElem? (i := 858) (by decide +kernel), List.mem_of_getElem? (i := 859) (by decide +kernel)⟩
theorem lw_p41 : lw_okq (⟨"DawnHouse$Forecast", "setEnd", "(II)V"⟩, 15) := ⟨⟨by decide +kernel, by decide +kernel⟩, List.mem_of_getElem? (i := 355) (by decide +kernel), List.mem_of_getElem? (i := 862) (by decide +kernel), List.mem_of_getElem? (i := 863) (by decide +kernel)⟩
theorem lw_p42 : lw_okq (⟨"DawnHouse$Forecast", "nextChange", "(I)I"⟩, 15) := ⟨⟨by decide +kernel, by decide +kernel⟩, List.mem_of_getElem? (i := 355) (by decide +kernel), List.mem_of_getElem? (i := 866) (by decide +kernel), List.mem_of_getElem? (i := 867) (by decide +kernel)⟩
theorem lw_p43 : lw_okq (⟨"DawnHouse$Forecast", "keepBest", "()V"⟩, 15) := ⟨⟨by decide +kernel, by decide +kernel⟩, List.mem_of_getElem? (i := 355) (by decide +kernel), List.mem_of_getElem? (i := 870) (by decide +kernel), List.mem_of_getElem? (i := 871) (by decide +kernel)⟩
theorem lw_p44 : lw_okq (⟨"DawnHouse$Forecast", "nextQueue", "()Z"⟩, 15) := ⟨⟨by decide +kernel, by decide +kernel⟩, List.mem_of_getElem? (i := 355) (by decide +kernel), List.mem_of_getElem? (i := 875) (by decide +kernel), List.mem_of_getElem? (i := 876) (by decide +kernel)⟩
theorem lw_p45 : lw_okq (⟨"DawnHouse$Forecast", "leastAbove", "(I)I"⟩, 15) := ⟨⟨by decide +kernel, by decide +kernel⟩, List.mem_of_getElem? (i := 355) (by decide +kernel), List.mem_of_getElem? (i := 879) (by decide +kernel), List.mem_of_getElem? (i := 880) (by decide +kernel)⟩
theorem lw_p46 : lw_okq (⟨"DawnHouse$Forecast", "sortBehind", "(I)V"⟩, 15) := ⟨⟨by decide +kernel, by decide +kernel⟩, List.mem_of_getElem? (i := 355) (by decide +kernel), List.mem_of_getElem? (i := 883) (by decide +kernel), List.mem_of_getElem? (i := 884) (by decide +kernel)⟩
theorem lw_p47 : lw_okq (⟨"DawnHouse$Forecast", "orderByBest", "()V"⟩, 15) := ⟨⟨by decide +kernel, by decide +kernel⟩, List.mem_of_getElem? (i := 355) (by decide +kernel), List.mem_of_getElem? (i := 887) (by decide +kernel), List.mem_of_getElem? (i := 888) (by decide +kernel)⟩
def lw_privs_3 : List (MethodName × Nat) := [(⟨"DawnHouse$Forecast", "queueByNumbers", "()V"⟩, 15), (⟨"DawnHouse$Forecast", "enqueue", "(I)V"⟩, 15), (⟨"DawnHouse$Forecast", "isWaiting", "(I)Z"⟩, 15), (⟨"DawnHouse$Forecast", "runAhead", "(I)V"⟩, 15), (⟨"DawnHouse$Forecast", "startRun", "()V"⟩, 15), (⟨"DawnHouse$Forecast", "isOpen", "(I)Z"⟩, 15), (⟨"DawnHouse$Forecast", "noteEnded", "(I)V"⟩, 15), (⟨"DawnHouse$Forecast", "beginFirst", "(II)V"⟩, 15), (⟨"DawnHouse$Forecast", "isReady", "(II)Z"⟩, 15), (⟨"DawnHouse$Forecast", "setEnd", "(II)V"⟩, 15), (⟨"DawnHouse$Forecast", "nextChange", "(I)I"⟩, 15), (⟨"DawnHouse$Forecast", "keepBest", "()V"⟩, 15), (⟨"DawnHouse$Forecast", "nextQueue", "()Z"⟩, 15), (⟨"DawnHouse$Forecast", "leastAbove", "(I)I"⟩, 15), (⟨"DawnHouse$Forecast", "sortBehind", "(I)V"⟩, 15), (⟨"DawnHouse$Forecast", "orderByBest", "()V"⟩, 15)]
theorem lw_r3 : ∀ q ∈ lw_privs_3, lw_okq q := List.forall_mem_cons.mpr ⟨lw_p32, List.forall_mem_cons.mpr ⟨lw_p33, List.forall_mem_cons.mpr ⟨lw_p34, List.forall_mem_cons.mpr ⟨lw_p35, List.forall_mem_cons.mpr ⟨lw_p36, List.forall_mem_cons.mpr ⟨lw_p37, List.forall_mem_cons.mpr ⟨lw_p38, List.forall_mem_cons.mpr ⟨lw_p39, List.forall_mem_cons.mpr ⟨lw_p40, List.forall_mem_cons.mpr ⟨lw_p41, List.forall_mem_cons.mpr ⟨lw_p42, List.forall_mem_cons.mpr ⟨lw_p43, List.forall_mem_cons.mpr ⟨lw_p44, List.forall_mem_cons.mpr ⟨lw_p45, List.forall_mem_cons.mpr ⟨lw_p46, List.forall_mem_cons.mpr ⟨lw_p47, fun _ h => absurd h List.not_mem_nil⟩⟩⟩⟩⟩⟩⟩⟩⟩⟩⟩⟩⟩⟩⟩⟩
theorem lw_p48 : lw_okq (⟨"DawnHouse$Forecast", "nextIdle", "(I)I"⟩, 15) := ⟨⟨by decide +kernel, by decide +kernel⟩, List.mem_of_getElem? (i := 355) (by decide +kernel), List.mem_of_getElem? (i := 891) (by decide +kernel), List.mem_of_getElem? (i := 892) (by decide +kernel)⟩
theorem lw_p49 : lw_okq (⟨"DawnHouse$Forecast", "fillQueue", "([I)V"⟩, 15) := ⟨⟨by decide +kernel, by decide +kernel⟩, List.mem_of_getElem? (i := 355) (by decide +kernel), List.mem_of_getElem? (i := 908) (by decide +kernel), List.mem_of_getElem? (i := 909) (by decide +kernel)⟩
theorem lw_p50 : lw_okq (⟨"DawnHouseModel", "put", "(I)V"⟩, 68) := ⟨⟨by decide +kernel, by decide +kernel⟩, List.mem_of_getElem? (i := 954) (by decide +kernel), List.mem_of_getElem? (i := 1179) (by decide +kernel), List.mem_of_getElem? (i := 1180) (by decide +kernel)⟩
theorem lw_p51 : lw_okq (⟨"DawnHouseModel", "cut", "()V"⟩, 68) := ⟨⟨by decide +kernel, by decide +kernel⟩, List.mem_of_getElem? (i := 954) (by decide +kernel), List.mem_of_getElem? (i := 1191) (by decide +kernel), List.mem_of_getElem? (i := 1192) (by decide +kernel)⟩
theorem lw_p52 : lw_okq (⟨"DawnHouseModel", "at", "(I)I"⟩, 68) := ⟨⟨by decide +kernel, by decide +kernel⟩, List.mem_of_getElem? (i := 954) (by decide +kernel), List.mem_of_getElem? (i := 1195) (by decide +kernel), List.mem_of_getElem? (i := 1196) (by decide +kernel)⟩
theorem lw_p53 : lw_okq (⟨"DawnHouseModel", "token", "(IIIJ)V"⟩, 68) := ⟨⟨by decide +kernel, by decide +kernel⟩, List.mem_of_getElem? (i := 954) (by decide +kernel), List.mem_of_getElem? (i := 1199) (by decide +kernel), List.mem_of_getElem? (i := 1200) (by decide +kernel)⟩
theorem lw_p54 : lw_okq (⟨"DawnHouseModel", "is", "(I)Z"⟩, 68) := ⟨⟨by decide +kernel, by decide +kernel⟩, List.mem_of_getElem? (i := 954) (by decide +kernel), List.mem_of_getElem? (i := 1206) (by decide +kernel), List.mem_of_getElem? (i := 1207) (by decide +kernel)⟩
theorem lw_p55 : lw_okq (⟨"DawnHouseModel", "tell", "()V"⟩, 68) := ⟨⟨by decide +kernel, by decide +kernel⟩, List.mem_of_getElem? (i := 954) (by decide +kernel), List.mem_of_getElem? (i := 1210) (by decide +kernel), List.mem_of_getElem? (i := 1211) (by decide +kernel)⟩
theorem lw_p56 : lw_okq (⟨"DawnHouseModel", "fail", "(I)V"⟩, 68) := ⟨⟨by decide +kernel, by decide +kernel⟩, List.mem_of_getElem? (i := 954) (by decide +kernel), List.mem_of_getElem? (i := 1214) (by decide +kernel), List.mem_of_getElem? (i := 1215) (by decide +kernel)⟩
theorem lw_p57 : lw_okq (⟨"DawnHouseModel", "next", "()V"⟩, 68) := ⟨⟨by decide +kernel, by decide +kernel⟩, List.mem_of_getElem? (i := 954) (by decide +kernel), List.mem_of_getElem? (i := 1218) (by decide +kernel), List.mem_of_getElem? (i := 1219) (by decide +kernel)⟩
theorem lw_p58 : lw_okq (⟨"DawnHouseModel", "must", "(I)V"⟩, 68) := ⟨⟨by decide +kernel, by decide +kernel⟩, List.mem_of_getElem? (i := 954) (by decide +kernel), List.mem_of_getElem? (i := 1222) (by decide +kernel), List.mem_of_getElem? (i := 1223) (by decide +kernel)⟩
theorem lw_p59 : lw_okq (⟨"DawnHouseModel", "inRange", "(II)I"⟩, 68) := ⟨⟨by decide +kernel, by decide +kernel⟩, List.mem_of_getElem? (i := 954) (by decide +kernel), List.mem_of_getElem? (i := 1226) (by decide +kernel), List.mem_of_getElem? (i := 1227) (by decide +kernel)⟩
theorem lw_p60 : lw_okq (⟨"DawnHouseModel", "wrong", "(II)V"⟩, 68) := ⟨⟨by decide +kernel, by decide +kernel⟩, List.mem_of_getElem? (i := 954) (by decide +kernel), List.mem_of_getElem? (i := 1230) (by decide +kernel), List.mem_of_getElem? (i := 1231) (by decide +kernel)⟩
theorem lw_p61 : lw_okq (⟨"DawnHouseModel", "expression", "()V"⟩, 68) := ⟨⟨by decide +kernel, by decide +kernel⟩, List.mem_of_getElem? (i := 954) (by decide +kernel), List.mem_of_getElem? (i := 1234) (by decide +kernel), List.mem_of_getElem? (i := 1235) (by decide +kernel)⟩
theorem lw_p62 : lw_okq (⟨"DawnHouseModel", "opens", "(I)V"⟩, 68) := ⟨⟨by decide +kernel, by decide +kernel⟩, List.mem_of_getElem? (i := 954) (by decide +kernel), List.mem_of_getElem? (i := 1238) (by decide +kernel), List.mem_of_getElem? (i := 1239) (by decide +kernel)⟩
theorem lw_p63 : lw_okq (⟨"DawnHouseModel", "ofTable", "()V"⟩, 68) := ⟨⟨by decide +kernel, by decide +kernel⟩, List.mem_of_getElem? (i := 954) (by decide +kernel), List.mem_of_getElem? (i := 1242) (by decide +kernel), List.mem_of_getElem? (i := 1243) (by decide +kernel)⟩
def lw_privs_4 : List (MethodName × Nat) := [(⟨"DawnHouse$Forecast", "nextIdle", "(I)I"⟩, 15), (⟨"DawnHouse$Forecast", "fillQueue", "([I)V"⟩, 15), (⟨"DawnHouseModel", "put", "(I)V"⟩, 68), (⟨"DawnHouseModel", "cut", "()V"⟩, 68), (⟨"DawnHouseModel", "at", "(I)I"⟩, 68), (⟨"DawnHouseModel", "token", "(IIIJ)V"⟩, 68), (⟨"DawnHouseModel", "is", "(I)Z"⟩, 68), (⟨"DawnHouseModel", "tell", "()V"⟩, 68), (⟨"DawnHouseModel", "fail", "(I)V"⟩, 68), (⟨"DawnHouseModel", "next", "()V"⟩, 68), (⟨"DawnHouseModel", "must", "(I)V"⟩, 68), (⟨"DawnHouseModel", "inRange", "(II)I"⟩, 68), (⟨"DawnHouseModel", "wrong", "(II)V"⟩, 68), (⟨"DawnHouseModel", "expression", "()V"⟩, 68), (⟨"DawnHouseModel", "opens", "(I)V"⟩, 68), (⟨"DawnHouseModel", "ofTable", "()V"⟩, 68)]
theorem lw_r4 : ∀ q ∈ lw_privs_4, lw_okq q := List.forall_mem_cons.mpr ⟨lw_p48, List.forall_mem_cons.mpr ⟨lw_p49, List.forall_mem_cons.mpr ⟨lw_p50, List.forall_mem_cons.mpr ⟨lw_p51, List.forall_mem_cons.mpr ⟨lw_p52, List.forall_mem_cons.mpr ⟨lw_p53, List.forall_mem_cons.mpr ⟨lw_p54, List.forall_mem_cons.mpr ⟨lw_p55, List.forall_mem_cons.mpr ⟨lw_p56, List.forall_mem_cons.mpr ⟨lw_p57, List.forall_mem_cons.mpr ⟨lw_p58, List.forall_mem_cons.mpr ⟨lw_p59, List.forall_mem_cons.mpr ⟨lw_p60, List.forall_mem_cons.mpr ⟨lw_p61, List.forall_mem_cons.mpr ⟨lw_p62, List.forall_mem_cons.mpr ⟨lw_p63, fun _ h => absurd h List.not_mem_nil⟩⟩⟩⟩⟩⟩⟩⟩⟩⟩⟩⟩⟩⟩⟩⟩
theorem lw_p64 : lw_okq (⟨"DawnHouseModel", "emit", "(II)V"⟩, 68) := ⟨⟨by decide +kernel, by decide +kernel⟩, List.mem_of_getElem? (i := 954) (by decide +kernel), List.mem_of_getElem? (i := 1246) (by decide +kernel), List.mem_of_getElem? (i := 1247) (by decide +kernel)⟩
theorem lw_p65 : lw_okq (⟨"DawnHouseModel", "named", "(I)V"⟩, 68) := ⟨⟨by decide +kernel, by decide +kernel⟩, List.mem_of_getElem? (i := 954) (by decide +kernel), List.mem_of_getElem? (i := 1250) (by decide +kernel), List.mem_of_getElem? (i := 1251) (by decide +kernel)⟩
theorem lw_p66 : lw_okq (⟨"DawnHouseModel", "inner", "()I"⟩, 68) := ⟨⟨by decide +kernel, by decide +kernel⟩, List.mem_of_getElem? (i := 954) (by decide +kernel), List.mem_of_getElem? (i := 1254) (by decide +kernel), List.mem_of_getElem? (i := 1255) (by decide +kernel)⟩
theorem lw_p67 : lw_okq (⟨"DawnHouseModel", "comesOut", "(Z)V"⟩, 68) := ⟨⟨by decide +kernel, by decide +kernel⟩, List.mem_of_getElem? (i := 954) (by decide +kernel), List.mem_of_getElem? (i := 1258) (by decide +kernel), List.mem_of_getElem? (i := 1259) (by decide +kernel)⟩
theorem lw_p68 : lw_okq (⟨"DawnHouseModel", "isReader", "(I)Z"⟩, 68) := ⟨⟨by decide +kernel, by decide +kernel⟩, List.mem_of_getElem? (i := 954) (by decide +kernel), List.mem_of_getElem? (i := 1289) (by decide +kernel), List.mem_of_getElem? (i := 1290) (by decide +kernel)⟩
theorem lw_p69 : lw_okq (⟨"DawnHouseModel", "sends", "(II)V"⟩, 68) := ⟨⟨by decide +kernel, by decide +kernel⟩, List.mem_of_getElem? (i := 954) (by decide +kernel), List.mem_of_getElem? (i := 1297) (by decide +kernel), List.mem_of_getElem? (i := 1298) (by decide +kernel)⟩
theorem lw_p70 : lw_okq (⟨"DawnHouseModel", "isStep", "(I)Z"⟩, 68) := ⟨⟨by decide +kernel, by decide +kernel⟩, List.mem_of_getElem? (i := 954) (by decide +kernel), List.mem_of_getElem? (i := 1305) (by decide +kernel), List.mem_of_getElem? (i := 1306) (by decide +kernel)⟩
theorem lw_p71 : lw_okq (⟨"DawnHouseModel", "isReady", "(I)Z"⟩, 68) := ⟨⟨by decide +kernel, by decide +kernel⟩, List.mem_of_getElem? (i := 954) (by decide +kernel), List.mem_of_getElem? (i := 1317) (by decide +kernel), List.mem_of_getElem? (i := 1318) (by decide +kernel)⟩
theorem lw_p72 : lw_okq (⟨"DawnHouseModel", "isAtHost", "(I)Z"⟩, 68) := ⟨⟨by decide +kernel, by decide +kernel⟩, List.mem_of_getElem? (i := 954) (by decide +kernel), List.mem_of_getElem? (i := 1321) (by decide +kernel), List.mem_of_getElem? (i := 1322) (by decide +kernel)⟩
theorem lw_p73 : lw_okq (⟨"DawnHouseModel", "works", "(I)V"⟩, 68) := ⟨⟨by decide +kernel, by decide +kernel⟩, List.mem_of_getElem? (i := 954) (by decide +kernel), List.mem_of_getElem? (i := 1325) (by decide +kernel), List.mem_of_getElem? (i := 1326) (by decide +kernel)⟩
theorem lw_p74 : lw_okq (⟨"DawnHouseModel", "put", "(III)V"⟩, 68) := ⟨⟨by decide +kernel, by decide +kernel⟩, List.mem_of_getElem? (i := 954) (by decide +kernel), List.mem_of_getElem? (i := 1329) (by decide +kernel), List.mem_of_getElem? (i := 1330) (by decide +kernel)⟩
theorem lw_p75 : lw_okq (⟨"DawnHouseModel", "ofRows", "(III)J"⟩, 68) := ⟨⟨by decide +kernel, by decide +kernel⟩, List.mem_of_getElem? (i := 954) (by decide +kernel), List.mem_of_getElem? (i := 1333) (by decide +kernel), List.mem_of_getElem? (i := 1334) (by decide +kernel)⟩
theorem lw_p76 : lw_okq (⟨"DawnHouseModel", "foresees", "()V"⟩, 68) := ⟨⟨by decide +kernel, by decide +kernel⟩, List.mem_of_getElem? (i := 954) (by decide +kernel), List.mem_of_getElem? (i := 1341) (by decide +kernel), List.mem_of_getElem? (i := 1342) (by decide +kernel)⟩
theorem lw_p77 : lw_okq (⟨"DawnHouseModel", "lands", "(Z)V"⟩, 68) := ⟨⟨by decide +kernel, by decide +kernel⟩, List.mem_of_getElem? (i := 954) (by decide +kernel), List.mem_of_getElem? (i := 1345) (by decide +kernel), List.mem_of_getElem? (i := 1346) (by decide +kernel)⟩
theorem lw_p78 : lw_okq (⟨"DawnHouseModel", "mayBegin", "(II)Z"⟩, 68) := ⟨⟨by decide +kernel, by decide +kernel⟩, List.mem_of_getElem? (i := 954) (by decide +kernel), List.mem_of_getElem? (i := 1349) (by decide +kernel), List.mem_of_getElem? (i := 1350) (by decide +kernel)⟩
theorem lw_p79 : lw_okq (⟨"DawnHouseModel", "landsBehind", "(I)I"⟩, 68) := ⟨⟨by decide +kernel, by decide +kernel⟩, List.mem_of_getElem? (i := 954) (by decide +kernel), List.mem_of_getElem? (i := 1353) (by decide +kernel), List.mem_of_getElem? (i := 1354) (by decide +kernel)⟩
def lw_privs_5 : List (MethodName × Nat) := [(⟨"DawnHouseModel", "emit", "(II)V"⟩, 68), (⟨"DawnHouseModel", "named", "(I)V"⟩, 68), (⟨"DawnHouseModel", "inner", "()I"⟩, 68), (⟨"DawnHouseModel", "comesOut", "(Z)V"⟩, 68), (⟨"DawnHouseModel", "isReader", "(I)Z"⟩, 68), (⟨"DawnHouseModel", "sends", "(II)V"⟩, 68), (⟨"DawnHouseModel", "isStep", "(I)Z"⟩, 68), (⟨"DawnHouseModel", "isReady", "(I)Z"⟩, 68), (⟨"DawnHouseModel", "isAtHost", "(I)Z"⟩, 68), (⟨"DawnHouseModel", "works", "(I)V"⟩, 68), (⟨"DawnHouseModel", "put", "(III)V"⟩, 68), (⟨"DawnHouseModel", "ofRows", "(III)J"⟩, 68), (⟨"DawnHouseModel", "foresees", "()V"⟩, 68), (⟨"DawnHouseModel", "lands", "(Z)V"⟩, 68), (⟨"DawnHouseModel", "mayBegin", "(II)Z"⟩, 68), (⟨"DawnHouseModel", "landsBehind", "(I)I"⟩, 68)]
theorem lw_r5 : ∀ q ∈ lw_privs_5, lw_okq q := List.forall_mem_cons.mpr ⟨lw_p64, List.forall_mem_cons.mpr ⟨lw_p65, List.forall_mem_cons.mpr ⟨lw_p66, List.forall_mem_cons.mpr ⟨lw_p67, List.forall_mem_cons.mpr ⟨lw_p68, List.forall_mem_cons.mpr ⟨lw_p69, List.forall_mem_cons.mpr ⟨lw_p70, List.forall_mem_cons.mpr ⟨lw_p71, List.forall_mem_cons.mpr ⟨lw_p72, List.forall_mem_cons.mpr ⟨lw_p73, List.forall_mem_cons.mpr ⟨lw_p74, List.forall_mem_cons.mpr ⟨lw_p75, List.forall_mem_cons.mpr ⟨lw_p76, List.forall_mem_cons.mpr ⟨lw_p77, List.forall_mem_cons.mpr ⟨lw_p78, List.forall_mem_cons.mpr ⟨lw_p79, fun _ h => absurd h List.not_mem_nil⟩⟩⟩⟩⟩⟩⟩⟩⟩⟩⟩⟩⟩⟩⟩⟩
theorem lw_p80 : lw_okq (⟨"DawnHouseModel", "lates", "()I"⟩, 68) := ⟨⟨by decide +kernel, by decide +kernel⟩, List.mem_of_getElem? (i := 954) (by decide +kernel), List.mem_of_getElem? (i := 1357) (by decide +kernel), List.mem_of_getElem? (i := 1358) (by decide +kernel)⟩
theorem lw_p81 : lw_okq (⟨"DawnHouseModel", "nextRow", "(I)Z"⟩, 68) := ⟨⟨by decide +kernel, by decide +kernel⟩, List.mem_of_getElem? (i := 954) (by decide +kernel), List.mem_of_getElem? (i := 1361) (by decide +kernel), List.mem_of_getElem? (i := 1362) (by decide +kernel)⟩
def lw_privs_6 : List (MethodName × Nat) := [(⟨"DawnHouseModel", "lates", "()I"⟩, 68), (⟨"DawnHouseModel", "nextRow", "(I)Z"⟩, 68)]
theorem lw_r6 : ∀ q ∈ lw_privs_6, lw_okq q := List.forall_mem_cons.mpr ⟨lw_p80, List.forall_mem_cons.mpr ⟨lw_p81, fun _ h => absurd h List.not_mem_nil⟩⟩
def lw_privs : List (MethodName × Nat) := lw_privs_1 ++ (lw_privs_2 ++ (lw_privs_3 ++ (lw_privs_4 ++ (lw_privs_5 ++ (lw_privs_6)))))
def lw_tbl : List Cond := k2_sels lw_privs ++ tables_1
theorem lw_privs_ok : ∀ q ∈ lw_privs, lw_okq q := by
  show ∀ q ∈ lw_privs_1 ++ (lw_privs_2 ++ (lw_privs_3 ++ (lw_privs_4 ++ (lw_privs_5 ++ (lw_privs_6))))), lw_okq q
  exact List.forall_mem_append.mpr ⟨lw_r1, List.forall_mem_append.mpr ⟨lw_r2, List.forall_mem_append.mpr ⟨lw_r3, List.forall_mem_append.mpr ⟨lw_r4, List.forall_mem_append.mpr ⟨lw_r5, lw_r6⟩⟩⟩⟩⟩
/-! ===== BEGIN words of one list among another's, by their places ===== -/
theorem goodIn_r {big : List Cond} (ws : List Cond) (ps : List Nat) (hp : ws = ps.filterMap (fun i => big[i]?)) (h : ws.all goodWord = true) : GoodIn big ws := by
  intro w hw
  have h1 := List.all_eq_true.mp h w hw
  rw [hp] at hw
  obtain ⟨i, -, hi⟩ := List.mem_filterMap.mp hw
  have hm : w ∈ big := by first | exact List.mem_of_getElem? hi | exact List.getElem?_mem hi
  exact ⟨hm, good_of_word h1⟩
theorem goodIn_app {big a b : List Cond} (ha : GoodIn big a) (hb : GoodIn big b) : GoodIn big (a ++ b) := fun w h => (List.mem_append.mp h).elim (ha w) (hb w)
theorem goodIn_ca {big a b : List Cond} {c : Cond} (ha : GoodIn big (c :: a)) (hb : GoodIn big b) : GoodIn big (c :: (a ++ b)) := fun w h => (List.mem_cons.mp h).elim (fun e => ha w (List.mem_cons.mpr (Or.inl e))) (fun h => (List.mem_append.mp h).elim (fun h => ha w (List.mem_cons.mpr (Or.inr h))) (hb w))
theorem goodIn_sub {big ws : List Cond} (hm : ∀ w ∈ ws, w ∈ big) (h : ws.all goodWord = true) : GoodIn big ws := fun w hw => ⟨hm w hw, good_of_word (List.all_eq_true.mp h w hw)⟩
/-! ===== END ===== -/

/-! ===== BEGIN printed: names, fields, word lists, decode rows ===== -/
def RX0 : String := "DawnHouse$Figures"
def TX0 : u_T := fun k => match k with
  | 0 => ("DawnHouse$Figures", "sums", "[J", true)
  | 1 => ("DawnHouse$Figures", "counts", "[J", true)
  | _ => ("DawnHouse$Figures", "mosts", "[J", true)
def tyX0 : Nat → FieldType := fun k => match k with
  | 0 => .array .long
  | 1 => .array .long
  | _ => .array .long
abbrev wsX00 : List Cond := u_ws RX0 TX0 3
theorem nmX0 : ∀ a, a < 3 → ∀ b, b < 3 → a ≠ b → (TX0 a).2.1 ≠ (TX0 b).2.1 := by decide +kernel
theorem tyX0_ok : ∀ k, k < 3 → parseFieldDescriptor (TX0 k).2.2.1 = some (tyX0 k) := by decide +kernel
abbrev cX0_init : ByteArray := prog_2_method_1_code
def yX0_init : MethodName := ⟨RX0, "<init>", "()V"⟩
abbrev cX0_add : ByteArray := prog_2_method_2_code
def yX0_add : MethodName := ⟨RX0, "add", "(III)V"⟩
abbrev cX0_moveFrom : ByteArray := prog_2_method_3_code
def yX0_moveFrom : MethodName := ⟨RX0, "moveFrom", "(LDawnHouse$Figures;I)V"⟩
def RX1 : String := "DawnHouse$Forecast"
def TX1 : u_T := fun k => match k with
  | 0 => ("DawnHouse$Forecast", "script", "LDawnHouse$Script;", true)
  | 1 => ("DawnHouse$Forecast", "tables", "LDawnHouse$Tables;", true)
  | 2 => ("DawnHouse$Forecast", "work", "LDawnHouse$Work;", true)
  | 3 => ("DawnHouse$Forecast", "opensAt", "[I", true)
  | 4 => ("DawnHouse$Forecast", "soonest", "[I", true)
  | 5 => ("DawnHouse$Forecast", "ends", "[I", true)
  | 6 => ("DawnHouse$Forecast", "freeAt", "[I", true)
  | 7 => ("DawnHouse$Forecast", "queue", "[I", true)
  | 8 => ("DawnHouse$Forecast", "best", "[I", true)
  | 9 => ("DawnHouse$Forecast", "waiting", "I", false)
  | 10 => ("DawnHouse$Forecast", "begunBits", "I", false)
  | 11 => ("DawnHouse$Forecast", "endedBits", "I", false)
  | 12 => ("DawnHouse$Forecast", "floor", "I", false)
  | 13 => ("DawnHouse$Forecast", "cost", "I", false)
  | _ => ("DawnHouse$Forecast", "decisive", "I", false)
def tyX1 : Nat → FieldType := fun k => match k with
  | 0 => .object "DawnHouse$Script"
  | 1 => .object "DawnHouse$Tables"
  | 2 => .object "DawnHouse$Work"
  | 3 => .array .int
  | 4 => .array .int
  | 5 => .array .int
  | 6 => .array .int
  | 7 => .array .int
  | 8 => .array .int
  | 9 => .int
  | 10 => .int
  | 11 => .int
  | 12 => .int
  | 13 => .int
  | _ => .int
abbrev wsX10 : List Cond := u_ws RX1 TX1 15
theorem nmX1 : ∀ a, a < 15 → ∀ b, b < 15 → a ≠ b → (TX1 a).2.1 ≠ (TX1 b).2.1 := by decide +kernel
theorem tyX1_ok : ∀ k, k < 15 → parseFieldDescriptor (TX1 k).2.2.1 = some (tyX1 k) := by decide +kernel
abbrev cX1_init : ByteArray := prog_3_method_1_code
def yX1_init : MethodName := ⟨RX1, "<init>", "(LDawnHouse$Script;LDawnHouse$Tables;LDawnHouse$Work;)V"⟩
abbrev cX1_soonestEndOf : ByteArray := prog_3_method_2_code
def yX1_soonestEndOf : MethodName := ⟨RX1, "soonestEndOf", "(I)I"⟩
abbrev cX1_endOf : ByteArray := prog_3_method_3_code
def yX1_endOf : MethodName := ⟨RX1, "endOf", "(I)I"⟩
abbrev cX1_findBest : ByteArray := prog_3_method_4_code
def yX1_findBest : MethodName := ⟨RX1, "findBest", "()I"⟩
abbrev cX1_reckonSoonest : ByteArray := prog_3_method_5_code
def yX1_reckonSoonest : MethodName := ⟨RX1, "reckonSoonest", "([I)V"⟩
abbrev cX1_openingOf : ByteArray := prog_3_method_6_code
def yX1_openingOf : MethodName := ⟨RX1, "openingOf", "(I[I)I"⟩
abbrev cX1_partsOpening : ByteArray := prog_3_method_7_code
def yX1_partsOpening : MethodName := ⟨RX1, "partsOpening", "(I)I"⟩
abbrev cX1_queueByNumbers : ByteArray := prog_3_method_8_code
def yX1_queueByNumbers : MethodName := ⟨RX1, "queueByNumbers", "()V"⟩
abbrev cX1_fillQueue : ByteArray := prog_3_method_9_code
def yX1_fillQueue : MethodName := ⟨RX1, "fillQueue", "([I)V"⟩
abbrev cX1_enqueue : ByteArray := prog_3_method_10_code
def yX1_enqueue : MethodName := ⟨RX1, "enqueue", "(I)V"⟩
abbrev cX1_isWaiting : ByteArray := prog_3_method_11_code
def yX1_isWaiting : MethodName := ⟨RX1, "isWaiting", "(I)Z"⟩
abbrev cX1_costOf : ByteArray := prog_3_method_12_code
def yX1_costOf : MethodName := ⟨RX1, "costOf", "(II)I"⟩
abbrev cX1_runAhead : ByteArray := prog_3_method_13_code
def yX1_runAhead : MethodName := ⟨RX1, "runAhead", "(I)V"⟩
abbrev cX1_isOpen : ByteArray := prog_3_method_14_code
def yX1_isOpen : MethodName := ⟨RX1, "isOpen", "(I)Z"⟩
abbrev cX1_startRun : ByteArray := prog_3_method_15_code
def yX1_startRun : MethodName := ⟨RX1, "startRun", "()V"⟩
abbrev cX1_noteEnded : ByteArray := prog_3_method_16_code
def yX1_noteEnded : MethodName := ⟨RX1, "noteEnded", "(I)V"⟩
abbrev cX1_nextChange : ByteArray := prog_3_method_17_code
def yX1_nextChange : MethodName := ⟨RX1, "nextChange", "(I)I"⟩
abbrev cX1_beginFirst : ByteArray := prog_3_method_18_code
def yX1_beginFirst : MethodName := ⟨RX1, "beginFirst", "(II)V"⟩
abbrev cX1_isReady : ByteArray := prog_3_method_19_code
def yX1_isReady : MethodName := ⟨RX1, "isReady", "(II)Z"⟩
abbrev cX1_setEnd : ByteArray := prog_3_method_20_code
def yX1_setEnd : MethodName := ⟨RX1, "setEnd", "(II)V"⟩
abbrev cX1_keepBest : ByteArray := prog_3_method_21_code
def yX1_keepBest : MethodName := ⟨RX1, "keepBest", "()V"⟩
abbrev cX1_nextQueue : ByteArray := prog_3_method_22_code
def yX1_nextQueue : MethodName := ⟨RX1, "nextQueue", "()Z"⟩
abbrev cX1_leastAbove : ByteArray := prog_3_method_23_code
def yX1_leastAbove : MethodName := ⟨RX1, "leastAbove", "(I)I"⟩
abbrev cX1_sortBehind : ByteArray := prog_3_method_24_code
def yX1_sortBehind : MethodName := ⟨RX1, "sortBehind", "(I)V"⟩
abbrev cX1_orderByBest : ByteArray := prog_3_method_25_code
def yX1_orderByBest : MethodName := ⟨RX1, "orderByBest", "()V"⟩
abbrev cX1_nextIdle : ByteArray := prog_3_method_26_code
def yX1_nextIdle : MethodName := ⟨RX1, "nextIdle", "(I)I"⟩
def RX2 : String := "DawnHouse$Parser"
def TX2 : u_T := fun k => match k with
  | 0 => ("DawnHouse$Parser", "draft", "LDawnHouse$Script;", true)
  | 1 => ("DawnHouse$Parser", "fault", "I", false)
  | 2 => ("DawnHouse$Parser", "faultPlace", "I", false)
  | 3 => ("DawnHouse$Parser", "tokens", "LDawnHouse$Tokens;", true)
  | 4 => ("DawnHouse$Parser", "at", "I", false)
  | 5 => ("DawnHouse$Parser", "senseFault", "I", false)
  | _ => ("DawnHouse$Parser", "sensePlace", "I", false)
def tyX2 : Nat → FieldType := fun k => match k with
  | 0 => .object "DawnHouse$Script"
  | 1 => .int
  | 2 => .int
  | 3 => .object "DawnHouse$Tokens"
  | 4 => .int
  | 5 => .int
  | _ => .int
abbrev wsX20 : List Cond := u_ws RX2 TX2 7
theorem nmX2 : ∀ a, a < 7 → ∀ b, b < 7 → a ≠ b → (TX2 a).2.1 ≠ (TX2 b).2.1 := by decide +kernel
theorem tyX2_ok : ∀ k, k < 7 → parseFieldDescriptor (TX2 k).2.2.1 = some (tyX2 k) := by decide +kernel
abbrev cX2_init : ByteArray := prog_4_method_1_code
def yX2_init : MethodName := ⟨RX2, "<init>", "(LDawnHouse$Tokens;LDawnHouse$Script;)V"⟩
abbrev cX2_parseText : ByteArray := prog_4_method_2_code
def yX2_parseText : MethodName := ⟨RX2, "parseText", "()V"⟩
abbrev cX2_parseStep : ByteArray := prog_4_method_3_code
def yX2_parseStep : MethodName := ⟨RX2, "parseStep", "()V"⟩
abbrev cX2_parseHead : ByteArray := prog_4_method_4_code
def yX2_parseHead : MethodName := ⟨RX2, "parseHead", "(IZ)V"⟩
abbrev cX2_parseSum : ByteArray := prog_4_method_5_code
def yX2_parseSum : MethodName := ⟨RX2, "parseSum", "(I)V"⟩
abbrev cX2_parseProduct : ByteArray := prog_4_method_6_code
def yX2_parseProduct : MethodName := ⟨RX2, "parseProduct", "(I)V"⟩
abbrev cX2_parseUnit : ByteArray := prog_4_method_7_code
def yX2_parseUnit : MethodName := ⟨RX2, "parseUnit", "(I)V"⟩
abbrev cX2_parseInside : ByteArray := prog_4_method_8_code
def yX2_parseInside : MethodName := ⟨RX2, "parseInside", "(I)V"⟩
abbrev cX2_acceptOpening : ByteArray := prog_4_method_9_code
def yX2_acceptOpening : MethodName := ⟨RX2, "acceptOpening", "(I)V"⟩
abbrev cX2_acceptPart : ByteArray := prog_4_method_10_code
def yX2_acceptPart : MethodName := ⟨RX2, "acceptPart", "()I"⟩
abbrev cX2_acceptNewName : ByteArray := prog_4_method_11_code
def yX2_acceptNewName : MethodName := ⟨RX2, "acceptNewName", "()J"⟩
abbrev cX2_acceptInt : ByteArray := prog_4_method_12_code
def yX2_acceptInt : MethodName := ⟨RX2, "acceptInt", "(II)I"⟩
abbrev cX2_peek : ByteArray := prog_4_method_13_code
def yX2_peek : MethodName := ⟨RX2, "peek", "()I"⟩
abbrev cX2_accept : ByteArray := prog_4_method_14_code
def yX2_accept : MethodName := ⟨RX2, "accept", "(I)V"⟩
abbrev cX2_fail : ByteArray := prog_4_method_15_code
def yX2_fail : MethodName := ⟨RX2, "fail", "(I)V"⟩
abbrev cX2_noteSense : ByteArray := prog_4_method_16_code
def yX2_noteSense : MethodName := ⟨RX2, "noteSense", "(I)V"⟩
def RX3 : String := "DawnHouse$Post"
def TX3 : u_T := fun k => match k with
  | 0 => ("DawnHouse$Post", "readers", "I", false)
  | 1 => ("DawnHouse$Post", "heldBits", "I", false)
  | 2 => ("DawnHouse$Post", "allMarks", "I", false)
  | 3 => ("DawnHouse$Post", "rights", "[I", true)
  | 4 => ("DawnHouse$Post", "readBy", "[I", true)
  | 5 => ("DawnHouse$Post", "marksOf", "[I", true)
  | 6 => ("DawnHouse$Post", "last", "[J", true)
  | _ => ("DawnHouse$Post", "values", "LDawnHouse$Values;", true)
def tyX3 : Nat → FieldType := fun k => match k with
  | 0 => .int
  | 1 => .int
  | 2 => .int
  | 3 => .array .int
  | 4 => .array .int
  | 5 => .array .int
  | 6 => .array .long
  | _ => .object "DawnHouse$Values"
abbrev wsX30 : List Cond := u_ws RX3 TX3 8
theorem nmX3 : ∀ a, a < 8 → ∀ b, b < 8 → a ≠ b → (TX3 a).2.1 ≠ (TX3 b).2.1 := by decide +kernel
theorem tyX3_ok : ∀ k, k < 8 → parseFieldDescriptor (TX3 k).2.2.1 = some (tyX3 k) := by decide +kernel
abbrev cX3_init : ByteArray := prog_5_method_1_code
def yX3_init : MethodName := ⟨RX3, "<init>", "(LDawnHouse$Values;)V"⟩
abbrev cX3_cell : ByteArray := prog_5_method_2_code
def yX3_cell : MethodName := ⟨RX3, "cell", "(II)I"⟩
abbrev cX3_hasReader : ByteArray := prog_5_method_3_code
def yX3_hasReader : MethodName := ⟨RX3, "hasReader", "(I)Z"⟩
abbrev cX3_isHeld : ByteArray := prog_5_method_4_code
def yX3_isHeld : MethodName := ⟨RX3, "isHeld", "(I)Z"⟩
abbrev cX3_isRead : ByteArray := prog_5_method_5_code
def yX3_isRead : MethodName := ⟨RX3, "isRead", "(II)Z"⟩
abbrev cX3_addReader : ByteArray := prog_5_method_6_code
def yX3_addReader : MethodName := ⟨RX3, "addReader", "(I)I"⟩
abbrev cX3_startAnew : ByteArray := prog_5_method_7_code
def yX3_startAnew : MethodName := ⟨RX3, "startAnew", "()V"⟩
abbrev cX3_deliver : ByteArray := prog_5_method_8_code
def yX3_deliver : MethodName := ⟨RX3, "deliver", "(I)V"⟩
abbrev cX3_catchUp : ByteArray := prog_5_method_9_code
def yX3_catchUp : MethodName := ⟨RX3, "catchUp", "(II)V"⟩
abbrev cX3_offer : ByteArray := prog_5_method_10_code
def yX3_offer : MethodName := ⟨RX3, "offer", "(II)V"⟩
abbrev cX3_sumOfLast : ByteArray := prog_5_method_11_code
def yX3_sumOfLast : MethodName := ⟨RX3, "sumOfLast", "(II)J"⟩
def RX4 : String := "DawnHouse$Script"
def TX4 : u_T := fun k => match k with
  | 0 => ("DawnHouse$Script", "steps", "I", false)
  | 1 => ("DawnHouse$Script", "reportBits", "I", false)
  | 2 => ("DawnHouse$Script", "names", "[J", true)
  | 3 => ("DawnHouse$Script", "takes", "[I", true)
  | 4 => ("DawnHouse$Script", "due", "[I", true)
  | 5 => ("DawnHouse$Script", "weight", "[I", true)
  | 6 => ("DawnHouse$Script", "ownTables", "[I", true)
  | 7 => ("DawnHouse$Script", "ownParts", "[I", true)
  | 8 => ("DawnHouse$Script", "allTables", "[I", true)
  | 9 => ("DawnHouse$Script", "codeEnds", "[I", true)
  | 10 => ("DawnHouse$Script", "works", "[I", true)
  | 11 => ("DawnHouse$Script", "operands", "[I", true)
  | _ => ("DawnHouse$Script", "codeLength", "I", false)
def tyX4 : Nat → FieldType := fun k => match k with
  | 0 => .int
  | 1 => .int
  | 2 => .array .long
  | 3 => .array .int
  | 4 => .array .int
  | 5 => .array .int
  | 6 => .array .int
  | 7 => .array .int
  | 8 => .array .int
  | 9 => .array .int
  | 10 => .array .int
  | 11 => .array .int
  | _ => .int
abbrev wsX40 : List Cond := u_ws RX4 TX4 13
theorem nmX4 : ∀ a, a < 13 → ∀ b, b < 13 → a ≠ b → (TX4 a).2.1 ≠ (TX4 b).2.1 := by decide +kernel
theorem tyX4_ok : ∀ k, k < 13 → parseFieldDescriptor (TX4 k).2.2.1 = some (tyX4 k) := by decide +kernel
abbrev cX4_init : ByteArray := prog_6_method_1_code
def yX4_init : MethodName := ⟨RX4, "<init>", "()V"⟩
abbrev cX4_hasStep : ByteArray := prog_6_method_2_code
def yX4_hasStep : MethodName := ⟨RX4, "hasStep", "(I)Z"⟩
abbrev cX4_hasReport : ByteArray := prog_6_method_3_code
def yX4_hasReport : MethodName := ⟨RX4, "hasReport", "(I)Z"⟩
abbrev cX4_isReport : ByteArray := prog_6_method_4_code
def yX4_isReport : MethodName := ⟨RX4, "isReport", "(I)Z"⟩
abbrev cX4_codeBegin : ByteArray := prog_6_method_5_code
def yX4_codeBegin : MethodName := ⟨RX4, "codeBegin", "(I)I"⟩
abbrev cX4_tells : ByteArray := prog_6_method_6_code
def yX4_tells : MethodName := ⟨RX4, "tells", "(J)Z"⟩
abbrev cX4_partNamed : ByteArray := prog_6_method_7_code
def yX4_partNamed : MethodName := ⟨RX4, "partNamed", "(J)I"⟩
abbrev cX4_clear : ByteArray := prog_6_method_8_code
def yX4_clear : MethodName := ⟨RX4, "clear", "()V"⟩
abbrev cX4_beginStep : ByteArray := prog_6_method_9_code
def yX4_beginStep : MethodName := ⟨RX4, "beginStep", "(Z)V"⟩
abbrev cX4_endStep : ByteArray := prog_6_method_10_code
def yX4_endStep : MethodName := ⟨RX4, "endStep", "()V"⟩
abbrev cX4_addTable : ByteArray := prog_6_method_11_code
def yX4_addTable : MethodName := ⟨RX4, "addTable", "(II)V"⟩
abbrev cX4_addPart : ByteArray := prog_6_method_12_code
def yX4_addPart : MethodName := ⟨RX4, "addPart", "(I)V"⟩
abbrev cX4_addCode : ByteArray := prog_6_method_13_code
def yX4_addCode : MethodName := ⟨RX4, "addCode", "(II)V"⟩
abbrev cX4_copyOf : ByteArray := prog_6_method_14_code
def yX4_copyOf : MethodName := ⟨RX4, "copyOf", "(LDawnHouse$Script;)V"⟩
def RX5 : String := "DawnHouse$Tables"
def TX5 : u_T := fun k => match k with
  | 0 => ("DawnHouse$Tables", "states", "[I", true)
  | 1 => ("DawnHouse$Tables", "standingRows", "[I", true)
  | 2 => ("DawnHouse$Tables", "loadedRows", "[I", true)
  | 3 => ("DawnHouse$Tables", "spanBegin", "[I", true)
  | 4 => ("DawnHouse$Tables", "spanEnd", "[I", true)
  | 5 => ("DawnHouse$Tables", "landedBits", "I", false)
  | 6 => ("DawnHouse$Tables", "standing", "LDawnHouse$Figures;", true)
  | _ => ("DawnHouse$Tables", "loaded", "LDawnHouse$Figures;", true)
def tyX5 : Nat → FieldType := fun k => match k with
  | 0 => .array .int
  | 1 => .array .int
  | 2 => .array .int
  | 3 => .array .int
  | 4 => .array .int
  | 5 => .int
  | 6 => .object "DawnHouse$Figures"
  | _ => .object "DawnHouse$Figures"
abbrev wsX50 : List Cond := u_ws RX5 TX5 8
theorem nmX5 : ∀ a, a < 8 → ∀ b, b < 8 → a ≠ b → (TX5 a).2.1 ≠ (TX5 b).2.1 := by decide +kernel
theorem tyX5_ok : ∀ k, k < 8 → parseFieldDescriptor (TX5 k).2.2.1 = some (tyX5 k) := by decide +kernel
abbrev cX5_init : ByteArray := prog_7_method_1_code
def yX5_init : MethodName := ⟨RX5, "<init>", "()V"⟩
abbrev cX5_load : ByteArray := prog_7_method_2_code
def yX5_load : MethodName := ⟨RX5, "load", "(III)I"⟩
abbrev cX5_bringIn : ByteArray := prog_7_method_3_code
def yX5_bringIn : MethodName := ⟨RX5, "bringIn", "(I)I"⟩
def RX6 : String := "DawnHouse$Tape"
def TX6 : u_T := fun k => match k with
  | 0 => ("DawnHouse$Tape", "bytes", "[B", true)
  | _ => ("DawnHouse$Tape", "length", "I", false)
def tyX6 : Nat → FieldType := fun k => match k with
  | 0 => .array .byte
  | _ => .int
abbrev wsX60 : List Cond := u_ws RX6 TX6 2
theorem nmX6 : ∀ a, a < 2 → ∀ b, b < 2 → a ≠ b → (TX6 a).2.1 ≠ (TX6 b).2.1 := by decide +kernel
theorem tyX6_ok : ∀ k, k < 2 → parseFieldDescriptor (TX6 k).2.2.1 = some (tyX6 k) := by decide +kernel
abbrev cX6_init : ByteArray := prog_8_method_1_code
def yX6_init : MethodName := ⟨RX6, "<init>", "()V"⟩
abbrev cX6_addWord : ByteArray := prog_8_method_2_code
def yX6_addWord : MethodName := ⟨RX6, "addWord", "(I)V"⟩
abbrev cX6_byteAt : ByteArray := prog_8_method_3_code
def yX6_byteAt : MethodName := ⟨RX6, "byteAt", "(I)I"⟩
def RX7 : String := "DawnHouse$Tokens"
def TX7 : u_T := fun k => match k with
  | 0 => ("DawnHouse$Tokens", "kinds", "[I", true)
  | 1 => ("DawnHouse$Tokens", "places", "[I", true)
  | 2 => ("DawnHouse$Tokens", "amounts", "[J", true)
  | 3 => ("DawnHouse$Tokens", "tape", "LDawnHouse$Tape;", true)
  | 4 => ("DawnHouse$Tokens", "next", "I", false)
  | _ => ("DawnHouse$Tokens", "amount", "J", false)
def tyX7 : Nat → FieldType := fun k => match k with
  | 0 => .array .int
  | 1 => .array .int
  | 2 => .array .long
  | 3 => .object "DawnHouse$Tape"
  | 4 => .int
  | _ => .long
abbrev wsX70 : List Cond := u_ws RX7 TX7 6
theorem nmX7 : ∀ a, a < 6 → ∀ b, b < 6 → a ≠ b → (TX7 a).2.1 ≠ (TX7 b).2.1 := by decide +kernel
theorem tyX7_ok : ∀ k, k < 6 → parseFieldDescriptor (TX7 k).2.2.1 = some (tyX7 k) := by decide +kernel
abbrev cX7_init : ByteArray := prog_9_method_1_code
def yX7_init : MethodName := ⟨RX7, "<init>", "(LDawnHouse$Tape;)V"⟩
abbrev cX7_scanTape : ByteArray := prog_9_method_2_code
def yX7_scanTape : MethodName := ⟨RX7, "scanTape", "()V"⟩
abbrev cX7_skipBlanks : ByteArray := prog_9_method_3_code
def yX7_skipBlanks : MethodName := ⟨RX7, "skipBlanks", "()V"⟩
abbrev cX7_scanToken : ByteArray := prog_9_method_4_code
def yX7_scanToken : MethodName := ⟨RX7, "scanToken", "()I"⟩
abbrev cX7_scanWord : ByteArray := prog_9_method_5_code
def yX7_scanWord : MethodName := ⟨RX7, "scanWord", "()I"⟩
abbrev cX7_scanNumber : ByteArray := prog_9_method_6_code
def yX7_scanNumber : MethodName := ⟨RX7, "scanNumber", "()I"⟩
abbrev cX7_kindOfWord : ByteArray := prog_9_method_7_code
def yX7_kindOfWord : MethodName := ⟨RX7, "kindOfWord", "(J)I"⟩
abbrev cX7_isBlank : ByteArray := prog_9_method_8_code
def yX7_isBlank : MethodName := ⟨RX7, "isBlank", "(I)Z"⟩
abbrev cX7_isLetter : ByteArray := prog_9_method_9_code
def yX7_isLetter : MethodName := ⟨RX7, "isLetter", "(I)Z"⟩
abbrev cX7_isDigit : ByteArray := prog_9_method_10_code
def yX7_isDigit : MethodName := ⟨RX7, "isDigit", "(I)Z"⟩
abbrev cX7_isSign : ByteArray := prog_9_method_11_code
def yX7_isSign : MethodName := ⟨RX7, "isSign", "(I)Z"⟩
def RX8 : String := "DawnHouse$Values"
def TX8 : u_T := fun k => match k with
  | 0 => ("DawnHouse$Values", "results", "[J", true)
  | 1 => ("DawnHouse$Values", "script", "LDawnHouse$Script;", true)
  | 2 => ("DawnHouse$Values", "tables", "LDawnHouse$Tables;", true)
  | 3 => ("DawnHouse$Values", "stack", "[J", true)
  | _ => ("DawnHouse$Values", "height", "I", false)
def tyX8 : Nat → FieldType := fun k => match k with
  | 0 => .array .long
  | 1 => .object "DawnHouse$Script"
  | 2 => .object "DawnHouse$Tables"
  | 3 => .array .long
  | _ => .int
abbrev wsX80 : List Cond := u_ws RX8 TX8 5
theorem nmX8 : ∀ a, a < 5 → ∀ b, b < 5 → a ≠ b → (TX8 a).2.1 ≠ (TX8 b).2.1 := by decide +kernel
theorem tyX8_ok : ∀ k, k < 5 → parseFieldDescriptor (TX8 k).2.2.1 = some (tyX8 k) := by decide +kernel
abbrev cX8_init : ByteArray := prog_10_method_1_code
def yX8_init : MethodName := ⟨RX8, "<init>", "(LDawnHouse$Script;LDawnHouse$Tables;)V"⟩
abbrev cX8_settle : ByteArray := prog_10_method_2_code
def yX8_settle : MethodName := ⟨RX8, "settle", "(I)V"⟩
abbrev cX8_perform : ByteArray := prog_10_method_3_code
def yX8_perform : MethodName := ⟨RX8, "perform", "(III)V"⟩
abbrev cX8_figure : ByteArray := prog_10_method_4_code
def yX8_figure : MethodName := ⟨RX8, "figure", "(III)J"⟩
abbrev cX8_joined : ByteArray := prog_10_method_5_code
def yX8_joined : MethodName := ⟨RX8, "joined", "(IJJ)J"⟩
abbrev cX8_push : ByteArray := prog_10_method_6_code
def yX8_push : MethodName := ⟨RX8, "push", "(J)V"⟩
abbrev cX8_pop : ByteArray := prog_10_method_7_code
def yX8_pop : MethodName := ⟨RX8, "pop", "()J"⟩
def RX9 : String := "DawnHouse$Work"
def TX9 : u_T := fun k => match k with
  | 0 => ("DawnHouse$Work", "now", "I", false)
  | 1 => ("DawnHouse$Work", "hosts", "I", false)
  | 2 => ("DawnHouse$Work", "doneBits", "I", false)
  | 3 => ("DawnHouse$Work", "wayBits", "I", false)
  | 4 => ("DawnHouse$Work", "atHost", "[I", true)
  | 5 => ("DawnHouse$Work", "order", "[I", true)
  | 6 => ("DawnHouse$Work", "doneAt", "[I", true)
  | 7 => ("DawnHouse$Work", "timesDone", "[I", true)
  | 8 => ("DawnHouse$Work", "worked", "[I", true)
  | 9 => ("DawnHouse$Work", "values", "LDawnHouse$Values;", true)
  | 10 => ("DawnHouse$Work", "script", "LDawnHouse$Script;", true)
  | 11 => ("DawnHouse$Work", "tables", "LDawnHouse$Tables;", true)
  | _ => ("DawnHouse$Work", "post", "LDawnHouse$Post;", true)
def tyX9 : Nat → FieldType := fun k => match k with
  | 0 => .int
  | 1 => .int
  | 2 => .int
  | 3 => .int
  | 4 => .array .int
  | 5 => .array .int
  | 6 => .array .int
  | 7 => .array .int
  | 8 => .array .int
  | 9 => .object "DawnHouse$Values"
  | 10 => .object "DawnHouse$Script"
  | 11 => .object "DawnHouse$Tables"
  | _ => .object "DawnHouse$Post"
abbrev wsX90 : List Cond := u_ws RX9 TX9 13
theorem nmX9 : ∀ a, a < 13 → ∀ b, b < 13 → a ≠ b → (TX9 a).2.1 ≠ (TX9 b).2.1 := by decide +kernel
theorem tyX9_ok : ∀ k, k < 13 → parseFieldDescriptor (TX9 k).2.2.1 = some (tyX9 k) := by decide +kernel
abbrev cX9_init : ByteArray := prog_11_method_1_code
def yX9_init : MethodName := ⟨RX9, "<init>", "(LDawnHouse$Script;LDawnHouse$Tables;LDawnHouse$Values;LDawnHouse$Post;)V"⟩
abbrev cX9_startAnew : ByteArray := prog_11_method_2_code
def yX9_startAnew : MethodName := ⟨RX9, "startAnew", "()V"⟩
abbrev cX9_isDone : ByteArray := prog_11_method_3_code
def yX9_isDone : MethodName := ⟨RX9, "isDone", "(I)Z"⟩
abbrev cX9_isUnderWay : ByteArray := prog_11_method_4_code
def yX9_isUnderWay : MethodName := ⟨RX9, "isUnderWay", "(I)Z"⟩
abbrev cX9_undo : ByteArray := prog_11_method_5_code
def yX9_undo : MethodName := ⟨RX9, "undo", "(I)V"⟩
abbrev cX9_passTick : ByteArray := prog_11_method_6_code
def yX9_passTick : MethodName := ⟨RX9, "passTick", "()V"⟩
abbrev cX9_beginAt : ByteArray := prog_11_method_7_code
def yX9_beginAt : MethodName := ⟨RX9, "beginAt", "(I)V"⟩
abbrev cX9_firstReady : ByteArray := prog_11_method_8_code
def yX9_firstReady : MethodName := ⟨RX9, "firstReady", "()I"⟩
abbrev cX9_isReady : ByteArray := prog_11_method_9_code
def yX9_isReady : MethodName := ⟨RX9, "isReady", "(I)Z"⟩
abbrev cX9_workAt : ByteArray := prog_11_method_10_code
def yX9_workAt : MethodName := ⟨RX9, "workAt", "(I)V"⟩
abbrev cX9_finish : ByteArray := prog_11_method_11_code
def yX9_finish : MethodName := ⟨RX9, "finish", "(I)V"⟩
def RX10 : String := "DawnHouse"
def TX10 : u_T := fun k => match k with
  | 0 => ("DawnHouse", "tape", "LDawnHouse$Tape;", true)
  | 1 => ("DawnHouse", "tokens", "LDawnHouse$Tokens;", true)
  | 2 => ("DawnHouse", "parser", "LDawnHouse$Parser;", true)
  | 3 => ("DawnHouse", "script", "LDawnHouse$Script;", true)
  | 4 => ("DawnHouse", "tables", "LDawnHouse$Tables;", true)
  | 5 => ("DawnHouse", "post", "LDawnHouse$Post;", true)
  | 6 => ("DawnHouse", "work", "LDawnHouse$Work;", true)
  | _ => ("DawnHouse", "forecast", "LDawnHouse$Forecast;", true)
def tyX10 : Nat → FieldType := fun k => match k with
  | 0 => .object "DawnHouse$Tape"
  | 1 => .object "DawnHouse$Tokens"
  | 2 => .object "DawnHouse$Parser"
  | 3 => .object "DawnHouse$Script"
  | 4 => .object "DawnHouse$Tables"
  | 5 => .object "DawnHouse$Post"
  | 6 => .object "DawnHouse$Work"
  | _ => .object "DawnHouse$Forecast"
abbrev wsX100 : List Cond := u_ws RX10 TX10 8
theorem nmX10 : ∀ a, a < 8 → ∀ b, b < 8 → a ≠ b → (TX10 a).2.1 ≠ (TX10 b).2.1 := by decide +kernel
theorem tyX10_ok : ∀ k, k < 8 → parseFieldDescriptor (TX10 k).2.2.1 = some (tyX10 k) := by decide +kernel
abbrev cX10_init : ByteArray := prog_1_method_1_code
def yX10_init : MethodName := ⟨RX10, "<init>", "()V"⟩
abbrev cX10_feed : ByteArray := prog_1_method_2_code
def yX10_feed : MethodName := ⟨RX10, "feed", "(IIIII)I"⟩
abbrev cX10_back : ByteArray := prog_1_method_3_code
def yX10_back : MethodName := ⟨RX10, "back", "(I)I"⟩
abbrev cX10_read : ByteArray := prog_1_method_4_code
def yX10_read : MethodName := ⟨RX10, "read", "()I"⟩
abbrev cX10_place : ByteArray := prog_1_method_5_code
def yX10_place : MethodName := ⟨RX10, "place", "()I"⟩
abbrev cX10_span : ByteArray := prog_1_method_6_code
def yX10_span : MethodName := ⟨RX10, "span", "(III)Z"⟩
abbrev cX10_row : ByteArray := prog_1_method_7_code
def yX10_row : MethodName := ⟨RX10, "row", "(III)I"⟩
abbrev cX10_land : ByteArray := prog_1_method_8_code
def yX10_land : MethodName := ⟨RX10, "land", "(I)I"⟩
abbrev cX10_reader : ByteArray := prog_1_method_9_code
def yX10_reader : MethodName := ⟨RX10, "reader", "(I)I"⟩
abbrev cX10_rights : ByteArray := prog_1_method_10_code
def yX10_rights : MethodName := ⟨RX10, "rights", "(II)Z"⟩
abbrev cX10_hold : ByteArray := prog_1_method_11_code
def yX10_hold : MethodName := ⟨RX10, "hold", "(IZ)Z"⟩
abbrev cX10_reads : ByteArray := prog_1_method_12_code
def yX10_reads : MethodName := ⟨RX10, "reads", "(II)Z"⟩
abbrev cX10_hosts : ByteArray := prog_1_method_13_code
def yX10_hosts : MethodName := ⟨RX10, "hosts", "(I)Z"⟩
abbrev cX10_tick : ByteArray := prog_1_method_14_code
def yX10_tick : MethodName := ⟨RX10, "tick", "()I"⟩
abbrev cX10_plan : ByteArray := prog_1_method_15_code
def yX10_plan : MethodName := ⟨RX10, "plan", "()I"⟩
abbrev cX10_order : ByteArray := prog_1_method_16_code
def yX10_order : MethodName := ⟨RX10, "order", "(I)I"⟩
abbrev cX10_foreseen : ByteArray := prog_1_method_17_code
def yX10_foreseen : MethodName := ⟨RX10, "foreseen", "(I)I"⟩
abbrev cX10_sure : ByteArray := prog_1_method_18_code
def yX10_sure : MethodName := ⟨RX10, "sure", "(I)I"⟩
abbrev cX10_step : ByteArray := prog_1_method_19_code
def yX10_step : MethodName := ⟨RX10, "step", "(II)I"⟩
abbrev cX10_value : ByteArray := prog_1_method_20_code
def yX10_value : MethodName := ⟨RX10, "value", "(II)J"⟩
abbrev cX10_sent : ByteArray := prog_1_method_21_code
def yX10_sent : MethodName := ⟨RX10, "sent", "(III)J"⟩
abbrev cX10_marks : ByteArray := prog_1_method_22_code
def yX10_marks : MethodName := ⟨RX10, "marks", "(II)I"⟩
abbrev cX10_table : ByteArray := prog_1_method_23_code
def yX10_table : MethodName := ⟨RX10, "table", "(II)I"⟩
abbrev cX10_count : ByteArray := prog_1_method_24_code
def yX10_count : MethodName := ⟨RX10, "count", "(I)I"⟩
abbrev cX10_isBelow : ByteArray := prog_1_method_25_code
def yX10_isBelow : MethodName := ⟨RX10, "isBelow", "(II)Z"⟩
def RX11 : String := "DawnHouseModel"
def TX11 : u_T := fun k => match k with
  | 0 => ("DawnHouseModel", "thrown", "I", false)
  | 1 => ("DawnHouseModel", "tape", "[B", true)
  | 2 => ("DawnHouseModel", "taped", "I", false)
  | 3 => ("DawnHouseModel", "text", "[B", true)
  | 4 => ("DawnHouseModel", "size", "I", false)
  | 5 => ("DawnHouseModel", "tKind", "[I", true)
  | 6 => ("DawnHouseModel", "tPlace", "[I", true)
  | 7 => ("DawnHouseModel", "tValue", "[I", true)
  | 8 => ("DawnHouseModel", "tName", "[J", true)
  | 9 => ("DawnHouseModel", "keys", "[J", true)
  | 10 => ("DawnHouseModel", "tokens", "I", false)
  | 11 => ("DawnHouseModel", "t", "I", false)
  | 12 => ("DawnHouseModel", "open", "I", false)
  | 13 => ("DawnHouseModel", "fault", "I", false)
  | 14 => ("DawnHouseModel", "faultPlace", "I", false)
  | 15 => ("DawnHouseModel", "worst", "I", false)
  | 16 => ("DawnHouseModel", "worstPlace", "I", false)
  | 17 => ("DawnHouseModel", "place", "I", false)
  | 18 => ("DawnHouseModel", "live", "I", false)
  | 19 => ("DawnHouseModel", "side", "I", false)
  | 20 => ("DawnHouseModel", "steps", "[I", true)
  | 21 => ("DawnHouseModel", "stepName", "[J", true)
  | 22 => ("DawnHouseModel", "isReport", "[Z", true)
  | 23 => ("DawnHouseModel", "takes", "[I", true)
  | 24 => ("DawnHouseModel", "due", "[I", true)
  | 25 => ("DawnHouseModel", "weight", "[I", true)
  | 26 => ("DawnHouseModel", "stepFrom", "[I", true)
  | 27 => ("DawnHouseModel", "stepTo", "[I", true)
  | 28 => ("DawnHouseModel", "ownTables", "[I", true)
  | 29 => ("DawnHouseModel", "ownParts", "[I", true)
  | 30 => ("DawnHouseModel", "allTables", "[I", true)
  | 31 => ("DawnHouseModel", "codes", "I", false)
  | 32 => ("DawnHouseModel", "code", "[I", true)
  | 33 => ("DawnHouseModel", "codeInt", "[I", true)
  | 34 => ("DawnHouseModel", "seenTables", "I", false)
  | 35 => ("DawnHouseModel", "seenParts", "I", false)
  | 36 => ("DawnHouseModel", "waits", "[I", true)
  | 37 => ("DawnHouseModel", "waiting", "I", false)
  | 38 => ("DawnHouseModel", "spanFrom", "[I", true)
  | 39 => ("DawnHouseModel", "spanTo", "[I", true)
  | 40 => ("DawnHouseModel", "state", "[I", true)
  | 41 => ("DawnHouseModel", "loaded", "[I", true)
  | 42 => ("DawnHouseModel", "loadGroup", "[I", true)
  | 43 => ("DawnHouseModel", "loadV", "[I", true)
  | 44 => ("DawnHouseModel", "rows", "[I", true)
  | 45 => ("DawnHouseModel", "rowGroup", "[I", true)
  | 46 => ("DawnHouseModel", "rowV", "[I", true)
  | 47 => ("DawnHouseModel", "readers", "I", false)
  | 48 => ("DawnHouseModel", "rights", "[I", true)
  | 49 => ("DawnHouseModel", "isHeld", "[Z", true)
  | 50 => ("DawnHouseModel", "now", "I", false)
  | 51 => ("DawnHouseModel", "hosts", "I", false)
  | 52 => ("DawnHouseModel", "at", "[I", true)
  | 53 => ("DawnHouseModel", "order", "[I", true)
  | 54 => ("DawnHouseModel", "doneAt", "[I", true)
  | 55 => ("DawnHouseModel", "doneTimes", "[I", true)
  | 56 => ("DawnHouseModel", "worked", "[I", true)
  | 57 => ("DawnHouseModel", "value", "[J", true)
  | 58 => ("DawnHouseModel", "isRead", "[Z", true)
  | 59 => ("DawnHouseModel", "hasGone", "[Z", true)
  | 60 => ("DawnHouseModel", "marks", "[I", true)
  | 61 => ("DawnHouseModel", "went", "[J", true)
  | 62 => ("DawnHouseModel", "pile", "[J", true)
  | 63 => ("DawnHouseModel", "row", "[I", true)
  | 64 => ("DawnHouseModel", "end", "[I", true)
  | 65 => ("DawnHouseModel", "fAt", "[I", true)
  | 66 => ("DawnHouseModel", "fWorked", "[I", true)
  | _ => ("DawnHouseModel", "lands", "[I", true)
def tyX11 : Nat → FieldType := fun k => match k with
  | 0 => .int
  | 1 => .array .byte
  | 2 => .int
  | 3 => .array .byte
  | 4 => .int
  | 5 => .array .int
  | 6 => .array .int
  | 7 => .array .int
  | 8 => .array .long
  | 9 => .array .long
  | 10 => .int
  | 11 => .int
  | 12 => .int
  | 13 => .int
  | 14 => .int
  | 15 => .int
  | 16 => .int
  | 17 => .int
  | 18 => .int
  | 19 => .int
  | 20 => .array .int
  | 21 => .array .long
  | 22 => .array .boolean
  | 23 => .array .int
  | 24 => .array .int
  | 25 => .array .int
  | 26 => .array .int
  | 27 => .array .int
  | 28 => .array .int
  | 29 => .array .int
  | 30 => .array .int
  | 31 => .int
  | 32 => .array .int
  | 33 => .array .int
  | 34 => .int
  | 35 => .int
  | 36 => .array .int
  | 37 => .int
  | 38 => .array .int
  | 39 => .array .int
  | 40 => .array .int
  | 41 => .array .int
  | 42 => .array .int
  | 43 => .array .int
  | 44 => .array .int
  | 45 => .array .int
  | 46 => .array .int
  | 47 => .int
  | 48 => .array .int
  | 49 => .array .boolean
  | 50 => .int
  | 51 => .int
  | 52 => .array .int
  | 53 => .array .int
  | 54 => .array .int
  | 55 => .array .int
  | 56 => .array .int
  | 57 => .array .long
  | 58 => .array .boolean
  | 59 => .array .boolean
  | 60 => .array .int
  | 61 => .array .long
  | 62 => .array .long
  | 63 => .array .int
  | 64 => .array .int
  | 65 => .array .int
  | 66 => .array .int
  | _ => .array .int
abbrev wsX110 : List Cond := u_ws RX11 TX11 68
theorem nmX11 : ∀ a, a < 68 → ∀ b, b < 68 → a ≠ b → (TX11 a).2.1 ≠ (TX11 b).2.1 := by decide +kernel
theorem tyX11_ok : ∀ k, k < 68 → parseFieldDescriptor (TX11 k).2.2.1 = some (tyX11 k) := by decide +kernel
abbrev cX11_init : ByteArray := prog_13_method_2_code
def yX11_init : MethodName := ⟨RX11, "<init>", "()V"⟩
abbrev cX11_feed : ByteArray := prog_13_method_3_code
def yX11_feed : MethodName := ⟨RX11, "feed", "(IIIII)I"⟩
abbrev cX11_put : ByteArray := prog_13_method_4_code
def yX11_put : MethodName := ⟨RX11, "put", "(I)V"⟩
abbrev cX11_back : ByteArray := prog_13_method_5_code
def yX11_back : MethodName := ⟨RX11, "back", "(I)I"⟩
abbrev cX11_at : ByteArray := prog_13_method_6_code
def yX11_at : MethodName := ⟨RX11, "at", "(I)I"⟩
abbrev cX11_isDigit : ByteArray := prog_13_method_7_code
def yX11_isDigit : MethodName := ⟨RX11, "isDigit", "(I)Z"⟩
abbrev cX11_isLetter : ByteArray := prog_13_method_8_code
def yX11_isLetter : MethodName := ⟨RX11, "isLetter", "(I)Z"⟩
abbrev cX11_more : ByteArray := prog_13_method_9_code
def yX11_more : MethodName := ⟨RX11, "more", "(JI)J"⟩
abbrev cX11_word : ByteArray := prog_13_method_10_code
def yX11_word : MethodName := ⟨RX11, "word", "(IIIIII)J"⟩
abbrev cX11_token : ByteArray := prog_13_method_11_code
def yX11_token : MethodName := ⟨RX11, "token", "(IIIJ)V"⟩
abbrev cX11_cut : ByteArray := prog_13_method_12_code
def yX11_cut : MethodName := ⟨RX11, "cut", "()V"⟩
abbrev cX11_is : ByteArray := prog_13_method_13_code
def yX11_is : MethodName := ⟨RX11, "is", "(I)Z"⟩
abbrev cX11_fail : ByteArray := prog_13_method_14_code
def yX11_fail : MethodName := ⟨RX11, "fail", "(I)V"⟩
abbrev cX11_wrong : ByteArray := prog_13_method_15_code
def yX11_wrong : MethodName := ⟨RX11, "wrong", "(II)V"⟩
abbrev cX11_next : ByteArray := prog_13_method_16_code
def yX11_next : MethodName := ⟨RX11, "next", "()V"⟩
abbrev cX11_must : ByteArray := prog_13_method_17_code
def yX11_must : MethodName := ⟨RX11, "must", "(I)V"⟩
abbrev cX11_read : ByteArray := prog_13_method_18_code
def yX11_read : MethodName := ⟨RX11, "read", "()I"⟩
abbrev cX11_place : ByteArray := prog_13_method_19_code
def yX11_place : MethodName := ⟨RX11, "place", "()I"⟩
abbrev cX11_inRange : ByteArray := prog_13_method_20_code
def yX11_inRange : MethodName := ⟨RX11, "inRange", "(II)I"⟩
abbrev cX11_tell : ByteArray := prog_13_method_21_code
def yX11_tell : MethodName := ⟨RX11, "tell", "()V"⟩
abbrev cX11_emit : ByteArray := prog_13_method_22_code
def yX11_emit : MethodName := ⟨RX11, "emit", "(II)V"⟩
abbrev cX11_named : ByteArray := prog_13_method_23_code
def yX11_named : MethodName := ⟨RX11, "named", "(I)V"⟩
abbrev cX11_comesOut : ByteArray := prog_13_method_24_code
def yX11_comesOut : MethodName := ⟨RX11, "comesOut", "(Z)V"⟩
abbrev cX11_opens : ByteArray := prog_13_method_25_code
def yX11_opens : MethodName := ⟨RX11, "opens", "(I)V"⟩
abbrev cX11_inner : ByteArray := prog_13_method_26_code
def yX11_inner : MethodName := ⟨RX11, "inner", "()I"⟩
abbrev cX11_ofTable : ByteArray := prog_13_method_27_code
def yX11_ofTable : MethodName := ⟨RX11, "ofTable", "()V"⟩
abbrev cX11_expression : ByteArray := prog_13_method_28_code
def yX11_expression : MethodName := ⟨RX11, "expression", "()V"⟩
abbrev cX11_isTable : ByteArray := prog_13_method_29_code
def yX11_isTable : MethodName := ⟨RX11, "isTable", "(I)Z"⟩
abbrev cX11_isReader : ByteArray := prog_13_method_30_code
def yX11_isReader : MethodName := ⟨RX11, "isReader", "(I)Z"⟩
abbrev cX11_isStep : ByteArray := prog_13_method_31_code
def yX11_isStep : MethodName := ⟨RX11, "isStep", "(I)Z"⟩
abbrev cX11_span : ByteArray := prog_13_method_32_code
def yX11_span : MethodName := ⟨RX11, "span", "(III)Z"⟩
abbrev cX11_row : ByteArray := prog_13_method_33_code
def yX11_row : MethodName := ⟨RX11, "row", "(III)I"⟩
abbrev cX11_land : ByteArray := prog_13_method_34_code
def yX11_land : MethodName := ⟨RX11, "land", "(I)I"⟩
abbrev cX11_reader : ByteArray := prog_13_method_35_code
def yX11_reader : MethodName := ⟨RX11, "reader", "(I)I"⟩
abbrev cX11_rights : ByteArray := prog_13_method_36_code
def yX11_rights : MethodName := ⟨RX11, "rights", "(II)Z"⟩
abbrev cX11_hold : ByteArray := prog_13_method_37_code
def yX11_hold : MethodName := ⟨RX11, "hold", "(IZ)Z"⟩
abbrev cX11_reads : ByteArray := prog_13_method_38_code
def yX11_reads : MethodName := ⟨RX11, "reads", "(II)Z"⟩
abbrev cX11_hosts : ByteArray := prog_13_method_39_code
def yX11_hosts : MethodName := ⟨RX11, "hosts", "(I)Z"⟩
abbrev cX11_put_ : ByteArray := prog_13_method_40_code
def yX11_put_ : MethodName := ⟨RX11, "put", "(III)V"⟩
abbrev cX11_ofRows : ByteArray := prog_13_method_41_code
def yX11_ofRows : MethodName := ⟨RX11, "ofRows", "(III)J"⟩
abbrev cX11_works : ByteArray := prog_13_method_42_code
def yX11_works : MethodName := ⟨RX11, "works", "(I)V"⟩
abbrev cX11_isAtHost : ByteArray := prog_13_method_43_code
def yX11_isAtHost : MethodName := ⟨RX11, "isAtHost", "(I)Z"⟩
abbrev cX11_isReady : ByteArray := prog_13_method_44_code
def yX11_isReady : MethodName := ⟨RX11, "isReady", "(I)Z"⟩
abbrev cX11_tick : ByteArray := prog_13_method_45_code
def yX11_tick : MethodName := ⟨RX11, "tick", "()I"⟩
abbrev cX11_sends : ByteArray := prog_13_method_46_code
def yX11_sends : MethodName := ⟨RX11, "sends", "(II)V"⟩
abbrev cX11_lands : ByteArray := prog_13_method_47_code
def yX11_lands : MethodName := ⟨RX11, "lands", "(Z)V"⟩
abbrev cX11_mayBegin : ByteArray := prog_13_method_48_code
def yX11_mayBegin : MethodName := ⟨RX11, "mayBegin", "(II)Z"⟩
abbrev cX11_foresees : ByteArray := prog_13_method_49_code
def yX11_foresees : MethodName := ⟨RX11, "foresees", "()V"⟩
abbrev cX11_landsBehind : ByteArray := prog_13_method_50_code
def yX11_landsBehind : MethodName := ⟨RX11, "landsBehind", "(I)I"⟩
abbrev cX11_lates : ByteArray := prog_13_method_51_code
def yX11_lates : MethodName := ⟨RX11, "lates", "()I"⟩
abbrev cX11_nextRow : ByteArray := prog_13_method_52_code
def yX11_nextRow : MethodName := ⟨RX11, "nextRow", "(I)Z"⟩
abbrev cX11_plan : ByteArray := prog_13_method_53_code
def yX11_plan : MethodName := ⟨RX11, "plan", "()I"⟩
abbrev cX11_order : ByteArray := prog_13_method_54_code
def yX11_order : MethodName := ⟨RX11, "order", "(I)I"⟩
abbrev cX11_foreseen : ByteArray := prog_13_method_55_code
def yX11_foreseen : MethodName := ⟨RX11, "foreseen", "(I)I"⟩
abbrev cX11_sure : ByteArray := prog_13_method_56_code
def yX11_sure : MethodName := ⟨RX11, "sure", "(I)I"⟩
abbrev cX11_step : ByteArray := prog_13_method_57_code
def yX11_step : MethodName := ⟨RX11, "step", "(II)I"⟩
abbrev cX11_value : ByteArray := prog_13_method_58_code
def yX11_value : MethodName := ⟨RX11, "value", "(II)J"⟩
abbrev cX11_sent : ByteArray := prog_13_method_59_code
def yX11_sent : MethodName := ⟨RX11, "sent", "(III)J"⟩
abbrev cX11_marks : ByteArray := prog_13_method_60_code
def yX11_marks : MethodName := ⟨RX11, "marks", "(II)I"⟩
abbrev cX11_table : ByteArray := prog_13_method_61_code
def yX11_table : MethodName := ⟨RX11, "table", "(II)I"⟩
abbrev cX11_count : ByteArray := prog_13_method_62_code
def yX11_count : MethodName := ⟨RX11, "count", "(I)I"⟩
def RJ6 : String := "java/lang/Integer"
def TJ6 : u_T := fun k => match k with
  | _ => ("", "", "", false)
def tyJ6 : Nat → FieldType := fun k => match k with
  | _ => .int
abbrev wsJ60 : List Cond := u_ws RJ6 TJ6 0
theorem nmJ6 : ∀ a, a < 0 → ∀ b, b < 0 → a ≠ b → (TJ6 a).2.1 ≠ (TJ6 b).2.1 := by decide +kernel
theorem tyJ6_ok : ∀ k, k < 0 → parseFieldDescriptor (TJ6 k).2.2.1 = some (tyJ6 k) := by decide +kernel
abbrev cJ6_bitCount_0f7a4 : ByteArray := prog_14_method_49_code
def yJ6_bitCount_0f7a4 : MethodName := ⟨RJ6, "bitCount", "(I)I"⟩
def RJ9 : String := "java/lang/Math"
def TJ9 : u_T := fun k => match k with
  | _ => ("", "", "", false)
def tyJ9 : Nat → FieldType := fun k => match k with
  | _ => .int
abbrev wsJ90 : List Cond := u_ws RJ9 TJ9 0
theorem nmJ9 : ∀ a, a < 0 → ∀ b, b < 0 → a ≠ b → (TJ9 a).2.1 ≠ (TJ9 b).2.1 := by decide +kernel
theorem tyJ9_ok : ∀ k, k < 0 → parseFieldDescriptor (TJ9 k).2.2.1 = some (tyJ9 k) := by decide +kernel
abbrev cJ9_max_7cf53 : ByteArray := prog_15_method_65_code
def yJ9_max_7cf53 : MethodName := ⟨RJ9, "max", "(II)I"⟩
abbrev cJ9_max_f86c9 : ByteArray := prog_15_method_66_code
def yJ9_max_f86c9 : MethodName := ⟨RJ9, "max", "(JJ)J"⟩
abbrev cJ9_min_7cf53 : ByteArray := prog_15_method_69_code
def yJ9_min_7cf53 : MethodName := ⟨RJ9, "min", "(II)I"⟩
def RJ10 : String := "java/lang/System"
def TJ10 : u_T := fun k => match k with
  | _ => ("", "", "", false)
def tyJ10 : Nat → FieldType := fun k => match k with
  | _ => .int
abbrev wsJ100 : List Cond := u_ws RJ10 TJ10 0
theorem nmJ10 : ∀ a, a < 0 → ∀ b, b < 0 → a ≠ b → (TJ10 a).2.1 ≠ (TJ10 b).2.1 := by decide +kernel
theorem tyJ10_ok : ∀ k, k < 0 → parseFieldDescriptor (TJ10 k).2.2.1 = some (tyJ10 k) := by decide +kernel
def RL : String := "DawnHouseLaw"
abbrev cL_law : ByteArray := code
def yL_law : MethodName := ⟨RL, "law", "([I)Z"⟩
def wsL_law_r1 : List Cond := [Cond.classLink RL 7 RX10, Cond.instantiable RX10 8, Cond.initialized RX10, Cond.classLink RL 10 RX11, Cond.instantiable RX11 68, Cond.initialized RX11, Cond.methodLink RL 9 yX10_init, Cond.instanceMethod yX10_init, Cond.code yX10_init cX10_init 2 none, Cond.methodLink RX10 3 objectInit, Cond.instanceMethod objectInit, Cond.code objectInit ⟨#[0xb1]⟩ 1 none, Cond.classLink RX10 9 RX6, Cond.instantiable RX6 2, Cond.initialized RX6, Cond.fieldLink RX10 12 "DawnHouse" "tape" "LDawnHouse$Tape;", Cond.classLink RX10 16 RX7, Cond.instantiable RX7 6, Cond.initialized RX7, Cond.fieldLink RX10 21 "DawnHouse" "tokens" "LDawnHouse$Tokens;", Cond.classLink RX10 25 RX2, Cond.instantiable RX2 7, Cond.initialized RX2, Cond.classLink RX10 27 RX4]
def wsL_law_r2 : List Cond := [Cond.instantiable RX4 13, Cond.initialized RX4, Cond.fieldLink RX10 33 "DawnHouse" "parser" "LDawnHouse$Parser;", Cond.fieldLink RX10 37 "DawnHouse" "script" "LDawnHouse$Script;", Cond.classLink RX10 41 RX5, Cond.instantiable RX5 8, Cond.initialized RX5, Cond.fieldLink RX10 44 "DawnHouse" "tables" "LDawnHouse$Tables;", Cond.classLink RX10 48 RX8, Cond.instantiable RX8 5, Cond.initialized RX8, Cond.classLink RX10 53 RX3, Cond.instantiable RX3 8, Cond.initialized RX3, Cond.fieldLink RX10 58 "DawnHouse" "post" "LDawnHouse$Post;", Cond.classLink RX10 62 RX9, Cond.instantiable RX9 13, Cond.initialized RX9, Cond.fieldLink RX10 67 "DawnHouse" "work" "LDawnHouse$Work;", Cond.classLink RX10 71 RX1, Cond.instantiable RX1 15, Cond.initialized RX1, Cond.fieldLink RX10 76 "DawnHouse" "forecast" "LDawnHouse$Forecast;", Cond.instanceMethod yX6_init]
def wsL_law_r3 : List Cond := [Cond.code yX6_init cX6_init 1 none, Cond.methodLink RX6 3 objectInit, Cond.arrayClass .byte, Cond.fieldLink RX6 9 "DawnHouse$Tape" "bytes" "[B", Cond.fieldLink RX6 15 "DawnHouse$Tape" "length" "I", Cond.methodLink RX10 18 yX7_init, Cond.instanceMethod yX7_init, Cond.code yX7_init cX7_init 2 none, Cond.methodLink RX7 3 objectInit, Cond.arrayClass .int, Cond.fieldLink RX7 9 "DawnHouse$Tokens" "kinds" "[I", Cond.fieldLink RX7 15 "DawnHouse$Tokens" "places" "[I", Cond.arrayClass .long, Cond.fieldLink RX7 18 "DawnHouse$Tokens" "amounts" "[J", Cond.fieldLink RX7 22 "DawnHouse$Tokens" "tape" "LDawnHouse$Tape;", Cond.instanceMethod yX4_init, Cond.code yX4_init cX4_init 1 none, Cond.methodLink RX4 3 objectInit, Cond.fieldLink RX4 9 "DawnHouse$Script" "steps" "I", Cond.fieldLink RX4 15 "DawnHouse$Script" "reportBits" "I", Cond.fieldLink RX4 18 "DawnHouse$Script" "names" "[J", Cond.fieldLink RX4 22 "DawnHouse$Script" "takes" "[I", Cond.fieldLink RX4 26 "DawnHouse$Script" "due" "[I", Cond.fieldLink RX4 29 "DawnHouse$Script" "weight" "[I"]
def wsL_law_r4 : List Cond := [Cond.fieldLink RX4 32 "DawnHouse$Script" "ownTables" "[I", Cond.fieldLink RX4 35 "DawnHouse$Script" "ownParts" "[I", Cond.fieldLink RX4 38 "DawnHouse$Script" "allTables" "[I", Cond.fieldLink RX4 41 "DawnHouse$Script" "codeEnds" "[I", Cond.fieldLink RX4 44 "DawnHouse$Script" "works" "[I", Cond.fieldLink RX4 47 "DawnHouse$Script" "operands" "[I", Cond.fieldLink RX4 50 "DawnHouse$Script" "codeLength" "I", Cond.methodLink RX10 30 yX2_init, Cond.instanceMethod yX2_init, Cond.code yX2_init cX2_init 3 none, Cond.methodLink RX2 3 objectInit, Cond.fieldLink RX2 9 "DawnHouse$Parser" "fault" "I", Cond.fieldLink RX2 15 "DawnHouse$Parser" "faultPlace" "I", Cond.fieldLink RX2 18 "DawnHouse$Parser" "tokens" "LDawnHouse$Tokens;", Cond.fieldLink RX2 22 "DawnHouse$Parser" "draft" "LDawnHouse$Script;", Cond.instanceMethod yX5_init, Cond.code yX5_init cX5_init 1 none, Cond.methodLink RX5 3 objectInit, Cond.fieldLink RX5 9 "DawnHouse$Tables" "states" "[I", Cond.fieldLink RX5 15 "DawnHouse$Tables" "standingRows" "[I", Cond.fieldLink RX5 18 "DawnHouse$Tables" "loadedRows" "[I", Cond.fieldLink RX5 21 "DawnHouse$Tables" "spanBegin" "[I", Cond.fieldLink RX5 24 "DawnHouse$Tables" "spanEnd" "[I", Cond.fieldLink RX5 27 "DawnHouse$Tables" "landedBits" "I"]
def wsL_law_r5 : List Cond := [Cond.classLink RX5 31 RX0, Cond.instantiable RX0 3, Cond.initialized RX0, Cond.fieldLink RX5 34 "DawnHouse$Tables" "standing" "LDawnHouse$Figures;", Cond.fieldLink RX5 38 "DawnHouse$Tables" "loaded" "LDawnHouse$Figures;", Cond.instanceMethod yX0_init, Cond.code yX0_init cX0_init 1 none, Cond.methodLink RX0 3 objectInit, Cond.fieldLink RX0 9 "DawnHouse$Figures" "sums" "[J", Cond.fieldLink RX0 15 "DawnHouse$Figures" "counts" "[J", Cond.fieldLink RX0 18 "DawnHouse$Figures" "mosts" "[J", Cond.methodLink RX10 50 yX8_init, Cond.instanceMethod yX8_init, Cond.code yX8_init cX8_init 3 none, Cond.methodLink RX8 3 objectInit, Cond.fieldLink RX8 9 "DawnHouse$Values" "results" "[J", Cond.fieldLink RX8 15 "DawnHouse$Values" "stack" "[J", Cond.fieldLink RX8 18 "DawnHouse$Values" "script" "LDawnHouse$Script;", Cond.fieldLink RX8 22 "DawnHouse$Values" "tables" "LDawnHouse$Tables;", Cond.methodLink RX10 55 yX3_init, Cond.instanceMethod yX3_init, Cond.code yX3_init cX3_init 2 none, Cond.methodLink RX3 3 objectInit, Cond.fieldLink RX3 9 "DawnHouse$Post" "readers" "I"]
def wsL_law_r6 : List Cond := [Cond.fieldLink RX3 15 "DawnHouse$Post" "heldBits" "I", Cond.fieldLink RX3 18 "DawnHouse$Post" "allMarks" "I", Cond.fieldLink RX3 21 "DawnHouse$Post" "rights" "[I", Cond.fieldLink RX3 25 "DawnHouse$Post" "readBy" "[I", Cond.fieldLink RX3 28 "DawnHouse$Post" "marksOf" "[I", Cond.fieldLink RX3 31 "DawnHouse$Post" "last" "[J", Cond.fieldLink RX3 35 "DawnHouse$Post" "values" "LDawnHouse$Values;", Cond.methodLink RX10 64 yX9_init, Cond.instanceMethod yX9_init, Cond.code yX9_init cX9_init 5 none, Cond.methodLink RX9 3 objectInit, Cond.fieldLink RX9 9 "DawnHouse$Work" "now" "I", Cond.fieldLink RX9 15 "DawnHouse$Work" "hosts" "I", Cond.fieldLink RX9 18 "DawnHouse$Work" "doneBits" "I", Cond.fieldLink RX9 21 "DawnHouse$Work" "wayBits" "I", Cond.fieldLink RX9 24 "DawnHouse$Work" "atHost" "[I", Cond.fieldLink RX9 28 "DawnHouse$Work" "order" "[I", Cond.fieldLink RX9 31 "DawnHouse$Work" "doneAt" "[I", Cond.fieldLink RX9 34 "DawnHouse$Work" "timesDone" "[I", Cond.fieldLink RX9 37 "DawnHouse$Work" "worked" "[I", Cond.fieldLink RX9 40 "DawnHouse$Work" "script" "LDawnHouse$Script;", Cond.fieldLink RX9 44 "DawnHouse$Work" "tables" "LDawnHouse$Tables;", Cond.fieldLink RX9 48 "DawnHouse$Work" "values" "LDawnHouse$Values;", Cond.fieldLink RX9 52 "DawnHouse$Work" "post" "LDawnHouse$Post;"]
def wsL_law_r7 : List Cond := [Cond.methodLink RX10 73 yX1_init, Cond.instanceMethod yX1_init, Cond.code yX1_init cX1_init 4 none, Cond.methodLink RX1 3 objectInit, Cond.fieldLink RX1 9 "DawnHouse$Forecast" "opensAt" "[I", Cond.fieldLink RX1 15 "DawnHouse$Forecast" "soonest" "[I", Cond.fieldLink RX1 18 "DawnHouse$Forecast" "ends" "[I", Cond.fieldLink RX1 21 "DawnHouse$Forecast" "freeAt" "[I", Cond.fieldLink RX1 24 "DawnHouse$Forecast" "queue" "[I", Cond.fieldLink RX1 27 "DawnHouse$Forecast" "best" "[I", Cond.fieldLink RX1 30 "DawnHouse$Forecast" "script" "LDawnHouse$Script;", Cond.fieldLink RX1 34 "DawnHouse$Forecast" "tables" "LDawnHouse$Tables;", Cond.fieldLink RX1 38 "DawnHouse$Forecast" "work" "LDawnHouse$Work;", Cond.methodLink RL 12 yX11_init, Cond.instanceMethod yX11_init, Cond.code yX11_init cX11_init 2 none, Cond.methodLink RX11 7 objectInit, Cond.fieldLink RX11 13 "DawnHouseModel" "tape" "[B", Cond.fieldLink RX11 17 "DawnHouseModel" "text" "[B", Cond.fieldLink RX11 20 "DawnHouseModel" "tKind" "[I", Cond.fieldLink RX11 24 "DawnHouseModel" "tPlace" "[I", Cond.fieldLink RX11 27 "DawnHouseModel" "tValue" "[I", Cond.fieldLink RX11 30 "DawnHouseModel" "tName" "[J", Cond.fieldLink RX11 34 "DawnHouseModel" "keys" "[J"]
def wsL_law_r8 : List Cond := [Cond.fieldLink RX11 37 "DawnHouseModel" "place" "I", Cond.fieldLink RX11 40 "DawnHouseModel" "steps" "[I", Cond.fieldLink RX11 43 "DawnHouseModel" "stepName" "[J", Cond.arrayClass .boolean, Cond.fieldLink RX11 46 "DawnHouseModel" "isReport" "[Z", Cond.fieldLink RX11 50 "DawnHouseModel" "takes" "[I", Cond.fieldLink RX11 53 "DawnHouseModel" "due" "[I", Cond.fieldLink RX11 56 "DawnHouseModel" "weight" "[I", Cond.fieldLink RX11 59 "DawnHouseModel" "stepFrom" "[I", Cond.fieldLink RX11 62 "DawnHouseModel" "stepTo" "[I", Cond.fieldLink RX11 65 "DawnHouseModel" "ownTables" "[I", Cond.fieldLink RX11 68 "DawnHouseModel" "ownParts" "[I", Cond.fieldLink RX11 71 "DawnHouseModel" "allTables" "[I", Cond.fieldLink RX11 74 "DawnHouseModel" "code" "[I", Cond.fieldLink RX11 77 "DawnHouseModel" "codeInt" "[I", Cond.fieldLink RX11 80 "DawnHouseModel" "waits" "[I", Cond.fieldLink RX11 83 "DawnHouseModel" "spanFrom" "[I", Cond.fieldLink RX11 86 "DawnHouseModel" "spanTo" "[I", Cond.fieldLink RX11 89 "DawnHouseModel" "state" "[I", Cond.fieldLink RX11 92 "DawnHouseModel" "loaded" "[I", Cond.fieldLink RX11 95 "DawnHouseModel" "loadGroup" "[I", Cond.fieldLink RX11 98 "DawnHouseModel" "loadV" "[I", Cond.fieldLink RX11 101 "DawnHouseModel" "rows" "[I", Cond.fieldLink RX11 104 "DawnHouseModel" "rowGroup" "[I"]
def wsL_law_r9 : List Cond := [Cond.fieldLink RX11 107 "DawnHouseModel" "rowV" "[I", Cond.fieldLink RX11 110 "DawnHouseModel" "rights" "[I", Cond.fieldLink RX11 113 "DawnHouseModel" "isHeld" "[Z", Cond.fieldLink RX11 116 "DawnHouseModel" "at" "[I", Cond.fieldLink RX11 119 "DawnHouseModel" "order" "[I", Cond.fieldLink RX11 122 "DawnHouseModel" "doneAt" "[I", Cond.fieldLink RX11 125 "DawnHouseModel" "doneTimes" "[I", Cond.fieldLink RX11 128 "DawnHouseModel" "worked" "[I", Cond.fieldLink RX11 131 "DawnHouseModel" "value" "[J", Cond.fieldLink RX11 134 "DawnHouseModel" "isRead" "[Z", Cond.fieldLink RX11 137 "DawnHouseModel" "hasGone" "[Z", Cond.fieldLink RX11 140 "DawnHouseModel" "marks" "[I", Cond.fieldLink RX11 143 "DawnHouseModel" "went" "[J", Cond.fieldLink RX11 146 "DawnHouseModel" "pile" "[J", Cond.fieldLink RX11 149 "DawnHouseModel" "row" "[I", Cond.fieldLink RX11 152 "DawnHouseModel" "end" "[I", Cond.fieldLink RX11 155 "DawnHouseModel" "fAt" "[I", Cond.fieldLink RX11 158 "DawnHouseModel" "fWorked" "[I", Cond.fieldLink RX11 161 "DawnHouseModel" "lands" "[I", Cond.fieldLink RX11 168 "DawnHouseModel" "hosts" "I", Cond.methodLink RX11 164 yX11_word, Cond.static yX11_word, Cond.code yX11_word cX11_word 6 (some .long), Cond.methodLink RX11 187 yX11_more]
def wsL_law_r10 : List Cond := [Cond.static yX11_more, Cond.code yX11_more cX11_more 3 (some .long), Cond.constantLong RX11 181 (37), Cond.methodLink RX11 183 yX11_isDigit, Cond.static yX11_isDigit, Cond.code yX11_isDigit cX11_isDigit 1 (some .boolean), Cond.methodLink RL 13 yX10_feed, Cond.instanceMethod yX10_feed, Cond.selects RX10 yX10_feed yX10_feed, Cond.code yX10_feed cX10_feed 6 (some .int), Cond.fieldLink RX10 80 "DawnHouse$Tape" "length" "I", Cond.methodLink RX10 84 yX6_addWord, Cond.instanceMethod yX6_addWord, Cond.selects RX6 yX6_addWord yX6_addWord, Cond.code yX6_addWord cX6_addWord 3 none, Cond.methodLink RL 17 yX11_feed, Cond.instanceMethod yX11_feed, Cond.selects RX11 yX11_feed yX11_feed, Cond.code yX11_feed cX11_feed 6 (some .int), Cond.fieldLink RX11 171 "DawnHouseModel" "taped" "I", Cond.methodLink RX11 174 yX11_put, Cond.instanceMethod yX11_put, Cond.selects RX11 yX11_put yX11_put, Cond.code yX11_put cX11_put 3 none]
def wsL_law_r11 : List Cond := [Cond.methodLink RL 18 yX10_back, Cond.instanceMethod yX10_back, Cond.selects RX10 yX10_back yX10_back, Cond.code yX10_back cX10_back 2 (some .int), Cond.methodLink RL 22 yX11_back, Cond.instanceMethod yX11_back, Cond.selects RX11 yX11_back yX11_back, Cond.code yX11_back cX11_back 2 (some .int), Cond.methodLink RL 23 yX10_read, Cond.instanceMethod yX10_read, Cond.selects RX10 yX10_read yX10_read, Cond.code yX10_read cX10_read 1 (some .int), Cond.fieldLink RX10 94 "DawnHouse$Parser" "fault" "I", Cond.fieldLink RX10 97 "DawnHouse$Parser" "draft" "LDawnHouse$Script;", Cond.methodLink RX10 88 yX7_scanTape, Cond.instanceMethod yX7_scanTape, Cond.selects RX7 yX7_scanTape yX7_scanTape, Cond.code yX7_scanTape cX7_scanTape 3 none, Cond.fieldLink RX7 26 "DawnHouse$Tokens" "next" "I", Cond.fieldLink RX7 37 "DawnHouse$Tokens" "amount" "J", Cond.methodLink RX7 30 yX7_skipBlanks, Cond.instanceMethod yX7_skipBlanks, Cond.selects RX7 yX7_skipBlanks yX7_skipBlanks, Cond.code yX7_skipBlanks cX7_skipBlanks 1 none]
def wsL_law_r12 : List Cond := [Cond.fieldLink RX7 41 "DawnHouse$Tape" "length" "I", Cond.methodLink RX7 46 yX6_byteAt, Cond.instanceMethod yX6_byteAt, Cond.selects RX6 yX6_byteAt yX6_byteAt, Cond.code yX6_byteAt cX6_byteAt 2 (some .int), Cond.static yX10_isBelow, Cond.code yX10_isBelow cX10_isBelow 2 (some .boolean), Cond.methodLink RX7 50 yX7_isBlank, Cond.static yX7_isBlank, Cond.code yX7_isBlank cX7_isBlank 1 (some .boolean), Cond.methodLink RX7 33 yX7_scanToken, Cond.instanceMethod yX7_scanToken, Cond.selects RX7 yX7_scanToken yX7_scanToken, Cond.code yX7_scanToken cX7_scanToken 2 (some .int), Cond.methodLink RX7 54 yX7_isLetter, Cond.static yX7_isLetter, Cond.code yX7_isLetter cX7_isLetter 1 (some .boolean), Cond.methodLink RX7 57 yX7_scanWord, Cond.instanceMethod yX7_scanWord, Cond.selects RX7 yX7_scanWord yX7_scanWord, Cond.code yX7_scanWord cX7_scanWord 2 (some .int), Cond.methodLink RX7 60 yX7_isDigit, Cond.static yX7_isDigit, Cond.code yX7_isDigit cX7_isDigit 1 (some .boolean)]
def wsL_law_r13 : List Cond := [Cond.methodLink RX7 69 yX7_kindOfWord, Cond.static yX7_kindOfWord, Cond.code yX7_kindOfWord cX7_kindOfWord 2 (some .int), Cond.constantLong RX7 77 (1885434484), Cond.constantLong RX7 79 (125780003615348), Cond.constantLong RX7 81 (499850634611), Cond.constantLong RX7 83 (6583653), Cond.constantLong RX7 85 (131277443786868), Cond.constantLong RX7 87 (7566701), Cond.constantLong RX7 89 (427071729268), Cond.constantLong RX7 91 (1836020596), Cond.constantLong RX7 93 (7168376), Cond.methodLink RX7 63 yX7_scanNumber, Cond.instanceMethod yX7_scanNumber, Cond.selects RX7 yX7_scanNumber yX7_scanNumber, Cond.code yX7_scanNumber cX7_scanNumber 2 (some .int), Cond.constantLong RX7 73 (10), Cond.constantLong RX7 75 (48), Cond.methodLink RX7 66 yX7_isSign, Cond.static yX7_isSign, Cond.code yX7_isSign cX7_isSign 1 (some .boolean), Cond.methodLink RX10 91 yX2_parseText, Cond.instanceMethod yX2_parseText, Cond.selects RX2 yX2_parseText yX2_parseText]
def wsL_law_r14 : List Cond := [Cond.code yX2_parseText cX2_parseText 2 none, Cond.fieldLink RX2 31 "DawnHouse$Parser" "at" "I", Cond.fieldLink RX2 34 "DawnHouse$Parser" "senseFault" "I", Cond.fieldLink RX2 37 "DawnHouse$Parser" "sensePlace" "I", Cond.methodLink RX2 26 yX4_clear, Cond.instanceMethod yX4_clear, Cond.selects RX4 yX4_clear yX4_clear, Cond.code yX4_clear cX4_clear 1 none, Cond.methodLink RX2 40 yX2_peek, Cond.instanceMethod yX2_peek, Cond.selects RX2 yX2_peek yX2_peek, Cond.code yX2_peek cX2_peek 1 (some .int), Cond.fieldLink RX2 138 "DawnHouse$Tokens" "kinds" "[I", Cond.methodLink RX2 44 yX2_parseStep, Cond.instanceMethod yX2_parseStep, Cond.selects RX2 yX2_parseStep yX2_parseStep, Cond.code yX2_parseStep cX2_parseStep 2 none, Cond.fieldLink RX2 51 "DawnHouse$Script" "steps" "I", Cond.methodLink RX2 47 yX2_fail, Cond.instanceMethod yX2_fail, Cond.selects RX2 yX2_fail yX2_fail, Cond.code yX2_fail cX2_fail 2 none, Cond.fieldLink RX2 141 "DawnHouse$Tokens" "places" "[I", Cond.methodLink RX2 54 yX4_beginStep]
def wsL_law_r15 : List Cond := [Cond.instanceMethod yX4_beginStep, Cond.selects RX4 yX4_beginStep yX4_beginStep, Cond.code yX4_beginStep cX4_beginStep 2 none, Cond.methodLink RX2 58 yX2_accept, Cond.instanceMethod yX2_accept, Cond.selects RX2 yX2_accept yX2_accept, Cond.code yX2_accept cX2_accept 2 none, Cond.methodLink RX2 61 yX2_parseHead, Cond.instanceMethod yX2_parseHead, Cond.selects RX2 yX2_parseHead yX2_parseHead, Cond.code yX2_parseHead cX2_parseHead 3 none, Cond.fieldLink RX2 75 "DawnHouse$Script" "names" "[J", Cond.fieldLink RX2 83 "DawnHouse$Script" "takes" "[I", Cond.fieldLink RX2 91 "DawnHouse$Script" "due" "[I", Cond.fieldLink RX2 94 "DawnHouse$Script" "weight" "[I", Cond.methodLink RX2 79 yX2_acceptNewName, Cond.instanceMethod yX2_acceptNewName, Cond.selects RX2 yX2_acceptNewName yX2_acceptNewName, Cond.code yX2_acceptNewName cX2_acceptNewName 3 (some .long), Cond.fieldLink RX2 122 "DawnHouse$Tokens" "amounts" "[J", Cond.methodLink RX2 134 yX4_tells, Cond.instanceMethod yX4_tells, Cond.selects RX4 yX4_tells yX4_tells, Cond.code yX4_tells cX4_tells 4 (some .boolean)]
def wsL_law_r16 : List Cond := [Cond.methodLink RX2 131 yX2_noteSense, Cond.instanceMethod yX2_noteSense, Cond.selects RX2 yX2_noteSense yX2_noteSense, Cond.code yX2_noteSense cX2_noteSense 2 none, Cond.methodLink RX2 87 yX2_acceptInt, Cond.instanceMethod yX2_acceptInt, Cond.selects RX2 yX2_acceptInt yX2_acceptInt, Cond.code yX2_acceptInt cX2_acceptInt 6 (some .int), Cond.methodLink RX2 65 yX2_parseSum, Cond.instanceMethod yX2_parseSum, Cond.selects RX2 yX2_parseSum yX2_parseSum, Cond.code yX2_parseSum cX2_parseSum 4 none, Cond.methodLink RX2 97 yX2_parseProduct, Cond.instanceMethod yX2_parseProduct, Cond.selects RX2 yX2_parseProduct yX2_parseProduct, Cond.methodLink RX2 100 yX4_addCode, Cond.instanceMethod yX4_addCode, Cond.selects RX4 yX4_addCode yX4_addCode, Cond.code yX4_addCode cX4_addCode 3 none, Cond.code yX2_parseInside cX2_parseInside 2 none, Cond.code yX2_parseProduct cX2_parseProduct 3 none, Cond.methodLink RX2 104 yX2_parseUnit, Cond.instanceMethod yX2_parseUnit, Cond.selects RX2 yX2_parseUnit yX2_parseUnit]
def wsL_law_r17 : List Cond := [Cond.code yX2_parseUnit cX2_parseUnit 3 none, Cond.methodLink RX2 107 yX2_acceptPart, Cond.instanceMethod yX2_acceptPart, Cond.selects RX2 yX2_acceptPart yX2_acceptPart, Cond.code yX2_acceptPart cX2_acceptPart 2 (some .int), Cond.methodLink RX2 127 yX4_partNamed, Cond.instanceMethod yX4_partNamed, Cond.selects RX4 yX4_partNamed yX4_partNamed, Cond.code yX4_partNamed cX4_partNamed 4 (some .int), Cond.methodLink RX2 110 yX4_addPart, Cond.instanceMethod yX4_addPart, Cond.selects RX4 yX4_addPart yX4_addPart, Cond.code yX4_addPart cX4_addPart 2 none, Cond.methodLink RX4 60 yX4_addCode, Cond.methodLink RX2 113 yX2_acceptOpening, Cond.instanceMethod yX2_acceptOpening, Cond.selects RX2 yX2_acceptOpening yX2_acceptOpening, Cond.code yX2_acceptOpening cX2_acceptOpening 2 none, Cond.methodLink RX2 116 yX4_addTable, Cond.instanceMethod yX4_addTable, Cond.selects RX4 yX4_addTable yX4_addTable, Cond.code yX4_addTable cX4_addTable 3 none, Cond.methodLink RX2 119 yX2_parseInside, Cond.instanceMethod yX2_parseInside]
def wsL_law_r18 : List Cond := [Cond.selects RX2 yX2_parseInside yX2_parseInside, Cond.methodLink RX2 68 yX4_endStep, Cond.instanceMethod yX4_endStep, Cond.selects RX4 yX4_endStep yX4_endStep, Cond.code yX4_endStep cX4_endStep 1 none, Cond.methodLink RX10 100 yX4_copyOf, Cond.instanceMethod yX4_copyOf, Cond.selects RX4 yX4_copyOf yX4_copyOf, Cond.code yX4_copyOf cX4_copyOf 2 none, Cond.methodLink RX4 64 arraycopyName, Cond.native arraycopyName, Cond.static arraycopyName, Cond.initialized "java/lang/System", Cond.methodLink RX10 104 yX9_startAnew, Cond.instanceMethod yX9_startAnew, Cond.selects RX9 yX9_startAnew yX9_startAnew, Cond.code yX9_startAnew cX9_startAnew 2 none, Cond.methodLink RX10 107 yX3_startAnew, Cond.instanceMethod yX3_startAnew, Cond.selects RX3 yX3_startAnew yX3_startAnew, Cond.code yX3_startAnew cX3_startAnew 2 none, Cond.methodLink RL 27 yX11_read, Cond.instanceMethod yX11_read, Cond.selects RX11 yX11_read yX11_read]
def wsL_law_r19 : List Cond := [Cond.code yX11_read cX11_read 4 (some .int), Cond.fieldLink RX11 178 "DawnHouseModel" "size" "I", Cond.fieldLink RX11 207 "DawnHouseModel" "t" "I", Cond.fieldLink RX11 231 "DawnHouseModel" "open" "I", Cond.fieldLink RX11 204 "DawnHouseModel" "fault" "I", Cond.fieldLink RX11 213 "DawnHouseModel" "worst" "I", Cond.fieldLink RX11 234 "DawnHouseModel" "live" "I", Cond.fieldLink RX11 237 "DawnHouseModel" "side" "I", Cond.fieldLink RX11 240 "DawnHouseModel" "codes" "I", Cond.fieldLink RX11 210 "DawnHouseModel" "faultPlace" "I", Cond.fieldLink RX11 216 "DawnHouseModel" "worstPlace" "I", Cond.methodLink RX11 228 yX11_cut, Cond.instanceMethod yX11_cut, Cond.selects RX11 yX11_cut yX11_cut, Cond.code yX11_cut cX11_cut 8 none, Cond.fieldLink RX11 191 "DawnHouseModel" "tokens" "I", Cond.methodLink RX11 194 yX11_at, Cond.instanceMethod yX11_at, Cond.selects RX11 yX11_at yX11_at, Cond.code yX11_at cX11_at 2 (some .int), Cond.methodLink RX11 197 yX11_token, Cond.instanceMethod yX11_token, Cond.selects RX11 yX11_token yX11_token, Cond.code yX11_token cX11_token 6 none]
def wsL_law_r20 : List Cond := [Cond.methodLink RX11 201 yX11_isLetter, Cond.static yX11_isLetter, Cond.code yX11_isLetter cX11_isLetter 1 (some .boolean), Cond.methodLink RX11 222 yX11_is, Cond.instanceMethod yX11_is, Cond.selects RX11 yX11_is yX11_is, Cond.code yX11_is cX11_is 2 (some .boolean), Cond.methodLink RX11 243 yX11_tell, Cond.instanceMethod yX11_tell, Cond.selects RX11 yX11_tell yX11_tell, Cond.code yX11_tell cX11_tell 4 none, Cond.fieldLink RX11 257 "DawnHouseModel" "seenTables" "I", Cond.fieldLink RX11 260 "DawnHouseModel" "seenParts" "I", Cond.methodLink RX11 219 yX11_fail, Cond.instanceMethod yX11_fail, Cond.selects RX11 yX11_fail yX11_fail, Cond.code yX11_fail cX11_fail 2 none, Cond.methodLink RX11 225 yX11_next, Cond.instanceMethod yX11_next, Cond.selects RX11 yX11_next yX11_next, Cond.code yX11_next cX11_next 1 none, Cond.methodLink RX11 246 yX11_must, Cond.instanceMethod yX11_must, Cond.selects RX11 yX11_must yX11_must]
def wsL_law_r21 : List Cond := [Cond.code yX11_must cX11_must 2 none, Cond.methodLink RX11 253 yX11_inRange, Cond.instanceMethod yX11_inRange, Cond.selects RX11 yX11_inRange yX11_inRange, Cond.code yX11_inRange cX11_inRange 4 (some .int), Cond.methodLink RX11 249 yX11_wrong, Cond.instanceMethod yX11_wrong, Cond.selects RX11 yX11_wrong yX11_wrong, Cond.code yX11_wrong cX11_wrong 4 none, Cond.methodLink RX11 263 yX11_expression, Cond.instanceMethod yX11_expression, Cond.selects RX11 yX11_expression yX11_expression, Cond.code yX11_expression cX11_expression 3 none, Cond.fieldLink RX11 269 "DawnHouseModel" "waiting" "I", Cond.methodLink RX11 272 yX11_opens, Cond.instanceMethod yX11_opens, Cond.selects RX11 yX11_opens yX11_opens, Cond.code yX11_opens cX11_opens 2 none, Cond.methodLink RX11 275 yX11_ofTable, Cond.instanceMethod yX11_ofTable, Cond.selects RX11 yX11_ofTable yX11_ofTable, Cond.code yX11_ofTable cX11_ofTable 4 none, Cond.methodLink RX11 266 yX11_emit, Cond.instanceMethod yX11_emit]
def wsL_law_r22 : List Cond := [Cond.selects RX11 yX11_emit yX11_emit, Cond.code yX11_emit cX11_emit 3 none, Cond.methodLink RX11 278 yX11_named, Cond.instanceMethod yX11_named, Cond.selects RX11 yX11_named yX11_named, Cond.code yX11_named cX11_named 3 none, Cond.methodLink RX11 281 yX11_inner, Cond.instanceMethod yX11_inner, Cond.selects RX11 yX11_inner yX11_inner, Cond.code yX11_inner cX11_inner 2 (some .int), Cond.methodLink RX11 285 yX11_comesOut, Cond.instanceMethod yX11_comesOut, Cond.selects RX11 yX11_comesOut yX11_comesOut, Cond.code yX11_comesOut cX11_comesOut 3 none, Cond.methodLink RL 28 yX10_place, Cond.instanceMethod yX10_place, Cond.selects RX10 yX10_place yX10_place, Cond.code yX10_place cX10_place 1 (some .int), Cond.fieldLink RX10 108 "DawnHouse$Parser" "faultPlace" "I", Cond.methodLink RL 31 yX11_place, Cond.instanceMethod yX11_place, Cond.selects RX11 yX11_place yX11_place, Cond.code yX11_place cX11_place 1 (some .int), Cond.methodLink RL 32 yX10_span]
def wsL_law_r23 : List Cond := [Cond.instanceMethod yX10_span, Cond.selects RX10 yX10_span yX10_span, Cond.code yX10_span cX10_span 4 (some .boolean), Cond.fieldLink RX10 115 "DawnHouse$Tables" "spanBegin" "[I", Cond.fieldLink RX10 119 "DawnHouse$Tables" "spanEnd" "[I", Cond.methodLink RX10 111 yX10_isBelow, Cond.methodLink RL 36 yX11_span, Cond.instanceMethod yX11_span, Cond.selects RX11 yX11_span yX11_span, Cond.code yX11_span cX11_span 4 (some .boolean), Cond.methodLink RX11 292 yX11_isTable, Cond.static yX11_isTable, Cond.code yX11_isTable cX11_isTable 1 (some .boolean), Cond.methodLink RL 37 yX10_row, Cond.instanceMethod yX10_row, Cond.selects RX10 yX10_row yX10_row, Cond.code yX10_row cX10_row 4 (some .int), Cond.fieldLink RX10 122 "DawnHouse$Tables" "loadedRows" "[I", Cond.methodLink RX10 125 yX5_load, Cond.instanceMethod yX5_load, Cond.selects RX5 yX5_load yX5_load, Cond.code yX5_load cX5_load 4 (some .int), Cond.methodLink RX5 41 yX0_add, Cond.instanceMethod yX0_add]
def wsL_law_r24 : List Cond := [Cond.selects RX0 yX0_add yX0_add, Cond.code yX0_add cX0_add 5 none, Cond.methodLink RX0 25 Lib.MathLoose.max_long.x, Cond.static Lib.MathLoose.max_long.x, Cond.initialized "java/lang/Math", Cond.code Lib.MathLoose.max_long.x Lib.MathLoose.max_long.code 4 (some .long), Cond.methodLink RL 41 yX11_row, Cond.instanceMethod yX11_row, Cond.selects RX11 yX11_row yX11_row, Cond.code yX11_row cX11_row 4 (some .int), Cond.methodLink RL 42 yX10_land, Cond.instanceMethod yX10_land, Cond.selects RX10 yX10_land yX10_land, Cond.code yX10_land cX10_land 2 (some .int), Cond.methodLink RX10 129 yX9_undo, Cond.instanceMethod yX9_undo, Cond.selects RX9 yX9_undo yX9_undo, Cond.code yX9_undo cX9_undo 4 none, Cond.fieldLink RX9 56 "DawnHouse$Script" "steps" "I", Cond.fieldLink RX9 61 "DawnHouse$Script" "allTables" "[I", Cond.methodLink RX9 64 yX9_isUnderWay, Cond.instanceMethod yX9_isUnderWay, Cond.selects RX9 yX9_isUnderWay yX9_isUnderWay, Cond.code yX9_isUnderWay cX9_isUnderWay 2 (some .boolean)]
def wsL_law_r25 : List Cond := [Cond.methodLink RX10 132 yX5_bringIn, Cond.instanceMethod yX5_bringIn, Cond.selects RX5 yX5_bringIn yX5_bringIn, Cond.code yX5_bringIn cX5_bringIn 2 (some .int), Cond.methodLink RX5 45 yX0_moveFrom, Cond.instanceMethod yX0_moveFrom, Cond.selects RX0 yX0_moveFrom yX0_moveFrom, Cond.code yX0_moveFrom cX0_moveFrom 4 none, Cond.methodLink RL 45 yX11_land, Cond.instanceMethod yX11_land, Cond.selects RX11 yX11_land yX11_land, Cond.code yX11_land cX11_land 4 (some .int), Cond.methodLink RL 46 yX10_reader, Cond.instanceMethod yX10_reader, Cond.selects RX10 yX10_reader yX10_reader, Cond.code yX10_reader cX10_reader 2 (some .int), Cond.fieldLink RX10 136 "DawnHouse$Post" "readers" "I", Cond.methodLink RX10 139 yX3_addReader, Cond.instanceMethod yX3_addReader, Cond.selects RX3 yX3_addReader yX3_addReader, Cond.code yX3_addReader cX3_addReader 3 (some .int), Cond.methodLink RL 49 yX11_reader, Cond.instanceMethod yX11_reader, Cond.selects RX11 yX11_reader yX11_reader]
def wsL_law_r26 : List Cond := [Cond.code yX11_reader cX11_reader 2 (some .int), Cond.fieldLink RX11 289 "DawnHouseModel" "readers" "I", Cond.methodLink RL 50 yX10_rights, Cond.instanceMethod yX10_rights, Cond.selects RX10 yX10_rights yX10_rights, Cond.code yX10_rights cX10_rights 3 (some .boolean), Cond.fieldLink RX10 146 "DawnHouse$Post" "rights" "[I", Cond.methodLink RX10 142 yX3_hasReader, Cond.instanceMethod yX3_hasReader, Cond.selects RX3 yX3_hasReader yX3_hasReader, Cond.code yX3_hasReader cX3_hasReader 2 (some .boolean), Cond.methodLink RL 54 yX11_rights, Cond.instanceMethod yX11_rights, Cond.selects RX11 yX11_rights yX11_rights, Cond.code yX11_rights cX11_rights 3 (some .boolean), Cond.methodLink RX11 295 yX11_isReader, Cond.instanceMethod yX11_isReader, Cond.selects RX11 yX11_isReader yX11_isReader, Cond.code yX11_isReader cX11_isReader 2 (some .boolean), Cond.methodLink RL 55 yX10_hold, Cond.instanceMethod yX10_hold, Cond.selects RX10 yX10_hold yX10_hold, Cond.code yX10_hold cX10_hold 3 (some .boolean), Cond.fieldLink RX10 152 "DawnHouse$Post" "heldBits" "I"]
def wsL_law_r27 : List Cond := [Cond.fieldLink RX10 155 "DawnHouse$Work" "doneBits" "I", Cond.methodLink RX10 149 yX3_isHeld, Cond.instanceMethod yX3_isHeld, Cond.selects RX3 yX3_isHeld yX3_isHeld, Cond.code yX3_isHeld cX3_isHeld 2 (some .boolean), Cond.methodLink RX10 158 yX3_catchUp, Cond.instanceMethod yX3_catchUp, Cond.selects RX3 yX3_catchUp yX3_catchUp, Cond.code yX3_catchUp cX3_catchUp 4 none, Cond.methodLink RX3 43 yX3_isRead, Cond.instanceMethod yX3_isRead, Cond.selects RX3 yX3_isRead yX3_isRead, Cond.code yX3_isRead cX3_isRead 3 (some .boolean), Cond.methodLink RX3 50 yX3_offer, Cond.instanceMethod yX3_offer, Cond.selects RX3 yX3_offer yX3_offer, Cond.code yX3_offer cX3_offer 9 none, Cond.fieldLink RX3 58 "DawnHouse$Values" "results" "[J", Cond.methodLink RX3 54 yX3_cell, Cond.static yX3_cell, Cond.code yX3_cell cX3_cell 2 (some .int), Cond.methodLink RL 59 yX11_hold, Cond.instanceMethod yX11_hold, Cond.selects RX11 yX11_hold yX11_hold]
def wsL_law_r28 : List Cond := [Cond.code yX11_hold cX11_hold 4 (some .boolean), Cond.methodLink RX11 298 yX11_sends, Cond.instanceMethod yX11_sends, Cond.selects RX11 yX11_sends yX11_sends, Cond.code yX11_sends cX11_sends 8 none, Cond.methodLink RL 60 yX10_reads, Cond.instanceMethod yX10_reads, Cond.selects RX10 yX10_reads yX10_reads, Cond.code yX10_reads cX10_reads 3 (some .boolean), Cond.fieldLink RX10 168 "DawnHouse$Post" "readBy" "[I", Cond.methodLink RX10 162 yX4_hasReport, Cond.instanceMethod yX4_hasReport, Cond.selects RX4 yX4_hasReport yX4_hasReport, Cond.code yX4_hasReport cX4_hasReport 2 (some .boolean), Cond.methodLink RX4 53 yX4_hasStep, Cond.instanceMethod yX4_hasStep, Cond.selects RX4 yX4_hasStep yX4_hasStep, Cond.code yX4_hasStep cX4_hasStep 2 (some .boolean), Cond.methodLink RX4 57 yX4_isReport, Cond.instanceMethod yX4_isReport, Cond.selects RX4 yX4_isReport yX4_isReport, Cond.code yX4_isReport cX4_isReport 2 (some .boolean), Cond.methodLink RX10 165 yX3_isRead, Cond.methodLink RL 63 yX11_reads]
def wsL_law_r29 : List Cond := [Cond.instanceMethod yX11_reads, Cond.selects RX11 yX11_reads yX11_reads, Cond.code yX11_reads cX11_reads 3 (some .boolean), Cond.methodLink RX11 301 yX11_isStep, Cond.instanceMethod yX11_isStep, Cond.selects RX11 yX11_isStep yX11_isStep, Cond.code yX11_isStep cX11_isStep 2 (some .boolean), Cond.methodLink RL 64 yX10_hosts, Cond.instanceMethod yX10_hosts, Cond.selects RX10 yX10_hosts yX10_hosts, Cond.code yX10_hosts cX10_hosts 2 (some .boolean), Cond.fieldLink RX10 171 "DawnHouse$Work" "wayBits" "I", Cond.fieldLink RX10 174 "DawnHouse$Work" "hosts" "I", Cond.methodLink RL 68 yX11_hosts, Cond.instanceMethod yX11_hosts, Cond.selects RX11 yX11_hosts yX11_hosts, Cond.code yX11_hosts cX11_hosts 3 (some .boolean), Cond.methodLink RL 69 yX10_tick, Cond.instanceMethod yX10_tick, Cond.selects RX10 yX10_tick yX10_tick, Cond.code yX10_tick cX10_tick 1 (some .int), Cond.fieldLink RX10 177 "DawnHouse$Work" "now" "I", Cond.methodLink RX10 180 yX9_passTick, Cond.instanceMethod yX9_passTick]
def wsL_law_r30 : List Cond := [Cond.selects RX9 yX9_passTick yX9_passTick, Cond.code yX9_passTick cX9_passTick 2 none, Cond.methodLink RX9 68 yX9_beginAt, Cond.instanceMethod yX9_beginAt, Cond.selects RX9 yX9_beginAt yX9_beginAt, Cond.code yX9_beginAt cX9_beginAt 3 none, Cond.methodLink RX9 75 yX9_firstReady, Cond.instanceMethod yX9_firstReady, Cond.selects RX9 yX9_firstReady yX9_firstReady, Cond.code yX9_firstReady cX9_firstReady 2 (some .int), Cond.methodLink RX9 82 yX9_isReady, Cond.instanceMethod yX9_isReady, Cond.selects RX9 yX9_isReady yX9_isReady, Cond.code yX9_isReady cX9_isReady 2 (some .boolean), Cond.fieldLink RX9 88 "DawnHouse$Script" "ownTables" "[I", Cond.fieldLink RX9 91 "DawnHouse$Tables" "landedBits" "I", Cond.fieldLink RX9 96 "DawnHouse$Script" "ownParts" "[I", Cond.methodLink RX9 79 yX4_hasStep, Cond.methodLink RX9 85 yX9_isDone, Cond.instanceMethod yX9_isDone, Cond.selects RX9 yX9_isDone yX9_isDone, Cond.code yX9_isDone cX9_isDone 2 (some .boolean), Cond.methodLink RX9 72 yX9_workAt, Cond.instanceMethod yX9_workAt]
def wsL_law_r31 : List Cond := [Cond.selects RX9 yX9_workAt yX9_workAt, Cond.code yX9_workAt cX9_workAt 3 none, Cond.fieldLink RX9 99 "DawnHouse$Script" "takes" "[I", Cond.methodLink RX9 102 yX9_finish, Cond.instanceMethod yX9_finish, Cond.selects RX9 yX9_finish yX9_finish, Cond.code yX9_finish cX9_finish 2 none, Cond.methodLink RX9 105 yX8_settle, Cond.instanceMethod yX8_settle, Cond.selects RX8 yX8_settle yX8_settle, Cond.code yX8_settle cX8_settle 5 none, Cond.fieldLink RX8 32 "DawnHouse$Script" "codeEnds" "[I", Cond.methodLink RX8 36 Lib.Math.min.name, Cond.static Lib.Math.min.name, Cond.code Lib.Math.min.name Lib.Math.min.code 2 (some .int), Cond.fieldLink RX8 42 "DawnHouse$Values" "height" "I", Cond.fieldLink RX8 50 "DawnHouse$Script" "works" "[I", Cond.fieldLink RX8 53 "DawnHouse$Script" "operands" "[I", Cond.methodLink RX8 26 yX4_hasStep, Cond.methodLink RX8 46 yX4_codeBegin, Cond.instanceMethod yX4_codeBegin, Cond.selects RX4 yX4_codeBegin yX4_codeBegin, Cond.code yX4_codeBegin cX4_codeBegin 2 (some .int), Cond.methodLink RX8 56 yX8_perform]
def wsL_law_r32 : List Cond := [Cond.instanceMethod yX8_perform, Cond.selects RX8 yX8_perform yX8_perform, Cond.code yX8_perform cX8_perform 8 none, Cond.methodLink RX8 64 yX8_push, Cond.instanceMethod yX8_push, Cond.selects RX8 yX8_push yX8_push, Cond.code yX8_push cX8_push 3 none, Cond.methodLink RX8 68 yX8_figure, Cond.instanceMethod yX8_figure, Cond.selects RX8 yX8_figure yX8_figure, Cond.code yX8_figure cX8_figure 5 (some .long), Cond.fieldLink RX8 80 "DawnHouse$Tables" "standing" "LDawnHouse$Figures;", Cond.fieldLink RX8 86 "DawnHouse$Figures" "sums" "[J", Cond.fieldLink RX8 91 "DawnHouse$Figures" "counts" "[J", Cond.fieldLink RX8 94 "DawnHouse$Figures" "mosts" "[J", Cond.methodLink RX8 60 yX8_pop, Cond.instanceMethod yX8_pop, Cond.selects RX8 yX8_pop yX8_pop, Cond.code yX8_pop cX8_pop 1 (some .long), Cond.methodLink RX8 72 yX8_joined, Cond.static yX8_joined, Cond.code yX8_joined cX8_joined 5 (some .long), Cond.methodLink RX8 97 Lib.MathLoose.max_long.x, Cond.methodLink RX9 110 yX4_isReport]
def wsL_law_r33 : List Cond := [Cond.methodLink RX9 113 yX3_deliver, Cond.instanceMethod yX3_deliver, Cond.selects RX3 yX3_deliver yX3_deliver, Cond.code yX3_deliver cX3_deliver 3 none, Cond.methodLink RX3 46 yX3_isHeld, Cond.methodLink RL 72 yX11_tick, Cond.instanceMethod yX11_tick, Cond.selects RX11 yX11_tick yX11_tick, Cond.code yX11_tick cX11_tick 4 (some .int), Cond.fieldLink RX11 314 "DawnHouseModel" "now" "I", Cond.methodLink RX11 317 yX11_isReady, Cond.instanceMethod yX11_isReady, Cond.selects RX11 yX11_isReady yX11_isReady, Cond.code yX11_isReady cX11_isReady 3 (some .boolean), Cond.methodLink RX11 311 yX11_isAtHost, Cond.instanceMethod yX11_isAtHost, Cond.selects RX11 yX11_isAtHost yX11_isAtHost, Cond.code yX11_isAtHost cX11_isAtHost 3 (some .boolean), Cond.methodLink RX11 320 yX11_works, Cond.instanceMethod yX11_works, Cond.selects RX11 yX11_works yX11_works, Cond.code yX11_works cX11_works 10 none, Cond.methodLink RX11 308 yX11_put_, Cond.instanceMethod yX11_put_]
def wsL_law_r34 : List Cond := [Cond.selects RX11 yX11_put_ yX11_put_, Cond.code yX11_put_ cX11_put_ 7 none, Cond.methodLink RX11 304 yX11_ofRows, Cond.instanceMethod yX11_ofRows, Cond.selects RX11 yX11_ofRows yX11_ofRows, Cond.code yX11_ofRows cX11_ofRows 8 (some .long), Cond.methodLink RL 73 yX10_plan, Cond.instanceMethod yX10_plan, Cond.selects RX10 yX10_plan yX10_plan, Cond.code yX10_plan cX10_plan 1 (some .int), Cond.methodLink RX10 183 yX1_findBest, Cond.instanceMethod yX1_findBest, Cond.selects RX1 yX1_findBest yX1_findBest, Cond.code yX1_findBest cX1_findBest 4 (some .int), Cond.fieldLink RX1 55 "DawnHouse$Tables" "spanEnd" "[I", Cond.constant RX1 66 (280001), Cond.fieldLink RX1 74 "DawnHouse$Forecast" "cost" "I", Cond.fieldLink RX1 81 "DawnHouse$Forecast" "floor" "I", Cond.methodLink RX1 47 yX1_reckonSoonest, Cond.instanceMethod yX1_reckonSoonest, Cond.selects RX1 yX1_reckonSoonest yX1_reckonSoonest, Cond.code yX1_reckonSoonest cX1_reckonSoonest 3 none, Cond.fieldLink RX1 91 "DawnHouse$Script" "steps" "I", Cond.fieldLink RX1 104 "DawnHouse$Work" "doneAt" "[I"]
def wsL_law_r35 : List Cond := [Cond.fieldLink RX1 110 "DawnHouse$Work" "now" "I", Cond.fieldLink RX1 113 "DawnHouse$Script" "takes" "[I", Cond.fieldLink RX1 116 "DawnHouse$Work" "worked" "[I", Cond.methodLink RX1 119 Lib.Math.min.name, Cond.methodLink RX1 129 Lib.Math.max.name, Cond.static Lib.Math.max.name, Cond.code Lib.Math.max.name Lib.Math.max.code 2 (some .int), Cond.methodLink RX1 96 yX1_openingOf, Cond.instanceMethod yX1_openingOf, Cond.selects RX1 yX1_openingOf yX1_openingOf, Cond.code yX1_openingOf cX1_openingOf 6 (some .int), Cond.fieldLink RX1 135 "DawnHouse$Script" "ownTables" "[I", Cond.fieldLink RX1 138 "DawnHouse$Tables" "landedBits" "I", Cond.methodLink RX1 100 yX9_isDone, Cond.methodLink RX1 107 yX9_isUnderWay, Cond.methodLink RX1 125 yX1_partsOpening, Cond.instanceMethod yX1_partsOpening, Cond.selects RX1 yX1_partsOpening yX1_partsOpening, Cond.code yX1_partsOpening cX1_partsOpening 4 (some .int), Cond.fieldLink RX1 141 "DawnHouse$Script" "ownParts" "[I", Cond.methodLink RX1 132 yX1_costOf, Cond.instanceMethod yX1_costOf, Cond.selects RX1 yX1_costOf yX1_costOf, Cond.code yX1_costOf cX1_costOf 3 (some .int)]
def wsL_law_r36 : List Cond := [Cond.fieldLink RX1 156 "DawnHouse$Script" "due" "[I", Cond.fieldLink RX1 159 "DawnHouse$Script" "weight" "[I", Cond.methodLink RX1 71 yX1_queueByNumbers, Cond.instanceMethod yX1_queueByNumbers, Cond.selects RX1 yX1_queueByNumbers yX1_queueByNumbers, Cond.code yX1_queueByNumbers cX1_queueByNumbers 2 none, Cond.fieldLink RX1 144 "DawnHouse$Forecast" "waiting" "I", Cond.methodLink RX1 147 yX1_enqueue, Cond.instanceMethod yX1_enqueue, Cond.selects RX1 yX1_enqueue yX1_enqueue, Cond.code yX1_enqueue cX1_enqueue 2 none, Cond.methodLink RX1 150 yX4_hasStep, Cond.methodLink RX1 153 yX1_isWaiting, Cond.instanceMethod yX1_isWaiting, Cond.selects RX1 yX1_isWaiting yX1_isWaiting, Cond.code yX1_isWaiting cX1_isWaiting 2 (some .boolean), Cond.methodLink RX1 67 yX1_runAhead, Cond.instanceMethod yX1_runAhead, Cond.selects RX1 yX1_runAhead yX1_runAhead, Cond.code yX1_runAhead cX1_runAhead 4 none, Cond.fieldLink RX1 171 "DawnHouse$Work" "hosts" "I", Cond.fieldLink RX1 181 "DawnHouse$Forecast" "begunBits" "I", Cond.methodLink RX1 162 yX1_startRun, Cond.instanceMethod yX1_startRun]
def wsL_law_r37 : List Cond := [Cond.selects RX1 yX1_startRun yX1_startRun, Cond.code yX1_startRun cX1_startRun 3 none, Cond.fieldLink RX1 192 "DawnHouse$Forecast" "decisive" "I", Cond.fieldLink RX1 195 "DawnHouse$Work" "atHost" "[I", Cond.methodLink RX1 165 yX1_isOpen, Cond.instanceMethod yX1_isOpen, Cond.selects RX1 yX1_isOpen yX1_isOpen, Cond.code yX1_isOpen cX1_isOpen 2 (some .boolean), Cond.methodLink RX1 187 yJ6_bitCount_0f7a4, Cond.static yJ6_bitCount_0f7a4, Cond.initialized RJ6, Cond.code yJ6_bitCount_0f7a4 cJ6_bitCount_0f7a4 1 (some .int), Cond.constant RJ6 265 (1431655765), Cond.constant RJ6 266 (858993459), Cond.constant RJ6 267 (252645135), Cond.methodLink RX1 168 yX1_noteEnded, Cond.instanceMethod yX1_noteEnded, Cond.selects RX1 yX1_noteEnded yX1_noteEnded, Cond.code yX1_noteEnded cX1_noteEnded 3 none, Cond.fieldLink RX1 198 "DawnHouse$Forecast" "endedBits" "I", Cond.methodLink RX1 174 yX1_beginFirst, Cond.instanceMethod yX1_beginFirst, Cond.selects RX1 yX1_beginFirst yX1_beginFirst, Cond.code yX1_beginFirst cX1_beginFirst 5 none]
def wsL_law_r38 : List Cond := [Cond.methodLink RX1 201 yX1_isReady, Cond.instanceMethod yX1_isReady, Cond.selects RX1 yX1_isReady yX1_isReady, Cond.code yX1_isReady cX1_isReady 3 (some .boolean), Cond.methodLink RX1 184 yX1_setEnd, Cond.instanceMethod yX1_setEnd, Cond.selects RX1 yX1_setEnd yX1_setEnd, Cond.code yX1_setEnd cX1_setEnd 3 none, Cond.methodLink RX1 178 yX1_nextChange, Cond.instanceMethod yX1_nextChange, Cond.selects RX1 yX1_nextChange yX1_nextChange, Cond.code yX1_nextChange cX1_nextChange 4 (some .int), Cond.methodLink RX1 78 yX1_keepBest, Cond.instanceMethod yX1_keepBest, Cond.selects RX1 yX1_keepBest yX1_keepBest, Cond.code yX1_keepBest cX1_keepBest 1 none, Cond.methodLink RX1 204 arraycopyName, Cond.methodLink RX1 84 yX1_nextQueue, Cond.instanceMethod yX1_nextQueue, Cond.selects RX1 yX1_nextQueue yX1_nextQueue, Cond.code yX1_nextQueue cX1_nextQueue 4 (some .boolean), Cond.methodLink RX1 210 yX1_leastAbove, Cond.instanceMethod yX1_leastAbove, Cond.selects RX1 yX1_leastAbove yX1_leastAbove]
def wsL_law_r39 : List Cond := [Cond.code yX1_leastAbove cX1_leastAbove 4 (some .int), Cond.methodLink RX1 213 yX1_sortBehind, Cond.instanceMethod yX1_sortBehind, Cond.selects RX1 yX1_sortBehind yX1_sortBehind, Cond.code yX1_sortBehind cX1_sortBehind 5 none, Cond.methodLink RX1 88 yX1_orderByBest, Cond.instanceMethod yX1_orderByBest, Cond.selects RX1 yX1_orderByBest yX1_orderByBest, Cond.code yX1_orderByBest cX1_orderByBest 4 none, Cond.fieldLink RX1 58 "DawnHouse$Work" "order" "[I", Cond.methodLink RX1 216 yX1_nextIdle, Cond.instanceMethod yX1_nextIdle, Cond.selects RX1 yX1_nextIdle yX1_nextIdle, Cond.code yX1_nextIdle cX1_nextIdle 3 (some .int), Cond.methodLink RL 76 yX11_plan, Cond.instanceMethod yX11_plan, Cond.selects RX11 yX11_plan yX11_plan, Cond.code yX11_plan cX11_plan 6 (some .int), Cond.methodLink RX11 332 yX11_foresees, Cond.instanceMethod yX11_foresees, Cond.selects RX11 yX11_foresees yX11_foresees, Cond.code yX11_foresees cX11_foresees 5 none, Cond.methodLink RX11 323 yX11_lands, Cond.instanceMethod yX11_lands]
def wsL_law_r40 : List Cond := [Cond.selects RX11 yX11_lands yX11_lands, Cond.code yX11_lands cX11_lands 4 none, Cond.methodLink RX11 325 yX11_mayBegin, Cond.instanceMethod yX11_mayBegin, Cond.selects RX11 yX11_mayBegin yX11_mayBegin, Cond.code yX11_mayBegin cX11_mayBegin 4 (some .boolean), Cond.methodLink RX11 329 yX11_landsBehind, Cond.instanceMethod yX11_landsBehind, Cond.selects RX11 yX11_landsBehind yX11_landsBehind, Cond.code yX11_landsBehind cX11_landsBehind 4 (some .int), Cond.methodLink RX11 335 yX11_lates, Cond.instanceMethod yX11_lates, Cond.selects RX11 yX11_lates yX11_lates, Cond.code yX11_lates cX11_lates 4 (some .int), Cond.methodLink RX11 338 yX11_nextRow, Cond.instanceMethod yX11_nextRow, Cond.selects RX11 yX11_nextRow yX11_nextRow, Cond.code yX11_nextRow cX11_nextRow 7 (some .boolean), Cond.methodLink RL 77 yX10_order, Cond.instanceMethod yX10_order, Cond.selects RX10 yX10_order yX10_order, Cond.code yX10_order cX10_order 2 (some .int), Cond.fieldLink RX10 190 "DawnHouse$Work" "order" "[I", Cond.methodLink RX10 187 yX4_hasStep]
def wsL_law_r41 : List Cond := [Cond.methodLink RL 80 yX11_order, Cond.instanceMethod yX11_order, Cond.selects RX11 yX11_order yX11_order, Cond.code yX11_order cX11_order 2 (some .int), Cond.methodLink RL 81 yX10_foreseen, Cond.instanceMethod yX10_foreseen, Cond.selects RX10 yX10_foreseen yX10_foreseen, Cond.code yX10_foreseen cX10_foreseen 2 (some .int), Cond.methodLink RX10 193 yX1_endOf, Cond.instanceMethod yX1_endOf, Cond.selects RX1 yX1_endOf yX1_endOf, Cond.code yX1_endOf cX1_endOf 2 (some .int), Cond.methodLink RX1 63 yX1_fillQueue, Cond.instanceMethod yX1_fillQueue, Cond.selects RX1 yX1_fillQueue yX1_fillQueue, Cond.code yX1_fillQueue cX1_fillQueue 3 none, Cond.methodLink RL 84 yX11_foreseen, Cond.instanceMethod yX11_foreseen, Cond.selects RX11 yX11_foreseen yX11_foreseen, Cond.code yX11_foreseen cX11_foreseen 3 (some .int), Cond.methodLink RL 85 yX10_sure, Cond.instanceMethod yX10_sure, Cond.selects RX10 yX10_sure yX10_sure, Cond.code yX10_sure cX10_sure 2 (some .int)]
def wsL_law_r42 : List Cond := [Cond.fieldLink RX10 199 "DawnHouse$Script" "due" "[I", Cond.methodLink RX10 196 yX1_soonestEndOf, Cond.instanceMethod yX1_soonestEndOf, Cond.selects RX1 yX1_soonestEndOf yX1_soonestEndOf, Cond.code yX1_soonestEndOf cX1_soonestEndOf 2 (some .int), Cond.fieldLink RX1 42 "DawnHouse$Tables" "spanBegin" "[I", Cond.methodLink RL 88 yX11_sure, Cond.instanceMethod yX11_sure, Cond.selects RX11 yX11_sure yX11_sure, Cond.code yX11_sure cX11_sure 6 (some .int), Cond.methodLink RL 89 yX10_step, Cond.instanceMethod yX10_step, Cond.selects RX10 yX10_step yX10_step, Cond.code yX10_step cX10_step 3 (some .int), Cond.fieldLink RX10 205 "DawnHouse$Script" "takes" "[I", Cond.fieldLink RX10 208 "DawnHouse$Script" "weight" "[I", Cond.fieldLink RX10 211 "DawnHouse$Script" "allTables" "[I", Cond.fieldLink RX10 220 "DawnHouse$Work" "doneAt" "[I", Cond.fieldLink RX10 223 "DawnHouse$Work" "timesDone" "[I", Cond.fieldLink RX10 226 "DawnHouse$Work" "worked" "[I", Cond.methodLink RX10 202 yX4_isReport, Cond.methodLink RX10 214 yX9_isDone, Cond.methodLink RX10 217 yX9_isUnderWay, Cond.methodLink RL 93 yX11_step]
def wsL_law_r43 : List Cond := [Cond.instanceMethod yX11_step, Cond.selects RX11 yX11_step yX11_step, Cond.code yX11_step cX11_step 4 (some .int), Cond.methodLink RL 94 yX10_value, Cond.instanceMethod yX10_value, Cond.selects RX10 yX10_value yX10_value, Cond.code yX10_value cX10_value 3 (some .long), Cond.fieldLink RX10 229 "DawnHouse$Work" "values" "LDawnHouse$Values;", Cond.fieldLink RX10 233 "DawnHouse$Values" "results" "[J", Cond.methodLink RL 98 yX11_value, Cond.instanceMethod yX11_value, Cond.selects RX11 yX11_value yX11_value, Cond.code yX11_value cX11_value 3 (some .long), Cond.methodLink RL 99 yX10_sent, Cond.instanceMethod yX10_sent, Cond.selects RX10 yX10_sent yX10_sent, Cond.code yX10_sent cX10_sent 4 (some .long), Cond.fieldLink RX10 241 "DawnHouse$Post" "last" "[J", Cond.methodLink RX10 237 yX3_sumOfLast, Cond.instanceMethod yX3_sumOfLast, Cond.selects RX3 yX3_sumOfLast yX3_sumOfLast, Cond.code yX3_sumOfLast cX3_sumOfLast 6 (some .long), Cond.methodLink RX10 244 yX3_cell, Cond.methodLink RL 103 yX11_sent]
def wsL_law_r44 : List Cond := [Cond.instanceMethod yX11_sent, Cond.selects RX11 yX11_sent yX11_sent, Cond.code yX11_sent cX11_sent 7 (some .long), Cond.methodLink RL 104 yX10_marks, Cond.instanceMethod yX10_marks, Cond.selects RX10 yX10_marks yX10_marks, Cond.code yX10_marks cX10_marks 3 (some .int), Cond.fieldLink RX10 248 "DawnHouse$Post" "marksOf" "[I", Cond.methodLink RL 107 yX11_marks, Cond.instanceMethod yX11_marks, Cond.selects RX11 yX11_marks yX11_marks, Cond.code yX11_marks cX11_marks 3 (some .int), Cond.methodLink RL 108 yX10_table, Cond.instanceMethod yX10_table, Cond.selects RX10 yX10_table yX10_table, Cond.code yX10_table cX10_table 3 (some .int), Cond.fieldLink RX10 251 "DawnHouse$Tables" "states" "[I", Cond.fieldLink RX10 254 "DawnHouse$Tables" "standingRows" "[I", Cond.methodLink RL 111 yX11_table, Cond.instanceMethod yX11_table, Cond.selects RX11 yX11_table yX11_table, Cond.code yX11_table cX11_table 3 (some .int), Cond.methodLink RL 112 yX10_count, Cond.instanceMethod yX10_count]
def wsL_law_r45 : List Cond := [Cond.selects RX10 yX10_count yX10_count, Cond.code yX10_count cX10_count 2 (some .int), Cond.fieldLink RX10 257 "DawnHouse$Script" "steps" "I", Cond.fieldLink RX10 265 "DawnHouse$Post" "allMarks" "I", Cond.methodLink RX10 260 yJ6_bitCount_0f7a4, Cond.methodLink RL 115 yX11_count, Cond.instanceMethod yX11_count, Cond.selects RX11 yX11_count yX11_count, Cond.code yX11_count cX11_count 4 (some .int)]
def wsL_law : List Cond := (wsL_law_r1 ++ (wsL_law_r2 ++ (wsL_law_r3 ++ (wsL_law_r4 ++ (wsL_law_r5 ++ (wsL_law_r6 ++ (wsL_law_r7 ++ (wsL_law_r8 ++ (wsL_law_r9 ++ (wsL_law_r10 ++ (wsL_law_r11 ++ (wsL_law_r12 ++ (wsL_law_r13 ++ (wsL_law_r14 ++ (wsL_law_r15 ++ (wsL_law_r16 ++ (wsL_law_r17 ++ (wsL_law_r18 ++ (wsL_law_r19 ++ (wsL_law_r20 ++ (wsL_law_r21 ++ (wsL_law_r22 ++ (wsL_law_r23 ++ (wsL_law_r24 ++ (wsL_law_r25 ++ (wsL_law_r26 ++ (wsL_law_r27 ++ (wsL_law_r28 ++ (wsL_law_r29 ++ (wsL_law_r30 ++ (wsL_law_r31 ++ (wsL_law_r32 ++ (wsL_law_r33 ++ (wsL_law_r34 ++ (wsL_law_r35 ++ (wsL_law_r36 ++ (wsL_law_r37 ++ (wsL_law_r38 ++ (wsL_law_r39 ++ (wsL_law_r40 ++ (wsL_law_r41 ++ (wsL_law_r42 ++ (wsL_law_r43 ++ (wsL_law_r44 ++ wsL_law_r45)))))))))))))))))))))))))))))))))))))))))))) ++ wsX100 ++ wsX110 ++ wsX60 ++ wsX70 ++ wsX20 ++ wsX40 ++ wsX50 ++ wsX80 ++ wsX30 ++ wsX90 ++ wsX10 ++ wsX00 ++ ([] : List Cond)
theorem inlX0 : ∀ w ∈ wsX00, w ∈ wsL_law := fun _ h => List.mem_append_left _ (List.mem_append_right _ h)
theorem inlX1 : ∀ w ∈ wsX10, w ∈ wsL_law := fun _ h => List.mem_append_left _ (List.mem_append_left _ (List.mem_append_right _ h))
theorem inlX2 : ∀ w ∈ wsX20, w ∈ wsL_law := fun _ h => List.mem_append_left _ (List.mem_append_left _ (List.mem_append_left _ (List.mem_append_left _ (List.mem_append_left _ (List.mem_append_left _ (List.mem_append_left _ (List.mem_append_left _ (List.mem_append_right _ h))))))))
theorem inlX3 : ∀ w ∈ wsX30, w ∈ wsL_law := fun _ h => List.mem_append_left _ (List.mem_append_left _ (List.mem_append_left _ (List.mem_append_left _ (List.mem_append_right _ h))))
theorem inlX4 : ∀ w ∈ wsX40, w ∈ wsL_law := fun _ h => List.mem_append_left _ (List.mem_append_left _ (List.mem_append_left _ (List.mem_append_left _ (List.mem_append_left _ (List.mem_append_left _ (List.mem_append_left _ (List.mem_append_right _ h)))))))
theorem inlX5 : ∀ w ∈ wsX50, w ∈ wsL_law := fun _ h => List.mem_append_left _ (List.mem_append_left _ (List.mem_append_left _ (List.mem_append_left _ (List.mem_append_left _ (List.mem_append_left _ (List.mem_append_right _ h))))))
theorem inlX6 : ∀ w ∈ wsX60, w ∈ wsL_law := fun _ h => List.mem_append_left _ (List.mem_append_left _ (List.mem_append_left _ (List.mem_append_left _ (List.mem_append_left _ (List.mem_append_left _ (List.mem_append_left _ (List.mem_append_left _ (List.mem_append_left _ (List.mem_append_left _ (List.mem_append_right _ h))))))))))
theorem inlX7 : ∀ w ∈ wsX70, w ∈ wsL_law := fun _ h => List.mem_append_left _ (List.mem_append_left _ (List.mem_append_left _ (List.mem_append_left _ (List.mem_append_left _ (List.mem_append_left _ (List.mem_append_left _ (List.mem_append_left _ (List.mem_append_left _ (List.mem_append_right _ h)))))))))
theorem inlX8 : ∀ w ∈ wsX80, w ∈ wsL_law := fun _ h => List.mem_append_left _ (List.mem_append_left _ (List.mem_append_left _ (List.mem_append_left _ (List.mem_append_left _ (List.mem_append_right _ h)))))
theorem inlX9 : ∀ w ∈ wsX90, w ∈ wsL_law := fun _ h => List.mem_append_left _ (List.mem_append_left _ (List.mem_append_left _ (List.mem_append_right _ h)))
theorem inlX10 : ∀ w ∈ wsX100, w ∈ wsL_law := fun _ h => List.mem_append_left _ (List.mem_append_left _ (List.mem_append_left _ (List.mem_append_left _ (List.mem_append_left _ (List.mem_append_left _ (List.mem_append_left _ (List.mem_append_left _ (List.mem_append_left _ (List.mem_append_left _ (List.mem_append_left _ (List.mem_append_left _ (List.mem_append_right _ h))))))))))))
theorem inlX11 : ∀ w ∈ wsX110, w ∈ wsL_law := fun _ h => List.mem_append_left _ (List.mem_append_left _ (List.mem_append_left _ (List.mem_append_left _ (List.mem_append_left _ (List.mem_append_left _ (List.mem_append_left _ (List.mem_append_left _ (List.mem_append_left _ (List.mem_append_left _ (List.mem_append_left _ (List.mem_append_right _ h)))))))))))
abbrev vwCl : List vw_C := [(RX0, TX0, 3), (RX1, TX1, 15), (RX2, TX2, 7), (RX3, TX3, 8), (RX4, TX4, 13), (RX5, TX5, 8), (RX6, TX6, 2), (RX7, TX7, 6), (RX8, TX8, 5), (RX9, TX9, 13), (RX10, TX10, 8), (RX11, TX11, 68)]
