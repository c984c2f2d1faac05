-- ===== PART A: goes FIRST, ahead of the names: the tables' words, and 'selects' of the private methods out of them =====
/-- a private method of a class that the tables say can be made, by its rows of tables_1 -/
def lw_okq (q : MethodName × Nat) : Prop := (q.1.cls ≠ "java/lang/invoke/MethodHandle" ∧ q.1.cls ≠ "java/lang/invoke/VarHandle") ∧ Cond.instantiable q.1.cls q.2 ∈ tables_1 ∧ Cond.privateMethod q.1 ∈ tables_1 ∧ Cond.instanceMethod q.1 ∈ tables_1
theorem lw_p0 : lw_okq (⟨"UnderNurseToTheTemper", "refused", "(I)I"⟩, 18) := ⟨⟨by decide +kernel, by decide +kernel⟩, List.mem_of_getElem? (i := 17) (by decide +kernel), List.mem_of_getElem? (i := 299) (by decide +kernel), List.mem_of_getElem? (i := 300) (by decide +kernel)⟩
theorem lw_p1 : lw_okq (⟨"UnderNurseToTheTemper", "rowFault", "(IZ)I"⟩, 18) := ⟨⟨by decide +kernel, by decide +kernel⟩, List.mem_of_getElem? (i := 17) (by decide +kernel), List.mem_of_getElem? (i := 313) (by decide +kernel), List.mem_of_getElem? (i := 314) (by decide +kernel)⟩
theorem lw_p2 : lw_okq (⟨"UnderNurseToTheTemper$Tape", "takeToken", "()V"⟩, 6) := ⟨⟨by decide +kernel, by decide +kernel⟩, List.mem_of_getElem? (i := 115) (by decide +kernel), List.mem_of_getElem? (i := 493) (by decide +kernel), List.mem_of_getElem? (i := 494) (by decide +kernel)⟩
theorem lw_p3 : lw_okq (⟨"UnderNurseToTheTemper$Tape", "letterAt", "(I)I"⟩, 6) := ⟨⟨by decide +kernel, by decide +kernel⟩, List.mem_of_getElem? (i := 115) (by decide +kernel), List.mem_of_getElem? (i := 497) (by decide +kernel), List.mem_of_getElem? (i := 498) (by decide +kernel)⟩
theorem lw_p4 : lw_okq (⟨"UnderNurseToTheTemper$Tape", "readStatement", "(LUnderNurseToTheTemper$Temper;LUnderNurseToTheTemper$Staff;)Z"⟩, 6) := ⟨⟨by decide +kernel, by decide +kernel⟩, List.mem_of_getElem? (i := 115) (by decide +kernel), List.mem_of_getElem? (i := 504) (by decide +kernel), List.mem_of_getElem? (i := 505) (by decide +kernel)⟩
theorem lw_p5 : lw_okq (⟨"UnderNurseToTheTemper$Tape", "spells", "(Ljava/lang/String;)Z"⟩, 6) := ⟨⟨by decide +kernel, by decide +kernel⟩, List.mem_of_getElem? (i := 115) (by decide +kernel), List.mem_of_getElem? (i := 509) (by decide +kernel), List.mem_of_getElem? (i := 510) (by decide +kernel)⟩
theorem lw_p6 : lw_okq (⟨"UnderNurseToTheTemper$Tape", "readKeeper", "(LUnderNurseToTheTemper$Staff;)Z"⟩, 6) := ⟨⟨by decide +kernel, by decide +kernel⟩, List.mem_of_getElem? (i := 115) (by decide +kernel), List.mem_of_getElem? (i := 561) (by decide +kernel), List.mem_of_getElem? (i := 562) (by decide +kernel)⟩
theorem lw_p7 : lw_okq (⟨"UnderNurseToTheTemper$Tape", "readNumber", "(II)Z"⟩, 6) := ⟨⟨by decide +kernel, by decide +kernel⟩, List.mem_of_getElem? (i := 115) (by decide +kernel), List.mem_of_getElem? (i := 566) (by decide +kernel), List.mem_of_getElem? (i := 567) (by decide +kernel)⟩
theorem lw_p8 : lw_okq (⟨"UnderNurseToTheTemper$Tape", "readNerve", "(LUnderNurseToTheTemper$Staff;)Z"⟩, 6) := ⟨⟨by decide +kernel, by decide +kernel⟩, List.mem_of_getElem? (i := 115) (by decide +kernel), List.mem_of_getElem? (i := 573) (by decide +kernel), List.mem_of_getElem? (i := 574) (by decide +kernel)⟩
theorem lw_p9 : lw_okq (⟨"UnderNurseToTheTemper$Tape", "spelledMeasure", "()I"⟩, 6) := ⟨⟨by decide +kernel, by decide +kernel⟩, List.mem_of_getElem? (i := 115) (by decide +kernel), List.mem_of_getElem? (i := 578) (by decide +kernel), List.mem_of_getElem? (i := 579) (by decide +kernel)⟩
theorem lw_p10 : lw_okq (⟨"UnderNurseToTheTemper$Tape", "readMeasure", "(LUnderNurseToTheTemper$Temper;I)Z"⟩, 6) := ⟨⟨by decide +kernel, by decide +kernel⟩, List.mem_of_getElem? (i := 115) (by decide +kernel), List.mem_of_getElem? (i := 587) (by decide +kernel), List.mem_of_getElem? (i := 588) (by decide +kernel)⟩
theorem lw_p11 : lw_okq (⟨"UnderNurseToTheTemper", "isOrder", "(J)Z"⟩, 18) := ⟨⟨by decide +kernel, by decide +kernel⟩, List.mem_of_getElem? (i := 17) (by decide +kernel), List.mem_of_getElem? (i := 637) (by decide +kernel), List.mem_of_getElem? (i := 638) (by decide +kernel)⟩
theorem lw_p12 : lw_okq (⟨"UnderNurseToTheTemper", "isKeeper", "(J)Z"⟩, 18) := ⟨⟨by decide +kernel, by decide +kernel⟩, List.mem_of_getElem? (i := 17) (by decide +kernel), List.mem_of_getElem? (i := 643) (by decide +kernel), List.mem_of_getElem? (i := 644) (by decide +kernel)⟩
theorem lw_p13 : lw_okq (⟨"UnderNurseToTheTemper", "tryHour", "(I)V"⟩, 18) := ⟨⟨by decide +kernel, by decide +kernel⟩, List.mem_of_getElem? (i := 17) (by decide +kernel), List.mem_of_getElem? (i := 647) (by decide +kernel), List.mem_of_getElem? (i := 648) (by decide +kernel)⟩
theorem lw_p14 : lw_okq (⟨"UnderNurseToTheTemper$Temper", "mix", "()V"⟩, 7) := ⟨⟨by decide +kernel, by decide +kernel⟩, List.mem_of_getElem? (i := 25) (by decide +kernel), List.mem_of_getElem? (i := 655) (by decide +kernel), List.mem_of_getElem? (i := 656) (by decide +kernel)⟩
theorem lw_p15 : lw_okq (⟨"UnderNurseToTheTemper$Temper", "growIf", "(Z)V"⟩, 7) := ⟨⟨by decide +kernel, by decide +kernel⟩, List.mem_of_getElem? (i := 25) (by decide +kernel), List.mem_of_getElem? (i := 666) (by decide +kernel), List.mem_of_getElem? (i := 667) (by decide +kernel)⟩
def lw_privs_1 : List (MethodName × Nat) := [(⟨"UnderNurseToTheTemper", "refused", "(I)I"⟩, 18), (⟨"UnderNurseToTheTemper", "rowFault", "(IZ)I"⟩, 18), (⟨"UnderNurseToTheTemper$Tape", "takeToken", "()V"⟩, 6), (⟨"UnderNurseToTheTemper$Tape", "letterAt", "(I)I"⟩, 6), (⟨"UnderNurseToTheTemper$Tape", "readStatement", "(LUnderNurseToTheTemper$Temper;LUnderNurseToTheTemper$Staff;)Z"⟩, 6), (⟨"UnderNurseToTheTemper$Tape", "spells", "(Ljava/lang/String;)Z"⟩, 6), (⟨"UnderNurseToTheTemper$Tape", "readKeeper", "(LUnderNurseToTheTemper$Staff;)Z"⟩, 6), (⟨"UnderNurseToTheTemper$Tape", "readNumber", "(II)Z"⟩, 6), (⟨"UnderNurseToTheTemper$Tape", "readNerve", "(LUnderNurseToTheTemper$Staff;)Z"⟩, 6), (⟨"UnderNurseToTheTemper$Tape", "spelledMeasure", "()I"⟩, 6), (⟨"UnderNurseToTheTemper$Tape", "readMeasure", "(LUnderNurseToTheTemper$Temper;I)Z"⟩, 6), (⟨"UnderNurseToTheTemper", "isOrder", "(J)Z"⟩, 18), (⟨"UnderNurseToTheTemper", "isKeeper", "(J)Z"⟩, 18), (⟨"UnderNurseToTheTemper", "tryHour", "(I)V"⟩, 18), (⟨"UnderNurseToTheTemper$Temper", "mix", "()V"⟩, 7), (⟨"UnderNurseToTheTemper$Temper", "growIf", "(Z)V"⟩, 7)]
theorem lw_r1 : ∀ q ∈ lw_privs_1, lw_okq q := List.forall_mem_cons.mpr ⟨lw_p0, List.forall_mem_cons.mpr ⟨lw_p1, List.forall_mem_cons.mpr ⟨lw_p2, List.forall_mem_cons.mpr ⟨lw_p3, List.forall_mem_cons.mpr ⟨lw_p4, List.forall_mem_cons.mpr ⟨lw_p5, List.forall_mem_cons.mpr ⟨lw_p6, List.forall_mem_cons.mpr ⟨lw_p7, List.forall_mem_cons.mpr ⟨lw_p8, List.forall_mem_cons.mpr ⟨lw_p9, List.forall_mem_cons.mpr ⟨lw_p10, List.forall_mem_cons.mpr ⟨lw_p11, List.forall_mem_cons.mpr ⟨lw_p12, List.forall_mem_cons.mpr ⟨lw_p13, List.forall_mem_cons.mpr ⟨lw_p14, List.forall_mem_cons.mpr ⟨lw_p15, fun _ h => absurd h List.not_mem_nil⟩⟩⟩⟩⟩⟩⟩⟩⟩⟩⟩⟩⟩⟩⟩⟩
theorem lw_p16 : lw_okq (⟨"UnderNurseToTheTemper", "orderCount", "()I"⟩, 18) := ⟨⟨by decide +kernel, by decide +kernel⟩, List.mem_of_getElem? (i := 17) (by decide +kernel), List.mem_of_getElem? (i := 677) (by decide +kernel), List.mem_of_getElem? (i := 678) (by decide +kernel)⟩
theorem lw_p17 : lw_okq (⟨"UnderNurseToTheTemper", "takeRoster", "(IIZ)I"⟩, 18) := ⟨⟨by decide +kernel, by decide +kernel⟩, List.mem_of_getElem? (i := 17) (by decide +kernel), List.mem_of_getElem? (i := 689) (by decide +kernel), List.mem_of_getElem? (i := 690) (by decide +kernel)⟩
theorem lw_p18 : lw_okq (⟨"UnderNurseToTheTemper", "elementsFault", "(IIIIZ)I"⟩, 18) := ⟨⟨by decide +kernel, by decide +kernel⟩, List.mem_of_getElem? (i := 17) (by decide +kernel), List.mem_of_getElem? (i := 693) (by decide +kernel), List.mem_of_getElem? (i := 694) (by decide +kernel)⟩
theorem lw_p19 : lw_okq (⟨"UnderNurseToTheTemper", "wrongPlace", "(II)I"⟩, 18) := ⟨⟨by decide +kernel, by decide +kernel⟩, List.mem_of_getElem? (i := 17) (by decide +kernel), List.mem_of_getElem? (i := 697) (by decide +kernel), List.mem_of_getElem? (i := 698) (by decide +kernel)⟩
theorem lw_p20 : lw_okq (⟨"UnderNurseToTheTemper", "takePlan", "(II)V"⟩, 18) := ⟨⟨by decide +kernel, by decide +kernel⟩, List.mem_of_getElem? (i := 17) (by decide +kernel), List.mem_of_getElem? (i := 701) (by decide +kernel), List.mem_of_getElem? (i := 702) (by decide +kernel)⟩
theorem lw_p21 : lw_okq (⟨"UnderNurseToTheTemper$Walk", "begin", "(LUnderNurseToTheTemper$Temper;)V"⟩, 9) := ⟨⟨by decide +kernel, by decide +kernel⟩, List.mem_of_getElem? (i := 141) (by decide +kernel), List.mem_of_getElem? (i := 709) (by decide +kernel), List.mem_of_getElem? (i := 710) (by decide +kernel)⟩
theorem lw_p22 : lw_okq (⟨"UnderNurseToTheTemper$Walk", "noteHour", "(I)V"⟩, 9) := ⟨⟨by decide +kernel, by decide +kernel⟩, List.mem_of_getElem? (i := 141) (by decide +kernel), List.mem_of_getElem? (i := 715) (by decide +kernel), List.mem_of_getElem? (i := 716) (by decide +kernel)⟩
theorem lw_p23 : lw_okq (⟨"UnderNurseToTheTemper$Search", "explore", "(IIILUnderNurseToTheTemper$Staff;)V"⟩, 6) := ⟨⟨by decide +kernel, by decide +kernel⟩, List.mem_of_getElem? (i := 186) (by decide +kernel), List.mem_of_getElem? (i := 737) (by decide +kernel), List.mem_of_getElem? (i := 738) (by decide +kernel)⟩
theorem lw_p24 : lw_okq (⟨"UnderNurseToTheTemper$Search", "compare", "(III)V"⟩, 6) := ⟨⟨by decide +kernel, by decide +kernel⟩, List.mem_of_getElem? (i := 186) (by decide +kernel), List.mem_of_getElem? (i := 741) (by decide +kernel), List.mem_of_getElem? (i := 742) (by decide +kernel)⟩
theorem lw_p25 : lw_okq (⟨"UnderNurseToTheTemper$Search", "exploreBy", "(IIIILUnderNurseToTheTemper$Staff;)V"⟩, 6) := ⟨⟨by decide +kernel, by decide +kernel⟩, List.mem_of_getElem? (i := 186) (by decide +kernel), List.mem_of_getElem? (i := 746) (by decide +kernel), List.mem_of_getElem? (i := 747) (by decide +kernel)⟩
theorem lw_p26 : lw_okq (⟨"UnderNurseToTheTemper", "takeTwos", "(IIZ)I"⟩, 18) := ⟨⟨by decide +kernel, by decide +kernel⟩, List.mem_of_getElem? (i := 17) (by decide +kernel), List.mem_of_getElem? (i := 759) (by decide +kernel), List.mem_of_getElem? (i := 760) (by decide +kernel)⟩
theorem lw_p27 : lw_okq (⟨"UnderNurseToTheTemper", "tallyRages", "(I)V"⟩, 18) := ⟨⟨by decide +kernel, by decide +kernel⟩, List.mem_of_getElem? (i := 17) (by decide +kernel), List.mem_of_getElem? (i := 763) (by decide +kernel), List.mem_of_getElem? (i := 764) (by decide +kernel)⟩
theorem lw_p28 : lw_okq (⟨"UnderNurseToTheTemper", "fitsTwos", "(ILUnderNurseToTheTemper$Staff;)Z"⟩, 18) := ⟨⟨by decide +kernel, by decide +kernel⟩, List.mem_of_getElem? (i := 17) (by decide +kernel), List.mem_of_getElem? (i := 771) (by decide +kernel), List.mem_of_getElem? (i := 772) (by decide +kernel)⟩
theorem lw_p29 : lw_okq (⟨"UnderNurseToTheTemper", "mostLeftBy", "(I)I"⟩, 18) := ⟨⟨by decide +kernel, by decide +kernel⟩, List.mem_of_getElem? (i := 17) (by decide +kernel), List.mem_of_getElem? (i := 791) (by decide +kernel), List.mem_of_getElem? (i := 792) (by decide +kernel)⟩
theorem lw_p30 : lw_okq (⟨"UnderNurseToTheTemper", "walkOver", "(I)V"⟩, 18) := ⟨⟨by decide +kernel, by decide +kernel⟩, List.mem_of_getElem? (i := 17) (by decide +kernel), List.mem_of_getElem? (i := 808) (by decide +kernel), List.mem_of_getElem? (i := 809) (by decide +kernel)⟩
theorem lw_p31 : lw_okq (⟨"UnderNurseToTheTemper", "harmOdds", "(II)I"⟩, 18) := ⟨⟨by decide +kernel, by decide +kernel⟩, List.mem_of_getElem? (i := 17) (by decide +kernel), List.mem_of_getElem? (i := 820) (by decide +kernel), List.mem_of_getElem? (i := 821) (by decide +kernel)⟩
def lw_privs_2 : List (MethodName × Nat) := [(⟨"UnderNurseToTheTemper", "orderCount", "()I"⟩, 18), (⟨"UnderNurseToTheTemper", "takeRoster", "(IIZ)I"⟩, 18), (⟨"UnderNurseToTheTemper", "elementsFault", "(IIIIZ)I"⟩, 18), (⟨"UnderNurseToTheTemper", "wrongPlace", "(II)I"⟩, 18), (⟨"UnderNurseToTheTemper", "takePlan", "(II)V"⟩, 18), (⟨"UnderNurseToTheTemper$Walk", "begin", "(LUnderNurseToTheTemper$Temper;)V"⟩, 9), (⟨"UnderNurseToTheTemper$Walk", "noteHour", "(I)V"⟩, 9), (⟨"UnderNurseToTheTemper$Search", "explore", "(IIILUnderNurseToTheTemper$Staff;)V"⟩, 6), (⟨"UnderNurseToTheTemper$Search", "compare", "(III)V"⟩, 6), (⟨"UnderNurseToTheTemper$Search", "exploreBy", "(IIIILUnderNurseToTheTemper$Staff;)V"⟩, 6), (⟨"UnderNurseToTheTemper", "takeTwos", "(IIZ)I"⟩, 18), (⟨"UnderNurseToTheTemper", "tallyRages", "(I)V"⟩, 18), (⟨"UnderNurseToTheTemper", "fitsTwos", "(ILUnderNurseToTheTemper$Staff;)Z"⟩, 18), (⟨"UnderNurseToTheTemper", "mostLeftBy", "(I)I"⟩, 18), (⟨"UnderNurseToTheTemper", "walkOver", "(I)V"⟩, 18), (⟨"UnderNurseToTheTemper", "harmOdds", "(II)I"⟩, 18)]
theorem lw_r2 : ∀ q ∈ lw_privs_2, lw_okq q := List.forall_mem_cons.mpr ⟨lw_p16, List.forall_mem_cons.mpr ⟨lw_p17, List.forall_mem_cons.mpr ⟨lw_p18, List.forall_mem_cons.mpr ⟨lw_p19, List.forall_mem_cons.mpr ⟨lw_p20, List.forall_mem_cons.mpr ⟨lw_p21, List.forall_mem_cons.mpr ⟨lw_p22, List.forall_mem_cons.mpr ⟨lw_p23, List.forall_mem_cons.mpr ⟨lw_p24, List.forall_mem_cons.mpr ⟨lw_p25, List.forall_mem_cons.mpr ⟨lw_p26, List.forall_mem_cons.mpr ⟨lw_p27, List.forall_mem_cons.mpr ⟨lw_p28, List.forall_mem_cons.mpr ⟨lw_p29, List.forall_mem_cons.mpr ⟨lw_p30, List.forall_mem_cons.mpr ⟨lw_p31, fun _ h => absurd h List.not_mem_nil⟩⟩⟩⟩⟩⟩⟩⟩⟩⟩⟩⟩⟩⟩⟩⟩
theorem lw_p32 : lw_okq (⟨"UnderNurseToTheTemper", "walkCode", "(II)V"⟩, 18) := ⟨⟨by decide +kernel, by decide +kernel⟩, List.mem_of_getElem? (i := 17) (by decide +kernel), List.mem_of_getElem? (i := 824) (by decide +kernel), List.mem_of_getElem? (i := 825) (by decide +kernel)⟩
theorem lw_p33 : lw_okq (⟨"UnderNurseToTheTemper", "meanRage", "(II)I"⟩, 18) := ⟨⟨by decide +kernel, by decide +kernel⟩, List.mem_of_getElem? (i := 17) (by decide +kernel), List.mem_of_getElem? (i := 828) (by decide +kernel), List.mem_of_getElem? (i := 829) (by decide +kernel)⟩
theorem lw_p34 : lw_okq (⟨"UnderNurseToTheTemper", "walkTurns", "(II)V"⟩, 18) := ⟨⟨by decide +kernel, by decide +kernel⟩, List.mem_of_getElem? (i := 17) (by decide +kernel), List.mem_of_getElem? (i := 856) (by decide +kernel), List.mem_of_getElem? (i := 857) (by decide +kernel)⟩
theorem lw_p35 : lw_okq (⟨"UnderNurseToTheTemper", "standsOut", "(III)Z"⟩, 18) := ⟨⟨by decide +kernel, by decide +kernel⟩, List.mem_of_getElem? (i := 17) (by decide +kernel), List.mem_of_getElem? (i := 872) (by decide +kernel), List.mem_of_getElem? (i := 873) (by decide +kernel)⟩
theorem lw_p36 : lw_okq (⟨"UnderNurseToTheTemper", "rageWith", "(III)I"⟩, 18) := ⟨⟨by decide +kernel, by decide +kernel⟩, List.mem_of_getElem? (i := 17) (by decide +kernel), List.mem_of_getElem? (i := 884) (by decide +kernel), List.mem_of_getElem? (i := 885) (by decide +kernel)⟩
theorem lw_p37 : lw_okq (⟨"UnderNurseToTheTemper", "rageAfter", "(II)I"⟩, 18) := ⟨⟨by decide +kernel, by decide +kernel⟩, List.mem_of_getElem? (i := 17) (by decide +kernel), List.mem_of_getElem? (i := 896) (by decide +kernel), List.mem_of_getElem? (i := 897) (by decide +kernel)⟩
theorem lw_p38 : lw_okq (⟨"UnderNurseToTheTemper", "carryOut", "(I)I"⟩, 18) := ⟨⟨by decide +kernel, by decide +kernel⟩, List.mem_of_getElem? (i := 17) (by decide +kernel), List.mem_of_getElem? (i := 924) (by decide +kernel), List.mem_of_getElem? (i := 925) (by decide +kernel)⟩
theorem lw_p39 : lw_okq (⟨"UnderNurseToTheTemper", "drawnOrder", "()I"⟩, 18) := ⟨⟨by decide +kernel, by decide +kernel⟩, List.mem_of_getElem? (i := 17) (by decide +kernel), List.mem_of_getElem? (i := 940) (by decide +kernel), List.mem_of_getElem? (i := 941) (by decide +kernel)⟩
theorem lw_p40 : lw_okq (⟨"UnderNurseToTheTemper", "refusalsTold", "(I)I"⟩, 18) := ⟨⟨by decide +kernel, by decide +kernel⟩, List.mem_of_getElem? (i := 17) (by decide +kernel), List.mem_of_getElem? (i := 974) (by decide +kernel), List.mem_of_getElem? (i := 975) (by decide +kernel)⟩
theorem lw_p41 : lw_okq (⟨"UnderNurseToTheTemperModel", "refuse", "(I)I"⟩, 26) := ⟨⟨by decide +kernel, by decide +kernel⟩, List.mem_of_getElem? (i := 978) (by decide +kernel), List.mem_of_getElem? (i := 1077) (by decide +kernel), List.mem_of_getElem? (i := 1078) (by decide +kernel)⟩
theorem lw_p42 : lw_okq (⟨"UnderNurseToTheTemperModel", "many", "()I"⟩, 26) := ⟨⟨by decide +kernel, by decide +kernel⟩, List.mem_of_getElem? (i := 978) (by decide +kernel), List.mem_of_getElem? (i := 1081) (by decide +kernel), List.mem_of_getElem? (i := 1082) (by decide +kernel)⟩
theorem lw_p43 : lw_okq (⟨"UnderNurseToTheTemperModel", "add", "(III)I"⟩, 26) := ⟨⟨by decide +kernel, by decide +kernel⟩, List.mem_of_getElem? (i := 978) (by decide +kernel), List.mem_of_getElem? (i := 1085) (by decide +kernel), List.mem_of_getElem? (i := 1086) (by decide +kernel)⟩
theorem lw_p44 : lw_okq (⟨"UnderNurseToTheTemperModel", "isKeeper", "(J)Z"⟩, 26) := ⟨⟨by decide +kernel, by decide +kernel⟩, List.mem_of_getElem? (i := 978) (by decide +kernel), List.mem_of_getElem? (i := 1093) (by decide +kernel), List.mem_of_getElem? (i := 1094) (by decide +kernel)⟩
theorem lw_p45 : lw_okq (⟨"UnderNurseToTheTemperModel", "nerveOf", "(I)I"⟩, 26) := ⟨⟨by decide +kernel, by decide +kernel⟩, List.mem_of_getElem? (i := 978) (by decide +kernel), List.mem_of_getElem? (i := 1097) (by decide +kernel), List.mem_of_getElem? (i := 1098) (by decide +kernel)⟩
theorem lw_p46 : lw_okq (⟨"UnderNurseToTheTemperModel", "keep", "(I)V"⟩, 26) := ⟨⟨by decide +kernel, by decide +kernel⟩, List.mem_of_getElem? (i := 978) (by decide +kernel), List.mem_of_getElem? (i := 1121) (by decide +kernel), List.mem_of_getElem? (i := 1122) (by decide +kernel)⟩
theorem lw_p47 : lw_okq (⟨"UnderNurseToTheTemperModel", "isStatement", "()Z"⟩, 26) := ⟨⟨by decide +kernel, by decide +kernel⟩, List.mem_of_getElem? (i := 978) (by decide +kernel), List.mem_of_getElem? (i := 1125) (by decide +kernel), List.mem_of_getElem? (i := 1126) (by decide +kernel)⟩
def lw_privs_3 : List (MethodName × Nat) := [(⟨"UnderNurseToTheTemper", "walkCode", "(II)V"⟩, 18), (⟨"UnderNurseToTheTemper", "meanRage", "(II)I"⟩, 18), (⟨"UnderNurseToTheTemper", "walkTurns", "(II)V"⟩, 18), (⟨"UnderNurseToTheTemper", "standsOut", "(III)Z"⟩, 18), (⟨"UnderNurseToTheTemper", "rageWith", "(III)I"⟩, 18), (⟨"UnderNurseToTheTemper", "rageAfter", "(II)I"⟩, 18), (⟨"UnderNurseToTheTemper", "carryOut", "(I)I"⟩, 18), (⟨"UnderNurseToTheTemper", "drawnOrder", "()I"⟩, 18), (⟨"UnderNurseToTheTemper", "refusalsTold", "(I)I"⟩, 18), (⟨"UnderNurseToTheTemperModel", "refuse", "(I)I"⟩, 26), (⟨"UnderNurseToTheTemperModel", "many", "()I"⟩, 26), (⟨"UnderNurseToTheTemperModel", "add", "(III)I"⟩, 26), (⟨"UnderNurseToTheTemperModel", "isKeeper", "(J)Z"⟩, 26), (⟨"UnderNurseToTheTemperModel", "nerveOf", "(I)I"⟩, 26), (⟨"UnderNurseToTheTemperModel", "keep", "(I)V"⟩, 26), (⟨"UnderNurseToTheTemperModel", "isStatement", "()Z"⟩, 26)]
theorem lw_r3 : ∀ q ∈ lw_privs_3, lw_okq q := List.forall_mem_cons.mpr ⟨lw_p32, List.forall_mem_cons.mpr ⟨lw_p33, List.forall_mem_cons.mpr ⟨lw_p34, List.forall_mem_cons.mpr ⟨lw_p35, List.forall_mem_cons.mpr ⟨lw_p36, List.forall_mem_cons.mpr ⟨lw_p37, List.forall_mem_cons.mpr ⟨lw_p38, List.forall_mem_cons.mpr ⟨lw_p39, List.forall_mem_cons.mpr ⟨lw_p40, List.forall_mem_cons.mpr ⟨lw_p41, List.forall_mem_cons.mpr ⟨lw_p42, List.forall_mem_cons.mpr ⟨lw_p43, List.forall_mem_cons.mpr ⟨lw_p44, List.forall_mem_cons.mpr ⟨lw_p45, List.forall_mem_cons.mpr ⟨lw_p46, List.forall_mem_cons.mpr ⟨lw_p47, fun _ h => absurd h List.not_mem_nil⟩⟩⟩⟩⟩⟩⟩⟩⟩⟩⟩⟩⟩⟩⟩⟩
theorem lw_p48 : lw_okq (⟨"UnderNurseToTheTemperModel", "next", "()V"⟩, 26) := ⟨⟨by decide +kernel, by decide +kernel⟩, List.mem_of_getElem? (i := 978) (by decide +kernel), List.mem_of_getElem? (i := 1129) (by decide +kernel), List.mem_of_getElem? (i := 1130) (by decide +kernel)⟩
theorem lw_p49 : lw_okq (⟨"UnderNurseToTheTemperModel", "sortAt", "(I)I"⟩, 26) := ⟨⟨by decide +kernel, by decide +kernel⟩, List.mem_of_getElem? (i := 978) (by decide +kernel), List.mem_of_getElem? (i := 1133) (by decide +kernel), List.mem_of_getElem? (i := 1134) (by decide +kernel)⟩
theorem lw_p50 : lw_okq (⟨"UnderNurseToTheTemperModel", "word", "()I"⟩, 26) := ⟨⟨by decide +kernel, by decide +kernel⟩, List.mem_of_getElem? (i := 978) (by decide +kernel), List.mem_of_getElem? (i := 1141) (by decide +kernel), List.mem_of_getElem? (i := 1142) (by decide +kernel)⟩
theorem lw_p51 : lw_okq (⟨"UnderNurseToTheTemperModel", "number", "(II)I"⟩, 26) := ⟨⟨by decide +kernel, by decide +kernel⟩, List.mem_of_getElem? (i := 978) (by decide +kernel), List.mem_of_getElem? (i := 1145) (by decide +kernel), List.mem_of_getElem? (i := 1146) (by decide +kernel)⟩
theorem lw_p52 : lw_okq (⟨"UnderNurseToTheTemperModel", "lay", "(I)V"⟩, 26) := ⟨⟨by decide +kernel, by decide +kernel⟩, List.mem_of_getElem? (i := 978) (by decide +kernel), List.mem_of_getElem? (i := 1149) (by decide +kernel), List.mem_of_getElem? (i := 1150) (by decide +kernel)⟩
theorem lw_p53 : lw_okq (⟨"UnderNurseToTheTemperModel", "isStaying", "(I)Z"⟩, 26) := ⟨⟨by decide +kernel, by decide +kernel⟩, List.mem_of_getElem? (i := 978) (by decide +kernel), List.mem_of_getElem? (i := 1166) (by decide +kernel), List.mem_of_getElem? (i := 1167) (by decide +kernel)⟩
theorem lw_p54 : lw_okq (⟨"UnderNurseToTheTemperModel", "kind", "(I)I"⟩, 26) := ⟨⟨by decide +kernel, by decide +kernel⟩, List.mem_of_getElem? (i := 978) (by decide +kernel), List.mem_of_getElem? (i := 1170) (by decide +kernel), List.mem_of_getElem? (i := 1171) (by decide +kernel)⟩
theorem lw_p55 : lw_okq (⟨"UnderNurseToTheTemperModel", "a", "(I)I"⟩, 26) := ⟨⟨by decide +kernel, by decide +kernel⟩, List.mem_of_getElem? (i := 978) (by decide +kernel), List.mem_of_getElem? (i := 1174) (by decide +kernel), List.mem_of_getElem? (i := 1175) (by decide +kernel)⟩
theorem lw_p56 : lw_okq (⟨"UnderNurseToTheTemperModel", "isOrder", "(J)Z"⟩, 26) := ⟨⟨by decide +kernel, by decide +kernel⟩, List.mem_of_getElem? (i := 978) (by decide +kernel), List.mem_of_getElem? (i := 1187) (by decide +kernel), List.mem_of_getElem? (i := 1188) (by decide +kernel)⟩
theorem lw_p57 : lw_okq (⟨"UnderNurseToTheTemperModel", "then", "(III)I"⟩, 26) := ⟨⟨by decide +kernel, by decide +kernel⟩, List.mem_of_getElem? (i := 978) (by decide +kernel), List.mem_of_getElem? (i := 1193) (by decide +kernel), List.mem_of_getElem? (i := 1194) (by decide +kernel)⟩
theorem lw_p58 : lw_okq (⟨"UnderNurseToTheTemperModel", "step", "(I)I"⟩, 26) := ⟨⟨by decide +kernel, by decide +kernel⟩, List.mem_of_getElem? (i := 978) (by decide +kernel), List.mem_of_getElem? (i := 1197) (by decide +kernel), List.mem_of_getElem? (i := 1198) (by decide +kernel)⟩
theorem lw_p59 : lw_okq (⟨"UnderNurseToTheTemperModel", "soothes", "(I)I"⟩, 26) := ⟨⟨by decide +kernel, by decide +kernel⟩, List.mem_of_getElem? (i := 978) (by decide +kernel), List.mem_of_getElem? (i := 1201) (by decide +kernel), List.mem_of_getElem? (i := 1202) (by decide +kernel)⟩
theorem lw_p60 : lw_okq (⟨"UnderNurseToTheTemperModel", "grow", "(I)V"⟩, 26) := ⟨⟨by decide +kernel, by decide +kernel⟩, List.mem_of_getElem? (i := 978) (by decide +kernel), List.mem_of_getElem? (i := 1210) (by decide +kernel), List.mem_of_getElem? (i := 1211) (by decide +kernel)⟩
theorem lw_p61 : lw_okq (⟨"UnderNurseToTheTemperModel", "orderAt", "(I)I"⟩, 26) := ⟨⟨by decide +kernel, by decide +kernel⟩, List.mem_of_getElem? (i := 978) (by decide +kernel), List.mem_of_getElem? (i := 1220) (by decide +kernel), List.mem_of_getElem? (i := 1221) (by decide +kernel)⟩
theorem lw_p62 : lw_okq (⟨"UnderNurseToTheTemperModel", "rowIn", "(I)I"⟩, 26) := ⟨⟨by decide +kernel, by decide +kernel⟩, List.mem_of_getElem? (i := 978) (by decide +kernel), List.mem_of_getElem? (i := 1236) (by decide +kernel), List.mem_of_getElem? (i := 1237) (by decide +kernel)⟩
theorem lw_p63 : lw_okq (⟨"UnderNurseToTheTemperModel", "load", "(ZII)I"⟩, 26) := ⟨⟨by decide +kernel, by decide +kernel⟩, List.mem_of_getElem? (i := 978) (by decide +kernel), List.mem_of_getElem? (i := 1264) (by decide +kernel), List.mem_of_getElem? (i := 1265) (by decide +kernel)⟩
def lw_privs_4 : List (MethodName × Nat) := [(⟨"UnderNurseToTheTemperModel", "next", "()V"⟩, 26), (⟨"UnderNurseToTheTemperModel", "sortAt", "(I)I"⟩, 26), (⟨"UnderNurseToTheTemperModel", "word", "()I"⟩, 26), (⟨"UnderNurseToTheTemperModel", "number", "(II)I"⟩, 26), (⟨"UnderNurseToTheTemperModel", "lay", "(I)V"⟩, 26), (⟨"UnderNurseToTheTemperModel", "isStaying", "(I)Z"⟩, 26), (⟨"UnderNurseToTheTemperModel", "kind", "(I)I"⟩, 26), (⟨"UnderNurseToTheTemperModel", "a", "(I)I"⟩, 26), (⟨"UnderNurseToTheTemperModel", "isOrder", "(J)Z"⟩, 26), (⟨"UnderNurseToTheTemperModel", "then", "(III)I"⟩, 26), (⟨"UnderNurseToTheTemperModel", "step", "(I)I"⟩, 26), (⟨"UnderNurseToTheTemperModel", "soothes", "(I)I"⟩, 26), (⟨"UnderNurseToTheTemperModel", "grow", "(I)V"⟩, 26), (⟨"UnderNurseToTheTemperModel", "orderAt", "(I)I"⟩, 26), (⟨"UnderNurseToTheTemperModel", "rowIn", "(I)I"⟩, 26), (⟨"UnderNurseToTheTemperModel", "load", "(ZII)I"⟩, 26)]
theorem lw_r4 : ∀ q ∈ lw_privs_4, lw_okq q := List.forall_mem_cons.mpr ⟨lw_p48, List.forall_mem_cons.mpr ⟨lw_p49, List.forall_mem_cons.mpr ⟨lw_p50, List.forall_mem_cons.mpr ⟨lw_p51, List.forall_mem_cons.mpr ⟨lw_p52, List.forall_mem_cons.mpr ⟨lw_p53, List.forall_mem_cons.mpr ⟨lw_p54, List.forall_mem_cons.mpr ⟨lw_p55, List.forall_mem_cons.mpr ⟨lw_p56, List.forall_mem_cons.mpr ⟨lw_p57, List.forall_mem_cons.mpr ⟨lw_p58, List.forall_mem_cons.mpr ⟨lw_p59, List.forall_mem_cons.mpr ⟨lw_p60, List.forall_mem_cons.mpr ⟨lw_p61, List.forall_mem_cons.mpr ⟨lw_p62, List.forall_mem_cons.mpr ⟨lw_p63, fun _ h => absurd h List.not_mem_nil⟩⟩⟩⟩⟩⟩⟩⟩⟩⟩⟩⟩⟩⟩⟩⟩
theorem lw_p64 : lw_okq (⟨"UnderNurseToTheTemperModel", "rows", "(ZII)I"⟩, 26) := ⟨⟨by decide +kernel, by decide +kernel⟩, List.mem_of_getElem? (i := 978) (by decide +kernel), List.mem_of_getElem? (i := 1268) (by decide +kernel), List.mem_of_getElem? (i := 1269) (by decide +kernel)⟩
theorem lw_p65 : lw_okq (⟨"UnderNurseToTheTemperModel", "wrong", "(II)I"⟩, 26) := ⟨⟨by decide +kernel, by decide +kernel⟩, List.mem_of_getElem? (i := 978) (by decide +kernel), List.mem_of_getElem? (i := 1272) (by decide +kernel), List.mem_of_getElem? (i := 1273) (by decide +kernel)⟩
theorem lw_p66 : lw_okq (⟨"UnderNurseToTheTemperModel", "told", "(II)J"⟩, 26) := ⟨⟨by decide +kernel, by decide +kernel⟩, List.mem_of_getElem? (i := 978) (by decide +kernel), List.mem_of_getElem? (i := 1276) (by decide +kernel), List.mem_of_getElem? (i := 1277) (by decide +kernel)⟩
theorem lw_p67 : lw_okq (⟨"UnderNurseToTheTemperModel", "go", "(I)I"⟩, 26) := ⟨⟨by decide +kernel, by decide +kernel⟩, List.mem_of_getElem? (i := 978) (by decide +kernel), List.mem_of_getElem? (i := 1280) (by decide +kernel), List.mem_of_getElem? (i := 1281) (by decide +kernel)⟩
theorem lw_p68 : lw_okq (⟨"UnderNurseToTheTemperModel", "rageBehind", "(I)I"⟩, 26) := ⟨⟨by decide +kernel, by decide +kernel⟩, List.mem_of_getElem? (i := 978) (by decide +kernel), List.mem_of_getElem? (i := 1300) (by decide +kernel), List.mem_of_getElem? (i := 1301) (by decide +kernel)⟩
theorem lw_p69 : lw_okq (⟨"UnderNurseToTheTemperModel", "tryAll", "(III)V"⟩, 26) := ⟨⟨by decide +kernel, by decide +kernel⟩, List.mem_of_getElem? (i := 978) (by decide +kernel), List.mem_of_getElem? (i := 1313) (by decide +kernel), List.mem_of_getElem? (i := 1314) (by decide +kernel)⟩
theorem lw_p70 : lw_okq (⟨"UnderNurseToTheTemperModel", "twos", "(ZII)I"⟩, 26) := ⟨⟨by decide +kernel, by decide +kernel⟩, List.mem_of_getElem? (i := 978) (by decide +kernel), List.mem_of_getElem? (i := 1321) (by decide +kernel), List.mem_of_getElem? (i := 1322) (by decide +kernel)⟩
theorem lw_p71 : lw_okq (⟨"UnderNurseToTheTemperModel", "fillFit", "(IIII)V"⟩, 26) := ⟨⟨by decide +kernel, by decide +kernel⟩, List.mem_of_getElem? (i := 978) (by decide +kernel), List.mem_of_getElem? (i := 1326) (by decide +kernel), List.mem_of_getElem? (i := 1327) (by decide +kernel)⟩
theorem lw_p72 : lw_okq (⟨"UnderNurseToTheTemperModel", "fits", "(II)Z"⟩, 26) := ⟨⟨by decide +kernel, by decide +kernel⟩, List.mem_of_getElem? (i := 978) (by decide +kernel), List.mem_of_getElem? (i := 1330) (by decide +kernel), List.mem_of_getElem? (i := 1331) (by decide +kernel)⟩
theorem lw_p73 : lw_okq (⟨"UnderNurseToTheTemperModel", "ofFit", "(I)I"⟩, 26) := ⟨⟨by decide +kernel, by decide +kernel⟩, List.mem_of_getElem? (i := 978) (by decide +kernel), List.mem_of_getElem? (i := 1334) (by decide +kernel), List.mem_of_getElem? (i := 1335) (by decide +kernel)⟩
theorem lw_p74 : lw_okq (⟨"UnderNurseToTheTemperModel", "overBy", "(II)I"⟩, 26) := ⟨⟨by decide +kernel, by decide +kernel⟩, List.mem_of_getElem? (i := 978) (by decide +kernel), List.mem_of_getElem? (i := 1354) (by decide +kernel), List.mem_of_getElem? (i := 1355) (by decide +kernel)⟩
theorem lw_p75 : lw_okq (⟨"UnderNurseToTheTemperModel", "till", "(IIIZ)I"⟩, 26) := ⟨⟨by decide +kernel, by decide +kernel⟩, List.mem_of_getElem? (i := 978) (by decide +kernel), List.mem_of_getElem? (i := 1366) (by decide +kernel), List.mem_of_getElem? (i := 1367) (by decide +kernel)⟩
theorem lw_p76 : lw_okq (⟨"UnderNurseToTheTemperModel", "chance", "(IIZ)V"⟩, 26) := ⟨⟨by decide +kernel, by decide +kernel⟩, List.mem_of_getElem? (i := 978) (by decide +kernel), List.mem_of_getElem? (i := 1382) (by decide +kernel), List.mem_of_getElem? (i := 1383) (by decide +kernel)⟩
theorem lw_p77 : lw_okq (⟨"UnderNurseToTheTemperModel", "both", "(II)I"⟩, 26) := ⟨⟨by decide +kernel, by decide +kernel⟩, List.mem_of_getElem? (i := 978) (by decide +kernel), List.mem_of_getElem? (i := 1400) (by decide +kernel), List.mem_of_getElem? (i := 1401) (by decide +kernel)⟩
theorem lw_p78 : lw_okq (⟨"UnderNurseToTheTemperModel", "turns", "(III)I"⟩, 26) := ⟨⟨by decide +kernel, by decide +kernel⟩, List.mem_of_getElem? (i := 978) (by decide +kernel), List.mem_of_getElem? (i := 1408) (by decide +kernel), List.mem_of_getElem? (i := 1409) (by decide +kernel)⟩
theorem lw_p79 : lw_okq (⟨"UnderNurseToTheTemperModel", "draw", "(I)I"⟩, 26) := ⟨⟨by decide +kernel, by decide +kernel⟩, List.mem_of_getElem? (i := 978) (by decide +kernel), List.mem_of_getElem? (i := 1458) (by decide +kernel), List.mem_of_getElem? (i := 1459) (by decide +kernel)⟩
def lw_privs_5 : List (MethodName × Nat) := [(⟨"UnderNurseToTheTemperModel", "rows", "(ZII)I"⟩, 26), (⟨"UnderNurseToTheTemperModel", "wrong", "(II)I"⟩, 26), (⟨"UnderNurseToTheTemperModel", "told", "(II)J"⟩, 26), (⟨"UnderNurseToTheTemperModel", "go", "(I)I"⟩, 26), (⟨"UnderNurseToTheTemperModel", "rageBehind", "(I)I"⟩, 26), (⟨"UnderNurseToTheTemperModel", "tryAll", "(III)V"⟩, 26), (⟨"UnderNurseToTheTemperModel", "twos", "(ZII)I"⟩, 26), (⟨"UnderNurseToTheTemperModel", "fillFit", "(IIII)V"⟩, 26), (⟨"UnderNurseToTheTemperModel", "fits", "(II)Z"⟩, 26), (⟨"UnderNurseToTheTemperModel", "ofFit", "(I)I"⟩, 26), (⟨"UnderNurseToTheTemperModel", "overBy", "(II)I"⟩, 26), (⟨"UnderNurseToTheTemperModel", "till", "(IIIZ)I"⟩, 26), (⟨"UnderNurseToTheTemperModel", "chance", "(IIZ)V"⟩, 26), (⟨"UnderNurseToTheTemperModel", "both", "(II)I"⟩, 26), (⟨"UnderNurseToTheTemperModel", "turns", "(III)I"⟩, 26), (⟨"UnderNurseToTheTemperModel", "draw", "(I)I"⟩, 26)]
theorem lw_r5 : ∀ q ∈ lw_privs_5, lw_okq q := List.forall_mem_cons.mpr ⟨lw_p64, List.forall_mem_cons.mpr ⟨lw_p65, List.forall_mem_cons.mpr ⟨lw_p66, List.forall_mem_cons.mpr ⟨lw_p67, List.forall_mem_cons.mpr ⟨lw_p68, List.forall_mem_cons.mpr ⟨lw_p69, List.forall_mem_cons.mpr ⟨lw_p70, List.forall_mem_cons.mpr ⟨lw_p71, List.forall_mem_cons.mpr ⟨lw_p72, List.forall_mem_cons.mpr ⟨lw_p73, List.forall_mem_cons.mpr ⟨lw_p74, List.forall_mem_cons.mpr ⟨lw_p75, List.forall_mem_cons.mpr ⟨lw_p76, List.forall_mem_cons.mpr ⟨lw_p77, List.forall_mem_cons.mpr ⟨lw_p78, List.forall_mem_cons.mpr ⟨lw_p79, fun _ h => absurd h List.not_mem_nil⟩⟩⟩⟩⟩⟩⟩⟩⟩⟩⟩⟩⟩⟩⟩⟩
def lw_privs : List (MethodName × Nat) := lw_privs_1 ++ (lw_privs_2 ++ (lw_privs_3 ++ (lw_privs_4 ++ (lw_privs_5))))
def lw_tbl : List Cond := k2_sels lw_privs ++ tables_1
theorem lw_privs_ok : ∀ q ∈ lw_privs, lw_okq q := by
  show ∀ q ∈ lw_privs_1 ++ (lw_privs_2 ++ (lw_privs_3 ++ (lw_privs_4 ++ (lw_privs_5)))), lw_okq q
  exact List.forall_mem_append.mpr ⟨lw_r1, List.forall_mem_append.mpr ⟨lw_r2, List.forall_mem_append.mpr ⟨lw_r3, List.forall_mem_append.mpr ⟨lw_r4, lw_r5⟩⟩⟩⟩
def RX0 : String := "UnderNurseToTheTemper$Search"
def TX0 : u_T := fun k => match k with
  | 0 => ("UnderNurseToTheTemper$Search", "bestHarms", "I", false)
  | 1 => ("UnderNurseToTheTemper$Search", "bestRage", "I", false)
  | 2 => ("UnderNurseToTheTemper$Search", "isFound", "Z", false)
  | 3 => ("UnderNurseToTheTemper$Search", "tried", "[I", true)
  | 4 => ("UnderNurseToTheTemper$Search", "chosen", "[I", true)
  | _ => ("UnderNurseToTheTemper$Search", "levels", "[LUnderNurseToTheTemper$Temper;", true)
def tyX0 : Nat → FieldType := fun k => match k with
  | 0 => .int
  | 1 => .int
  | 2 => .boolean
  | 3 => .array .int
  | 4 => .array .int
  | _ => .array (.object "UnderNurseToTheTemper$Temper")
theorem nmX0 : ∀ a, a < 6 → ∀ b, b < 6 → a ≠ b → (TX0 a).2.1 ≠ (TX0 b).2.1 := by decide +kernel
theorem tyX0_ok : ∀ k, k < 6 → parseFieldDescriptor (TX0 k).2.2.1 = some (tyX0 k) := by decide +kernel
abbrev cX0_init : ByteArray := prog_2_method_1_code
def yX0_init : MethodName := ⟨RX0, "<init>", "()V"⟩
abbrev cX0_run : ByteArray := prog_2_method_2_code
def yX0_run : MethodName := ⟨RX0, "run", "(ILUnderNurseToTheTemper$Temper;LUnderNurseToTheTemper$Staff;)V"⟩
abbrev cX0_orderOf : ByteArray := prog_2_method_3_code
def yX0_orderOf : MethodName := ⟨RX0, "orderOf", "(I)I"⟩
abbrev cX0_explore : ByteArray := prog_2_method_4_code
def yX0_explore : MethodName := ⟨RX0, "explore", "(IIILUnderNurseToTheTemper$Staff;)V"⟩
abbrev cX0_exploreBy : ByteArray := prog_2_method_5_code
def yX0_exploreBy : MethodName := ⟨RX0, "exploreBy", "(IIIILUnderNurseToTheTemper$Staff;)V"⟩
abbrev cX0_compare : ByteArray := prog_2_method_6_code
def yX0_compare : MethodName := ⟨RX0, "compare", "(III)V"⟩
def RX1 : String := "UnderNurseToTheTemper$Shelves"
def TX1 : u_T := fun k => match k with
  | 0 => ("UnderNurseToTheTemper$Shelves", "contents", "[I", true)
  | 1 => ("UnderNurseToTheTemper$Shelves", "sizes", "[I", true)
  | _ => ("UnderNurseToTheTemper$Shelves", "rows", "[[J", true)
def tyX1 : Nat → FieldType := fun k => match k with
  | 0 => .array .int
  | 1 => .array .int
  | _ => .array (.array .long)
theorem nmX1 : ∀ a, a < 3 → ∀ b, b < 3 → a ≠ b → (TX1 a).2.1 ≠ (TX1 b).2.1 := by decide +kernel
theorem tyX1_ok : ∀ k, k < 3 → parseFieldDescriptor (TX1 k).2.2.1 = some (tyX1 k) := by decide +kernel
abbrev cX1_init : ByteArray := prog_3_method_1_code
def yX1_init : MethodName := ⟨RX1, "<init>", "()V"⟩
abbrev cX1_contentOf : ByteArray := prog_3_method_2_code
def yX1_contentOf : MethodName := ⟨RX1, "contentOf", "(I)I"⟩
abbrev cX1_holdsRow : ByteArray := prog_3_method_3_code
def yX1_holdsRow : MethodName := ⟨RX1, "holdsRow", "(I)Z"⟩
abbrev cX1_holdsKeeper : ByteArray := prog_3_method_4_code
def yX1_holdsKeeper : MethodName := ⟨RX1, "holdsKeeper", "(I)Z"⟩
abbrev cX1_areOfTwoSorts : ByteArray := prog_3_method_5_code
def yX1_areOfTwoSorts : MethodName := ⟨RX1, "areOfTwoSorts", "(II)Z"⟩
abbrev cX1_countHeld : ByteArray := prog_3_method_6_code
def yX1_countHeld : MethodName := ⟨RX1, "countHeld", "()I"⟩
abbrev cX1_placeRow : ByteArray := prog_3_method_7_code
def yX1_placeRow : MethodName := ⟨RX1, "placeRow", "(III)V"⟩
abbrev cX1_placeKeeper : ByteArray := prog_3_method_8_code
def yX1_placeKeeper : MethodName := ⟨RX1, "placeKeeper", "(II)V"⟩
abbrev cX1_dropKeepersFrom : ByteArray := prog_3_method_9_code
def yX1_dropKeepersFrom : MethodName := ⟨RX1, "dropKeepersFrom", "(I)V"⟩
abbrev cX1_hasElement : ByteArray := prog_3_method_10_code
def yX1_hasElement : MethodName := ⟨RX1, "hasElement", "(II)Z"⟩
abbrev cX1_hasStretch : ByteArray := prog_3_method_11_code
def yX1_hasStretch : MethodName := ⟨RX1, "hasStretch", "(III)Z"⟩
abbrev cX1_elementAt : ByteArray := prog_3_method_12_code
def yX1_elementAt : MethodName := ⟨RX1, "elementAt", "(II)J"⟩
abbrev cX1_putElement : ByteArray := prog_3_method_13_code
def yX1_putElement : MethodName := ⟨RX1, "putElement", "(IIJ)V"⟩
abbrev cX1_moveStretch : ByteArray := prog_3_method_14_code
def yX1_moveStretch : MethodName := ⟨RX1, "moveStretch", "(IIIII)V"⟩
abbrev cX1_cutTo : ByteArray := prog_3_method_15_code
def yX1_cutTo : MethodName := ⟨RX1, "cutTo", "(IJ)J"⟩
def RX2 : String := "UnderNurseToTheTemper$Staff"
def TX2 : u_T := fun k => match k with
  | 0 => ("UnderNurseToTheTemper$Staff", "count", "I", false)
  | 1 => ("UnderNurseToTheTemper$Staff", "kinds", "[I", true)
  | 2 => ("UnderNurseToTheTemper$Staff", "skills", "[I", true)
  | 3 => ("UnderNurseToTheTemper$Staff", "courage", "[I", true)
  | _ => ("UnderNurseToTheTemper$Staff", "flights", "[I", true)
def tyX2 : Nat → FieldType := fun k => match k with
  | 0 => .int
  | 1 => .array .int
  | 2 => .array .int
  | 3 => .array .int
  | _ => .array .int
theorem nmX2 : ∀ a, a < 5 → ∀ b, b < 5 → a ≠ b → (TX2 a).2.1 ≠ (TX2 b).2.1 := by decide +kernel
theorem tyX2_ok : ∀ k, k < 5 → parseFieldDescriptor (TX2 k).2.2.1 = some (tyX2 k) := by decide +kernel
abbrev cX2_init : ByteArray := prog_4_method_1_code
def yX2_init : MethodName := ⟨RX2, "<init>", "()V"⟩
abbrev cX2_become : ByteArray := prog_4_method_2_code
def yX2_become : MethodName := ⟨RX2, "become", "(LUnderNurseToTheTemper$Staff;)V"⟩
abbrev cX2_has : ByteArray := prog_4_method_3_code
def yX2_has : MethodName := ⟨RX2, "has", "(I)Z"⟩
abbrev cX2_isFull : ByteArray := prog_4_method_4_code
def yX2_isFull : MethodName := ⟨RX2, "isFull", "()Z"⟩
abbrev cX2_add : ByteArray := prog_4_method_5_code
def yX2_add : MethodName := ⟨RX2, "add", "(III)I"⟩
abbrev cX2_kindOf : ByteArray := prog_4_method_6_code
def yX2_kindOf : MethodName := ⟨RX2, "kindOf", "(I)I"⟩
abbrev cX2_skillOf : ByteArray := prog_4_method_7_code
def yX2_skillOf : MethodName := ⟨RX2, "skillOf", "(I)I"⟩
abbrev cX2_nerveOf : ByteArray := prog_4_method_8_code
def yX2_nerveOf : MethodName := ⟨RX2, "nerveOf", "(I)I"⟩
abbrev cX2_fledOf : ByteArray := prog_4_method_9_code
def yX2_fledOf : MethodName := ⟨RX2, "fledOf", "(I)I"⟩
abbrev cX2_putNerve : ByteArray := prog_4_method_10_code
def yX2_putNerve : MethodName := ⟨RX2, "putNerve", "(II)V"⟩
abbrev cX2_noteFled : ByteArray := prog_4_method_11_code
def yX2_noteFled : MethodName := ⟨RX2, "noteFled", "(I)V"⟩
abbrev cX2_allFled : ByteArray := prog_4_method_12_code
def yX2_allFled : MethodName := ⟨RX2, "allFled", "()I"⟩
abbrev cX2_orderAt : ByteArray := prog_4_method_13_code
def yX2_orderAt : MethodName := ⟨RX2, "orderAt", "(I)I"⟩
abbrev cX2_remains : ByteArray := prog_4_method_14_code
def yX2_remains : MethodName := ⟨RX2, "remains", "(ILUnderNurseToTheTemper$Temper;)Z"⟩
abbrev cX2_bitsRemaining : ByteArray := prog_4_method_15_code
def yX2_bitsRemaining : MethodName := ⟨RX2, "bitsRemaining", "(LUnderNurseToTheTemper$Temper;)I"⟩
abbrev cX2_feeds : ByteArray := prog_4_method_16_code
def yX2_feeds : MethodName := ⟨RX2, "feeds", "(I)Z"⟩
abbrev cX2_soothed : ByteArray := prog_4_method_17_code
def yX2_soothed : MethodName := ⟨RX2, "soothed", "(ILUnderNurseToTheTemper$Temper;)I"⟩
abbrev cX2_soothing : ByteArray := prog_4_method_18_code
def yX2_soothing : MethodName := ⟨RX2, "soothing", "(IILUnderNurseToTheTemper$Temper;)I"⟩
def RX3 : String := "UnderNurseToTheTemper$Tally"
def TX3 : u_T := fun k => match k with
  | 0 => ("UnderNurseToTheTemper$Tally", "count", "I", false)
  | 1 => ("UnderNurseToTheTemper$Tally", "least", "I", false)
  | _ => ("UnderNurseToTheTemper$Tally", "greatest", "I", false)
def tyX3 : Nat → FieldType := fun k => match k with
  | 0 => .int
  | 1 => .int
  | _ => .int
theorem nmX3 : ∀ a, a < 3 → ∀ b, b < 3 → a ≠ b → (TX3 a).2.1 ≠ (TX3 b).2.1 := by decide +kernel
theorem tyX3_ok : ∀ k, k < 3 → parseFieldDescriptor (TX3 k).2.2.1 = some (tyX3 k) := by decide +kernel
abbrev cX3_init : ByteArray := prog_5_method_1_code
def yX3_init : MethodName := ⟨RX3, "<init>", "()V"⟩
abbrev cX3_clear : ByteArray := prog_5_method_2_code
def yX3_clear : MethodName := ⟨RX3, "clear", "()V"⟩
abbrev cX3_add : ByteArray := prog_5_method_3_code
def yX3_add : MethodName := ⟨RX3, "add", "(I)V"⟩
abbrev cX3_told : ByteArray := prog_5_method_4_code
def yX3_told : MethodName := ⟨RX3, "told", "(I)I"⟩
def RX4 : String := "UnderNurseToTheTemper$Tape"
def TX4 : u_T := fun k => match k with
  | 0 => ("UnderNurseToTheTemper$Tape", "size", "I", false)
  | 1 => ("UnderNurseToTheTemper$Tape", "letters", "[I", true)
  | 2 => ("UnderNurseToTheTemper$Tape", "token", "I", false)
  | 3 => ("UnderNurseToTheTemper$Tape", "start", "I", false)
  | 4 => ("UnderNurseToTheTemper$Tape", "end", "I", false)
  | _ => ("UnderNurseToTheTemper$Tape", "value", "I", false)
def tyX4 : Nat → FieldType := fun k => match k with
  | 0 => .int
  | 1 => .array .int
  | 2 => .int
  | 3 => .int
  | 4 => .int
  | _ => .int
theorem nmX4 : ∀ a, a < 6 → ∀ b, b < 6 → a ≠ b → (TX4 a).2.1 ≠ (TX4 b).2.1 := by decide +kernel
theorem tyX4_ok : ∀ k, k < 6 → parseFieldDescriptor (TX4 k).2.2.1 = some (tyX4 k) := by decide +kernel
abbrev cX4_init : ByteArray := prog_6_method_1_code
def yX4_init : MethodName := ⟨RX4, "<init>", "()V"⟩
abbrev cX4_isFull : ByteArray := prog_6_method_2_code
def yX4_isFull : MethodName := ⟨RX4, "isFull", "()Z"⟩
abbrev cX4_add : ByteArray := prog_6_method_3_code
def yX4_add : MethodName := ⟨RX4, "add", "(I)I"⟩
abbrev cX4_clear : ByteArray := prog_6_method_4_code
def yX4_clear : MethodName := ⟨RX4, "clear", "()I"⟩
abbrev cX4_read : ByteArray := prog_6_method_5_code
def yX4_read : MethodName := ⟨RX4, "read", "(LUnderNurseToTheTemper$Temper;LUnderNurseToTheTemper$Staff;)I"⟩
abbrev cX4_readStatement : ByteArray := prog_6_method_6_code
def yX4_readStatement : MethodName := ⟨RX4, "readStatement", "(LUnderNurseToTheTemper$Temper;LUnderNurseToTheTemper$Staff;)Z"⟩
abbrev cX4_readKeeper : ByteArray := prog_6_method_7_code
def yX4_readKeeper : MethodName := ⟨RX4, "readKeeper", "(LUnderNurseToTheTemper$Staff;)Z"⟩
abbrev cX4_readNerve : ByteArray := prog_6_method_8_code
def yX4_readNerve : MethodName := ⟨RX4, "readNerve", "(LUnderNurseToTheTemper$Staff;)Z"⟩
abbrev cX4_readMeasure : ByteArray := prog_6_method_9_code
def yX4_readMeasure : MethodName := ⟨RX4, "readMeasure", "(LUnderNurseToTheTemper$Temper;I)Z"⟩
abbrev cX4_spelledMeasure : ByteArray := prog_6_method_10_code
def yX4_spelledMeasure : MethodName := ⟨RX4, "spelledMeasure", "()I"⟩
abbrev cX4_spells : ByteArray := prog_6_method_11_code
def yX4_spells : MethodName := ⟨RX4, "spells", "(Ljava/lang/String;)Z"⟩
abbrev cX4_readNumber : ByteArray := prog_6_method_12_code
def yX4_readNumber : MethodName := ⟨RX4, "readNumber", "(II)Z"⟩
abbrev cX4_takeToken : ByteArray := prog_6_method_13_code
def yX4_takeToken : MethodName := ⟨RX4, "takeToken", "()V"⟩
abbrev cX4_sortOf : ByteArray := prog_6_method_14_code
def yX4_sortOf : MethodName := ⟨RX4, "sortOf", "(I)I"⟩
abbrev cX4_letterAt : ByteArray := prog_6_method_15_code
def yX4_letterAt : MethodName := ⟨RX4, "letterAt", "(I)I"⟩
def RX5 : String := "UnderNurseToTheTemper$Temper"
def TX5 : u_T := fun k => match k with
  | 0 => ("UnderNurseToTheTemper$Temper", "rage", "I", false)
  | 1 => ("UnderNurseToTheTemper$Temper", "calm", "I", false)
  | 2 => ("UnderNurseToTheTemper$Temper", "growth", "I", false)
  | 3 => ("UnderNurseToTheTemper$Temper", "bar", "I", false)
  | 4 => ("UnderNurseToTheTemper$Temper", "hour", "I", false)
  | 5 => ("UnderNurseToTheTemper$Temper", "harm", "Z", false)
  | _ => ("UnderNurseToTheTemper$Temper", "fledKeeper", "I", false)
def tyX5 : Nat → FieldType := fun k => match k with
  | 0 => .int
  | 1 => .int
  | 2 => .int
  | 3 => .int
  | 4 => .int
  | 5 => .boolean
  | _ => .int
theorem nmX5 : ∀ a, a < 7 → ∀ b, b < 7 → a ≠ b → (TX5 a).2.1 ≠ (TX5 b).2.1 := by decide +kernel
theorem tyX5_ok : ∀ k, k < 7 → parseFieldDescriptor (TX5 k).2.2.1 = some (tyX5 k) := by decide +kernel
abbrev cX5_init : ByteArray := prog_7_method_1_code
def yX5_init : MethodName := ⟨RX5, "<init>", "()V"⟩
abbrev cX5_become : ByteArray := prog_7_method_2_code
def yX5_become : MethodName := ⟨RX5, "become", "(LUnderNurseToTheTemper$Temper;)V"⟩
abbrev cX5_isLike : ByteArray := prog_7_method_3_code
def yX5_isLike : MethodName := ⟨RX5, "isLike", "(LUnderNurseToTheTemper$Temper;)Z"⟩
abbrev cX5_measure : ByteArray := prog_7_method_4_code
def yX5_measure : MethodName := ⟨RX5, "measure", "(I)I"⟩
abbrev cX5_putMeasure : ByteArray := prog_7_method_5_code
def yX5_putMeasure : MethodName := ⟨RX5, "putMeasure", "(II)V"⟩
abbrev cX5_alarm : ByteArray := prog_7_method_6_code
def yX5_alarm : MethodName := ⟨RX5, "alarm", "()I"⟩
abbrev cX5_pass : ByteArray := prog_7_method_7_code
def yX5_pass : MethodName := ⟨RX5, "pass", "(ILUnderNurseToTheTemper$Staff;)V"⟩
abbrev cX5_mix : ByteArray := prog_7_method_8_code
def yX5_mix : MethodName := ⟨RX5, "mix", "()V"⟩
abbrev cX5_growIf : ByteArray := prog_7_method_9_code
def yX5_growIf : MethodName := ⟨RX5, "growIf", "(Z)V"⟩
def RX6 : String := "UnderNurseToTheTemper$Walk"
def TX6 : u_T := fun k => match k with
  | 0 => ("UnderNurseToTheTemper$Walk", "at", "LUnderNurseToTheTemper$Temper;", true)
  | 1 => ("UnderNurseToTheTemper$Walk", "harmCount", "I", false)
  | 2 => ("UnderNurseToTheTemper$Walk", "fledCount", "I", false)
  | 3 => ("UnderNurseToTheTemper$Walk", "firstFled", "I", false)
  | 4 => ("UnderNurseToTheTemper$Walk", "safeHours", "I", false)
  | 5 => ("UnderNurseToTheTemper$Walk", "leastRage", "I", false)
  | 6 => ("UnderNurseToTheTemper$Walk", "greatestRage", "I", false)
  | 7 => ("UnderNurseToTheTemper$Walk", "greatestWhen", "I", false)
  | _ => ("UnderNurseToTheTemper$Walk", "leastCalm", "I", false)
def tyX6 : Nat → FieldType := fun k => match k with
  | 0 => .object "UnderNurseToTheTemper$Temper"
  | 1 => .int
  | 2 => .int
  | 3 => .int
  | 4 => .int
  | 5 => .int
  | 6 => .int
  | 7 => .int
  | _ => .int
theorem nmX6 : ∀ a, a < 9 → ∀ b, b < 9 → a ≠ b → (TX6 a).2.1 ≠ (TX6 b).2.1 := by decide +kernel
theorem tyX6_ok : ∀ k, k < 9 → parseFieldDescriptor (TX6 k).2.2.1 = some (tyX6 k) := by decide +kernel
abbrev cX6_init : ByteArray := prog_8_method_1_code
def yX6_init : MethodName := ⟨RX6, "<init>", "()V"⟩
abbrev cX6_along : ByteArray := prog_8_method_2_code
def yX6_along : MethodName := ⟨RX6, "along", "([IILUnderNurseToTheTemper$Temper;LUnderNurseToTheTemper$Staff;)V"⟩
abbrev cX6_begin : ByteArray := prog_8_method_3_code
def yX6_begin : MethodName := ⟨RX6, "begin", "(LUnderNurseToTheTemper$Temper;)V"⟩
abbrev cX6_noteHour : ByteArray := prog_8_method_4_code
def yX6_noteHour : MethodName := ⟨RX6, "noteHour", "(I)V"⟩
def RX7 : String := "UnderNurseToTheTemper"
def TX7 : u_T := fun k => match k with
  | 0 => ("UnderNurseToTheTemper", "now", "LUnderNurseToTheTemper$Temper;", true)
  | 1 => ("UnderNurseToTheTemper", "trial", "LUnderNurseToTheTemper$Temper;", true)
  | 2 => ("UnderNurseToTheTemper", "rival", "LUnderNurseToTheTemper$Temper;", true)
  | 3 => ("UnderNurseToTheTemper", "keptTemper", "LUnderNurseToTheTemper$Temper;", true)
  | 4 => ("UnderNurseToTheTemper", "staff", "LUnderNurseToTheTemper$Staff;", true)
  | 5 => ("UnderNurseToTheTemper", "trialStaff", "LUnderNurseToTheTemper$Staff;", true)
  | 6 => ("UnderNurseToTheTemper", "keptStaff", "LUnderNurseToTheTemper$Staff;", true)
  | 7 => ("UnderNurseToTheTemper", "shelves", "LUnderNurseToTheTemper$Shelves;", true)
  | 8 => ("UnderNurseToTheTemper", "tape", "LUnderNurseToTheTemper$Tape;", true)
  | 9 => ("UnderNurseToTheTemper", "walk", "LUnderNurseToTheTemper$Walk;", true)
  | 10 => ("UnderNurseToTheTemper", "search", "LUnderNurseToTheTemper$Search;", true)
  | 11 => ("UnderNurseToTheTemper", "tally", "LUnderNurseToTheTemper$Tally;", true)
  | 12 => ("UnderNurseToTheTemper", "plan", "[I", true)
  | 13 => ("UnderNurseToTheTemper", "fitting", "[Z", true)
  | 14 => ("UnderNurseToTheTemper", "refusals", "[I", true)
  | 15 => ("UnderNurseToTheTemper", "seedNow", "I", false)
  | 16 => ("UnderNurseToTheTemper", "keptSeed", "I", false)
  | _ => ("UnderNurseToTheTemper", "isKept", "Z", false)
def tyX7 : Nat → FieldType := fun k => match k with
  | 0 => .object "UnderNurseToTheTemper$Temper"
  | 1 => .object "UnderNurseToTheTemper$Temper"
  | 2 => .object "UnderNurseToTheTemper$Temper"
  | 3 => .object "UnderNurseToTheTemper$Temper"
  | 4 => .object "UnderNurseToTheTemper$Staff"
  | 5 => .object "UnderNurseToTheTemper$Staff"
  | 6 => .object "UnderNurseToTheTemper$Staff"
  | 7 => .object "UnderNurseToTheTemper$Shelves"
  | 8 => .object "UnderNurseToTheTemper$Tape"
  | 9 => .object "UnderNurseToTheTemper$Walk"
  | 10 => .object "UnderNurseToTheTemper$Search"
  | 11 => .object "UnderNurseToTheTemper$Tally"
  | 12 => .array .int
  | 13 => .array .boolean
  | 14 => .array .int
  | 15 => .int
  | 16 => .int
  | _ => .boolean
theorem nmX7 : ∀ a, a < 18 → ∀ b, b < 18 → a ≠ b → (TX7 a).2.1 ≠ (TX7 b).2.1 := by decide +kernel
theorem tyX7_ok : ∀ k, k < 18 → parseFieldDescriptor (TX7 k).2.2.1 = some (tyX7 k) := by decide +kernel
abbrev cX7_init : ByteArray := prog_1_method_1_code
def yX7_init : MethodName := ⟨RX7, "<init>", "()V"⟩
abbrev cX7_row : ByteArray := prog_1_method_2_code
def yX7_row : MethodName := ⟨RX7, "row", "(III)I"⟩
abbrev cX7_set : ByteArray := prog_1_method_3_code
def yX7_set : MethodName := ⟨RX7, "set", "(IIJ)I"⟩
abbrev cX7_copy : ByteArray := prog_1_method_4_code
def yX7_copy : MethodName := ⟨RX7, "copy", "(IIIII)I"⟩
abbrev cX7_element : ByteArray := prog_1_method_5_code
def yX7_element : MethodName := ⟨RX7, "element", "(II)J"⟩
abbrev cX7_holds : ByteArray := prog_1_method_6_code
def yX7_holds : MethodName := ⟨RX7, "holds", "(I)I"⟩
abbrev cX7_show : ByteArray := prog_1_method_7_code
def yX7_show : MethodName := ⟨RX7, "show", "(II)I"⟩
abbrev cX7_says : ByteArray := prog_1_method_8_code
def yX7_says : MethodName := ⟨RX7, "says", "(II)I"⟩
abbrev cX7_keeper : ByteArray := prog_1_method_9_code
def yX7_keeper : MethodName := ⟨RX7, "keeper", "(III)I"⟩
abbrev cX7_nerve : ByteArray := prog_1_method_10_code
def yX7_nerve : MethodName := ⟨RX7, "nerve", "(II)I"⟩
abbrev cX7_tell : ByteArray := prog_1_method_11_code
def yX7_tell : MethodName := ⟨RX7, "tell", "(II)I"⟩
abbrev cX7_feed : ByteArray := prog_1_method_12_code
def yX7_feed : MethodName := ⟨RX7, "feed", "(I)I"⟩
abbrev cX7_wipe : ByteArray := prog_1_method_13_code
def yX7_wipe : MethodName := ⟨RX7, "wipe", "()I"⟩
abbrev cX7_house : ByteArray := prog_1_method_14_code
def yX7_house : MethodName := ⟨RX7, "house", "()I"⟩
abbrev cX7_keeperOf : ByteArray := prog_1_method_15_code
def yX7_keeperOf : MethodName := ⟨RX7, "keeperOf", "(II)I"⟩
abbrev cX7_fright : ByteArray := prog_1_method_16_code
def yX7_fright : MethodName := ⟨RX7, "fright", "()I"⟩
abbrev cX7_stays : ByteArray := prog_1_method_17_code
def yX7_stays : MethodName := ⟨RX7, "stays", "(I)I"⟩
abbrev cX7_staying : ByteArray := prog_1_method_18_code
def yX7_staying : MethodName := ⟨RX7, "staying", "()I"⟩
abbrev cX7_after : ByteArray := prog_1_method_19_code
def yX7_after : MethodName := ⟨RX7, "after", "(II)I"⟩
abbrev cX7_bestNow : ByteArray := prog_1_method_20_code
def yX7_bestNow : MethodName := ⟨RX7, "bestNow", "(I)I"⟩
abbrev cX7_behind : ByteArray := prog_1_method_21_code
def yX7_behind : MethodName := ⟨RX7, "behind", "(III)I"⟩
abbrev cX7_unkept : ByteArray := prog_1_method_22_code
def yX7_unkept : MethodName := ⟨RX7, "unkept", "(II)I"⟩
abbrev cX7_judge : ByteArray := prog_1_method_23_code
def yX7_judge : MethodName := ⟨RX7, "judge", "(II)I"⟩
abbrev cX7_best : ByteArray := prog_1_method_24_code
def yX7_best : MethodName := ⟨RX7, "best", "(II)I"⟩
abbrev cX7_rages : ByteArray := prog_1_method_25_code
def yX7_rages : MethodName := ⟨RX7, "rages", "(III)I"⟩
abbrev cX7_nerves : ByteArray := prog_1_method_26_code
def yX7_nerves : MethodName := ⟨RX7, "nerves", "(IIII)I"⟩
abbrev cX7_send : ByteArray := prog_1_method_27_code
def yX7_send : MethodName := ⟨RX7, "send", "(II)I"⟩
abbrev cX7_settles : ByteArray := prog_1_method_28_code
def yX7_settles : MethodName := ⟨RX7, "settles", "(I)I"⟩
abbrev cX7_over : ByteArray := prog_1_method_29_code
def yX7_over : MethodName := ⟨RX7, "over", "(II)I"⟩
abbrev cX7_safest : ByteArray := prog_1_method_30_code
def yX7_safest : MethodName := ⟨RX7, "safest", "()I"⟩
abbrev cX7_odds : ByteArray := prog_1_method_31_code
def yX7_odds : MethodName := ⟨RX7, "odds", "(II)I"⟩
abbrev cX7_flees : ByteArray := prog_1_method_32_code
def yX7_flees : MethodName := ⟨RX7, "flees", "(I)I"⟩
abbrev cX7_needs : ByteArray := prog_1_method_33_code
def yX7_needs : MethodName := ⟨RX7, "needs", "(I)I"⟩
abbrev cX7_until : ByteArray := prog_1_method_34_code
def yX7_until : MethodName := ⟨RX7, "until", "(II)I"⟩
abbrev cX7_first : ByteArray := prog_1_method_35_code
def yX7_first : MethodName := ⟨RX7, "first", "(II)I"⟩
abbrev cX7_meetings : ByteArray := prog_1_method_36_code
def yX7_meetings : MethodName := ⟨RX7, "meetings", "()I"⟩
abbrev cX7_byTurns : ByteArray := prog_1_method_37_code
def yX7_byTurns : MethodName := ⟨RX7, "byTurns", "(II)I"⟩
abbrev cX7_harms : ByteArray := prog_1_method_38_code
def yX7_harms : MethodName := ⟨RX7, "harms", "(II)I"⟩
abbrev cX7_starts : ByteArray := prog_1_method_39_code
def yX7_starts : MethodName := ⟨RX7, "starts", "()I"⟩
abbrev cX7_of : ByteArray := prog_1_method_40_code
def yX7_of : MethodName := ⟨RX7, "of", "(I)I"⟩
abbrev cX7_way : ByteArray := prog_1_method_41_code
def yX7_way : MethodName := ⟨RX7, "way", "(III)I"⟩
abbrev cX7_matters : ByteArray := prog_1_method_42_code
def yX7_matters : MethodName := ⟨RX7, "matters", "(II)I"⟩
abbrev cX7_instead : ByteArray := prog_1_method_43_code
def yX7_instead : MethodName := ⟨RX7, "instead", "(III)I"⟩
abbrev cX7_better : ByteArray := prog_1_method_44_code
def yX7_better : MethodName := ⟨RX7, "better", "(II)I"⟩
abbrev cX7_still : ByteArray := prog_1_method_45_code
def yX7_still : MethodName := ⟨RX7, "still", "(I)I"⟩
abbrev cX7_calmFor : ByteArray := prog_1_method_46_code
def yX7_calmFor : MethodName := ⟨RX7, "calmFor", "(I)I"⟩
abbrev cX7_grown : ByteArray := prog_1_method_47_code
def yX7_grown : MethodName := ⟨RX7, "grown", "(I)I"⟩
abbrev cX7_brave : ByteArray := prog_1_method_48_code
def yX7_brave : MethodName := ⟨RX7, "brave", "(I)I"⟩
abbrev cX7_ofKind : ByteArray := prog_1_method_49_code
def yX7_ofKind : MethodName := ⟨RX7, "ofKind", "(I)I"⟩
abbrev cX7_order : ByteArray := prog_1_method_50_code
def yX7_order : MethodName := ⟨RX7, "order", "(I)I"⟩
abbrev cX7_done : ByteArray := prog_1_method_51_code
def yX7_done : MethodName := ⟨RX7, "done", "(II)I"⟩
abbrev cX7_drawn : ByteArray := prog_1_method_52_code
def yX7_drawn : MethodName := ⟨RX7, "drawn", "(I)I"⟩
abbrev cX7_seed : ByteArray := prog_1_method_53_code
def yX7_seed : MethodName := ⟨RX7, "seed", "(I)I"⟩
abbrev cX7_image : ByteArray := prog_1_method_54_code
def yX7_image : MethodName := ⟨RX7, "image", "()I"⟩
abbrev cX7_back : ByteArray := prog_1_method_55_code
def yX7_back : MethodName := ⟨RX7, "back", "()I"⟩
abbrev cX7_status : ByteArray := prog_1_method_56_code
def yX7_status : MethodName := ⟨RX7, "status", "(I)I"⟩
abbrev cX7_refused : ByteArray := prog_1_method_57_code
def yX7_refused : MethodName := ⟨RX7, "refused", "(I)I"⟩
abbrev cX7_refusalsTold : ByteArray := prog_1_method_58_code
def yX7_refusalsTold : MethodName := ⟨RX7, "refusalsTold", "(I)I"⟩
abbrev cX7_rowFault : ByteArray := prog_1_method_59_code
def yX7_rowFault : MethodName := ⟨RX7, "rowFault", "(IZ)I"⟩
abbrev cX7_elementsFault : ByteArray := prog_1_method_60_code
def yX7_elementsFault : MethodName := ⟨RX7, "elementsFault", "(IIIIZ)I"⟩
abbrev cX7_isWithin : ByteArray := prog_1_method_61_code
def yX7_isWithin : MethodName := ⟨RX7, "isWithin", "(III)Z"⟩
abbrev cX7_isShelf : ByteArray := prog_1_method_62_code
def yX7_isShelf : MethodName := ⟨RX7, "isShelf", "(I)Z"⟩
abbrev cX7_mayBe : ByteArray := prog_1_method_63_code
def yX7_mayBe : MethodName := ⟨RX7, "mayBe", "(II)Z"⟩
abbrev cX7_isUnder : ByteArray := prog_1_method_64_code
def yX7_isUnder : MethodName := ⟨RX7, "isUnder", "(II)Z"⟩
abbrev cX7_isOrder : ByteArray := prog_1_method_65_code
def yX7_isOrder : MethodName := ⟨RX7, "isOrder", "(J)Z"⟩
abbrev cX7_isKeeper : ByteArray := prog_1_method_66_code
def yX7_isKeeper : MethodName := ⟨RX7, "isKeeper", "(J)Z"⟩
abbrev cX7_orderCount : ByteArray := prog_1_method_67_code
def yX7_orderCount : MethodName := ⟨RX7, "orderCount", "()I"⟩
abbrev cX7_wrongPlace : ByteArray := prog_1_method_68_code
def yX7_wrongPlace : MethodName := ⟨RX7, "wrongPlace", "(II)I"⟩
abbrev cX7_takeRoster : ByteArray := prog_1_method_69_code
def yX7_takeRoster : MethodName := ⟨RX7, "takeRoster", "(IIZ)I"⟩
abbrev cX7_takeTwos : ByteArray := prog_1_method_70_code
def yX7_takeTwos : MethodName := ⟨RX7, "takeTwos", "(IIZ)I"⟩
abbrev cX7_takePlan : ByteArray := prog_1_method_71_code
def yX7_takePlan : MethodName := ⟨RX7, "takePlan", "(II)V"⟩
abbrev cX7_walkOver : ByteArray := prog_1_method_72_code
def yX7_walkOver : MethodName := ⟨RX7, "walkOver", "(I)V"⟩
abbrev cX7_walkTurns : ByteArray := prog_1_method_73_code
def yX7_walkTurns : MethodName := ⟨RX7, "walkTurns", "(II)V"⟩
abbrev cX7_rageWith : ByteArray := prog_1_method_74_code
def yX7_rageWith : MethodName := ⟨RX7, "rageWith", "(III)I"⟩
abbrev cX7_tryHour : ByteArray := prog_1_method_75_code
def yX7_tryHour : MethodName := ⟨RX7, "tryHour", "(I)V"⟩
abbrev cX7_rageAfter : ByteArray := prog_1_method_76_code
def yX7_rageAfter : MethodName := ⟨RX7, "rageAfter", "(II)I"⟩
abbrev cX7_tallyRages : ByteArray := prog_1_method_77_code
def yX7_tallyRages : MethodName := ⟨RX7, "tallyRages", "(I)V"⟩
abbrev cX7_fitsTwos : ByteArray := prog_1_method_78_code
def yX7_fitsTwos : MethodName := ⟨RX7, "fitsTwos", "(ILUnderNurseToTheTemper$Staff;)Z"⟩
abbrev cX7_mostLeftBy : ByteArray := prog_1_method_79_code
def yX7_mostLeftBy : MethodName := ⟨RX7, "mostLeftBy", "(I)I"⟩
abbrev cX7_harmOdds : ByteArray := prog_1_method_80_code
def yX7_harmOdds : MethodName := ⟨RX7, "harmOdds", "(II)I"⟩
abbrev cX7_meanRage : ByteArray := prog_1_method_81_code
def yX7_meanRage : MethodName := ⟨RX7, "meanRage", "(II)I"⟩
abbrev cX7_walkCode : ByteArray := prog_1_method_82_code
def yX7_walkCode : MethodName := ⟨RX7, "walkCode", "(II)V"⟩
abbrev cX7_standsOut : ByteArray := prog_1_method_83_code
def yX7_standsOut : MethodName := ⟨RX7, "standsOut", "(III)Z"⟩
abbrev cX7_carryOut : ByteArray := prog_1_method_84_code
def yX7_carryOut : MethodName := ⟨RX7, "carryOut", "(I)I"⟩
abbrev cX7_drawnOrder : ByteArray := prog_1_method_85_code
def yX7_drawnOrder : MethodName := ⟨RX7, "drawnOrder", "()I"⟩
def RX8 : String := "UnderNurseToTheTemperModel"
def TX8 : u_T := fun k => match k with
  | 0 => ("UnderNurseToTheTemperModel", "refused", "[I", true)
  | 1 => ("UnderNurseToTheTemperModel", "now", "[I", true)
  | 2 => ("UnderNurseToTheTemperModel", "kept", "[I", true)
  | 3 => ("UnderNurseToTheTemperModel", "minds", "[I", true)
  | 4 => ("UnderNurseToTheTemperModel", "isKept", "Z", false)
  | 5 => ("UnderNurseToTheTemperModel", "tape", "[I", true)
  | 6 => ("UnderNurseToTheTemperModel", "size", "I", false)
  | 7 => ("UnderNurseToTheTemperModel", "at", "I", false)
  | 8 => ("UnderNurseToTheTemperModel", "from", "I", false)
  | 9 => ("UnderNurseToTheTemperModel", "sort", "I", false)
  | 10 => ("UnderNurseToTheTemperModel", "words", "[C", true)
  | 11 => ("UnderNurseToTheTemperModel", "fled", "Z", false)
  | 12 => ("UnderNurseToTheTemperModel", "holds", "[I", true)
  | 13 => ("UnderNurseToTheTemperModel", "sizes", "[I", true)
  | 14 => ("UnderNurseToTheTemperModel", "elements", "[J", true)
  | 15 => ("UnderNurseToTheTemperModel", "moved", "[J", true)
  | 16 => ("UnderNurseToTheTemperModel", "above", "[I", true)
  | 17 => ("UnderNurseToTheTemperModel", "roster", "[I", true)
  | 18 => ("UnderNurseToTheTemperModel", "flights", "I", false)
  | 19 => ("UnderNurseToTheTemperModel", "firstFlight", "I", false)
  | 20 => ("UnderNurseToTheTemperModel", "bestRow", "[I", true)
  | 21 => ("UnderNurseToTheTemperModel", "bestHarms", "I", false)
  | 22 => ("UnderNurseToTheTemperModel", "bestRage", "I", false)
  | 23 => ("UnderNurseToTheTemperModel", "fit", "[Z", true)
  | 24 => ("UnderNurseToTheTemperModel", "harmed", "J", false)
  | _ => ("UnderNurseToTheTemperModel", "raged", "J", false)
def tyX8 : Nat → FieldType := fun k => match k with
  | 0 => .array .int
  | 1 => .array .int
  | 2 => .array .int
  | 3 => .array .int
  | 4 => .boolean
  | 5 => .array .int
  | 6 => .int
  | 7 => .int
  | 8 => .int
  | 9 => .int
  | 10 => .array .char
  | 11 => .boolean
  | 12 => .array .int
  | 13 => .array .int
  | 14 => .array .long
  | 15 => .array .long
  | 16 => .array .int
  | 17 => .array .int
  | 18 => .int
  | 19 => .int
  | 20 => .array .int
  | 21 => .int
  | 22 => .int
  | 23 => .array .boolean
  | 24 => .long
  | _ => .long
theorem nmX8 : ∀ a, a < 26 → ∀ b, b < 26 → a ≠ b → (TX8 a).2.1 ≠ (TX8 b).2.1 := by decide +kernel
theorem tyX8_ok : ∀ k, k < 26 → parseFieldDescriptor (TX8 k).2.2.1 = some (tyX8 k) := by decide +kernel
abbrev cX8_init : ByteArray := prog_10_method_1_code
def yX8_init : MethodName := ⟨RX8, "<init>", "()V"⟩
abbrev cX8_isIn : ByteArray := prog_10_method_2_code
def yX8_isIn : MethodName := ⟨RX8, "isIn", "(JJJ)Z"⟩
abbrev cX8_bound : ByteArray := prog_10_method_3_code
def yX8_bound : MethodName := ⟨RX8, "bound", "(II)I"⟩
abbrev cX8_refuse : ByteArray := prog_10_method_4_code
def yX8_refuse : MethodName := ⟨RX8, "refuse", "(I)I"⟩
abbrev cX8_fresh : ByteArray := prog_10_method_5_code
def yX8_fresh : MethodName := ⟨RX8, "fresh", "()[I"⟩
abbrev cX8_keep : ByteArray := prog_10_method_6_code
def yX8_keep : MethodName := ⟨RX8, "keep", "(I)V"⟩
abbrev cX8_lay : ByteArray := prog_10_method_7_code
def yX8_lay : MethodName := ⟨RX8, "lay", "(I)V"⟩
abbrev cX8_many : ByteArray := prog_10_method_8_code
def yX8_many : MethodName := ⟨RX8, "many", "()I"⟩
abbrev cX8_isKeeper : ByteArray := prog_10_method_9_code
def yX8_isKeeper : MethodName := ⟨RX8, "isKeeper", "(J)Z"⟩
abbrev cX8_isOrder : ByteArray := prog_10_method_10_code
def yX8_isOrder : MethodName := ⟨RX8, "isOrder", "(J)Z"⟩
abbrev cX8_orderAt : ByteArray := prog_10_method_11_code
def yX8_orderAt : MethodName := ⟨RX8, "orderAt", "(I)I"⟩
abbrev cX8_kind : ByteArray := prog_10_method_12_code
def yX8_kind : MethodName := ⟨RX8, "kind", "(I)I"⟩
abbrev cX8_a : ByteArray := prog_10_method_13_code
def yX8_a : MethodName := ⟨RX8, "a", "(I)I"⟩
abbrev cX8_nerveOf : ByteArray := prog_10_method_14_code
def yX8_nerveOf : MethodName := ⟨RX8, "nerveOf", "(I)I"⟩
abbrev cX8_add : ByteArray := prog_10_method_15_code
def yX8_add : MethodName := ⟨RX8, "add", "(III)I"⟩
abbrev cX8_keeper : ByteArray := prog_10_method_16_code
def yX8_keeper : MethodName := ⟨RX8, "keeper", "(III)I"⟩
abbrev cX8_nerve : ByteArray := prog_10_method_17_code
def yX8_nerve : MethodName := ⟨RX8, "nerve", "(II)I"⟩
abbrev cX8_tell : ByteArray := prog_10_method_18_code
def yX8_tell : MethodName := ⟨RX8, "tell", "(II)I"⟩
abbrev cX8_feed : ByteArray := prog_10_method_19_code
def yX8_feed : MethodName := ⟨RX8, "feed", "(I)I"⟩
abbrev cX8_wipe : ByteArray := prog_10_method_20_code
def yX8_wipe : MethodName := ⟨RX8, "wipe", "()I"⟩
abbrev cX8_sortAt : ByteArray := prog_10_method_21_code
def yX8_sortAt : MethodName := ⟨RX8, "sortAt", "(I)I"⟩
abbrev cX8_next : ByteArray := prog_10_method_22_code
def yX8_next : MethodName := ⟨RX8, "next", "()V"⟩
abbrev cX8_word : ByteArray := prog_10_method_23_code
def yX8_word : MethodName := ⟨RX8, "word", "()I"⟩
abbrev cX8_number : ByteArray := prog_10_method_24_code
def yX8_number : MethodName := ⟨RX8, "number", "(II)I"⟩
abbrev cX8_isStatement : ByteArray := prog_10_method_25_code
def yX8_isStatement : MethodName := ⟨RX8, "isStatement", "()Z"⟩
abbrev cX8_house : ByteArray := prog_10_method_26_code
def yX8_house : MethodName := ⟨RX8, "house", "()I"⟩
abbrev cX8_fright : ByteArray := prog_10_method_27_code
def yX8_fright : MethodName := ⟨RX8, "fright", "()I"⟩
abbrev cX8_isStaying : ByteArray := prog_10_method_28_code
def yX8_isStaying : MethodName := ⟨RX8, "isStaying", "(I)Z"⟩
abbrev cX8_soothes : ByteArray := prog_10_method_29_code
def yX8_soothes : MethodName := ⟨RX8, "soothes", "(I)I"⟩
abbrev cX8_grow : ByteArray := prog_10_method_30_code
def yX8_grow : MethodName := ⟨RX8, "grow", "(I)V"⟩
abbrev cX8_step : ByteArray := prog_10_method_31_code
def yX8_step : MethodName := ⟨RX8, "step", "(I)I"⟩
abbrev cX8_keeperOf : ByteArray := prog_10_method_32_code
def yX8_keeperOf : MethodName := ⟨RX8, "keeperOf", "(II)I"⟩
abbrev cX8_stays : ByteArray := prog_10_method_33_code
def yX8_stays : MethodName := ⟨RX8, "stays", "(I)I"⟩
abbrev cX8_staying : ByteArray := prog_10_method_34_code
def yX8_staying : MethodName := ⟨RX8, "staying", "()I"⟩
abbrev cX8_then : ByteArray := prog_10_method_35_code
def yX8_then : MethodName := ⟨RX8, "then", "(III)I"⟩
abbrev cX8_after : ByteArray := prog_10_method_36_code
def yX8_after : MethodName := ⟨RX8, "after", "(II)I"⟩
abbrev cX8_bestNow : ByteArray := prog_10_method_37_code
def yX8_bestNow : MethodName := ⟨RX8, "bestNow", "(I)I"⟩
abbrev cX8_isShelf : ByteArray := prog_10_method_38_code
def yX8_isShelf : MethodName := ⟨RX8, "isShelf", "(I)Z"⟩
abbrev cX8_row : ByteArray := prog_10_method_39_code
def yX8_row : MethodName := ⟨RX8, "row", "(III)I"⟩
abbrev cX8_rowIn : ByteArray := prog_10_method_40_code
def yX8_rowIn : MethodName := ⟨RX8, "rowIn", "(I)I"⟩
abbrev cX8_set : ByteArray := prog_10_method_41_code
def yX8_set : MethodName := ⟨RX8, "set", "(IIJ)I"⟩
abbrev cX8_copy : ByteArray := prog_10_method_42_code
def yX8_copy : MethodName := ⟨RX8, "copy", "(IIIII)I"⟩
abbrev cX8_element : ByteArray := prog_10_method_43_code
def yX8_element : MethodName := ⟨RX8, "element", "(II)J"⟩
abbrev cX8_holds : ByteArray := prog_10_method_44_code
def yX8_holds : MethodName := ⟨RX8, "holds", "(I)I"⟩
abbrev cX8_show : ByteArray := prog_10_method_45_code
def yX8_show : MethodName := ⟨RX8, "show", "(II)I"⟩
abbrev cX8_says : ByteArray := prog_10_method_46_code
def yX8_says : MethodName := ⟨RX8, "says", "(II)I"⟩
abbrev cX8_told : ByteArray := prog_10_method_47_code
def yX8_told : MethodName := ⟨RX8, "told", "(II)J"⟩
abbrev cX8_rows : ByteArray := prog_10_method_48_code
def yX8_rows : MethodName := ⟨RX8, "rows", "(ZII)I"⟩
abbrev cX8_wrong : ByteArray := prog_10_method_49_code
def yX8_wrong : MethodName := ⟨RX8, "wrong", "(II)I"⟩
abbrev cX8_load : ByteArray := prog_10_method_50_code
def yX8_load : MethodName := ⟨RX8, "load", "(ZII)I"⟩
abbrev cX8_go : ByteArray := prog_10_method_51_code
def yX8_go : MethodName := ⟨RX8, "go", "(I)I"⟩
abbrev cX8_behind : ByteArray := prog_10_method_52_code
def yX8_behind : MethodName := ⟨RX8, "behind", "(III)I"⟩
abbrev cX8_unkept : ByteArray := prog_10_method_53_code
def yX8_unkept : MethodName := ⟨RX8, "unkept", "(II)I"⟩
abbrev cX8_judge : ByteArray := prog_10_method_54_code
def yX8_judge : MethodName := ⟨RX8, "judge", "(II)I"⟩
abbrev cX8_way : ByteArray := prog_10_method_55_code
def yX8_way : MethodName := ⟨RX8, "way", "(III)I"⟩
abbrev cX8_rageBehind : ByteArray := prog_10_method_56_code
def yX8_rageBehind : MethodName := ⟨RX8, "rageBehind", "(I)I"⟩
abbrev cX8_matters : ByteArray := prog_10_method_57_code
def yX8_matters : MethodName := ⟨RX8, "matters", "(II)I"⟩
abbrev cX8_instead : ByteArray := prog_10_method_58_code
def yX8_instead : MethodName := ⟨RX8, "instead", "(III)I"⟩
abbrev cX8_tryAll : ByteArray := prog_10_method_59_code
def yX8_tryAll : MethodName := ⟨RX8, "tryAll", "(III)V"⟩
abbrev cX8_best : ByteArray := prog_10_method_60_code
def yX8_best : MethodName := ⟨RX8, "best", "(II)I"⟩
abbrev cX8_twos : ByteArray := prog_10_method_61_code
def yX8_twos : MethodName := ⟨RX8, "twos", "(ZII)I"⟩
abbrev cX8_fits : ByteArray := prog_10_method_62_code
def yX8_fits : MethodName := ⟨RX8, "fits", "(II)Z"⟩
abbrev cX8_fillFit : ByteArray := prog_10_method_63_code
def yX8_fillFit : MethodName := ⟨RX8, "fillFit", "(IIII)V"⟩
abbrev cX8_ofFit : ByteArray := prog_10_method_64_code
def yX8_ofFit : MethodName := ⟨RX8, "ofFit", "(I)I"⟩
abbrev cX8_rages : ByteArray := prog_10_method_65_code
def yX8_rages : MethodName := ⟨RX8, "rages", "(III)I"⟩
abbrev cX8_nerves : ByteArray := prog_10_method_66_code
def yX8_nerves : MethodName := ⟨RX8, "nerves", "(IIII)I"⟩
abbrev cX8_send : ByteArray := prog_10_method_67_code
def yX8_send : MethodName := ⟨RX8, "send", "(II)I"⟩
abbrev cX8_settles : ByteArray := prog_10_method_68_code
def yX8_settles : MethodName := ⟨RX8, "settles", "(I)I"⟩
abbrev cX8_overBy : ByteArray := prog_10_method_69_code
def yX8_overBy : MethodName := ⟨RX8, "overBy", "(II)I"⟩
abbrev cX8_over : ByteArray := prog_10_method_70_code
def yX8_over : MethodName := ⟨RX8, "over", "(II)I"⟩
abbrev cX8_safest : ByteArray := prog_10_method_71_code
def yX8_safest : MethodName := ⟨RX8, "safest", "()I"⟩
abbrev cX8_till : ByteArray := prog_10_method_72_code
def yX8_till : MethodName := ⟨RX8, "till", "(IIIZ)I"⟩
abbrev cX8_until : ByteArray := prog_10_method_73_code
def yX8_until : MethodName := ⟨RX8, "until", "(II)I"⟩
abbrev cX8_grown : ByteArray := prog_10_method_74_code
def yX8_grown : MethodName := ⟨RX8, "grown", "(I)I"⟩
abbrev cX8_meetings : ByteArray := prog_10_method_75_code
def yX8_meetings : MethodName := ⟨RX8, "meetings", "()I"⟩
abbrev cX8_chance : ByteArray := prog_10_method_76_code
def yX8_chance : MethodName := ⟨RX8, "chance", "(IIZ)V"⟩
abbrev cX8_odds : ByteArray := prog_10_method_77_code
def yX8_odds : MethodName := ⟨RX8, "odds", "(II)I"⟩
abbrev cX8_flees : ByteArray := prog_10_method_78_code
def yX8_flees : MethodName := ⟨RX8, "flees", "(I)I"⟩
abbrev cX8_needs : ByteArray := prog_10_method_79_code
def yX8_needs : MethodName := ⟨RX8, "needs", "(I)I"⟩
abbrev cX8_both : ByteArray := prog_10_method_80_code
def yX8_both : MethodName := ⟨RX8, "both", "(II)I"⟩
abbrev cX8_first : ByteArray := prog_10_method_81_code
def yX8_first : MethodName := ⟨RX8, "first", "(II)I"⟩
abbrev cX8_turns : ByteArray := prog_10_method_82_code
def yX8_turns : MethodName := ⟨RX8, "turns", "(III)I"⟩
abbrev cX8_byTurns : ByteArray := prog_10_method_83_code
def yX8_byTurns : MethodName := ⟨RX8, "byTurns", "(II)I"⟩
abbrev cX8_harms : ByteArray := prog_10_method_84_code
def yX8_harms : MethodName := ⟨RX8, "harms", "(II)I"⟩
abbrev cX8_starts : ByteArray := prog_10_method_85_code
def yX8_starts : MethodName := ⟨RX8, "starts", "()I"⟩
abbrev cX8_of : ByteArray := prog_10_method_86_code
def yX8_of : MethodName := ⟨RX8, "of", "(I)I"⟩
abbrev cX8_better : ByteArray := prog_10_method_87_code
def yX8_better : MethodName := ⟨RX8, "better", "(II)I"⟩
abbrev cX8_still : ByteArray := prog_10_method_88_code
def yX8_still : MethodName := ⟨RX8, "still", "(I)I"⟩
abbrev cX8_calmFor : ByteArray := prog_10_method_89_code
def yX8_calmFor : MethodName := ⟨RX8, "calmFor", "(I)I"⟩
abbrev cX8_brave : ByteArray := prog_10_method_90_code
def yX8_brave : MethodName := ⟨RX8, "brave", "(I)I"⟩
abbrev cX8_ofKind : ByteArray := prog_10_method_91_code
def yX8_ofKind : MethodName := ⟨RX8, "ofKind", "(I)I"⟩
abbrev cX8_order : ByteArray := prog_10_method_92_code
def yX8_order : MethodName := ⟨RX8, "order", "(I)I"⟩
abbrev cX8_done : ByteArray := prog_10_method_93_code
def yX8_done : MethodName := ⟨RX8, "done", "(II)I"⟩
abbrev cX8_draw : ByteArray := prog_10_method_94_code
def yX8_draw : MethodName := ⟨RX8, "draw", "(I)I"⟩
abbrev cX8_drawn : ByteArray := prog_10_method_95_code
def yX8_drawn : MethodName := ⟨RX8, "drawn", "(I)I"⟩
abbrev cX8_seed : ByteArray := prog_10_method_96_code
def yX8_seed : MethodName := ⟨RX8, "seed", "(I)I"⟩
abbrev cX8_image : ByteArray := prog_10_method_97_code
def yX8_image : MethodName := ⟨RX8, "image", "()I"⟩
abbrev cX8_back : ByteArray := prog_10_method_98_code
def yX8_back : MethodName := ⟨RX8, "back", "()I"⟩
abbrev cX8_status : ByteArray := prog_10_method_99_code
def yX8_status : MethodName := ⟨RX8, "status", "(I)I"⟩
def RJ9 : String := "java/lang/Math"
def RJ0 : String := "java/lang/String"
def RJ1 : String := "java/lang/StringLatin1"
def RJ2 : String := "java/lang/StringUTF16"
def RJ10 : String := "java/lang/System"
def RJ3 : String := "jdk/internal/util/Preconditions"
def RL : String := "UnderNurseToTheTemperLaw"
abbrev cL_law : ByteArray := code
def yL_law : MethodName := ⟨RL, "law", "([I)Z"⟩
abbrev vwCl : List vw_C := [(RX0, TX0, 6), (RX1, TX1, 3), (RX2, TX2, 5), (RX3, TX3, 3), (RX4, TX4, 6), (RX5, TX5, 7), (RX6, TX6, 9), (RX7, TX7, 18), (RX8, TX8, 26)]
