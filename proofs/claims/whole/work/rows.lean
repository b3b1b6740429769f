section
-- ===== PART A: goes FIRST, ahead of the names: the tables' words, and 'selects' of the private methods out of them =====
/-- a private method of a class that the tables say can be made, by its rows of tables_1 -/
def lw_okq (q : MethodName × Nat) : Prop := (q.1.cls ≠ "java/lang/invoke/MethodHandle" ∧ q.1.cls ≠ "java/lang/invoke/VarHandle") ∧ Cond.instantiable q.1.cls q.2 ∈ tables_1 ∧ Cond.privateMethod q.1 ∈ tables_1 ∧ Cond.instanceMethod q.1 ∈ tables_1
theorem lw_p0 : lw_okq (⟨"DriveTicks", "refuseBad", "()I"⟩, 8) := ⟨⟨by decide +kernel, by decide +kernel⟩, List.mem_of_getElem? (i := 13) (by decide +kernel), List.mem_of_getElem? (i := 259) (by decide +kernel), List.mem_of_getElem? (i := 260) (by decide +kernel)⟩
theorem lw_p1 : lw_okq (⟨"DriveTicks", "planNow", "()LDriveTicks$Plan;"⟩, 8) := ⟨⟨by decide +kernel, by decide +kernel⟩, List.mem_of_getElem? (i := 13) (by decide +kernel), List.mem_of_getElem? (i := 288) (by decide +kernel), List.mem_of_getElem? (i := 289) (by decide +kernel)⟩
theorem lw_p2 : lw_okq (⟨"DriveTicks$Plan", "demandThatCounts", "(I)I"⟩, 9) := ⟨⟨by decide +kernel, by decide +kernel⟩, List.mem_of_getElem? (i := 51) (by decide +kernel), List.mem_of_getElem? (i := 306) (by decide +kernel), List.mem_of_getElem? (i := 307) (by decide +kernel)⟩
theorem lw_p3 : lw_okq (⟨"DriveTicks$Plan", "highWithDead", "(II)I"⟩, 9) := ⟨⟨by decide +kernel, by decide +kernel⟩, List.mem_of_getElem? (i := 51) (by decide +kernel), List.mem_of_getElem? (i := 311) (by decide +kernel), List.mem_of_getElem? (i := 312) (by decide +kernel)⟩
theorem lw_p4 : lw_okq (⟨"DriveTicks", "runsNow", "()LDriveTicks$Runs;"⟩, 8) := ⟨⟨by decide +kernel, by decide +kernel⟩, List.mem_of_getElem? (i := 13) (by decide +kernel), List.mem_of_getElem? (i := 319) (by decide +kernel), List.mem_of_getElem? (i := 320) (by decide +kernel)⟩
theorem lw_p5 : lw_okq (⟨"DriveTicks$Plan", "ticksOn", "(II)I"⟩, 9) := ⟨⟨by decide +kernel, by decide +kernel⟩, List.mem_of_getElem? (i := 51) (by decide +kernel), List.mem_of_getElem? (i := 366) (by decide +kernel), List.mem_of_getElem? (i := 367) (by decide +kernel)⟩
theorem lw_p6 : lw_okq (⟨"DriveTicks$Plan", "tickBehindBy", "(II)I"⟩, 9) := ⟨⟨by decide +kernel, by decide +kernel⟩, List.mem_of_getElem? (i := 51) (by decide +kernel), List.mem_of_getElem? (i := 397) (by decide +kernel), List.mem_of_getElem? (i := 398) (by decide +kernel)⟩
theorem lw_p7 : lw_okq (⟨"DriveTicks", "currentByTheOthers", "(I)I"⟩, 8) := ⟨⟨by decide +kernel, by decide +kernel⟩, List.mem_of_getElem? (i := 13) (by decide +kernel), List.mem_of_getElem? (i := 434) (by decide +kernel), List.mem_of_getElem? (i := 435) (by decide +kernel)⟩
theorem lw_p8 : lw_okq (⟨"DriveTicks", "eventsNow", "()LDriveTicks$Table;"⟩, 8) := ⟨⟨by decide +kernel, by decide +kernel⟩, List.mem_of_getElem? (i := 13) (by decide +kernel), List.mem_of_getElem? (i := 458) (by decide +kernel), List.mem_of_getElem? (i := 459) (by decide +kernel)⟩
theorem lw_p9 : lw_okq (⟨"DriveTicks$Plan", "listEvent", "(LDriveTicks$Table;III)V"⟩, 9) := ⟨⟨by decide +kernel, by decide +kernel⟩, List.mem_of_getElem? (i := 51) (by decide +kernel), List.mem_of_getElem? (i := 467) (by decide +kernel), List.mem_of_getElem? (i := 468) (by decide +kernel)⟩
theorem lw_p10 : lw_okq (⟨"DriveTicks$Shifts", "searchAllOf", "(ILDriveTicks$Plan;I)V"⟩, 6) := ⟨⟨by decide +kernel, by decide +kernel⟩, List.mem_of_getElem? (i := 167) (by decide +kernel), List.mem_of_getElem? (i := 484) (by decide +kernel), List.mem_of_getElem? (i := 485) (by decide +kernel)⟩
theorem lw_p11 : lw_okq (⟨"DriveTicks$Shifts", "tryOne", "(IIILDriveTicks$Plan;I)V"⟩, 6) := ⟨⟨by decide +kernel, by decide +kernel⟩, List.mem_of_getElem? (i := 167) (by decide +kernel), List.mem_of_getElem? (i := 492) (by decide +kernel), List.mem_of_getElem? (i := 493) (by decide +kernel)⟩
theorem lw_p12 : lw_okq (⟨"DriveTicks", "refuseFull", "()I"⟩, 8) := ⟨⟨by decide +kernel, by decide +kernel⟩, List.mem_of_getElem? (i := 13) (by decide +kernel), List.mem_of_getElem? (i := 507) (by decide +kernel), List.mem_of_getElem? (i := 508) (by decide +kernel)⟩
theorem lw_p13 : lw_okq (⟨"DriveTicks$Drive", "takeWishesThatHaveCome", "()V"⟩, 8) := ⟨⟨by decide +kernel, by decide +kernel⟩, List.mem_of_getElem? (i := 21) (by decide +kernel), List.mem_of_getElem? (i := 538) (by decide +kernel), List.mem_of_getElem? (i := 539) (by decide +kernel)⟩
theorem lw_p14 : lw_okq (⟨"DriveTicks$Drive", "takeWant", "(II)V"⟩, 8) := ⟨⟨by decide +kernel, by decide +kernel⟩, List.mem_of_getElem? (i := 21) (by decide +kernel), List.mem_of_getElem? (i := 542) (by decide +kernel), List.mem_of_getElem? (i := 543) (by decide +kernel)⟩
theorem lw_p15 : lw_okq (⟨"DriveTicks$Drive", "steer", "()V"⟩, 8) := ⟨⟨by decide +kernel, by decide +kernel⟩, List.mem_of_getElem? (i := 21) (by decide +kernel), List.mem_of_getElem? (i := 547) (by decide +kernel), List.mem_of_getElem? (i := 548) (by decide +kernel)⟩
def lw_privs_1 : List (MethodName × Nat) := [(⟨"DriveTicks", "refuseBad", "()I"⟩, 8), (⟨"DriveTicks", "planNow", "()LDriveTicks$Plan;"⟩, 8), (⟨"DriveTicks$Plan", "demandThatCounts", "(I)I"⟩, 9), (⟨"DriveTicks$Plan", "highWithDead", "(II)I"⟩, 9), (⟨"DriveTicks", "runsNow", "()LDriveTicks$Runs;"⟩, 8), (⟨"DriveTicks$Plan", "ticksOn", "(II)I"⟩, 9), (⟨"DriveTicks$Plan", "tickBehindBy", "(II)I"⟩, 9), (⟨"DriveTicks", "currentByTheOthers", "(I)I"⟩, 8), (⟨"DriveTicks", "eventsNow", "()LDriveTicks$Table;"⟩, 8), (⟨"DriveTicks$Plan", "listEvent", "(LDriveTicks$Table;III)V"⟩, 9), (⟨"DriveTicks$Shifts", "searchAllOf", "(ILDriveTicks$Plan;I)V"⟩, 6), (⟨"DriveTicks$Shifts", "tryOne", "(IIILDriveTicks$Plan;I)V"⟩, 6), (⟨"DriveTicks", "refuseFull", "()I"⟩, 8), (⟨"DriveTicks$Drive", "takeWishesThatHaveCome", "()V"⟩, 8), (⟨"DriveTicks$Drive", "takeWant", "(II)V"⟩, 8), (⟨"DriveTicks$Drive", "steer", "()V"⟩, 8)]
theorem lw_r1 : ∀ q ∈ lw_privs_1, lw_okq q := List.forall_mem_cons.mpr ⟨lw_p0, List.forall_mem_cons.mpr ⟨lw_p1, List.forall_mem_cons.mpr ⟨lw_p2, List.forall_mem_cons.mpr ⟨lw_p3, List.forall_mem_cons.mpr ⟨lw_p4, List.forall_mem_cons.mpr ⟨lw_p5, List.forall_mem_cons.mpr ⟨lw_p6, List.forall_mem_cons.mpr ⟨lw_p7, List.forall_mem_cons.mpr ⟨lw_p8, List.forall_mem_cons.mpr ⟨lw_p9, List.forall_mem_cons.mpr ⟨lw_p10, List.forall_mem_cons.mpr ⟨lw_p11, List.forall_mem_cons.mpr ⟨lw_p12, List.forall_mem_cons.mpr ⟨lw_p13, List.forall_mem_cons.mpr ⟨lw_p14, List.forall_mem_cons.mpr ⟨lw_p15, fun _ h => absurd h List.not_mem_nil⟩⟩⟩⟩⟩⟩⟩⟩⟩⟩⟩⟩⟩⟩⟩⟩
theorem lw_p16 : lw_okq (⟨"DriveTicks$Drive", "moveCurrents", "()V"⟩, 8) := ⟨⟨by decide +kernel, by decide +kernel⟩, List.mem_of_getElem? (i := 21) (by decide +kernel), List.mem_of_getElem? (i := 555) (by decide +kernel), List.mem_of_getElem? (i := 556) (by decide +kernel)⟩
theorem lw_p17 : lw_okq (⟨"DriveTicks", "remember", "(I)V"⟩, 8) := ⟨⟨by decide +kernel, by decide +kernel⟩, List.mem_of_getElem? (i := 13) (by decide +kernel), List.mem_of_getElem? (i := 560) (by decide +kernel), List.mem_of_getElem? (i := 561) (by decide +kernel)⟩
theorem lw_p18 : lw_okq (⟨"DriveTicks", "stepsToSettle", "(III)I"⟩, 8) := ⟨⟨by decide +kernel, by decide +kernel⟩, List.mem_of_getElem? (i := 13) (by decide +kernel), List.mem_of_getElem? (i := 574) (by decide +kernel), List.mem_of_getElem? (i := 575) (by decide +kernel)⟩
theorem lw_p19 : lw_okq (⟨"DriveTicks$Text", "skipBlanks", "()V"⟩, 5) := ⟨⟨by decide +kernel, by decide +kernel⟩, List.mem_of_getElem? (i := 197) (by decide +kernel), List.mem_of_getElem? (i := 643) (by decide +kernel), List.mem_of_getElem? (i := 644) (by decide +kernel)⟩
theorem lw_p20 : lw_okq (⟨"DriveTicks$Text", "byteHere", "()I"⟩, 5) := ⟨⟨by decide +kernel, by decide +kernel⟩, List.mem_of_getElem? (i := 197) (by decide +kernel), List.mem_of_getElem? (i := 647) (by decide +kernel), List.mem_of_getElem? (i := 648) (by decide +kernel)⟩
theorem lw_p21 : lw_okq (⟨"DriveTicks$Text", "readWish", "(II)V"⟩, 5) := ⟨⟨by decide +kernel, by decide +kernel⟩, List.mem_of_getElem? (i := 197) (by decide +kernel), List.mem_of_getElem? (i := 651) (by decide +kernel), List.mem_of_getElem? (i := 652) (by decide +kernel)⟩
theorem lw_p22 : lw_okq (⟨"DriveTicks$Text", "failAt", "(I)V"⟩, 5) := ⟨⟨by decide +kernel, by decide +kernel⟩, List.mem_of_getElem? (i := 197) (by decide +kernel), List.mem_of_getElem? (i := 656) (by decide +kernel), List.mem_of_getElem? (i := 657) (by decide +kernel)⟩
theorem lw_p23 : lw_okq (⟨"DriveTicks$Text", "readWant", "()I"⟩, 5) := ⟨⟨by decide +kernel, by decide +kernel⟩, List.mem_of_getElem? (i := 197) (by decide +kernel), List.mem_of_getElem? (i := 660) (by decide +kernel), List.mem_of_getElem? (i := 661) (by decide +kernel)⟩
theorem lw_p24 : lw_okq (⟨"DriveTicks$Text", "readNumber", "(I)I"⟩, 5) := ⟨⟨by decide +kernel, by decide +kernel⟩, List.mem_of_getElem? (i := 197) (by decide +kernel), List.mem_of_getElem? (i := 664) (by decide +kernel), List.mem_of_getElem? (i := 665) (by decide +kernel)⟩
theorem lw_p25 : lw_okq (⟨"DriveTicks$Text", "readPeriod", "(I)I"⟩, 5) := ⟨⟨by decide +kernel, by decide +kernel⟩, List.mem_of_getElem? (i := 197) (by decide +kernel), List.mem_of_getElem? (i := 669) (by decide +kernel), List.mem_of_getElem? (i := 670) (by decide +kernel)⟩
theorem lw_p26 : lw_okq (⟨"DriveTicks$Text", "readEnd", "()Z"⟩, 5) := ⟨⟨by decide +kernel, by decide +kernel⟩, List.mem_of_getElem? (i := 197) (by decide +kernel), List.mem_of_getElem? (i := 673) (by decide +kernel), List.mem_of_getElem? (i := 674) (by decide +kernel)⟩
theorem lw_p27 : lw_okq (⟨"DriveTicks", "counted", "(I)I"⟩, 8) := ⟨⟨by decide +kernel, by decide +kernel⟩, List.mem_of_getElem? (i := 13) (by decide +kernel), List.mem_of_getElem? (i := 683) (by decide +kernel), List.mem_of_getElem? (i := 684) (by decide +kernel)⟩
theorem lw_p28 : lw_okq (⟨"DriveTicks", "countedSetting", "(I)I"⟩, 8) := ⟨⟨by decide +kernel, by decide +kernel⟩, List.mem_of_getElem? (i := 13) (by decide +kernel), List.mem_of_getElem? (i := 687) (by decide +kernel), List.mem_of_getElem? (i := 688) (by decide +kernel)⟩
theorem lw_p29 : lw_okq (⟨"DriveTicksModel", "begins", "()V"⟩, 37) := ⟨⟨by decide +kernel, by decide +kernel⟩, List.mem_of_getElem? (i := 697) (by decide +kernel), List.mem_of_getElem? (i := 703) (by decide +kernel), List.mem_of_getElem? (i := 704) (by decide +kernel)⟩
theorem lw_p30 : lw_okq (⟨"DriveTicksModel", "bad", "()I"⟩, 37) := ⟨⟨by decide +kernel, by decide +kernel⟩, List.mem_of_getElem? (i := 697) (by decide +kernel), List.mem_of_getElem? (i := 829) (by decide +kernel), List.mem_of_getElem? (i := 830) (by decide +kernel)⟩
theorem lw_p31 : lw_okq (⟨"DriveTicksModel", "setPlan", "()V"⟩, 37) := ⟨⟨by decide +kernel, by decide +kernel⟩, List.mem_of_getElem? (i := 697) (by decide +kernel), List.mem_of_getElem? (i := 856) (by decide +kernel), List.mem_of_getElem? (i := 857) (by decide +kernel)⟩
def lw_privs_2 : List (MethodName × Nat) := [(⟨"DriveTicks$Drive", "moveCurrents", "()V"⟩, 8), (⟨"DriveTicks", "remember", "(I)V"⟩, 8), (⟨"DriveTicks", "stepsToSettle", "(III)I"⟩, 8), (⟨"DriveTicks$Text", "skipBlanks", "()V"⟩, 5), (⟨"DriveTicks$Text", "byteHere", "()I"⟩, 5), (⟨"DriveTicks$Text", "readWish", "(II)V"⟩, 5), (⟨"DriveTicks$Text", "failAt", "(I)V"⟩, 5), (⟨"DriveTicks$Text", "readWant", "()I"⟩, 5), (⟨"DriveTicks$Text", "readNumber", "(I)I"⟩, 5), (⟨"DriveTicks$Text", "readPeriod", "(I)I"⟩, 5), (⟨"DriveTicks$Text", "readEnd", "()Z"⟩, 5), (⟨"DriveTicks", "counted", "(I)I"⟩, 8), (⟨"DriveTicks", "countedSetting", "(I)I"⟩, 8), (⟨"DriveTicksModel", "begins", "()V"⟩, 37), (⟨"DriveTicksModel", "bad", "()I"⟩, 37), (⟨"DriveTicksModel", "setPlan", "()V"⟩, 37)]
theorem lw_r2 : ∀ q ∈ lw_privs_2, lw_okq q := List.forall_mem_cons.mpr ⟨lw_p16, List.forall_mem_cons.mpr ⟨lw_p17, List.forall_mem_cons.mpr ⟨lw_p18, List.forall_mem_cons.mpr ⟨lw_p19, List.forall_mem_cons.mpr ⟨lw_p20, List.forall_mem_cons.mpr ⟨lw_p21, List.forall_mem_cons.mpr ⟨lw_p22, List.forall_mem_cons.mpr ⟨lw_p23, List.forall_mem_cons.mpr ⟨lw_p24, List.forall_mem_cons.mpr ⟨lw_p25, List.forall_mem_cons.mpr ⟨lw_p26, List.forall_mem_cons.mpr ⟨lw_p27, List.forall_mem_cons.mpr ⟨lw_p28, List.forall_mem_cons.mpr ⟨lw_p29, List.forall_mem_cons.mpr ⟨lw_p30, List.forall_mem_cons.mpr ⟨lw_p31, fun _ h => absurd h List.not_mem_nil⟩⟩⟩⟩⟩⟩⟩⟩⟩⟩⟩⟩⟩⟩⟩⟩
theorem lw_p32 : lw_okq (⟨"DriveTicksModel", "plansBy", "(I)I"⟩, 37) := ⟨⟨by decide +kernel, by decide +kernel⟩, List.mem_of_getElem? (i := 697) (by decide +kernel), List.mem_of_getElem? (i := 873) (by decide +kernel), List.mem_of_getElem? (i := 874) (by decide +kernel)⟩
theorem lw_p33 : lw_okq (⟨"DriveTicksModel", "ticksOf", "(I)I"⟩, 37) := ⟨⟨by decide +kernel, by decide +kernel⟩, List.mem_of_getElem? (i := 697) (by decide +kernel), List.mem_of_getElem? (i := 877) (by decide +kernel), List.mem_of_getElem? (i := 878) (by decide +kernel)⟩
theorem lw_p34 : lw_okq (⟨"DriveTicksModel", "patternAt", "(I)I"⟩, 37) := ⟨⟨by decide +kernel, by decide +kernel⟩, List.mem_of_getElem? (i := 697) (by decide +kernel), List.mem_of_getElem? (i := 881) (by decide +kernel), List.mem_of_getElem? (i := 882) (by decide +kernel)⟩
theorem lw_p35 : lw_okq (⟨"DriveTicksModel", "wanted", "(II)Z"⟩, 37) := ⟨⟨by decide +kernel, by decide +kernel⟩, List.mem_of_getElem? (i := 697) (by decide +kernel), List.mem_of_getElem? (i := 885) (by decide +kernel), List.mem_of_getElem? (i := 886) (by decide +kernel)⟩
theorem lw_p36 : lw_okq (⟨"DriveTicksModel", "setRuns", "()V"⟩, 37) := ⟨⟨by decide +kernel, by decide +kernel⟩, List.mem_of_getElem? (i := 697) (by decide +kernel), List.mem_of_getElem? (i := 889) (by decide +kernel), List.mem_of_getElem? (i := 890) (by decide +kernel)⟩
theorem lw_p37 : lw_okq (⟨"DriveTicksModel", "ofBy", "(II)I"⟩, 37) := ⟨⟨by decide +kernel, by decide +kernel⟩, List.mem_of_getElem? (i := 697) (by decide +kernel), List.mem_of_getElem? (i := 897) (by decide +kernel), List.mem_of_getElem? (i := 898) (by decide +kernel)⟩
theorem lw_p38 : lw_okq (⟨"DriveTicksModel", "meanOf", "(I)I"⟩, 37) := ⟨⟨by decide +kernel, by decide +kernel⟩, List.mem_of_getElem? (i := 697) (by decide +kernel), List.mem_of_getElem? (i := 901) (by decide +kernel), List.mem_of_getElem? (i := 902) (by decide +kernel)⟩
theorem lw_p39 : lw_okq (⟨"DriveTicksModel", "gives", "(II)I"⟩, 37) := ⟨⟨by decide +kernel, by decide +kernel⟩, List.mem_of_getElem? (i := 697) (by decide +kernel), List.mem_of_getElem? (i := 905) (by decide +kernel), List.mem_of_getElem? (i := 906) (by decide +kernel)⟩
theorem lw_p40 : lw_okq (⟨"DriveTicksModel", "wantedAhead", "(II)I"⟩, 37) := ⟨⟨by decide +kernel, by decide +kernel⟩, List.mem_of_getElem? (i := 697) (by decide +kernel), List.mem_of_getElem? (i := 909) (by decide +kernel), List.mem_of_getElem? (i := 910) (by decide +kernel)⟩
theorem lw_p41 : lw_okq (⟨"DriveTicksModel", "gateMany", "(II)I"⟩, 37) := ⟨⟨by decide +kernel, by decide +kernel⟩, List.mem_of_getElem? (i := 697) (by decide +kernel), List.mem_of_getElem? (i := 913) (by decide +kernel), List.mem_of_getElem? (i := 914) (by decide +kernel)⟩
theorem lw_p42 : lw_okq (⟨"DriveTicksModel", "upper", "(II)Z"⟩, 37) := ⟨⟨by decide +kernel, by decide +kernel⟩, List.mem_of_getElem? (i := 697) (by decide +kernel), List.mem_of_getElem? (i := 917) (by decide +kernel), List.mem_of_getElem? (i := 918) (by decide +kernel)⟩
theorem lw_p43 : lw_okq (⟨"DriveTicksModel", "lower", "(II)Z"⟩, 37) := ⟨⟨by decide +kernel, by decide +kernel⟩, List.mem_of_getElem? (i := 697) (by decide +kernel), List.mem_of_getElem? (i := 921) (by decide +kernel), List.mem_of_getElem? (i := 922) (by decide +kernel)⟩
theorem lw_p44 : lw_okq (⟨"DriveTicksModel", "tells", "(I)I"⟩, 37) := ⟨⟨by decide +kernel, by decide +kernel⟩, List.mem_of_getElem? (i := 697) (by decide +kernel), List.mem_of_getElem? (i := 933) (by decide +kernel), List.mem_of_getElem? (i := 934) (by decide +kernel)⟩
theorem lw_p45 : lw_okq (⟨"DriveTicksModel", "seenSet", "()I"⟩, 37) := ⟨⟨by decide +kernel, by decide +kernel⟩, List.mem_of_getElem? (i := 697) (by decide +kernel), List.mem_of_getElem? (i := 941) (by decide +kernel), List.mem_of_getElem? (i := 942) (by decide +kernel)⟩
theorem lw_p46 : lw_okq (⟨"DriveTicksModel", "setEvents", "(I)V"⟩, 37) := ⟨⟨by decide +kernel, by decide +kernel⟩, List.mem_of_getElem? (i := 697) (by decide +kernel), List.mem_of_getElem? (i := 968) (by decide +kernel), List.mem_of_getElem? (i := 969) (by decide +kernel)⟩
theorem lw_p47 : lw_okq (⟨"DriveTicksModel", "comesEvent", "(IIIIZZ)V"⟩, 37) := ⟨⟨by decide +kernel, by decide +kernel⟩, List.mem_of_getElem? (i := 697) (by decide +kernel), List.mem_of_getElem? (i := 972) (by decide +kernel), List.mem_of_getElem? (i := 973) (by decide +kernel)⟩
def lw_privs_3 : List (MethodName × Nat) := [(⟨"DriveTicksModel", "plansBy", "(I)I"⟩, 37), (⟨"DriveTicksModel", "ticksOf", "(I)I"⟩, 37), (⟨"DriveTicksModel", "patternAt", "(I)I"⟩, 37), (⟨"DriveTicksModel", "wanted", "(II)Z"⟩, 37), (⟨"DriveTicksModel", "setRuns", "()V"⟩, 37), (⟨"DriveTicksModel", "ofBy", "(II)I"⟩, 37), (⟨"DriveTicksModel", "meanOf", "(I)I"⟩, 37), (⟨"DriveTicksModel", "gives", "(II)I"⟩, 37), (⟨"DriveTicksModel", "wantedAhead", "(II)I"⟩, 37), (⟨"DriveTicksModel", "gateMany", "(II)I"⟩, 37), (⟨"DriveTicksModel", "upper", "(II)Z"⟩, 37), (⟨"DriveTicksModel", "lower", "(II)Z"⟩, 37), (⟨"DriveTicksModel", "tells", "(I)I"⟩, 37), (⟨"DriveTicksModel", "seenSet", "()I"⟩, 37), (⟨"DriveTicksModel", "setEvents", "(I)V"⟩, 37), (⟨"DriveTicksModel", "comesEvent", "(IIIIZZ)V"⟩, 37)]
theorem lw_r3 : ∀ q ∈ lw_privs_3, lw_okq q := List.forall_mem_cons.mpr ⟨lw_p32, List.forall_mem_cons.mpr ⟨lw_p33, List.forall_mem_cons.mpr ⟨lw_p34, List.forall_mem_cons.mpr ⟨lw_p35, List.forall_mem_cons.mpr ⟨lw_p36, List.forall_mem_cons.mpr ⟨lw_p37, List.forall_mem_cons.mpr ⟨lw_p38, List.forall_mem_cons.mpr ⟨lw_p39, List.forall_mem_cons.mpr ⟨lw_p40, List.forall_mem_cons.mpr ⟨lw_p41, List.forall_mem_cons.mpr ⟨lw_p42, List.forall_mem_cons.mpr ⟨lw_p43, List.forall_mem_cons.mpr ⟨lw_p44, List.forall_mem_cons.mpr ⟨lw_p45, List.forall_mem_cons.mpr ⟨lw_p46, List.forall_mem_cons.mpr ⟨lw_p47, fun _ h => absurd h List.not_mem_nil⟩⟩⟩⟩⟩⟩⟩⟩⟩⟩⟩⟩⟩⟩⟩⟩
theorem lw_p48 : lw_okq (⟨"DriveTicksModel", "tries", "(III)V"⟩, 37) := ⟨⟨by decide +kernel, by decide +kernel⟩, List.mem_of_getElem? (i := 697) (by decide +kernel), List.mem_of_getElem? (i := 985) (by decide +kernel), List.mem_of_getElem? (i := 986) (by decide +kernel)⟩
theorem lw_p49 : lw_okq (⟨"DriveTicksModel", "mayShift", "(II)Z"⟩, 37) := ⟨⟨by decide +kernel, by decide +kernel⟩, List.mem_of_getElem? (i := 697) (by decide +kernel), List.mem_of_getElem? (i := 989) (by decide +kernel), List.mem_of_getElem? (i := 990) (by decide +kernel)⟩
theorem lw_p50 : lw_okq (⟨"DriveTicksModel", "full", "()I"⟩, 37) := ⟨⟨by decide +kernel, by decide +kernel⟩, List.mem_of_getElem? (i := 697) (by decide +kernel), List.mem_of_getElem? (i := 1000) (by decide +kernel), List.mem_of_getElem? (i := 1001) (by decide +kernel)⟩
theorem lw_p51 : lw_okq (⟨"DriveTicksModel", "comesWish", "(III)V"⟩, 37) := ⟨⟨by decide +kernel, by decide +kernel⟩, List.mem_of_getElem? (i := 697) (by decide +kernel), List.mem_of_getElem? (i := 1004) (by decide +kernel), List.mem_of_getElem? (i := 1005) (by decide +kernel)⟩
theorem lw_p52 : lw_okq (⟨"DriveTicksModel", "goesWish", "(I)V"⟩, 37) := ⟨⟨by decide +kernel, by decide +kernel⟩, List.mem_of_getElem? (i := 697) (by decide +kernel), List.mem_of_getElem? (i := 1012) (by decide +kernel), List.mem_of_getElem? (i := 1013) (by decide +kernel)⟩
theorem lw_p53 : lw_okq (⟨"DriveTicksModel", "goes", "()Z"⟩, 37) := ⟨⟨by decide +kernel, by decide +kernel⟩, List.mem_of_getElem? (i := 697) (by decide +kernel), List.mem_of_getElem? (i := 1024) (by decide +kernel), List.mem_of_getElem? (i := 1025) (by decide +kernel)⟩
theorem lw_p54 : lw_okq (⟨"DriveTicksModel", "comesTrue", "()V"⟩, 37) := ⟨⟨by decide +kernel, by decide +kernel⟩, List.mem_of_getElem? (i := 697) (by decide +kernel), List.mem_of_getElem? (i := 1028) (by decide +kernel), List.mem_of_getElem? (i := 1029) (by decide +kernel)⟩
theorem lw_p55 : lw_okq (⟨"DriveTicksModel", "steers", "()V"⟩, 37) := ⟨⟨by decide +kernel, by decide +kernel⟩, List.mem_of_getElem? (i := 697) (by decide +kernel), List.mem_of_getElem? (i := 1032) (by decide +kernel), List.mem_of_getElem? (i := 1033) (by decide +kernel)⟩
theorem lw_p56 : lw_okq (⟨"DriveTicksModel", "remembers", "(Z)V"⟩, 37) := ⟨⟨by decide +kernel, by decide +kernel⟩, List.mem_of_getElem? (i := 697) (by decide +kernel), List.mem_of_getElem? (i := 1039) (by decide +kernel), List.mem_of_getElem? (i := 1040) (by decide +kernel)⟩
theorem lw_p57 : lw_okq (⟨"DriveTicksModel", "settlesIn", "(I)I"⟩, 37) := ⟨⟨by decide +kernel, by decide +kernel⟩, List.mem_of_getElem? (i := 697) (by decide +kernel), List.mem_of_getElem? (i := 1047) (by decide +kernel), List.mem_of_getElem? (i := 1048) (by decide +kernel)⟩
theorem lw_p58 : lw_okq (⟨"DriveTicksModel", "lays", "()V"⟩, 37) := ⟨⟨by decide +kernel, by decide +kernel⟩, List.mem_of_getElem? (i := 697) (by decide +kernel), List.mem_of_getElem? (i := 1051) (by decide +kernel), List.mem_of_getElem? (i := 1052) (by decide +kernel)⟩
theorem lw_p59 : lw_okq (⟨"DriveTicksModel", "isNear", "(I)Z"⟩, 37) := ⟨⟨by decide +kernel, by decide +kernel⟩, List.mem_of_getElem? (i := 697) (by decide +kernel), List.mem_of_getElem? (i := 1055) (by decide +kernel), List.mem_of_getElem? (i := 1056) (by decide +kernel)⟩
theorem lw_p60 : lw_okq (⟨"DriveTicksModel", "takes", "()V"⟩, 37) := ⟨⟨by decide +kernel, by decide +kernel⟩, List.mem_of_getElem? (i := 697) (by decide +kernel), List.mem_of_getElem? (i := 1059) (by decide +kernel), List.mem_of_getElem? (i := 1060) (by decide +kernel)⟩
theorem lw_p61 : lw_okq (⟨"DriveTicksModel", "stateBy", "(II)I"⟩, 37) := ⟨⟨by decide +kernel, by decide +kernel⟩, List.mem_of_getElem? (i := 697) (by decide +kernel), List.mem_of_getElem? (i := 1071) (by decide +kernel), List.mem_of_getElem? (i := 1072) (by decide +kernel)⟩
theorem lw_p62 : lw_okq (⟨"DriveTicksModel", "goesThrough", "(Z)I"⟩, 37) := ⟨⟨by decide +kernel, by decide +kernel⟩, List.mem_of_getElem? (i := 697) (by decide +kernel), List.mem_of_getElem? (i := 1095) (by decide +kernel), List.mem_of_getElem? (i := 1096) (by decide +kernel)⟩
theorem lw_p63 : lw_okq (⟨"DriveTicksModel", "skips", "()V"⟩, 37) := ⟨⟨by decide +kernel, by decide +kernel⟩, List.mem_of_getElem? (i := 697) (by decide +kernel), List.mem_of_getElem? (i := 1099) (by decide +kernel), List.mem_of_getElem? (i := 1100) (by decide +kernel)⟩
def lw_privs_4 : List (MethodName × Nat) := [(⟨"DriveTicksModel", "tries", "(III)V"⟩, 37), (⟨"DriveTicksModel", "mayShift", "(II)Z"⟩, 37), (⟨"DriveTicksModel", "full", "()I"⟩, 37), (⟨"DriveTicksModel", "comesWish", "(III)V"⟩, 37), (⟨"DriveTicksModel", "goesWish", "(I)V"⟩, 37), (⟨"DriveTicksModel", "goes", "()Z"⟩, 37), (⟨"DriveTicksModel", "comesTrue", "()V"⟩, 37), (⟨"DriveTicksModel", "steers", "()V"⟩, 37), (⟨"DriveTicksModel", "remembers", "(Z)V"⟩, 37), (⟨"DriveTicksModel", "settlesIn", "(I)I"⟩, 37), (⟨"DriveTicksModel", "lays", "()V"⟩, 37), (⟨"DriveTicksModel", "isNear", "(I)Z"⟩, 37), (⟨"DriveTicksModel", "takes", "()V"⟩, 37), (⟨"DriveTicksModel", "stateBy", "(II)I"⟩, 37), (⟨"DriveTicksModel", "goesThrough", "(Z)I"⟩, 37), (⟨"DriveTicksModel", "skips", "()V"⟩, 37)]
theorem lw_r4 : ∀ q ∈ lw_privs_4, lw_okq q := List.forall_mem_cons.mpr ⟨lw_p48, List.forall_mem_cons.mpr ⟨lw_p49, List.forall_mem_cons.mpr ⟨lw_p50, List.forall_mem_cons.mpr ⟨lw_p51, List.forall_mem_cons.mpr ⟨lw_p52, List.forall_mem_cons.mpr ⟨lw_p53, List.forall_mem_cons.mpr ⟨lw_p54, List.forall_mem_cons.mpr ⟨lw_p55, List.forall_mem_cons.mpr ⟨lw_p56, List.forall_mem_cons.mpr ⟨lw_p57, List.forall_mem_cons.mpr ⟨lw_p58, List.forall_mem_cons.mpr ⟨lw_p59, List.forall_mem_cons.mpr ⟨lw_p60, List.forall_mem_cons.mpr ⟨lw_p61, List.forall_mem_cons.mpr ⟨lw_p62, List.forall_mem_cons.mpr ⟨lw_p63, fun _ h => absurd h List.not_mem_nil⟩⟩⟩⟩⟩⟩⟩⟩⟩⟩⟩⟩⟩⟩⟩⟩
theorem lw_p64 : lw_okq (⟨"DriveTicksModel", "here", "()I"⟩, 37) := ⟨⟨by decide +kernel, by decide +kernel⟩, List.mem_of_getElem? (i := 697) (by decide +kernel), List.mem_of_getElem? (i := 1103) (by decide +kernel), List.mem_of_getElem? (i := 1104) (by decide +kernel)⟩
theorem lw_p65 : lw_okq (⟨"DriveTicksModel", "readsWish", "(Z)Z"⟩, 37) := ⟨⟨by decide +kernel, by decide +kernel⟩, List.mem_of_getElem? (i := 697) (by decide +kernel), List.mem_of_getElem? (i := 1107) (by decide +kernel), List.mem_of_getElem? (i := 1108) (by decide +kernel)⟩
theorem lw_p66 : lw_okq (⟨"DriveTicksModel", "number", "(I)Z"⟩, 37) := ⟨⟨by decide +kernel, by decide +kernel⟩, List.mem_of_getElem? (i := 697) (by decide +kernel), List.mem_of_getElem? (i := 1111) (by decide +kernel), List.mem_of_getElem? (i := 1112) (by decide +kernel)⟩
theorem lw_p67 : lw_okq (⟨"DriveTicksModel", "countBy", "(I)I"⟩, 37) := ⟨⟨by decide +kernel, by decide +kernel⟩, List.mem_of_getElem? (i := 697) (by decide +kernel), List.mem_of_getElem? (i := 1119) (by decide +kernel), List.mem_of_getElem? (i := 1120) (by decide +kernel)⟩
def lw_privs_5 : List (MethodName × Nat) := [(⟨"DriveTicksModel", "here", "()I"⟩, 37), (⟨"DriveTicksModel", "readsWish", "(Z)Z"⟩, 37), (⟨"DriveTicksModel", "number", "(I)Z"⟩, 37), (⟨"DriveTicksModel", "countBy", "(I)I"⟩, 37)]
theorem lw_r5 : ∀ q ∈ lw_privs_5, lw_okq q := List.forall_mem_cons.mpr ⟨lw_p64, List.forall_mem_cons.mpr ⟨lw_p65, List.forall_mem_cons.mpr ⟨lw_p66, List.forall_mem_cons.mpr ⟨lw_p67, fun _ h => absurd h List.not_mem_nil⟩⟩⟩⟩
def lw_privs : List (MethodName × Nat) := lw_privs_1 ++ (lw_privs_2 ++ (lw_privs_3 ++ (lw_privs_4 ++ (lw_privs_5))))
def lw_tbl : List Cond := k2_sels lw_privs ++ tables_1
theorem lw_privs_ok : ∀ q ∈ lw_privs, lw_okq q := by
  show ∀ q ∈ lw_privs_1 ++ (lw_privs_2 ++ (lw_privs_3 ++ (lw_privs_4 ++ (lw_privs_5)))), lw_okq q
  exact List.forall_mem_append.mpr ⟨lw_r1, List.forall_mem_append.mpr ⟨lw_r2, List.forall_mem_append.mpr ⟨lw_r3, List.forall_mem_append.mpr ⟨lw_r4, lw_r5⟩⟩⟩⟩
end
section
def RX0 : String := "DriveTicks$Drive"
def TX0 : u_T := fun k => match k with
  | 0 => ("DriveTicks$Drive", "setting", "[I", true)
  | 1 => ("DriveTicks$Drive", "demand", "[I", true)
  | 2 => ("DriveTicks$Drive", "current", "[I", true)
  | 3 => ("DriveTicks$Drive", "want", "[I", true)
  | 4 => ("DriveTicks$Drive", "sum", "[I", true)
  | 5 => ("DriveTicks$Drive", "wishes", "LDriveTicks$Table;", true)
  | 6 => ("DriveTicks$Drive", "plan", "LDriveTicks$Plan;", true)
  | _ => ("DriveTicks$Drive", "stepsDone", "I", false)
def tyX0 : Nat → FieldType := fun k => match k with
  | 0 => .array .int
  | 1 => .array .int
  | 2 => .array .int
  | 3 => .array .int
  | 4 => .array .int
  | 5 => .object "DriveTicks$Table"
  | 6 => .object "DriveTicks$Plan"
  | _ => .int
abbrev wsX00 : List Cond := u_ws RX0 TX0 8
theorem nmX0 : ∀ a, a < 8 → ∀ b, b < 8 → a ≠ b → (TX0 a).2.1 ≠ (TX0 b).2.1 := by decide +kernel
theorem tyX0_ok : ∀ k, k < 8 → parseFieldDescriptor (TX0 k).2.2.1 = some (tyX0 k) := by decide +kernel
abbrev cX0_init : ByteArray := prog_2_method_1_code
def yX0_init : MethodName := ⟨RX0, "<init>", "()V"⟩
abbrev cX0_beginAnew : ByteArray := prog_2_method_2_code
def yX0_beginAnew : MethodName := ⟨RX0, "beginAnew", "()V"⟩
abbrev cX0_becomeLike : ByteArray := prog_2_method_3_code
def yX0_becomeLike : MethodName := ⟨RX0, "becomeLike", "(LDriveTicks$Drive;)V"⟩
abbrev cX0_makePlan : ByteArray := prog_2_method_4_code
def yX0_makePlan : MethodName := ⟨RX0, "makePlan", "()V"⟩
abbrev cX0_stepOnce : ByteArray := prog_2_method_5_code
def yX0_stepOnce : MethodName := ⟨RX0, "stepOnce", "()Z"⟩
abbrev cX0_takeWishesThatHaveCome : ByteArray := prog_2_method_6_code
def yX0_takeWishesThatHaveCome : MethodName := ⟨RX0, "takeWishesThatHaveCome", "()V"⟩
abbrev cX0_takeWant : ByteArray := prog_2_method_7_code
def yX0_takeWant : MethodName := ⟨RX0, "takeWant", "(II)V"⟩
abbrev cX0_steer : ByteArray := prog_2_method_8_code
def yX0_steer : MethodName := ⟨RX0, "steer", "()V"⟩
abbrev cX0_moveCurrents : ByteArray := prog_2_method_9_code
def yX0_moveCurrents : MethodName := ⟨RX0, "moveCurrents", "()V"⟩
abbrev cX0_dropWishesOf : ByteArray := prog_2_method_10_code
def yX0_dropWishesOf : MethodName := ⟨RX0, "dropWishesOf", "(I)I"⟩
abbrev cX0_isSettled : ByteArray := prog_2_method_11_code
def yX0_isSettled : MethodName := ⟨RX0, "isSettled", "(I)Z"⟩
def RX1 : String := "DriveTicks$Plan"
def TX1 : u_T := fun k => match k with
  | 0 => ("DriveTicks$Plan", "ticks", "I", false)
  | 1 => ("DriveTicks$Plan", "dead", "I", false)
  | 2 => ("DriveTicks$Plan", "correcting", "Z", false)
  | 3 => ("DriveTicks$Plan", "spread", "I", false)
  | 4 => ("DriveTicks$Plan", "over", "Z", false)
  | 5 => ("DriveTicks$Plan", "uncorrected", "[I", true)
  | 6 => ("DriveTicks$Plan", "high", "[I", true)
  | 7 => ("DriveTicks$Plan", "start", "[I", true)
  | _ => ("DriveTicks$Plan", "current", "[I", true)
def tyX1 : Nat → FieldType := fun k => match k with
  | 0 => .int
  | 1 => .int
  | 2 => .boolean
  | 3 => .int
  | 4 => .boolean
  | 5 => .array .int
  | 6 => .array .int
  | 7 => .array .int
  | _ => .array .int
abbrev wsX10 : List Cond := u_ws RX1 TX1 9
theorem nmX1 : ∀ a, a < 9 → ∀ b, b < 9 → a ≠ b → (TX1 a).2.1 ≠ (TX1 b).2.1 := by decide +kernel
theorem tyX1_ok : ∀ k, k < 9 → parseFieldDescriptor (TX1 k).2.2.1 = some (tyX1 k) := by decide +kernel
abbrev cX1_init : ByteArray := prog_3_method_1_code
def yX1_init : MethodName := ⟨RX1, "<init>", "()V"⟩
abbrev cX1_make : ByteArray := prog_3_method_2_code
def yX1_make : MethodName := ⟨RX1, "make", "([I[I[I)V"⟩
abbrev cX1_demandThatCounts : ByteArray := prog_3_method_3_code
def yX1_demandThatCounts : MethodName := ⟨RX1, "demandThatCounts", "(I)I"⟩
abbrev cX1_highWithDead : ByteArray := prog_3_method_4_code
def yX1_highWithDead : MethodName := ⟨RX1, "highWithDead", "(II)I"⟩
abbrev cX1_isWanted : ByteArray := prog_3_method_5_code
def yX1_isWanted : MethodName := ⟨RX1, "isWanted", "(II)Z"⟩
abbrev cX1_tickBehindBy : ByteArray := prog_3_method_6_code
def yX1_tickBehindBy : MethodName := ⟨RX1, "tickBehindBy", "(II)I"⟩
abbrev cX1_isOn : ByteArray := prog_3_method_7_code
def yX1_isOn : MethodName := ⟨RX1, "isOn", "(III)Z"⟩
abbrev cX1_givesOne : ByteArray := prog_3_method_8_code
def yX1_givesOne : MethodName := ⟨RX1, "givesOne", "(II)Z"⟩
abbrev cX1_ticksOn : ByteArray := prog_3_method_9_code
def yX1_ticksOn : MethodName := ⟨RX1, "ticksOn", "(II)I"⟩
abbrev cX1_upperTicks : ByteArray := prog_3_method_10_code
def yX1_upperTicks : MethodName := ⟨RX1, "upperTicks", "(I)I"⟩
abbrev cX1_lowerTicks : ByteArray := prog_3_method_11_code
def yX1_lowerTicks : MethodName := ⟨RX1, "lowerTicks", "(I)I"⟩
abbrev cX1_neitherTicks : ByteArray := prog_3_method_12_code
def yX1_neitherTicks : MethodName := ⟨RX1, "neitherTicks", "(I)I"⟩
abbrev cX1_mean : ByteArray := prog_3_method_13_code
def yX1_mean : MethodName := ⟨RX1, "mean", "(I)I"⟩
abbrev cX1_timesUpperComesOn : ByteArray := prog_3_method_14_code
def yX1_timesUpperComesOn : MethodName := ⟨RX1, "timesUpperComesOn", "(I)I"⟩
abbrev cX1_leastDeadWithoutUpper : ByteArray := prog_3_method_15_code
def yX1_leastDeadWithoutUpper : MethodName := ⟨RX1, "leastDeadWithoutUpper", "(I)I"⟩
abbrev cX1_listEvents : ByteArray := prog_3_method_16_code
def yX1_listEvents : MethodName := ⟨RX1, "listEvents", "(LDriveTicks$Table;)V"⟩
abbrev cX1_listEvent : ByteArray := prog_3_method_17_code
def yX1_listEvent : MethodName := ⟨RX1, "listEvent", "(LDriveTicks$Table;III)V"⟩
def RX2 : String := "DriveTicks$Runs"
def TX2 : u_T := fun k => match k with
  | 0 => ("DriveTicks$Runs", "rows", "LDriveTicks$Table;", true)
  | _ => ("DriveTicks$Runs", "seenLegs", "I", false)
def tyX2 : Nat → FieldType := fun k => match k with
  | 0 => .object "DriveTicks$Table"
  | _ => .int
abbrev wsX20 : List Cond := u_ws RX2 TX2 2
theorem nmX2 : ∀ a, a < 2 → ∀ b, b < 2 → a ≠ b → (TX2 a).2.1 ≠ (TX2 b).2.1 := by decide +kernel
theorem tyX2_ok : ∀ k, k < 2 → parseFieldDescriptor (TX2 k).2.2.1 = some (tyX2 k) := by decide +kernel
abbrev cX2_init : ByteArray := prog_4_method_1_code
def yX2_init : MethodName := ⟨RX2, "<init>", "()V"⟩
abbrev cX2_find : ByteArray := prog_4_method_2_code
def yX2_find : MethodName := ⟨RX2, "find", "(II[I[I)V"⟩
abbrev cX2_nextChange : ByteArray := prog_4_method_3_code
def yX2_nextChange : MethodName := ⟨RX2, "nextChange", "(II[I[I)I"⟩
abbrev cX2_patternAt : ByteArray := prog_4_method_4_code
def yX2_patternAt : MethodName := ⟨RX2, "patternAt", "(I[I[I)I"⟩
abbrev cX2_sees : ByteArray := prog_4_method_5_code
def yX2_sees : MethodName := ⟨RX2, "sees", "(I)Z"⟩
abbrev cX2_howManySeen : ByteArray := prog_4_method_6_code
def yX2_howManySeen : MethodName := ⟨RX2, "howManySeen", "()I"⟩
abbrev cX2_ticksOf : ByteArray := prog_4_method_7_code
def yX2_ticksOf : MethodName := ⟨RX2, "ticksOf", "(I)I"⟩
def RX3 : String := "DriveTicks$Shifts"
def TX3 : u_T := fun k => match k with
  | 0 => ("DriveTicks$Shifts", "runs", "LDriveTicks$Runs;", true)
  | 1 => ("DriveTicks$Shifts", "tried", "[I", true)
  | 2 => ("DriveTicks$Shifts", "shifted", "[I", true)
  | 3 => ("DriveTicks$Shifts", "best", "[I", true)
  | 4 => ("DriveTicks$Shifts", "together", "I", false)
  | _ => ("DriveTicks$Shifts", "howManyLike", "I", false)
def tyX3 : Nat → FieldType := fun k => match k with
  | 0 => .object "DriveTicks$Runs"
  | 1 => .array .int
  | 2 => .array .int
  | 3 => .array .int
  | 4 => .int
  | _ => .int
abbrev wsX30 : List Cond := u_ws RX3 TX3 6
theorem nmX3 : ∀ a, a < 6 → ∀ b, b < 6 → a ≠ b → (TX3 a).2.1 ≠ (TX3 b).2.1 := by decide +kernel
theorem tyX3_ok : ∀ k, k < 6 → parseFieldDescriptor (TX3 k).2.2.1 = some (tyX3 k) := by decide +kernel
abbrev cX3_init : ByteArray := prog_5_method_1_code
def yX3_init : MethodName := ⟨RX3, "<init>", "()V"⟩
abbrev cX3_search : ByteArray := prog_5_method_2_code
def yX3_search : MethodName := ⟨RX3, "search", "(LDriveTicks$Plan;I)V"⟩
abbrev cX3_searchAllOf : ByteArray := prog_5_method_3_code
def yX3_searchAllOf : MethodName := ⟨RX3, "searchAllOf", "(ILDriveTicks$Plan;I)V"⟩
abbrev cX3_tryOne : ByteArray := prog_5_method_4_code
def yX3_tryOne : MethodName := ⟨RX3, "tryOne", "(IIILDriveTicks$Plan;I)V"⟩
abbrev cX3_mayMove : ByteArray := prog_5_method_5_code
def yX3_mayMove : MethodName := ⟨RX3, "mayMove", "(LDriveTicks$Plan;II)Z"⟩
def RX4 : String := "DriveTicks$Table"
def TX4 : u_T := fun k => match k with
  | 0 => ("DriveTicks$Table", "most", "I", true)
  | 1 => ("DriveTicks$Table", "cells", "[I", true)
  | _ => ("DriveTicks$Table", "size", "I", false)
def tyX4 : Nat → FieldType := fun k => match k with
  | 0 => .int
  | 1 => .array .int
  | _ => .int
abbrev wsX40 : List Cond := u_ws RX4 TX4 3
theorem nmX4 : ∀ a, a < 3 → ∀ b, b < 3 → a ≠ b → (TX4 a).2.1 ≠ (TX4 b).2.1 := by decide +kernel
theorem tyX4_ok : ∀ k, k < 3 → parseFieldDescriptor (TX4 k).2.2.1 = some (tyX4 k) := by decide +kernel
abbrev cX4_init : ByteArray := prog_6_method_1_code
def yX4_init : MethodName := ⟨RX4, "<init>", "(I)V"⟩
abbrev cX4_isFull : ByteArray := prog_6_method_2_code
def yX4_isFull : MethodName := ⟨RX4, "isFull", "()Z"⟩
abbrev cX4_add : ByteArray := prog_6_method_3_code
def yX4_add : MethodName := ⟨RX4, "add", "(IIII)V"⟩
abbrev cX4_addAll : ByteArray := prog_6_method_4_code
def yX4_addAll : MethodName := ⟨RX4, "addAll", "(LDriveTicks$Table;)V"⟩
abbrev cX4_cellOr : ByteArray := prog_6_method_5_code
def yX4_cellOr : MethodName := ⟨RX4, "cellOr", "(III)I"⟩
abbrev cX4_moveRow : ByteArray := prog_6_method_6_code
def yX4_moveRow : MethodName := ⟨RX4, "moveRow", "(II)V"⟩
abbrev cX4_cutTo : ByteArray := prog_6_method_7_code
def yX4_cutTo : MethodName := ⟨RX4, "cutTo", "(I)V"⟩
abbrev cX4_dropFirst : ByteArray := prog_6_method_8_code
def yX4_dropFirst : MethodName := ⟨RX4, "dropFirst", "()V"⟩
abbrev cX4_greatestOr : ByteArray := prog_6_method_9_code
def yX4_greatestOr : MethodName := ⟨RX4, "greatestOr", "(II)I"⟩
abbrev cX4_leastOr : ByteArray := prog_6_method_10_code
def yX4_leastOr : MethodName := ⟨RX4, "leastOr", "(II)I"⟩
abbrev cX4_totalOr : ByteArray := prog_6_method_11_code
def yX4_totalOr : MethodName := ⟨RX4, "totalOr", "(II)I"⟩
def RX5 : String := "DriveTicks$Text"
def TX5 : u_T := fun k => match k with
  | 0 => ("DriveTicks$Text", "bytes", "[I", true)
  | 1 => ("DriveTicks$Text", "wishes", "LDriveTicks$Table;", true)
  | 2 => ("DriveTicks$Text", "length", "I", false)
  | 3 => ("DriveTicks$Text", "place", "I", false)
  | _ => ("DriveTicks$Text", "fault", "I", false)
def tyX5 : Nat → FieldType := fun k => match k with
  | 0 => .array .int
  | 1 => .object "DriveTicks$Table"
  | 2 => .int
  | 3 => .int
  | _ => .int
abbrev wsX50 : List Cond := u_ws RX5 TX5 5
theorem nmX5 : ∀ a, a < 5 → ∀ b, b < 5 → a ≠ b → (TX5 a).2.1 ≠ (TX5 b).2.1 := by decide +kernel
theorem tyX5_ok : ∀ k, k < 5 → parseFieldDescriptor (TX5 k).2.2.1 = some (tyX5 k) := by decide +kernel
abbrev cX5_init : ByteArray := prog_7_method_1_code
def yX5_init : MethodName := ⟨RX5, "<init>", "()V"⟩
abbrev cX5_append : ByteArray := prog_7_method_2_code
def yX5_append : MethodName := ⟨RX5, "append", "(I)V"⟩
abbrev cX5_faultOfWishes : ByteArray := prog_7_method_3_code
def yX5_faultOfWishes : MethodName := ⟨RX5, "faultOfWishes", "(II)I"⟩
abbrev cX5_readWish : ByteArray := prog_7_method_4_code
def yX5_readWish : MethodName := ⟨RX5, "readWish", "(II)V"⟩
abbrev cX5_readEnd : ByteArray := prog_7_method_5_code
def yX5_readEnd : MethodName := ⟨RX5, "readEnd", "()Z"⟩
abbrev cX5_readWant : ByteArray := prog_7_method_6_code
def yX5_readWant : MethodName := ⟨RX5, "readWant", "()I"⟩
abbrev cX5_readPeriod : ByteArray := prog_7_method_7_code
def yX5_readPeriod : MethodName := ⟨RX5, "readPeriod", "(I)I"⟩
abbrev cX5_readNumber : ByteArray := prog_7_method_8_code
def yX5_readNumber : MethodName := ⟨RX5, "readNumber", "(I)I"⟩
abbrev cX5_skipBlanks : ByteArray := prog_7_method_9_code
def yX5_skipBlanks : MethodName := ⟨RX5, "skipBlanks", "()V"⟩
abbrev cX5_byteHere : ByteArray := prog_7_method_10_code
def yX5_byteHere : MethodName := ⟨RX5, "byteHere", "()I"⟩
abbrev cX5_failAt : ByteArray := prog_7_method_11_code
def yX5_failAt : MethodName := ⟨RX5, "failAt", "(I)V"⟩
def RX6 : String := "DriveTicks"
def TX6 : u_T := fun k => match k with
  | 0 => ("DriveTicks", "drive", "LDriveTicks$Drive;", true)
  | 1 => ("DriveTicks", "trial", "LDriveTicks$Drive;", true)
  | 2 => ("DriveTicks", "runs", "LDriveTicks$Runs;", true)
  | 3 => ("DriveTicks", "gateEvents", "LDriveTicks$Table;", true)
  | 4 => ("DriveTicks", "shifts", "LDriveTicks$Shifts;", true)
  | 5 => ("DriveTicks", "remembered", "LDriveTicks$Table;", true)
  | 6 => ("DriveTicks", "text", "LDriveTicks$Text;", true)
  | _ => ("DriveTicks", "refused", "[I", true)
def tyX6 : Nat → FieldType := fun k => match k with
  | 0 => .object "DriveTicks$Drive"
  | 1 => .object "DriveTicks$Drive"
  | 2 => .object "DriveTicks$Runs"
  | 3 => .object "DriveTicks$Table"
  | 4 => .object "DriveTicks$Shifts"
  | 5 => .object "DriveTicks$Table"
  | 6 => .object "DriveTicks$Text"
  | _ => .array .int
abbrev wsX60 : List Cond := u_ws RX6 TX6 8
theorem nmX6 : ∀ a, a < 8 → ∀ b, b < 8 → a ≠ b → (TX6 a).2.1 ≠ (TX6 b).2.1 := by decide +kernel
theorem tyX6_ok : ∀ k, k < 8 → parseFieldDescriptor (TX6 k).2.2.1 = some (tyX6 k) := by decide +kernel
abbrev cX6_init : ByteArray := prog_1_method_1_code
def yX6_init : MethodName := ⟨RX6, "<init>", "()V"⟩
abbrev cX6_sets : ByteArray := prog_1_method_2_code
def yX6_sets : MethodName := ⟨RX6, "sets", "(II)I"⟩
abbrev cX6_leg : ByteArray := prog_1_method_3_code
def yX6_leg : MethodName := ⟨RX6, "leg", "(III)I"⟩
abbrev cX6_anew : ByteArray := prog_1_method_4_code
def yX6_anew : MethodName := ⟨RX6, "anew", "()I"⟩
abbrev cX6_draw : ByteArray := prog_1_method_5_code
def yX6_draw : MethodName := ⟨RX6, "draw", "(I)I"⟩
abbrev cX6_plan : ByteArray := prog_1_method_6_code
def yX6_plan : MethodName := ⟨RX6, "plan", "(I)I"⟩
abbrev cX6_of : ByteArray := prog_1_method_7_code
def yX6_of : MethodName := ⟨RX6, "of", "(II)I"⟩
abbrev cX6_at : ByteArray := prog_1_method_8_code
def yX6_at : MethodName := ⟨RX6, "at", "(III)I"⟩
abbrev cX6_run : ByteArray := prog_1_method_9_code
def yX6_run : MethodName := ⟨RX6, "run", "(II)I"⟩
abbrev cX6_seen : ByteArray := prog_1_method_10_code
def yX6_seen : MethodName := ⟨RX6, "seen", "(I)I"⟩
abbrev cX6_told : ByteArray := prog_1_method_11_code
def yX6_told : MethodName := ⟨RX6, "told", "(I)I"⟩
abbrev cX6_both : ByteArray := prog_1_method_12_code
def yX6_both : MethodName := ⟨RX6, "both", "()I"⟩
abbrev cX6_off : ByteArray := prog_1_method_13_code
def yX6_off : MethodName := ⟨RX6, "off", "(I)I"⟩
abbrev cX6_dies : ByteArray := prog_1_method_14_code
def yX6_dies : MethodName := ⟨RX6, "dies", "(I)I"⟩
abbrev cX6_event : ByteArray := prog_1_method_15_code
def yX6_event : MethodName := ⟨RX6, "event", "(II)I"⟩
abbrev cX6_events : ByteArray := prog_1_method_16_code
def yX6_events : MethodName := ⟨RX6, "events", "()I"⟩
abbrev cX6_shift : ByteArray := prog_1_method_17_code
def yX6_shift : MethodName := ⟨RX6, "shift", "(I)I"⟩
abbrev cX6_wish : ByteArray := prog_1_method_18_code
def yX6_wish : MethodName := ⟨RX6, "wish", "(III)I"⟩
abbrev cX6_unwish : ByteArray := prog_1_method_19_code
def yX6_unwish : MethodName := ⟨RX6, "unwish", "(I)I"⟩
abbrev cX6_wished : ByteArray := prog_1_method_20_code
def yX6_wished : MethodName := ⟨RX6, "wished", "(II)I"⟩
abbrev cX6_steps : ByteArray := prog_1_method_21_code
def yX6_steps : MethodName := ⟨RX6, "steps", "(I)I"⟩
abbrev cX6_settles : ByteArray := prog_1_method_22_code
def yX6_settles : MethodName := ⟨RX6, "settles", "(I)I"⟩
abbrev cX6_tunes : ByteArray := prog_1_method_23_code
def yX6_tunes : MethodName := ⟨RX6, "tunes", "(I)I"⟩
abbrev cX6_state : ByteArray := prog_1_method_24_code
def yX6_state : MethodName := ⟨RX6, "state", "(II)I"⟩
abbrev cX6_memory : ByteArray := prog_1_method_25_code
def yX6_memory : MethodName := ⟨RX6, "memory", "(II)I"⟩
abbrev cX6_over : ByteArray := prog_1_method_26_code
def yX6_over : MethodName := ⟨RX6, "over", "(II)I"⟩
abbrev cX6_type : ByteArray := prog_1_method_27_code
def yX6_type : MethodName := ⟨RX6, "type", "(I)I"⟩
abbrev cX6_clear : ByteArray := prog_1_method_28_code
def yX6_clear : MethodName := ⟨RX6, "clear", "()I"⟩
abbrev cX6_reads : ByteArray := prog_1_method_29_code
def yX6_reads : MethodName := ⟨RX6, "reads", "()I"⟩
abbrev cX6_count : ByteArray := prog_1_method_30_code
def yX6_count : MethodName := ⟨RX6, "count", "(I)I"⟩
abbrev cX6_digest : ByteArray := prog_1_method_31_code
def yX6_digest : MethodName := ⟨RX6, "digest", "()J"⟩
abbrev cX6_within : ByteArray := prog_1_method_32_code
def yX6_within : MethodName := ⟨RX6, "within", "(III)Z"⟩
abbrev cX6_isLeg : ByteArray := prog_1_method_33_code
def yX6_isLeg : MethodName := ⟨RX6, "isLeg", "(I)Z"⟩
abbrev cX6_pulledWithin : ByteArray := prog_1_method_34_code
def yX6_pulledWithin : MethodName := ⟨RX6, "pulledWithin", "(III)I"⟩
abbrev cX6_greatestOf : ByteArray := prog_1_method_35_code
def yX6_greatestOf : MethodName := ⟨RX6, "greatestOf", "([I)I"⟩
abbrev cX6_leastOf : ByteArray := prog_1_method_36_code
def yX6_leastOf : MethodName := ⟨RX6, "leastOf", "([I)I"⟩
abbrev cX6_refuseBad : ByteArray := prog_1_method_37_code
def yX6_refuseBad : MethodName := ⟨RX6, "refuseBad", "()I"⟩
abbrev cX6_refuseFull : ByteArray := prog_1_method_38_code
def yX6_refuseFull : MethodName := ⟨RX6, "refuseFull", "()I"⟩
abbrev cX6_planNow : ByteArray := prog_1_method_39_code
def yX6_planNow : MethodName := ⟨RX6, "planNow", "()LDriveTicks$Plan;"⟩
abbrev cX6_runsNow : ByteArray := prog_1_method_40_code
def yX6_runsNow : MethodName := ⟨RX6, "runsNow", "()LDriveTicks$Runs;"⟩
abbrev cX6_eventsNow : ByteArray := prog_1_method_41_code
def yX6_eventsNow : MethodName := ⟨RX6, "eventsNow", "()LDriveTicks$Table;"⟩
abbrev cX6_currentByTheOthers : ByteArray := prog_1_method_42_code
def yX6_currentByTheOthers : MethodName := ⟨RX6, "currentByTheOthers", "(I)I"⟩
abbrev cX6_remember : ByteArray := prog_1_method_43_code
def yX6_remember : MethodName := ⟨RX6, "remember", "(I)V"⟩
abbrev cX6_stepsToSettle : ByteArray := prog_1_method_44_code
def yX6_stepsToSettle : MethodName := ⟨RX6, "stepsToSettle", "(III)I"⟩
abbrev cX6_counted : ByteArray := prog_1_method_45_code
def yX6_counted : MethodName := ⟨RX6, "counted", "(I)I"⟩
abbrev cX6_countedSetting : ByteArray := prog_1_method_46_code
def yX6_countedSetting : MethodName := ⟨RX6, "countedSetting", "(I)I"⟩
def RX7 : String := "DriveTicksModel"
def TX7 : u_T := fun k => match k with
  | 0 => ("DriveTicksModel", "refused", "[I", true)
  | 1 => ("DriveTicksModel", "told", "[I", true)
  | 2 => ("DriveTicksModel", "current", "[I", true)
  | 3 => ("DriveTicksModel", "demand", "[I", true)
  | 4 => ("DriveTicksModel", "want", "[I", true)
  | 5 => ("DriveTicksModel", "sum", "[I", true)
  | 6 => ("DriveTicksModel", "done", "I", false)
  | 7 => ("DriveTicksModel", "wishes", "I", false)
  | 8 => ("DriveTicksModel", "wishLeg", "[I", true)
  | 9 => ("DriveTicksModel", "wishPeriod", "[I", true)
  | 10 => ("DriveTicksModel", "wishValue", "[I", true)
  | 11 => ("DriveTicksModel", "remembered", "I", false)
  | 12 => ("DriveTicksModel", "memory", "[I", true)
  | 13 => ("DriveTicksModel", "spread", "I", false)
  | 14 => ("DriveTicksModel", "isOver", "Z", false)
  | 15 => ("DriveTicksModel", "plain", "[I", true)
  | 16 => ("DriveTicksModel", "high", "[I", true)
  | 17 => ("DriveTicksModel", "start", "[I", true)
  | 18 => ("DriveTicksModel", "counts", "[I", true)
  | 19 => ("DriveTicksModel", "runs", "I", false)
  | 20 => ("DriveTicksModel", "runAt", "[I", true)
  | 21 => ("DriveTicksModel", "runLong", "[I", true)
  | 22 => ("DriveTicksModel", "events", "I", false)
  | 23 => ("DriveTicksModel", "eventTick", "I", false)
  | 24 => ("DriveTicksModel", "eventLeg", "I", false)
  | 25 => ("DriveTicksModel", "eventGate", "I", false)
  | 26 => ("DriveTicksModel", "eventOn", "I", false)
  | 27 => ("DriveTicksModel", "best", "[I", true)
  | 28 => ("DriveTicksModel", "first", "[I", true)
  | 29 => ("DriveTicksModel", "means", "[I", true)
  | 30 => ("DriveTicksModel", "aside", "[I", true)
  | 31 => ("DriveTicksModel", "text", "[I", true)
  | 32 => ("DriveTicksModel", "size", "I", false)
  | 33 => ("DriveTicksModel", "readAt", "I", false)
  | 34 => ("DriveTicksModel", "tokenAt", "I", false)
  | 35 => ("DriveTicksModel", "readNumber", "I", false)
  | _ => ("DriveTicksModel", "readMany", "I", false)
def tyX7 : Nat → FieldType := fun k => match k with
  | 0 => .array .int
  | 1 => .array .int
  | 2 => .array .int
  | 3 => .array .int
  | 4 => .array .int
  | 5 => .array .int
  | 6 => .int
  | 7 => .int
  | 8 => .array .int
  | 9 => .array .int
  | 10 => .array .int
  | 11 => .int
  | 12 => .array .int
  | 13 => .int
  | 14 => .boolean
  | 15 => .array .int
  | 16 => .array .int
  | 17 => .array .int
  | 18 => .array .int
  | 19 => .int
  | 20 => .array .int
  | 21 => .array .int
  | 22 => .int
  | 23 => .int
  | 24 => .int
  | 25 => .int
  | 26 => .int
  | 27 => .array .int
  | 28 => .array .int
  | 29 => .array .int
  | 30 => .array .int
  | 31 => .array .int
  | 32 => .int
  | 33 => .int
  | 34 => .int
  | 35 => .int
  | _ => .int
abbrev wsX70 : List Cond := u_ws RX7 TX7 37
theorem nmX7 : ∀ a, a < 37 → ∀ b, b < 37 → a ≠ b → (TX7 a).2.1 ≠ (TX7 b).2.1 := by decide +kernel
theorem tyX7_ok : ∀ k, k < 37 → parseFieldDescriptor (TX7 k).2.2.1 = some (tyX7 k) := by decide +kernel
abbrev cX7_bad : ByteArray := prog_9_method_1_code
def yX7_bad : MethodName := ⟨RX7, "bad", "()I"⟩
abbrev cX7_full : ByteArray := prog_9_method_2_code
def yX7_full : MethodName := ⟨RX7, "full", "()I"⟩
abbrev cX7_in : ByteArray := prog_9_method_3_code
def yX7_in : MethodName := ⟨RX7, "in", "(III)Z"⟩
abbrev cX7_within : ByteArray := prog_9_method_4_code
def yX7_within : MethodName := ⟨RX7, "within", "(II)I"⟩
abbrev cX7_far : ByteArray := prog_9_method_5_code
def yX7_far : MethodName := ⟨RX7, "far", "(I)I"⟩
abbrev cX7_init : ByteArray := prog_9_method_6_code
def yX7_init : MethodName := ⟨RX7, "<init>", "()V"⟩
abbrev cX7_begins : ByteArray := prog_9_method_7_code
def yX7_begins : MethodName := ⟨RX7, "begins", "()V"⟩
abbrev cX7_may : ByteArray := prog_9_method_8_code
def yX7_may : MethodName := ⟨RX7, "may", "(II)Z"⟩
abbrev cX7_isLeg : ByteArray := prog_9_method_9_code
def yX7_isLeg : MethodName := ⟨RX7, "isLeg", "(I)Z"⟩
abbrev cX7_sets : ByteArray := prog_9_method_10_code
def yX7_sets : MethodName := ⟨RX7, "sets", "(II)I"⟩
abbrev cX7_leg : ByteArray := prog_9_method_11_code
def yX7_leg : MethodName := ⟨RX7, "leg", "(III)I"⟩
abbrev cX7_anew : ByteArray := prog_9_method_12_code
def yX7_anew : MethodName := ⟨RX7, "anew", "()I"⟩
abbrev cX7_draw : ByteArray := prog_9_method_13_code
def yX7_draw : MethodName := ⟨RX7, "draw", "(I)I"⟩
abbrev cX7_greatest : ByteArray := prog_9_method_14_code
def yX7_greatest : MethodName := ⟨RX7, "greatest", "([I)I"⟩
abbrev cX7_least : ByteArray := prog_9_method_15_code
def yX7_least : MethodName := ⟨RX7, "least", "([I)I"⟩
abbrev cX7_setPlan : ByteArray := prog_9_method_16_code
def yX7_setPlan : MethodName := ⟨RX7, "setPlan", "()V"⟩
abbrev cX7_bound : ByteArray := prog_9_method_17_code
def yX7_bound : MethodName := ⟨RX7, "bound", "(II)I"⟩
abbrev cX7_wanted : ByteArray := prog_9_method_18_code
def yX7_wanted : MethodName := ⟨RX7, "wanted", "(II)Z"⟩
abbrev cX7_wantedAhead : ByteArray := prog_9_method_19_code
def yX7_wantedAhead : MethodName := ⟨RX7, "wantedAhead", "(II)I"⟩
abbrev cX7_upper : ByteArray := prog_9_method_20_code
def yX7_upper : MethodName := ⟨RX7, "upper", "(II)Z"⟩
abbrev cX7_lower : ByteArray := prog_9_method_21_code
def yX7_lower : MethodName := ⟨RX7, "lower", "(II)Z"⟩
abbrev cX7_gives : ByteArray := prog_9_method_22_code
def yX7_gives : MethodName := ⟨RX7, "gives", "(II)I"⟩
abbrev cX7_meanOf : ByteArray := prog_9_method_23_code
def yX7_meanOf : MethodName := ⟨RX7, "meanOf", "(I)I"⟩
abbrev cX7_patternAt : ByteArray := prog_9_method_24_code
def yX7_patternAt : MethodName := ⟨RX7, "patternAt", "(I)I"⟩
abbrev cX7_setRuns : ByteArray := prog_9_method_25_code
def yX7_setRuns : MethodName := ⟨RX7, "setRuns", "()V"⟩
abbrev cX7_tells : ByteArray := prog_9_method_26_code
def yX7_tells : MethodName := ⟨RX7, "tells", "(I)I"⟩
abbrev cX7_seenSet : ByteArray := prog_9_method_27_code
def yX7_seenSet : MethodName := ⟨RX7, "seenSet", "()I"⟩
abbrev cX7_bits : ByteArray := prog_9_method_28_code
def yX7_bits : MethodName := ⟨RX7, "bits", "(I)I"⟩
abbrev cX7_ticksOf : ByteArray := prog_9_method_29_code
def yX7_ticksOf : MethodName := ⟨RX7, "ticksOf", "(I)I"⟩
abbrev cX7_plansBy : ByteArray := prog_9_method_30_code
def yX7_plansBy : MethodName := ⟨RX7, "plansBy", "(I)I"⟩
abbrev cX7_plan : ByteArray := prog_9_method_31_code
def yX7_plan : MethodName := ⟨RX7, "plan", "(I)I"⟩
abbrev cX7_gateMany : ByteArray := prog_9_method_32_code
def yX7_gateMany : MethodName := ⟨RX7, "gateMany", "(II)I"⟩
abbrev cX7_ofBy : ByteArray := prog_9_method_33_code
def yX7_ofBy : MethodName := ⟨RX7, "ofBy", "(II)I"⟩
abbrev cX7_of : ByteArray := prog_9_method_34_code
def yX7_of : MethodName := ⟨RX7, "of", "(II)I"⟩
abbrev cX7_at : ByteArray := prog_9_method_35_code
def yX7_at : MethodName := ⟨RX7, "at", "(III)I"⟩
abbrev cX7_run : ByteArray := prog_9_method_36_code
def yX7_run : MethodName := ⟨RX7, "run", "(II)I"⟩
abbrev cX7_seen : ByteArray := prog_9_method_37_code
def yX7_seen : MethodName := ⟨RX7, "seen", "(I)I"⟩
abbrev cX7_told : ByteArray := prog_9_method_38_code
def yX7_told : MethodName := ⟨RX7, "told", "(I)I"⟩
abbrev cX7_both : ByteArray := prog_9_method_39_code
def yX7_both : MethodName := ⟨RX7, "both", "()I"⟩
abbrev cX7_off : ByteArray := prog_9_method_40_code
def yX7_off : MethodName := ⟨RX7, "off", "(I)I"⟩
abbrev cX7_dies : ByteArray := prog_9_method_41_code
def yX7_dies : MethodName := ⟨RX7, "dies", "(I)I"⟩
abbrev cX7_comesEvent : ByteArray := prog_9_method_42_code
def yX7_comesEvent : MethodName := ⟨RX7, "comesEvent", "(IIIIZZ)V"⟩
abbrev cX7_setEvents : ByteArray := prog_9_method_43_code
def yX7_setEvents : MethodName := ⟨RX7, "setEvents", "(I)V"⟩
abbrev cX7_event : ByteArray := prog_9_method_44_code
def yX7_event : MethodName := ⟨RX7, "event", "(II)I"⟩
abbrev cX7_events : ByteArray := prog_9_method_45_code
def yX7_events : MethodName := ⟨RX7, "events", "()I"⟩
abbrev cX7_mayShift : ByteArray := prog_9_method_46_code
def yX7_mayShift : MethodName := ⟨RX7, "mayShift", "(II)Z"⟩
abbrev cX7_tries : ByteArray := prog_9_method_47_code
def yX7_tries : MethodName := ⟨RX7, "tries", "(III)V"⟩
abbrev cX7_shift : ByteArray := prog_9_method_48_code
def yX7_shift : MethodName := ⟨RX7, "shift", "(I)I"⟩
abbrev cX7_comesWish : ByteArray := prog_9_method_49_code
def yX7_comesWish : MethodName := ⟨RX7, "comesWish", "(III)V"⟩
abbrev cX7_goesWish : ByteArray := prog_9_method_50_code
def yX7_goesWish : MethodName := ⟨RX7, "goesWish", "(I)V"⟩
abbrev cX7_wish : ByteArray := prog_9_method_51_code
def yX7_wish : MethodName := ⟨RX7, "wish", "(III)I"⟩
abbrev cX7_unwish : ByteArray := prog_9_method_52_code
def yX7_unwish : MethodName := ⟨RX7, "unwish", "(I)I"⟩
abbrev cX7_wished : ByteArray := prog_9_method_53_code
def yX7_wished : MethodName := ⟨RX7, "wished", "(II)I"⟩
abbrev cX7_comesTrue : ByteArray := prog_9_method_54_code
def yX7_comesTrue : MethodName := ⟨RX7, "comesTrue", "()V"⟩
abbrev cX7_steers : ByteArray := prog_9_method_55_code
def yX7_steers : MethodName := ⟨RX7, "steers", "()V"⟩
abbrev cX7_goes : ByteArray := prog_9_method_56_code
def yX7_goes : MethodName := ⟨RX7, "goes", "()Z"⟩
abbrev cX7_remembers : ByteArray := prog_9_method_57_code
def yX7_remembers : MethodName := ⟨RX7, "remembers", "(Z)V"⟩
abbrev cX7_steps : ByteArray := prog_9_method_58_code
def yX7_steps : MethodName := ⟨RX7, "steps", "(I)I"⟩
abbrev cX7_lays : ByteArray := prog_9_method_59_code
def yX7_lays : MethodName := ⟨RX7, "lays", "()V"⟩
abbrev cX7_takes : ByteArray := prog_9_method_60_code
def yX7_takes : MethodName := ⟨RX7, "takes", "()V"⟩
abbrev cX7_isNear : ByteArray := prog_9_method_61_code
def yX7_isNear : MethodName := ⟨RX7, "isNear", "(I)Z"⟩
abbrev cX7_settlesIn : ByteArray := prog_9_method_62_code
def yX7_settlesIn : MethodName := ⟨RX7, "settlesIn", "(I)I"⟩
abbrev cX7_settles : ByteArray := prog_9_method_63_code
def yX7_settles : MethodName := ⟨RX7, "settles", "(I)I"⟩
abbrev cX7_tunes : ByteArray := prog_9_method_64_code
def yX7_tunes : MethodName := ⟨RX7, "tunes", "(I)I"⟩
abbrev cX7_stateBy : ByteArray := prog_9_method_65_code
def yX7_stateBy : MethodName := ⟨RX7, "stateBy", "(II)I"⟩
abbrev cX7_state : ByteArray := prog_9_method_66_code
def yX7_state : MethodName := ⟨RX7, "state", "(II)I"⟩
abbrev cX7_memory : ByteArray := prog_9_method_67_code
def yX7_memory : MethodName := ⟨RX7, "memory", "(II)I"⟩
abbrev cX7_over : ByteArray := prog_9_method_68_code
def yX7_over : MethodName := ⟨RX7, "over", "(II)I"⟩
abbrev cX7_type : ByteArray := prog_9_method_69_code
def yX7_type : MethodName := ⟨RX7, "type", "(I)I"⟩
abbrev cX7_clear : ByteArray := prog_9_method_70_code
def yX7_clear : MethodName := ⟨RX7, "clear", "()I"⟩
abbrev cX7_here : ByteArray := prog_9_method_71_code
def yX7_here : MethodName := ⟨RX7, "here", "()I"⟩
abbrev cX7_skips : ByteArray := prog_9_method_72_code
def yX7_skips : MethodName := ⟨RX7, "skips", "()V"⟩
abbrev cX7_number : ByteArray := prog_9_method_73_code
def yX7_number : MethodName := ⟨RX7, "number", "(I)Z"⟩
abbrev cX7_readsWish : ByteArray := prog_9_method_74_code
def yX7_readsWish : MethodName := ⟨RX7, "readsWish", "(Z)Z"⟩
abbrev cX7_goesThrough : ByteArray := prog_9_method_75_code
def yX7_goesThrough : MethodName := ⟨RX7, "goesThrough", "(Z)I"⟩
abbrev cX7_reads : ByteArray := prog_9_method_76_code
def yX7_reads : MethodName := ⟨RX7, "reads", "()I"⟩
abbrev cX7_countBy : ByteArray := prog_9_method_77_code
def yX7_countBy : MethodName := ⟨RX7, "countBy", "(I)I"⟩
abbrev cX7_count : ByteArray := prog_9_method_78_code
def yX7_count : MethodName := ⟨RX7, "count", "(I)I"⟩
abbrev cX7_digest : ByteArray := prog_9_method_79_code
def yX7_digest : MethodName := ⟨RX7, "digest", "()J"⟩
def RJ6 : String := "java/lang/Integer"
def TJ6 : u_T := fun k => match k with
  | _ => ("", "", "", false)
def tyJ6 : Nat → FieldType := fun k => match k with
  | _ => .int
abbrev wsJ60 : List Cond := u_ws RJ6 TJ6 0
theorem nmJ6 : ∀ a, a < 0 → ∀ b, b < 0 → a ≠ b → (TJ6 a).2.1 ≠ (TJ6 b).2.1 := by decide +kernel
theorem tyJ6_ok : ∀ k, k < 0 → parseFieldDescriptor (TJ6 k).2.2.1 = some (tyJ6 k) := by decide +kernel
abbrev cJ6_bitCount_0f7a4 : ByteArray := prog_10_method_49_code
def yJ6_bitCount_0f7a4 : MethodName := ⟨RJ6, "bitCount", "(I)I"⟩
def RJ9 : String := "java/lang/Math"
def TJ9 : u_T := fun k => match k with
  | _ => ("", "", "", false)
def tyJ9 : Nat → FieldType := fun k => match k with
  | _ => .int
abbrev wsJ90 : List Cond := u_ws RJ9 TJ9 0
theorem nmJ9 : ∀ a, a < 0 → ∀ b, b < 0 → a ≠ b → (TJ9 a).2.1 ≠ (TJ9 b).2.1 := by decide +kernel
theorem tyJ9_ok : ∀ k, k < 0 → parseFieldDescriptor (TJ9 k).2.2.1 = some (tyJ9 k) := by decide +kernel
abbrev cJ9_abs_0f7a4 : ByteArray := prog_11_method_59_code
def yJ9_abs_0f7a4 : MethodName := ⟨RJ9, "abs", "(I)I"⟩
abbrev cJ9_max_7cf53 : ByteArray := prog_11_method_65_code
def yJ9_max_7cf53 : MethodName := ⟨RJ9, "max", "(II)I"⟩
abbrev cJ9_min_7cf53 : ByteArray := prog_11_method_69_code
def yJ9_min_7cf53 : MethodName := ⟨RJ9, "min", "(II)I"⟩
def RJ10 : String := "java/lang/System"
def TJ10 : u_T := fun k => match k with
  | _ => ("", "", "", false)
def tyJ10 : Nat → FieldType := fun k => match k with
  | _ => .int
abbrev wsJ100 : List Cond := u_ws RJ10 TJ10 0
theorem nmJ10 : ∀ a, a < 0 → ∀ b, b < 0 → a ≠ b → (TJ10 a).2.1 ≠ (TJ10 b).2.1 := by decide +kernel
theorem tyJ10_ok : ∀ k, k < 0 → parseFieldDescriptor (TJ10 k).2.2.1 = some (tyJ10 k) := by decide +kernel
def RL : String := "DriveTicksLaw"
abbrev cL_law : ByteArray := code
def yL_law : MethodName := ⟨RL, "law", "([I)Z"⟩
end
section
theorem dX0_init_0 : decode cX0_init 0 = .ok (.aload_n 0, 1) := by decide +kernel
theorem dX0_init_1 : decode cX0_init 1 = .ok (.invokespecial 3, 3) := by decide +kernel
theorem dX0_init_4 : decode cX0_init 4 = .ok (.aload_n 0, 1) := by decide +kernel
theorem dX0_init_5 : decode cX0_init 5 = .ok (.bipush 7, 2) := by decide +kernel
theorem dX0_init_7 : decode cX0_init 7 = .ok (.newarray .int, 2) := by decide +kernel
theorem dX0_init_9 : decode cX0_init 9 = .ok (.putfield 9, 3) := by decide +kernel
theorem dX0_init_12 : decode cX0_init 12 = .ok (.aload_n 0, 1) := by decide +kernel
theorem dX0_init_13 : decode cX0_init 13 = .ok (.iconst 3, 1) := by decide +kernel
theorem dX0_init_14 : decode cX0_init 14 = .ok (.newarray .int, 2) := by decide +kernel
theorem dX0_init_16 : decode cX0_init 16 = .ok (.putfield 15, 3) := by decide +kernel
theorem dX0_init_19 : decode cX0_init 19 = .ok (.aload_n 0, 1) := by decide +kernel
theorem dX0_init_20 : decode cX0_init 20 = .ok (.iconst 3, 1) := by decide +kernel
theorem dX0_init_21 : decode cX0_init 21 = .ok (.newarray .int, 2) := by decide +kernel
theorem dX0_init_23 : decode cX0_init 23 = .ok (.putfield 18, 3) := by decide +kernel
theorem dX0_init_26 : decode cX0_init 26 = .ok (.aload_n 0, 1) := by decide +kernel
theorem dX0_init_27 : decode cX0_init 27 = .ok (.iconst 3, 1) := by decide +kernel
theorem dX0_init_28 : decode cX0_init 28 = .ok (.newarray .int, 2) := by decide +kernel
theorem dX0_init_30 : decode cX0_init 30 = .ok (.putfield 21, 3) := by decide +kernel
theorem dX0_init_33 : decode cX0_init 33 = .ok (.aload_n 0, 1) := by decide +kernel
theorem dX0_init_34 : decode cX0_init 34 = .ok (.iconst 3, 1) := by decide +kernel
theorem dX0_init_35 : decode cX0_init 35 = .ok (.newarray .int, 2) := by decide +kernel
theorem dX0_init_37 : decode cX0_init 37 = .ok (.putfield 24, 3) := by decide +kernel
theorem dX0_init_40 : decode cX0_init 40 = .ok (.aload_n 0, 1) := by decide +kernel
theorem dX0_init_41 : decode cX0_init 41 = .ok (.new 27, 3) := by decide +kernel
theorem dX0_init_44 : decode cX0_init 44 = .ok (.dup, 1) := by decide +kernel
theorem dX0_init_45 : decode cX0_init 45 = .ok (.bipush 12, 2) := by decide +kernel
theorem dX0_init_47 : decode cX0_init 47 = .ok (.invokespecial 29, 3) := by decide +kernel
theorem dX0_init_50 : decode cX0_init 50 = .ok (.putfield 32, 3) := by decide +kernel
theorem dX0_init_53 : decode cX0_init 53 = .ok (.aload_n 0, 1) := by decide +kernel
theorem dX0_init_54 : decode cX0_init 54 = .ok (.new 36, 3) := by decide +kernel
theorem dX0_init_57 : decode cX0_init 57 = .ok (.dup, 1) := by decide +kernel
theorem dX0_init_58 : decode cX0_init 58 = .ok (.invokespecial 38, 3) := by decide +kernel
theorem dX0_init_61 : decode cX0_init 61 = .ok (.putfield 39, 3) := by decide +kernel
theorem dX0_init_64 : decode cX0_init 64 = .ok (.aload_n 0, 1) := by decide +kernel
theorem dX0_init_65 : decode cX0_init 65 = .ok (.invokevirtual 43, 3) := by decide +kernel
theorem dX0_init_68 : decode cX0_init 68 = .ok (.return_, 1) := by decide +kernel
theorem dX0_beginAnew_0 : decode cX0_beginAnew 0 = .ok (.getstatic 46, 3) := by decide +kernel
theorem dX0_beginAnew_3 : decode cX0_beginAnew 3 = .ok (.iconst 0, 1) := by decide +kernel
theorem dX0_beginAnew_4 : decode cX0_beginAnew 4 = .ok (.aload_n 0, 1) := by decide +kernel
theorem dX0_beginAnew_5 : decode cX0_beginAnew 5 = .ok (.getfield 9, 3) := by decide +kernel
theorem dX0_beginAnew_8 : decode cX0_beginAnew 8 = .ok (.iconst 0, 1) := by decide +kernel
theorem dX0_beginAnew_9 : decode cX0_beginAnew 9 = .ok (.bipush 7, 2) := by decide +kernel
theorem dX0_beginAnew_11 : decode cX0_beginAnew 11 = .ok (.invokestatic 49, 3) := by decide +kernel
theorem dX0_beginAnew_14 : decode cX0_beginAnew 14 = .ok (.iconst 0, 1) := by decide +kernel
theorem dX0_beginAnew_15 : decode cX0_beginAnew 15 = .ok (.istore_n 1, 1) := by decide +kernel
theorem dX0_beginAnew_16 : decode cX0_beginAnew 16 = .ok (.iload_n 1, 1) := by decide +kernel
theorem dX0_beginAnew_17 : decode cX0_beginAnew 17 = .ok (.iconst 3, 1) := by decide +kernel
theorem dX0_beginAnew_18 : decode cX0_beginAnew 18 = .ok (.if_icmp .ge 37, 3) := by decide +kernel
theorem dX0_beginAnew_21 : decode cX0_beginAnew 21 = .ok (.aload_n 0, 1) := by decide +kernel
theorem dX0_beginAnew_22 : decode cX0_beginAnew 22 = .ok (.getfield 15, 3) := by decide +kernel
theorem dX0_beginAnew_25 : decode cX0_beginAnew 25 = .ok (.iload_n 1, 1) := by decide +kernel
theorem dX0_beginAnew_26 : decode cX0_beginAnew 26 = .ok (.iconst 0, 1) := by decide +kernel
theorem dX0_beginAnew_27 : decode cX0_beginAnew 27 = .ok (.iastore, 1) := by decide +kernel
theorem dX0_beginAnew_28 : decode cX0_beginAnew 28 = .ok (.aload_n 0, 1) := by decide +kernel
theorem dX0_beginAnew_29 : decode cX0_beginAnew 29 = .ok (.getfield 18, 3) := by decide +kernel
theorem dX0_beginAnew_32 : decode cX0_beginAnew 32 = .ok (.iload_n 1, 1) := by decide +kernel
theorem dX0_beginAnew_33 : decode cX0_beginAnew 33 = .ok (.iconst 0, 1) := by decide +kernel
theorem dX0_beginAnew_34 : decode cX0_beginAnew 34 = .ok (.iastore, 1) := by decide +kernel
theorem dX0_beginAnew_35 : decode cX0_beginAnew 35 = .ok (.aload_n 0, 1) := by decide +kernel
theorem dX0_beginAnew_36 : decode cX0_beginAnew 36 = .ok (.getfield 21, 3) := by decide +kernel
theorem dX0_beginAnew_39 : decode cX0_beginAnew 39 = .ok (.iload_n 1, 1) := by decide +kernel
theorem dX0_beginAnew_40 : decode cX0_beginAnew 40 = .ok (.iconst 0, 1) := by decide +kernel
theorem dX0_beginAnew_41 : decode cX0_beginAnew 41 = .ok (.iastore, 1) := by decide +kernel
theorem dX0_beginAnew_42 : decode cX0_beginAnew 42 = .ok (.aload_n 0, 1) := by decide +kernel
theorem dX0_beginAnew_43 : decode cX0_beginAnew 43 = .ok (.getfield 24, 3) := by decide +kernel
theorem dX0_beginAnew_46 : decode cX0_beginAnew 46 = .ok (.iload_n 1, 1) := by decide +kernel
theorem dX0_beginAnew_47 : decode cX0_beginAnew 47 = .ok (.iconst 0, 1) := by decide +kernel
theorem dX0_beginAnew_48 : decode cX0_beginAnew 48 = .ok (.iastore, 1) := by decide +kernel
theorem dX0_beginAnew_49 : decode cX0_beginAnew 49 = .ok (.iinc 1 1, 3) := by decide +kernel
theorem dX0_beginAnew_52 : decode cX0_beginAnew 52 = .ok (.goto (-36), 3) := by decide +kernel
theorem dX0_beginAnew_55 : decode cX0_beginAnew 55 = .ok (.aload_n 0, 1) := by decide +kernel
theorem dX0_beginAnew_56 : decode cX0_beginAnew 56 = .ok (.getfield 32, 3) := by decide +kernel
theorem dX0_beginAnew_59 : decode cX0_beginAnew 59 = .ok (.iconst 0, 1) := by decide +kernel
theorem dX0_beginAnew_60 : decode cX0_beginAnew 60 = .ok (.invokevirtual 55, 3) := by decide +kernel
theorem dX0_beginAnew_63 : decode cX0_beginAnew 63 = .ok (.aload_n 0, 1) := by decide +kernel
theorem dX0_beginAnew_64 : decode cX0_beginAnew 64 = .ok (.iconst 0, 1) := by decide +kernel
theorem dX0_beginAnew_65 : decode cX0_beginAnew 65 = .ok (.putfield 58, 3) := by decide +kernel
theorem dX0_beginAnew_68 : decode cX0_beginAnew 68 = .ok (.return_, 1) := by decide +kernel
theorem dX0_becomeLike_0 : decode cX0_becomeLike 0 = .ok (.aload_n 1, 1) := by decide +kernel
theorem dX0_becomeLike_1 : decode cX0_becomeLike 1 = .ok (.getfield 9, 3) := by decide +kernel
theorem dX0_becomeLike_4 : decode cX0_becomeLike 4 = .ok (.iconst 0, 1) := by decide +kernel
theorem dX0_becomeLike_5 : decode cX0_becomeLike 5 = .ok (.aload_n 0, 1) := by decide +kernel
theorem dX0_becomeLike_6 : decode cX0_becomeLike 6 = .ok (.getfield 9, 3) := by decide +kernel
theorem dX0_becomeLike_9 : decode cX0_becomeLike 9 = .ok (.iconst 0, 1) := by decide +kernel
theorem dX0_becomeLike_10 : decode cX0_becomeLike 10 = .ok (.bipush 7, 2) := by decide +kernel
theorem dX0_becomeLike_12 : decode cX0_becomeLike 12 = .ok (.invokestatic 49, 3) := by decide +kernel
theorem dX0_becomeLike_15 : decode cX0_becomeLike 15 = .ok (.aload_n 1, 1) := by decide +kernel
theorem dX0_becomeLike_16 : decode cX0_becomeLike 16 = .ok (.getfield 15, 3) := by decide +kernel
theorem dX0_becomeLike_19 : decode cX0_becomeLike 19 = .ok (.iconst 0, 1) := by decide +kernel
theorem dX0_becomeLike_20 : decode cX0_becomeLike 20 = .ok (.aload_n 0, 1) := by decide +kernel
theorem dX0_becomeLike_21 : decode cX0_becomeLike 21 = .ok (.getfield 15, 3) := by decide +kernel
theorem dX0_becomeLike_24 : decode cX0_becomeLike 24 = .ok (.iconst 0, 1) := by decide +kernel
theorem dX0_becomeLike_25 : decode cX0_becomeLike 25 = .ok (.iconst 3, 1) := by decide +kernel
theorem dX0_becomeLike_26 : decode cX0_becomeLike 26 = .ok (.invokestatic 49, 3) := by decide +kernel
theorem dX0_becomeLike_29 : decode cX0_becomeLike 29 = .ok (.aload_n 1, 1) := by decide +kernel
theorem dX0_becomeLike_30 : decode cX0_becomeLike 30 = .ok (.getfield 18, 3) := by decide +kernel
theorem dX0_becomeLike_33 : decode cX0_becomeLike 33 = .ok (.iconst 0, 1) := by decide +kernel
theorem dX0_becomeLike_34 : decode cX0_becomeLike 34 = .ok (.aload_n 0, 1) := by decide +kernel
theorem dX0_becomeLike_35 : decode cX0_becomeLike 35 = .ok (.getfield 18, 3) := by decide +kernel
theorem dX0_becomeLike_38 : decode cX0_becomeLike 38 = .ok (.iconst 0, 1) := by decide +kernel
theorem dX0_becomeLike_39 : decode cX0_becomeLike 39 = .ok (.iconst 3, 1) := by decide +kernel
theorem dX0_becomeLike_40 : decode cX0_becomeLike 40 = .ok (.invokestatic 49, 3) := by decide +kernel
theorem dX0_becomeLike_43 : decode cX0_becomeLike 43 = .ok (.aload_n 1, 1) := by decide +kernel
theorem dX0_becomeLike_44 : decode cX0_becomeLike 44 = .ok (.getfield 21, 3) := by decide +kernel
theorem dX0_becomeLike_47 : decode cX0_becomeLike 47 = .ok (.iconst 0, 1) := by decide +kernel
theorem dX0_becomeLike_48 : decode cX0_becomeLike 48 = .ok (.aload_n 0, 1) := by decide +kernel
theorem dX0_becomeLike_49 : decode cX0_becomeLike 49 = .ok (.getfield 21, 3) := by decide +kernel
theorem dX0_becomeLike_52 : decode cX0_becomeLike 52 = .ok (.iconst 0, 1) := by decide +kernel
theorem dX0_becomeLike_53 : decode cX0_becomeLike 53 = .ok (.iconst 3, 1) := by decide +kernel
theorem dX0_becomeLike_54 : decode cX0_becomeLike 54 = .ok (.invokestatic 49, 3) := by decide +kernel
theorem dX0_becomeLike_57 : decode cX0_becomeLike 57 = .ok (.aload_n 1, 1) := by decide +kernel
theorem dX0_becomeLike_58 : decode cX0_becomeLike 58 = .ok (.getfield 24, 3) := by decide +kernel
theorem dX0_becomeLike_61 : decode cX0_becomeLike 61 = .ok (.iconst 0, 1) := by decide +kernel
theorem dX0_becomeLike_62 : decode cX0_becomeLike 62 = .ok (.aload_n 0, 1) := by decide +kernel
theorem dX0_becomeLike_63 : decode cX0_becomeLike 63 = .ok (.getfield 24, 3) := by decide +kernel
theorem dX0_becomeLike_66 : decode cX0_becomeLike 66 = .ok (.iconst 0, 1) := by decide +kernel
theorem dX0_becomeLike_67 : decode cX0_becomeLike 67 = .ok (.iconst 3, 1) := by decide +kernel
theorem dX0_becomeLike_68 : decode cX0_becomeLike 68 = .ok (.invokestatic 49, 3) := by decide +kernel
theorem dX0_becomeLike_71 : decode cX0_becomeLike 71 = .ok (.aload_n 0, 1) := by decide +kernel
theorem dX0_becomeLike_72 : decode cX0_becomeLike 72 = .ok (.getfield 32, 3) := by decide +kernel
theorem dX0_becomeLike_75 : decode cX0_becomeLike 75 = .ok (.iconst 0, 1) := by decide +kernel
theorem dX0_becomeLike_76 : decode cX0_becomeLike 76 = .ok (.invokevirtual 55, 3) := by decide +kernel
theorem dX0_becomeLike_79 : decode cX0_becomeLike 79 = .ok (.aload_n 0, 1) := by decide +kernel
theorem dX0_becomeLike_80 : decode cX0_becomeLike 80 = .ok (.getfield 32, 3) := by decide +kernel
theorem dX0_becomeLike_83 : decode cX0_becomeLike 83 = .ok (.aload_n 1, 1) := by decide +kernel
theorem dX0_becomeLike_84 : decode cX0_becomeLike 84 = .ok (.getfield 32, 3) := by decide +kernel
theorem dX0_becomeLike_87 : decode cX0_becomeLike 87 = .ok (.invokevirtual 62, 3) := by decide +kernel
theorem dX0_becomeLike_90 : decode cX0_becomeLike 90 = .ok (.aload_n 0, 1) := by decide +kernel
theorem dX0_becomeLike_91 : decode cX0_becomeLike 91 = .ok (.aload_n 1, 1) := by decide +kernel
theorem dX0_becomeLike_92 : decode cX0_becomeLike 92 = .ok (.getfield 58, 3) := by decide +kernel
theorem dX0_becomeLike_95 : decode cX0_becomeLike 95 = .ok (.putfield 58, 3) := by decide +kernel
theorem dX0_becomeLike_98 : decode cX0_becomeLike 98 = .ok (.return_, 1) := by decide +kernel
theorem dX0_makePlan_0 : decode cX0_makePlan 0 = .ok (.aload_n 0, 1) := by decide +kernel
theorem dX0_makePlan_1 : decode cX0_makePlan 1 = .ok (.getfield 39, 3) := by decide +kernel
theorem dX0_makePlan_4 : decode cX0_makePlan 4 = .ok (.aload_n 0, 1) := by decide +kernel
theorem dX0_makePlan_5 : decode cX0_makePlan 5 = .ok (.getfield 9, 3) := by decide +kernel
theorem dX0_makePlan_8 : decode cX0_makePlan 8 = .ok (.aload_n 0, 1) := by decide +kernel
theorem dX0_makePlan_9 : decode cX0_makePlan 9 = .ok (.getfield 15, 3) := by decide +kernel
theorem dX0_makePlan_12 : decode cX0_makePlan 12 = .ok (.aload_n 0, 1) := by decide +kernel
theorem dX0_makePlan_13 : decode cX0_makePlan 13 = .ok (.getfield 18, 3) := by decide +kernel
theorem dX0_makePlan_16 : decode cX0_makePlan 16 = .ok (.invokevirtual 66, 3) := by decide +kernel
theorem dX0_makePlan_19 : decode cX0_makePlan 19 = .ok (.return_, 1) := by decide +kernel
theorem dX0_stepOnce_0 : decode cX0_stepOnce 0 = .ok (.aload_n 0, 1) := by decide +kernel
theorem dX0_stepOnce_1 : decode cX0_stepOnce 1 = .ok (.invokevirtual 70, 3) := by decide +kernel
theorem dX0_stepOnce_4 : decode cX0_stepOnce 4 = .ok (.aload_n 0, 1) := by decide +kernel
theorem dX0_stepOnce_5 : decode cX0_stepOnce 5 = .ok (.getfield 9, 3) := by decide +kernel
theorem dX0_stepOnce_8 : decode cX0_stepOnce 8 = .ok (.bipush 6, 2) := by decide +kernel
theorem dX0_stepOnce_10 : decode cX0_stepOnce 10 = .ok (.iaload, 1) := by decide +kernel
theorem dX0_stepOnce_11 : decode cX0_stepOnce 11 = .ok (.iconst 1, 1) := by decide +kernel
theorem dX0_stepOnce_12 : decode cX0_stepOnce 12 = .ok (.if_icmp .ne 7, 3) := by decide +kernel
theorem dX0_stepOnce_15 : decode cX0_stepOnce 15 = .ok (.aload_n 0, 1) := by decide +kernel
theorem dX0_stepOnce_16 : decode cX0_stepOnce 16 = .ok (.invokevirtual 73, 3) := by decide +kernel
theorem dX0_stepOnce_19 : decode cX0_stepOnce 19 = .ok (.aload_n 0, 1) := by decide +kernel
theorem dX0_stepOnce_20 : decode cX0_stepOnce 20 = .ok (.invokevirtual 76, 3) := by decide +kernel
theorem dX0_stepOnce_23 : decode cX0_stepOnce 23 = .ok (.aload_n 0, 1) := by decide +kernel
theorem dX0_stepOnce_24 : decode cX0_stepOnce 24 = .ok (.invokevirtual 79, 3) := by decide +kernel
theorem dX0_stepOnce_27 : decode cX0_stepOnce 27 = .ok (.aload_n 0, 1) := by decide +kernel
theorem dX0_stepOnce_28 : decode cX0_stepOnce 28 = .ok (.dup, 1) := by decide +kernel
theorem dX0_stepOnce_29 : decode cX0_stepOnce 29 = .ok (.getfield 58, 3) := by decide +kernel
theorem dX0_stepOnce_32 : decode cX0_stepOnce 32 = .ok (.iconst 1, 1) := by decide +kernel
theorem dX0_stepOnce_33 : decode cX0_stepOnce 33 = .ok (.iadd, 1) := by decide +kernel
theorem dX0_stepOnce_34 : decode cX0_stepOnce 34 = .ok (.putfield 58, 3) := by decide +kernel
theorem dX0_stepOnce_37 : decode cX0_stepOnce 37 = .ok (.aload_n 0, 1) := by decide +kernel
theorem dX0_stepOnce_38 : decode cX0_stepOnce 38 = .ok (.getfield 39, 3) := by decide +kernel
theorem dX0_stepOnce_41 : decode cX0_stepOnce 41 = .ok (.getfield 82, 3) := by decide +kernel
theorem dX0_stepOnce_44 : decode cX0_stepOnce 44 = .ok (.ireturn, 1) := by decide +kernel
theorem dX0_takeWishesThatHaveCome_0 : decode cX0_takeWishesThatHaveCome 0 = .ok (.iconst 0, 1) := by decide +kernel
theorem dX0_takeWishesThatHaveCome_1 : decode cX0_takeWishesThatHaveCome 1 = .ok (.istore_n 1, 1) := by decide +kernel
theorem dX0_takeWishesThatHaveCome_2 : decode cX0_takeWishesThatHaveCome 2 = .ok (.iconst 0, 1) := by decide +kernel
theorem dX0_takeWishesThatHaveCome_3 : decode cX0_takeWishesThatHaveCome 3 = .ok (.istore_n 2, 1) := by decide +kernel
theorem dX0_takeWishesThatHaveCome_4 : decode cX0_takeWishesThatHaveCome 4 = .ok (.iload_n 2, 1) := by decide +kernel
theorem dX0_takeWishesThatHaveCome_5 : decode cX0_takeWishesThatHaveCome 5 = .ok (.aload_n 0, 1) := by decide +kernel
theorem dX0_takeWishesThatHaveCome_6 : decode cX0_takeWishesThatHaveCome 6 = .ok (.getfield 32, 3) := by decide +kernel
theorem dX0_takeWishesThatHaveCome_9 : decode cX0_takeWishesThatHaveCome 9 = .ok (.getfield 86, 3) := by decide +kernel
theorem dX0_takeWishesThatHaveCome_12 : decode cX0_takeWishesThatHaveCome 12 = .ok (.if_icmp .ge 65, 3) := by decide +kernel
theorem dX0_takeWishesThatHaveCome_15 : decode cX0_takeWishesThatHaveCome 15 = .ok (.aload_n 0, 1) := by decide +kernel
theorem dX0_takeWishesThatHaveCome_16 : decode cX0_takeWishesThatHaveCome 16 = .ok (.getfield 32, 3) := by decide +kernel
theorem dX0_takeWishesThatHaveCome_19 : decode cX0_takeWishesThatHaveCome 19 = .ok (.iconst 0, 1) := by decide +kernel
theorem dX0_takeWishesThatHaveCome_20 : decode cX0_takeWishesThatHaveCome 20 = .ok (.iload_n 2, 1) := by decide +kernel
theorem dX0_takeWishesThatHaveCome_21 : decode cX0_takeWishesThatHaveCome 21 = .ok (.iconst 1, 1) := by decide +kernel
theorem dX0_takeWishesThatHaveCome_22 : decode cX0_takeWishesThatHaveCome 22 = .ok (.invokevirtual 89, 3) := by decide +kernel
theorem dX0_takeWishesThatHaveCome_25 : decode cX0_takeWishesThatHaveCome 25 = .ok (.aload_n 0, 1) := by decide +kernel
theorem dX0_takeWishesThatHaveCome_26 : decode cX0_takeWishesThatHaveCome 26 = .ok (.getfield 58, 3) := by decide +kernel
theorem dX0_takeWishesThatHaveCome_29 : decode cX0_takeWishesThatHaveCome 29 = .ok (.if_icmp .le 18, 3) := by decide +kernel
theorem dX0_takeWishesThatHaveCome_32 : decode cX0_takeWishesThatHaveCome 32 = .ok (.aload_n 0, 1) := by decide +kernel
theorem dX0_takeWishesThatHaveCome_33 : decode cX0_takeWishesThatHaveCome 33 = .ok (.getfield 32, 3) := by decide +kernel
theorem dX0_takeWishesThatHaveCome_36 : decode cX0_takeWishesThatHaveCome 36 = .ok (.iload_n 2, 1) := by decide +kernel
theorem dX0_takeWishesThatHaveCome_37 : decode cX0_takeWishesThatHaveCome 37 = .ok (.iload_n 1, 1) := by decide +kernel
theorem dX0_takeWishesThatHaveCome_38 : decode cX0_takeWishesThatHaveCome 38 = .ok (.invokevirtual 93, 3) := by decide +kernel
theorem dX0_takeWishesThatHaveCome_41 : decode cX0_takeWishesThatHaveCome 41 = .ok (.iinc 1 1, 3) := by decide +kernel
theorem dX0_takeWishesThatHaveCome_44 : decode cX0_takeWishesThatHaveCome 44 = .ok (.goto 27, 3) := by decide +kernel
theorem dX0_takeWishesThatHaveCome_47 : decode cX0_takeWishesThatHaveCome 47 = .ok (.aload_n 0, 1) := by decide +kernel
theorem dX0_takeWishesThatHaveCome_48 : decode cX0_takeWishesThatHaveCome 48 = .ok (.aload_n 0, 1) := by decide +kernel
theorem dX0_takeWishesThatHaveCome_49 : decode cX0_takeWishesThatHaveCome 49 = .ok (.getfield 32, 3) := by decide +kernel
theorem dX0_takeWishesThatHaveCome_52 : decode cX0_takeWishesThatHaveCome 52 = .ok (.iconst (-1), 1) := by decide +kernel
theorem dX0_takeWishesThatHaveCome_53 : decode cX0_takeWishesThatHaveCome 53 = .ok (.iload_n 2, 1) := by decide +kernel
theorem dX0_takeWishesThatHaveCome_54 : decode cX0_takeWishesThatHaveCome 54 = .ok (.iconst 0, 1) := by decide +kernel
theorem dX0_takeWishesThatHaveCome_55 : decode cX0_takeWishesThatHaveCome 55 = .ok (.invokevirtual 89, 3) := by decide +kernel
theorem dX0_takeWishesThatHaveCome_58 : decode cX0_takeWishesThatHaveCome 58 = .ok (.aload_n 0, 1) := by decide +kernel
theorem dX0_takeWishesThatHaveCome_59 : decode cX0_takeWishesThatHaveCome 59 = .ok (.getfield 32, 3) := by decide +kernel
theorem dX0_takeWishesThatHaveCome_62 : decode cX0_takeWishesThatHaveCome 62 = .ok (.iconst 0, 1) := by decide +kernel
theorem dX0_takeWishesThatHaveCome_63 : decode cX0_takeWishesThatHaveCome 63 = .ok (.iload_n 2, 1) := by decide +kernel
theorem dX0_takeWishesThatHaveCome_64 : decode cX0_takeWishesThatHaveCome 64 = .ok (.iconst 2, 1) := by decide +kernel
theorem dX0_takeWishesThatHaveCome_65 : decode cX0_takeWishesThatHaveCome 65 = .ok (.invokevirtual 89, 3) := by decide +kernel
theorem dX0_takeWishesThatHaveCome_68 : decode cX0_takeWishesThatHaveCome 68 = .ok (.invokevirtual 97, 3) := by decide +kernel
theorem dX0_takeWishesThatHaveCome_71 : decode cX0_takeWishesThatHaveCome 71 = .ok (.iinc 2 1, 3) := by decide +kernel
theorem dX0_takeWishesThatHaveCome_74 : decode cX0_takeWishesThatHaveCome 74 = .ok (.goto (-70), 3) := by decide +kernel
theorem dX0_takeWishesThatHaveCome_77 : decode cX0_takeWishesThatHaveCome 77 = .ok (.aload_n 0, 1) := by decide +kernel
theorem dX0_takeWishesThatHaveCome_78 : decode cX0_takeWishesThatHaveCome 78 = .ok (.getfield 32, 3) := by decide +kernel
theorem dX0_takeWishesThatHaveCome_81 : decode cX0_takeWishesThatHaveCome 81 = .ok (.iload_n 1, 1) := by decide +kernel
theorem dX0_takeWishesThatHaveCome_82 : decode cX0_takeWishesThatHaveCome 82 = .ok (.invokevirtual 55, 3) := by decide +kernel
theorem dX0_takeWishesThatHaveCome_85 : decode cX0_takeWishesThatHaveCome 85 = .ok (.return_, 1) := by decide +kernel
theorem dX0_takeWant_0 : decode cX0_takeWant 0 = .ok (.iload_n 1, 1) := by decide +kernel
theorem dX0_takeWant_1 : decode cX0_takeWant 1 = .ok (.invokestatic 100, 3) := by decide +kernel
theorem dX0_takeWant_4 : decode cX0_takeWant 4 = .ok (.ifCond .eq 10, 3) := by decide +kernel
theorem dX0_takeWant_7 : decode cX0_takeWant 7 = .ok (.aload_n 0, 1) := by decide +kernel
theorem dX0_takeWant_8 : decode cX0_takeWant 8 = .ok (.getfield 21, 3) := by decide +kernel
theorem dX0_takeWant_11 : decode cX0_takeWant 11 = .ok (.iload_n 1, 1) := by decide +kernel
theorem dX0_takeWant_12 : decode cX0_takeWant 12 = .ok (.iload_n 2, 1) := by decide +kernel
theorem dX0_takeWant_13 : decode cX0_takeWant 13 = .ok (.iastore, 1) := by decide +kernel
theorem dX0_takeWant_14 : decode cX0_takeWant 14 = .ok (.return_, 1) := by decide +kernel
theorem dX0_steer_0 : decode cX0_steer 0 = .ok (.aload_n 0, 1) := by decide +kernel
theorem dX0_steer_1 : decode cX0_steer 1 = .ok (.getfield 15, 3) := by decide +kernel
theorem dX0_steer_4 : decode cX0_steer 4 = .ok (.invokestatic 104, 3) := by decide +kernel
theorem dX0_steer_7 : decode cX0_steer 7 = .ok (.aload_n 0, 1) := by decide +kernel
theorem dX0_steer_8 : decode cX0_steer 8 = .ok (.getfield 15, 3) := by decide +kernel
theorem dX0_steer_11 : decode cX0_steer 11 = .ok (.invokestatic 108, 3) := by decide +kernel
theorem dX0_steer_14 : decode cX0_steer 14 = .ok (.isub, 1) := by decide +kernel
theorem dX0_steer_15 : decode cX0_steer 15 = .ok (.aload_n 0, 1) := by decide +kernel
theorem dX0_steer_16 : decode cX0_steer 16 = .ok (.getfield 9, 3) := by decide +kernel
theorem dX0_steer_19 : decode cX0_steer 19 = .ok (.iconst 0, 1) := by decide +kernel
theorem dX0_steer_20 : decode cX0_steer 20 = .ok (.iaload, 1) := by decide +kernel
theorem dX0_steer_21 : decode cX0_steer 21 = .ok (.if_icmp .le 7, 3) := by decide +kernel
theorem dX0_steer_24 : decode cX0_steer 24 = .ok (.iconst 1, 1) := by decide +kernel
theorem dX0_steer_25 : decode cX0_steer 25 = .ok (.goto 4, 3) := by decide +kernel
theorem dX0_steer_28 : decode cX0_steer 28 = .ok (.iconst 0, 1) := by decide +kernel
theorem dX0_steer_29 : decode cX0_steer 29 = .ok (.istore_n 1, 1) := by decide +kernel
theorem dX0_steer_30 : decode cX0_steer 30 = .ok (.iconst 0, 1) := by decide +kernel
theorem dX0_steer_31 : decode cX0_steer 31 = .ok (.istore_n 2, 1) := by decide +kernel
theorem dX0_steer_32 : decode cX0_steer 32 = .ok (.iload_n 2, 1) := by decide +kernel
theorem dX0_steer_33 : decode cX0_steer 33 = .ok (.iconst 3, 1) := by decide +kernel
theorem dX0_steer_34 : decode cX0_steer 34 = .ok (.if_icmp .ge 135, 3) := by decide +kernel
theorem dX0_steer_37 : decode cX0_steer 37 = .ok (.aload_n 0, 1) := by decide +kernel
theorem dX0_steer_38 : decode cX0_steer 38 = .ok (.getfield 21, 3) := by decide +kernel
theorem dX0_steer_41 : decode cX0_steer 41 = .ok (.iload_n 2, 1) := by decide +kernel
theorem dX0_steer_42 : decode cX0_steer 42 = .ok (.iaload, 1) := by decide +kernel
theorem dX0_steer_43 : decode cX0_steer 43 = .ok (.aload_n 0, 1) := by decide +kernel
theorem dX0_steer_44 : decode cX0_steer 44 = .ok (.getfield 18, 3) := by decide +kernel
theorem dX0_steer_47 : decode cX0_steer 47 = .ok (.iload_n 2, 1) := by decide +kernel
theorem dX0_steer_48 : decode cX0_steer 48 = .ok (.iaload, 1) := by decide +kernel
theorem dX0_steer_49 : decode cX0_steer 49 = .ok (.isub, 1) := by decide +kernel
theorem dX0_steer_50 : decode cX0_steer 50 = .ok (.istore_n 3, 1) := by decide +kernel
theorem dX0_steer_51 : decode cX0_steer 51 = .ok (.iload_n 3, 1) := by decide +kernel
theorem dX0_steer_52 : decode cX0_steer 52 = .ok (.ifCond .le 12, 3) := by decide +kernel
theorem dX0_steer_55 : decode cX0_steer 55 = .ok (.aload_n 0, 1) := by decide +kernel
theorem dX0_steer_56 : decode cX0_steer 56 = .ok (.getfield 24, 3) := by decide +kernel
theorem dX0_steer_59 : decode cX0_steer 59 = .ok (.iload_n 2, 1) := by decide +kernel
theorem dX0_steer_60 : decode cX0_steer 60 = .ok (.iaload, 1) := by decide +kernel
theorem dX0_steer_61 : decode cX0_steer 61 = .ok (.ifCond .gt 16, 3) := by decide +kernel
theorem dX0_steer_64 : decode cX0_steer 64 = .ok (.iload_n 3, 1) := by decide +kernel
theorem dX0_steer_65 : decode cX0_steer 65 = .ok (.ifCond .ge 16, 3) := by decide +kernel
theorem dX0_steer_68 : decode cX0_steer 68 = .ok (.aload_n 0, 1) := by decide +kernel
theorem dX0_steer_69 : decode cX0_steer 69 = .ok (.getfield 24, 3) := by decide +kernel
theorem dX0_steer_72 : decode cX0_steer 72 = .ok (.iload_n 2, 1) := by decide +kernel
theorem dX0_steer_73 : decode cX0_steer 73 = .ok (.iaload, 1) := by decide +kernel
theorem dX0_steer_74 : decode cX0_steer 74 = .ok (.ifCond .ge 7, 3) := by decide +kernel
theorem dX0_steer_77 : decode cX0_steer 77 = .ok (.iconst 1, 1) := by decide +kernel
theorem dX0_steer_78 : decode cX0_steer 78 = .ok (.goto 4, 3) := by decide +kernel
theorem dX0_steer_81 : decode cX0_steer 81 = .ok (.iconst 0, 1) := by decide +kernel
theorem dX0_steer_82 : decode cX0_steer 82 = .ok (.istore 4, 2) := by decide +kernel
theorem dX0_steer_84 : decode cX0_steer 84 = .ok (.iload_n 1, 1) := by decide +kernel
theorem dX0_steer_85 : decode cX0_steer 85 = .ok (.ifCond .eq 8, 3) := by decide +kernel
theorem dX0_steer_88 : decode cX0_steer 88 = .ok (.iload 4, 2) := by decide +kernel
theorem dX0_steer_90 : decode cX0_steer 90 = .ok (.ifCond .ne 26, 3) := by decide +kernel
theorem dX0_steer_93 : decode cX0_steer 93 = .ok (.aload_n 0, 1) := by decide +kernel
theorem dX0_steer_94 : decode cX0_steer 94 = .ok (.getfield 24, 3) := by decide +kernel
theorem dX0_steer_97 : decode cX0_steer 97 = .ok (.iload_n 2, 1) := by decide +kernel
theorem dX0_steer_98 : decode cX0_steer 98 = .ok (.aload_n 0, 1) := by decide +kernel
theorem dX0_steer_99 : decode cX0_steer 99 = .ok (.getfield 24, 3) := by decide +kernel
theorem dX0_steer_102 : decode cX0_steer 102 = .ok (.iload_n 2, 1) := by decide +kernel
theorem dX0_steer_103 : decode cX0_steer 103 = .ok (.iaload, 1) := by decide +kernel
theorem dX0_steer_104 : decode cX0_steer 104 = .ok (.iload_n 3, 1) := by decide +kernel
theorem dX0_steer_105 : decode cX0_steer 105 = .ok (.iadd, 1) := by decide +kernel
theorem dX0_steer_106 : decode cX0_steer 106 = .ok (.sipush (-5000), 3) := by decide +kernel
theorem dX0_steer_109 : decode cX0_steer 109 = .ok (.sipush 5000, 3) := by decide +kernel
theorem dX0_steer_112 : decode cX0_steer 112 = .ok (.invokestatic 111, 3) := by decide +kernel
theorem dX0_steer_115 : decode cX0_steer 115 = .ok (.iastore, 1) := by decide +kernel
theorem dX0_steer_116 : decode cX0_steer 116 = .ok (.iload_n 3, 1) := by decide +kernel
theorem dX0_steer_117 : decode cX0_steer 117 = .ok (.aload_n 0, 1) := by decide +kernel
theorem dX0_steer_118 : decode cX0_steer 118 = .ok (.getfield 9, 3) := by decide +kernel
theorem dX0_steer_121 : decode cX0_steer 121 = .ok (.iconst 4, 1) := by decide +kernel
theorem dX0_steer_122 : decode cX0_steer 122 = .ok (.iaload, 1) := by decide +kernel
theorem dX0_steer_123 : decode cX0_steer 123 = .ok (.imul, 1) := by decide +kernel
theorem dX0_steer_124 : decode cX0_steer 124 = .ok (.bipush 16, 2) := by decide +kernel
theorem dX0_steer_126 : decode cX0_steer 126 = .ok (.idiv, 1) := by decide +kernel
theorem dX0_steer_127 : decode cX0_steer 127 = .ok (.aload_n 0, 1) := by decide +kernel
theorem dX0_steer_128 : decode cX0_steer 128 = .ok (.getfield 24, 3) := by decide +kernel
theorem dX0_steer_131 : decode cX0_steer 131 = .ok (.iload_n 2, 1) := by decide +kernel
theorem dX0_steer_132 : decode cX0_steer 132 = .ok (.iaload, 1) := by decide +kernel
theorem dX0_steer_133 : decode cX0_steer 133 = .ok (.aload_n 0, 1) := by decide +kernel
theorem dX0_steer_134 : decode cX0_steer 134 = .ok (.getfield 9, 3) := by decide +kernel
theorem dX0_steer_137 : decode cX0_steer 137 = .ok (.iconst 5, 1) := by decide +kernel
theorem dX0_steer_138 : decode cX0_steer 138 = .ok (.iaload, 1) := by decide +kernel
theorem dX0_steer_139 : decode cX0_steer 139 = .ok (.imul, 1) := by decide +kernel
theorem dX0_steer_140 : decode cX0_steer 140 = .ok (.bipush 64, 2) := by decide +kernel
theorem dX0_steer_142 : decode cX0_steer 142 = .ok (.idiv, 1) := by decide +kernel
theorem dX0_steer_143 : decode cX0_steer 143 = .ok (.iadd, 1) := by decide +kernel
theorem dX0_steer_144 : decode cX0_steer 144 = .ok (.istore 5, 2) := by decide +kernel
theorem dX0_steer_146 : decode cX0_steer 146 = .ok (.aload_n 0, 1) := by decide +kernel
theorem dX0_steer_147 : decode cX0_steer 147 = .ok (.getfield 15, 3) := by decide +kernel
theorem dX0_steer_150 : decode cX0_steer 150 = .ok (.iload_n 2, 1) := by decide +kernel
theorem dX0_steer_151 : decode cX0_steer 151 = .ok (.iload 5, 2) := by decide +kernel
theorem dX0_steer_153 : decode cX0_steer 153 = .ok (.sipush (-200), 3) := by decide +kernel
theorem dX0_steer_156 : decode cX0_steer 156 = .ok (.sipush 200, 3) := by decide +kernel
theorem dX0_steer_159 : decode cX0_steer 159 = .ok (.invokestatic 111, 3) := by decide +kernel
theorem dX0_steer_162 : decode cX0_steer 162 = .ok (.iastore, 1) := by decide +kernel
theorem dX0_steer_163 : decode cX0_steer 163 = .ok (.iinc 2 1, 3) := by decide +kernel
theorem dX0_steer_166 : decode cX0_steer 166 = .ok (.goto (-134), 3) := by decide +kernel
theorem dX0_steer_169 : decode cX0_steer 169 = .ok (.return_, 1) := by decide +kernel
theorem dX0_moveCurrents_0 : decode cX0_moveCurrents 0 = .ok (.aload_n 0, 1) := by decide +kernel
theorem dX0_moveCurrents_1 : decode cX0_moveCurrents 1 = .ok (.getfield 39, 3) := by decide +kernel
theorem dX0_moveCurrents_4 : decode cX0_moveCurrents 4 = .ok (.iconst 0, 1) := by decide +kernel
theorem dX0_moveCurrents_5 : decode cX0_moveCurrents 5 = .ok (.invokevirtual 114, 3) := by decide +kernel
theorem dX0_moveCurrents_8 : decode cX0_moveCurrents 8 = .ok (.aload_n 0, 1) := by decide +kernel
theorem dX0_moveCurrents_9 : decode cX0_moveCurrents 9 = .ok (.getfield 39, 3) := by decide +kernel
theorem dX0_moveCurrents_12 : decode cX0_moveCurrents 12 = .ok (.iconst 1, 1) := by decide +kernel
theorem dX0_moveCurrents_13 : decode cX0_moveCurrents 13 = .ok (.invokevirtual 114, 3) := by decide +kernel
theorem dX0_moveCurrents_16 : decode cX0_moveCurrents 16 = .ok (.iadd, 1) := by decide +kernel
theorem dX0_moveCurrents_17 : decode cX0_moveCurrents 17 = .ok (.aload_n 0, 1) := by decide +kernel
theorem dX0_moveCurrents_18 : decode cX0_moveCurrents 18 = .ok (.getfield 39, 3) := by decide +kernel
theorem dX0_moveCurrents_21 : decode cX0_moveCurrents 21 = .ok (.iconst 2, 1) := by decide +kernel
theorem dX0_moveCurrents_22 : decode cX0_moveCurrents 22 = .ok (.invokevirtual 114, 3) := by decide +kernel
theorem dX0_moveCurrents_25 : decode cX0_moveCurrents 25 = .ok (.iadd, 1) := by decide +kernel
theorem dX0_moveCurrents_26 : decode cX0_moveCurrents 26 = .ok (.istore_n 1, 1) := by decide +kernel
theorem dX0_moveCurrents_27 : decode cX0_moveCurrents 27 = .ok (.iconst 0, 1) := by decide +kernel
theorem dX0_moveCurrents_28 : decode cX0_moveCurrents 28 = .ok (.istore_n 2, 1) := by decide +kernel
theorem dX0_moveCurrents_29 : decode cX0_moveCurrents 29 = .ok (.iload_n 2, 1) := by decide +kernel
theorem dX0_moveCurrents_30 : decode cX0_moveCurrents 30 = .ok (.iconst 3, 1) := by decide +kernel
theorem dX0_moveCurrents_31 : decode cX0_moveCurrents 31 = .ok (.if_icmp .ge 53, 3) := by decide +kernel
theorem dX0_moveCurrents_34 : decode cX0_moveCurrents 34 = .ok (.aload_n 0, 1) := by decide +kernel
theorem dX0_moveCurrents_35 : decode cX0_moveCurrents 35 = .ok (.getfield 18, 3) := by decide +kernel
theorem dX0_moveCurrents_38 : decode cX0_moveCurrents 38 = .ok (.iload_n 2, 1) := by decide +kernel
theorem dX0_moveCurrents_39 : decode cX0_moveCurrents 39 = .ok (.iaload, 1) := by decide +kernel
theorem dX0_moveCurrents_40 : decode cX0_moveCurrents 40 = .ok (.iconst 3, 1) := by decide +kernel
theorem dX0_moveCurrents_41 : decode cX0_moveCurrents 41 = .ok (.aload_n 0, 1) := by decide +kernel
theorem dX0_moveCurrents_42 : decode cX0_moveCurrents 42 = .ok (.getfield 39, 3) := by decide +kernel
theorem dX0_moveCurrents_45 : decode cX0_moveCurrents 45 = .ok (.iload_n 2, 1) := by decide +kernel
theorem dX0_moveCurrents_46 : decode cX0_moveCurrents 46 = .ok (.invokevirtual 114, 3) := by decide +kernel
theorem dX0_moveCurrents_49 : decode cX0_moveCurrents 49 = .ok (.imul, 1) := by decide +kernel
theorem dX0_moveCurrents_50 : decode cX0_moveCurrents 50 = .ok (.iload_n 1, 1) := by decide +kernel
theorem dX0_moveCurrents_51 : decode cX0_moveCurrents 51 = .ok (.isub, 1) := by decide +kernel
theorem dX0_moveCurrents_52 : decode cX0_moveCurrents 52 = .ok (.bipush 6, 2) := by decide +kernel
theorem dX0_moveCurrents_54 : decode cX0_moveCurrents 54 = .ok (.idiv, 1) := by decide +kernel
theorem dX0_moveCurrents_55 : decode cX0_moveCurrents 55 = .ok (.iadd, 1) := by decide +kernel
theorem dX0_moveCurrents_56 : decode cX0_moveCurrents 56 = .ok (.istore_n 3, 1) := by decide +kernel
theorem dX0_moveCurrents_57 : decode cX0_moveCurrents 57 = .ok (.aload_n 0, 1) := by decide +kernel
theorem dX0_moveCurrents_58 : decode cX0_moveCurrents 58 = .ok (.getfield 18, 3) := by decide +kernel
theorem dX0_moveCurrents_61 : decode cX0_moveCurrents 61 = .ok (.iload_n 2, 1) := by decide +kernel
theorem dX0_moveCurrents_62 : decode cX0_moveCurrents 62 = .ok (.iload_n 3, 1) := by decide +kernel
theorem dX0_moveCurrents_63 : decode cX0_moveCurrents 63 = .ok (.iload_n 3, 1) := by decide +kernel
theorem dX0_moveCurrents_64 : decode cX0_moveCurrents 64 = .ok (.bipush 8, 2) := by decide +kernel
theorem dX0_moveCurrents_66 : decode cX0_moveCurrents 66 = .ok (.idiv, 1) := by decide +kernel
theorem dX0_moveCurrents_67 : decode cX0_moveCurrents 67 = .ok (.isub, 1) := by decide +kernel
theorem dX0_moveCurrents_68 : decode cX0_moveCurrents 68 = .ok (.sipush (-999), 3) := by decide +kernel
theorem dX0_moveCurrents_71 : decode cX0_moveCurrents 71 = .ok (.sipush 999, 3) := by decide +kernel
theorem dX0_moveCurrents_74 : decode cX0_moveCurrents 74 = .ok (.invokestatic 111, 3) := by decide +kernel
theorem dX0_moveCurrents_77 : decode cX0_moveCurrents 77 = .ok (.iastore, 1) := by decide +kernel
theorem dX0_moveCurrents_78 : decode cX0_moveCurrents 78 = .ok (.iinc 2 1, 3) := by decide +kernel
theorem dX0_moveCurrents_81 : decode cX0_moveCurrents 81 = .ok (.goto (-52), 3) := by decide +kernel
theorem dX0_moveCurrents_84 : decode cX0_moveCurrents 84 = .ok (.return_, 1) := by decide +kernel
theorem dX0_dropWishesOf_0 : decode cX0_dropWishesOf 0 = .ok (.iconst 0, 1) := by decide +kernel
theorem dX0_dropWishesOf_1 : decode cX0_dropWishesOf 1 = .ok (.istore_n 2, 1) := by decide +kernel
theorem dX0_dropWishesOf_2 : decode cX0_dropWishesOf 2 = .ok (.aload_n 0, 1) := by decide +kernel
theorem dX0_dropWishesOf_3 : decode cX0_dropWishesOf 3 = .ok (.getfield 32, 3) := by decide +kernel
theorem dX0_dropWishesOf_6 : decode cX0_dropWishesOf 6 = .ok (.getfield 86, 3) := by decide +kernel
theorem dX0_dropWishesOf_9 : decode cX0_dropWishesOf 9 = .ok (.istore_n 3, 1) := by decide +kernel
theorem dX0_dropWishesOf_10 : decode cX0_dropWishesOf 10 = .ok (.iconst 0, 1) := by decide +kernel
theorem dX0_dropWishesOf_11 : decode cX0_dropWishesOf 11 = .ok (.istore 4, 2) := by decide +kernel
theorem dX0_dropWishesOf_13 : decode cX0_dropWishesOf 13 = .ok (.iload 4, 2) := by decide +kernel
theorem dX0_dropWishesOf_15 : decode cX0_dropWishesOf 15 = .ok (.iload_n 3, 1) := by decide +kernel
theorem dX0_dropWishesOf_16 : decode cX0_dropWishesOf 16 = .ok (.if_icmp .ge 37, 3) := by decide +kernel
theorem dX0_dropWishesOf_19 : decode cX0_dropWishesOf 19 = .ok (.aload_n 0, 1) := by decide +kernel
theorem dX0_dropWishesOf_20 : decode cX0_dropWishesOf 20 = .ok (.getfield 32, 3) := by decide +kernel
theorem dX0_dropWishesOf_23 : decode cX0_dropWishesOf 23 = .ok (.iconst (-1), 1) := by decide +kernel
theorem dX0_dropWishesOf_24 : decode cX0_dropWishesOf 24 = .ok (.iload 4, 2) := by decide +kernel
theorem dX0_dropWishesOf_26 : decode cX0_dropWishesOf 26 = .ok (.iconst 0, 1) := by decide +kernel
theorem dX0_dropWishesOf_27 : decode cX0_dropWishesOf 27 = .ok (.invokevirtual 89, 3) := by decide +kernel
theorem dX0_dropWishesOf_30 : decode cX0_dropWishesOf 30 = .ok (.iload_n 1, 1) := by decide +kernel
theorem dX0_dropWishesOf_31 : decode cX0_dropWishesOf 31 = .ok (.if_icmp .eq 16, 3) := by decide +kernel
theorem dX0_dropWishesOf_34 : decode cX0_dropWishesOf 34 = .ok (.aload_n 0, 1) := by decide +kernel
theorem dX0_dropWishesOf_35 : decode cX0_dropWishesOf 35 = .ok (.getfield 32, 3) := by decide +kernel
theorem dX0_dropWishesOf_38 : decode cX0_dropWishesOf 38 = .ok (.iload 4, 2) := by decide +kernel
theorem dX0_dropWishesOf_40 : decode cX0_dropWishesOf 40 = .ok (.iload_n 2, 1) := by decide +kernel
theorem dX0_dropWishesOf_41 : decode cX0_dropWishesOf 41 = .ok (.invokevirtual 93, 3) := by decide +kernel
theorem dX0_dropWishesOf_44 : decode cX0_dropWishesOf 44 = .ok (.iinc 2 1, 3) := by decide +kernel
theorem dX0_dropWishesOf_47 : decode cX0_dropWishesOf 47 = .ok (.iinc 4 1, 3) := by decide +kernel
theorem dX0_dropWishesOf_50 : decode cX0_dropWishesOf 50 = .ok (.goto (-37), 3) := by decide +kernel
theorem dX0_dropWishesOf_53 : decode cX0_dropWishesOf 53 = .ok (.aload_n 0, 1) := by decide +kernel
theorem dX0_dropWishesOf_54 : decode cX0_dropWishesOf 54 = .ok (.getfield 32, 3) := by decide +kernel
theorem dX0_dropWishesOf_57 : decode cX0_dropWishesOf 57 = .ok (.iload_n 2, 1) := by decide +kernel
theorem dX0_dropWishesOf_58 : decode cX0_dropWishesOf 58 = .ok (.invokevirtual 55, 3) := by decide +kernel
theorem dX0_dropWishesOf_61 : decode cX0_dropWishesOf 61 = .ok (.iload_n 3, 1) := by decide +kernel
theorem dX0_dropWishesOf_62 : decode cX0_dropWishesOf 62 = .ok (.iload_n 2, 1) := by decide +kernel
theorem dX0_dropWishesOf_63 : decode cX0_dropWishesOf 63 = .ok (.isub, 1) := by decide +kernel
theorem dX0_dropWishesOf_64 : decode cX0_dropWishesOf 64 = .ok (.ireturn, 1) := by decide +kernel
theorem dX0_isSettled_0 : decode cX0_isSettled 0 = .ok (.iconst 0, 1) := by decide +kernel
theorem dX0_isSettled_1 : decode cX0_isSettled 1 = .ok (.istore_n 2, 1) := by decide +kernel
theorem dX0_isSettled_2 : decode cX0_isSettled 2 = .ok (.iload_n 2, 1) := by decide +kernel
theorem dX0_isSettled_3 : decode cX0_isSettled 3 = .ok (.iconst 3, 1) := by decide +kernel
theorem dX0_isSettled_4 : decode cX0_isSettled 4 = .ok (.if_icmp .ge 31, 3) := by decide +kernel
theorem dX0_isSettled_7 : decode cX0_isSettled 7 = .ok (.aload_n 0, 1) := by decide +kernel
theorem dX0_isSettled_8 : decode cX0_isSettled 8 = .ok (.getfield 18, 3) := by decide +kernel
theorem dX0_isSettled_11 : decode cX0_isSettled 11 = .ok (.iload_n 2, 1) := by decide +kernel
theorem dX0_isSettled_12 : decode cX0_isSettled 12 = .ok (.iaload, 1) := by decide +kernel
theorem dX0_isSettled_13 : decode cX0_isSettled 13 = .ok (.aload_n 0, 1) := by decide +kernel
theorem dX0_isSettled_14 : decode cX0_isSettled 14 = .ok (.getfield 21, 3) := by decide +kernel
theorem dX0_isSettled_17 : decode cX0_isSettled 17 = .ok (.iload_n 2, 1) := by decide +kernel
theorem dX0_isSettled_18 : decode cX0_isSettled 18 = .ok (.iaload, 1) := by decide +kernel
theorem dX0_isSettled_19 : decode cX0_isSettled 19 = .ok (.isub, 1) := by decide +kernel
theorem dX0_isSettled_20 : decode cX0_isSettled 20 = .ok (.invokestatic 118, 3) := by decide +kernel
theorem dX0_isSettled_23 : decode cX0_isSettled 23 = .ok (.iload_n 1, 1) := by decide +kernel
theorem dX0_isSettled_24 : decode cX0_isSettled 24 = .ok (.if_icmp .le 5, 3) := by decide +kernel
theorem dX0_isSettled_27 : decode cX0_isSettled 27 = .ok (.iconst 0, 1) := by decide +kernel
theorem dX0_isSettled_28 : decode cX0_isSettled 28 = .ok (.ireturn, 1) := by decide +kernel
theorem dX0_isSettled_29 : decode cX0_isSettled 29 = .ok (.iinc 2 1, 3) := by decide +kernel
theorem dX0_isSettled_32 : decode cX0_isSettled 32 = .ok (.goto (-30), 3) := by decide +kernel
theorem dX0_isSettled_35 : decode cX0_isSettled 35 = .ok (.aload_n 0, 1) := by decide +kernel
theorem dX0_isSettled_36 : decode cX0_isSettled 36 = .ok (.getfield 32, 3) := by decide +kernel
theorem dX0_isSettled_39 : decode cX0_isSettled 39 = .ok (.getfield 86, 3) := by decide +kernel
theorem dX0_isSettled_42 : decode cX0_isSettled 42 = .ok (.ifCond .ne 7, 3) := by decide +kernel
theorem dX0_isSettled_45 : decode cX0_isSettled 45 = .ok (.iconst 1, 1) := by decide +kernel
theorem dX0_isSettled_46 : decode cX0_isSettled 46 = .ok (.goto 4, 3) := by decide +kernel
theorem dX0_isSettled_49 : decode cX0_isSettled 49 = .ok (.iconst 0, 1) := by decide +kernel
theorem dX0_isSettled_50 : decode cX0_isSettled 50 = .ok (.ireturn, 1) := by decide +kernel
theorem dX1_init_0 : decode cX1_init 0 = .ok (.aload_n 0, 1) := by decide +kernel
theorem dX1_init_1 : decode cX1_init 1 = .ok (.invokespecial 3, 3) := by decide +kernel
theorem dX1_init_4 : decode cX1_init 4 = .ok (.aload_n 0, 1) := by decide +kernel
theorem dX1_init_5 : decode cX1_init 5 = .ok (.iconst 3, 1) := by decide +kernel
theorem dX1_init_6 : decode cX1_init 6 = .ok (.newarray .int, 2) := by decide +kernel
theorem dX1_init_8 : decode cX1_init 8 = .ok (.putfield 9, 3) := by decide +kernel
theorem dX1_init_11 : decode cX1_init 11 = .ok (.aload_n 0, 1) := by decide +kernel
theorem dX1_init_12 : decode cX1_init 12 = .ok (.iconst 3, 1) := by decide +kernel
theorem dX1_init_13 : decode cX1_init 13 = .ok (.newarray .int, 2) := by decide +kernel
theorem dX1_init_15 : decode cX1_init 15 = .ok (.putfield 15, 3) := by decide +kernel
theorem dX1_init_18 : decode cX1_init 18 = .ok (.aload_n 0, 1) := by decide +kernel
theorem dX1_init_19 : decode cX1_init 19 = .ok (.iconst 3, 1) := by decide +kernel
theorem dX1_init_20 : decode cX1_init 20 = .ok (.newarray .int, 2) := by decide +kernel
theorem dX1_init_22 : decode cX1_init 22 = .ok (.putfield 18, 3) := by decide +kernel
theorem dX1_init_25 : decode cX1_init 25 = .ok (.aload_n 0, 1) := by decide +kernel
theorem dX1_init_26 : decode cX1_init 26 = .ok (.iconst 3, 1) := by decide +kernel
theorem dX1_init_27 : decode cX1_init 27 = .ok (.newarray .int, 2) := by decide +kernel
theorem dX1_init_29 : decode cX1_init 29 = .ok (.putfield 21, 3) := by decide +kernel
theorem dX1_init_32 : decode cX1_init 32 = .ok (.return_, 1) := by decide +kernel
theorem dX1_make_0 : decode cX1_make 0 = .ok (.aload_n 0, 1) := by decide +kernel
theorem dX1_make_1 : decode cX1_make 1 = .ok (.aload_n 1, 1) := by decide +kernel
theorem dX1_make_2 : decode cX1_make 2 = .ok (.iconst 0, 1) := by decide +kernel
theorem dX1_make_3 : decode cX1_make 3 = .ok (.iaload, 1) := by decide +kernel
theorem dX1_make_4 : decode cX1_make 4 = .ok (.putfield 24, 3) := by decide +kernel
theorem dX1_make_7 : decode cX1_make 7 = .ok (.aload_n 0, 1) := by decide +kernel
theorem dX1_make_8 : decode cX1_make 8 = .ok (.aload_n 1, 1) := by decide +kernel
theorem dX1_make_9 : decode cX1_make 9 = .ok (.iconst 1, 1) := by decide +kernel
theorem dX1_make_10 : decode cX1_make 10 = .ok (.iaload, 1) := by decide +kernel
theorem dX1_make_11 : decode cX1_make 11 = .ok (.putfield 28, 3) := by decide +kernel
theorem dX1_make_14 : decode cX1_make 14 = .ok (.aload_n 0, 1) := by decide +kernel
theorem dX1_make_15 : decode cX1_make 15 = .ok (.aload_n 1, 1) := by decide +kernel
theorem dX1_make_16 : decode cX1_make 16 = .ok (.iconst 2, 1) := by decide +kernel
theorem dX1_make_17 : decode cX1_make 17 = .ok (.iaload, 1) := by decide +kernel
theorem dX1_make_18 : decode cX1_make 18 = .ok (.iconst 1, 1) := by decide +kernel
theorem dX1_make_19 : decode cX1_make 19 = .ok (.if_icmp .ne 7, 3) := by decide +kernel
theorem dX1_make_22 : decode cX1_make 22 = .ok (.iconst 1, 1) := by decide +kernel
theorem dX1_make_23 : decode cX1_make 23 = .ok (.goto 4, 3) := by decide +kernel
theorem dX1_make_26 : decode cX1_make 26 = .ok (.iconst 0, 1) := by decide +kernel
theorem dX1_make_27 : decode cX1_make 27 = .ok (.putfield 31, 3) := by decide +kernel
theorem dX1_make_30 : decode cX1_make 30 = .ok (.aload_n 2, 1) := by decide +kernel
theorem dX1_make_31 : decode cX1_make 31 = .ok (.invokestatic 35, 3) := by decide +kernel
theorem dX1_make_34 : decode cX1_make 34 = .ok (.istore 4, 2) := by decide +kernel
theorem dX1_make_36 : decode cX1_make 36 = .ok (.aload_n 2, 1) := by decide +kernel
theorem dX1_make_37 : decode cX1_make 37 = .ok (.invokestatic 39, 3) := by decide +kernel
theorem dX1_make_40 : decode cX1_make 40 = .ok (.istore 5, 2) := by decide +kernel
theorem dX1_make_42 : decode cX1_make 42 = .ok (.aload_n 0, 1) := by decide +kernel
theorem dX1_make_43 : decode cX1_make 43 = .ok (.iload 4, 2) := by decide +kernel
theorem dX1_make_45 : decode cX1_make 45 = .ok (.iload 5, 2) := by decide +kernel
theorem dX1_make_47 : decode cX1_make 47 = .ok (.isub, 1) := by decide +kernel
theorem dX1_make_48 : decode cX1_make 48 = .ok (.putfield 42, 3) := by decide +kernel
theorem dX1_make_51 : decode cX1_make 51 = .ok (.aload_n 0, 1) := by decide +kernel
theorem dX1_make_52 : decode cX1_make 52 = .ok (.aload_n 0, 1) := by decide +kernel
theorem dX1_make_53 : decode cX1_make 53 = .ok (.getfield 42, 3) := by decide +kernel
theorem dX1_make_56 : decode cX1_make 56 = .ok (.aload_n 0, 1) := by decide +kernel
theorem dX1_make_57 : decode cX1_make 57 = .ok (.getfield 24, 3) := by decide +kernel
theorem dX1_make_60 : decode cX1_make 60 = .ok (.if_icmp .le 7, 3) := by decide +kernel
theorem dX1_make_63 : decode cX1_make 63 = .ok (.iconst 1, 1) := by decide +kernel
theorem dX1_make_64 : decode cX1_make 64 = .ok (.goto 4, 3) := by decide +kernel
theorem dX1_make_67 : decode cX1_make 67 = .ok (.iconst 0, 1) := by decide +kernel
theorem dX1_make_68 : decode cX1_make 68 = .ok (.putfield 45, 3) := by decide +kernel
theorem dX1_make_71 : decode cX1_make 71 = .ok (.aload_n 0, 1) := by decide +kernel
theorem dX1_make_72 : decode cX1_make 72 = .ok (.iload 4, 2) := by decide +kernel
theorem dX1_make_74 : decode cX1_make 74 = .ok (.invokevirtual 48, 3) := by decide +kernel
theorem dX1_make_77 : decode cX1_make 77 = .ok (.aload_n 0, 1) := by decide +kernel
theorem dX1_make_78 : decode cX1_make 78 = .ok (.iload 5, 2) := by decide +kernel
theorem dX1_make_80 : decode cX1_make 80 = .ok (.invokevirtual 48, 3) := by decide +kernel
theorem dX1_make_83 : decode cX1_make 83 = .ok (.iadd, 1) := by decide +kernel
theorem dX1_make_84 : decode cX1_make 84 = .ok (.istore 6, 2) := by decide +kernel
theorem dX1_make_86 : decode cX1_make 86 = .ok (.iconst 0, 1) := by decide +kernel
theorem dX1_make_87 : decode cX1_make 87 = .ok (.istore 7, 2) := by decide +kernel
theorem dX1_make_89 : decode cX1_make 89 = .ok (.iload 7, 2) := by decide +kernel
theorem dX1_make_91 : decode cX1_make 91 = .ok (.iconst 3, 1) := by decide +kernel
theorem dX1_make_92 : decode cX1_make 92 = .ok (.if_icmp .ge 97, 3) := by decide +kernel
theorem dX1_make_95 : decode cX1_make 95 = .ok (.aload_n 0, 1) := by decide +kernel
theorem dX1_make_96 : decode cX1_make 96 = .ok (.getfield 21, 3) := by decide +kernel
theorem dX1_make_99 : decode cX1_make 99 = .ok (.iload 7, 2) := by decide +kernel
theorem dX1_make_101 : decode cX1_make 101 = .ok (.aload_n 3, 1) := by decide +kernel
theorem dX1_make_102 : decode cX1_make 102 = .ok (.iload 7, 2) := by decide +kernel
theorem dX1_make_104 : decode cX1_make 104 = .ok (.iaload, 1) := by decide +kernel
theorem dX1_make_105 : decode cX1_make 105 = .ok (.iastore, 1) := by decide +kernel
theorem dX1_make_106 : decode cX1_make 106 = .ok (.aload_n 0, 1) := by decide +kernel
theorem dX1_make_107 : decode cX1_make 107 = .ok (.getfield 24, 3) := by decide +kernel
theorem dX1_make_110 : decode cX1_make 110 = .ok (.iconst 2, 1) := by decide +kernel
theorem dX1_make_111 : decode cX1_make 111 = .ok (.aload_n 0, 1) := by decide +kernel
theorem dX1_make_112 : decode cX1_make 112 = .ok (.aload_n 2, 1) := by decide +kernel
theorem dX1_make_113 : decode cX1_make 113 = .ok (.iload 7, 2) := by decide +kernel
theorem dX1_make_115 : decode cX1_make 115 = .ok (.iaload, 1) := by decide +kernel
theorem dX1_make_116 : decode cX1_make 116 = .ok (.invokevirtual 48, 3) := by decide +kernel
theorem dX1_make_119 : decode cX1_make 119 = .ok (.imul, 1) := by decide +kernel
theorem dX1_make_120 : decode cX1_make 120 = .ok (.iadd, 1) := by decide +kernel
theorem dX1_make_121 : decode cX1_make 121 = .ok (.iload 6, 2) := by decide +kernel
theorem dX1_make_123 : decode cX1_make 123 = .ok (.isub, 1) := by decide +kernel
theorem dX1_make_124 : decode cX1_make 124 = .ok (.iconst 2, 1) := by decide +kernel
theorem dX1_make_125 : decode cX1_make 125 = .ok (.idiv, 1) := by decide +kernel
theorem dX1_make_126 : decode cX1_make 126 = .ok (.istore 8, 2) := by decide +kernel
theorem dX1_make_128 : decode cX1_make 128 = .ok (.aload_n 0, 1) := by decide +kernel
theorem dX1_make_129 : decode cX1_make 129 = .ok (.getfield 9, 3) := by decide +kernel
theorem dX1_make_132 : decode cX1_make 132 = .ok (.iload 7, 2) := by decide +kernel
theorem dX1_make_134 : decode cX1_make 134 = .ok (.iload 8, 2) := by decide +kernel
theorem dX1_make_136 : decode cX1_make 136 = .ok (.iconst 0, 1) := by decide +kernel
theorem dX1_make_137 : decode cX1_make 137 = .ok (.aload_n 0, 1) := by decide +kernel
theorem dX1_make_138 : decode cX1_make 138 = .ok (.getfield 24, 3) := by decide +kernel
theorem dX1_make_141 : decode cX1_make 141 = .ok (.invokestatic 52, 3) := by decide +kernel
theorem dX1_make_144 : decode cX1_make 144 = .ok (.iastore, 1) := by decide +kernel
theorem dX1_make_145 : decode cX1_make 145 = .ok (.aload_n 0, 1) := by decide +kernel
theorem dX1_make_146 : decode cX1_make 146 = .ok (.getfield 15, 3) := by decide +kernel
theorem dX1_make_149 : decode cX1_make 149 = .ok (.iload 7, 2) := by decide +kernel
theorem dX1_make_151 : decode cX1_make 151 = .ok (.aload_n 0, 1) := by decide +kernel
theorem dX1_make_152 : decode cX1_make 152 = .ok (.iload 7, 2) := by decide +kernel
theorem dX1_make_154 : decode cX1_make 154 = .ok (.aload_n 0, 1) := by decide +kernel
theorem dX1_make_155 : decode cX1_make 155 = .ok (.getfield 28, 3) := by decide +kernel
theorem dX1_make_158 : decode cX1_make 158 = .ok (.invokevirtual 56, 3) := by decide +kernel
theorem dX1_make_161 : decode cX1_make 161 = .ok (.iastore, 1) := by decide +kernel
theorem dX1_make_162 : decode cX1_make 162 = .ok (.aload_n 0, 1) := by decide +kernel
theorem dX1_make_163 : decode cX1_make 163 = .ok (.getfield 18, 3) := by decide +kernel
theorem dX1_make_166 : decode cX1_make 166 = .ok (.iload 7, 2) := by decide +kernel
theorem dX1_make_168 : decode cX1_make 168 = .ok (.aload_n 0, 1) := by decide +kernel
theorem dX1_make_169 : decode cX1_make 169 = .ok (.getfield 24, 3) := by decide +kernel
theorem dX1_make_172 : decode cX1_make 172 = .ok (.aload_n 0, 1) := by decide +kernel
theorem dX1_make_173 : decode cX1_make 173 = .ok (.getfield 15, 3) := by decide +kernel
theorem dX1_make_176 : decode cX1_make 176 = .ok (.iload 7, 2) := by decide +kernel
theorem dX1_make_178 : decode cX1_make 178 = .ok (.iaload, 1) := by decide +kernel
theorem dX1_make_179 : decode cX1_make 179 = .ok (.isub, 1) := by decide +kernel
theorem dX1_make_180 : decode cX1_make 180 = .ok (.iconst 2, 1) := by decide +kernel
theorem dX1_make_181 : decode cX1_make 181 = .ok (.idiv, 1) := by decide +kernel
theorem dX1_make_182 : decode cX1_make 182 = .ok (.iastore, 1) := by decide +kernel
theorem dX1_make_183 : decode cX1_make 183 = .ok (.iinc 7 1, 3) := by decide +kernel
theorem dX1_make_186 : decode cX1_make 186 = .ok (.goto (-97), 3) := by decide +kernel
theorem dX1_make_189 : decode cX1_make 189 = .ok (.return_, 1) := by decide +kernel
theorem dX1_demandThatCounts_0 : decode cX1_demandThatCounts 0 = .ok (.aload_n 0, 1) := by decide +kernel
theorem dX1_demandThatCounts_1 : decode cX1_demandThatCounts 1 = .ok (.getfield 45, 3) := by decide +kernel
theorem dX1_demandThatCounts_4 : decode cX1_demandThatCounts 4 = .ok (.ifCond .eq 24, 3) := by decide +kernel
theorem dX1_demandThatCounts_7 : decode cX1_demandThatCounts 7 = .ok (.aload_n 0, 1) := by decide +kernel
theorem dX1_demandThatCounts_8 : decode cX1_demandThatCounts 8 = .ok (.getfield 42, 3) := by decide +kernel
theorem dX1_demandThatCounts_11 : decode cX1_demandThatCounts 11 = .ok (.ifCond .le 17, 3) := by decide +kernel
theorem dX1_demandThatCounts_14 : decode cX1_demandThatCounts 14 = .ok (.iload_n 1, 1) := by decide +kernel
theorem dX1_demandThatCounts_15 : decode cX1_demandThatCounts 15 = .ok (.aload_n 0, 1) := by decide +kernel
theorem dX1_demandThatCounts_16 : decode cX1_demandThatCounts 16 = .ok (.getfield 24, 3) := by decide +kernel
theorem dX1_demandThatCounts_19 : decode cX1_demandThatCounts 19 = .ok (.imul, 1) := by decide +kernel
theorem dX1_demandThatCounts_20 : decode cX1_demandThatCounts 20 = .ok (.aload_n 0, 1) := by decide +kernel
theorem dX1_demandThatCounts_21 : decode cX1_demandThatCounts 21 = .ok (.getfield 42, 3) := by decide +kernel
theorem dX1_demandThatCounts_24 : decode cX1_demandThatCounts 24 = .ok (.idiv, 1) := by decide +kernel
theorem dX1_demandThatCounts_25 : decode cX1_demandThatCounts 25 = .ok (.goto 4, 3) := by decide +kernel
theorem dX1_demandThatCounts_28 : decode cX1_demandThatCounts 28 = .ok (.iload_n 1, 1) := by decide +kernel
theorem dX1_demandThatCounts_29 : decode cX1_demandThatCounts 29 = .ok (.ireturn, 1) := by decide +kernel
theorem dX1_highWithDead_0 : decode cX1_highWithDead 0 = .ok (.aload_n 0, 1) := by decide +kernel
theorem dX1_highWithDead_1 : decode cX1_highWithDead 1 = .ok (.getfield 31, 3) := by decide +kernel
theorem dX1_highWithDead_4 : decode cX1_highWithDead 4 = .ok (.ifCond .eq 12, 3) := by decide +kernel
theorem dX1_highWithDead_7 : decode cX1_highWithDead 7 = .ok (.aload_n 0, 1) := by decide +kernel
theorem dX1_highWithDead_8 : decode cX1_highWithDead 8 = .ok (.getfield 21, 3) := by decide +kernel
theorem dX1_highWithDead_11 : decode cX1_highWithDead 11 = .ok (.iload_n 1, 1) := by decide +kernel
theorem dX1_highWithDead_12 : decode cX1_highWithDead 12 = .ok (.iaload, 1) := by decide +kernel
theorem dX1_highWithDead_13 : decode cX1_highWithDead 13 = .ok (.ifCond .ne 10, 3) := by decide +kernel
theorem dX1_highWithDead_16 : decode cX1_highWithDead 16 = .ok (.aload_n 0, 1) := by decide +kernel
theorem dX1_highWithDead_17 : decode cX1_highWithDead 17 = .ok (.getfield 9, 3) := by decide +kernel
theorem dX1_highWithDead_20 : decode cX1_highWithDead 20 = .ok (.iload_n 1, 1) := by decide +kernel
theorem dX1_highWithDead_21 : decode cX1_highWithDead 21 = .ok (.iaload, 1) := by decide +kernel
theorem dX1_highWithDead_22 : decode cX1_highWithDead 22 = .ok (.ireturn, 1) := by decide +kernel
theorem dX1_highWithDead_23 : decode cX1_highWithDead 23 = .ok (.aload_n 0, 1) := by decide +kernel
theorem dX1_highWithDead_24 : decode cX1_highWithDead 24 = .ok (.getfield 21, 3) := by decide +kernel
theorem dX1_highWithDead_27 : decode cX1_highWithDead 27 = .ok (.iload_n 1, 1) := by decide +kernel
theorem dX1_highWithDead_28 : decode cX1_highWithDead 28 = .ok (.iaload, 1) := by decide +kernel
theorem dX1_highWithDead_29 : decode cX1_highWithDead 29 = .ok (.ifCond .le 7, 3) := by decide +kernel
theorem dX1_highWithDead_32 : decode cX1_highWithDead 32 = .ok (.iload_n 2, 1) := by decide +kernel
theorem dX1_highWithDead_33 : decode cX1_highWithDead 33 = .ok (.goto 5, 3) := by decide +kernel
theorem dX1_highWithDead_36 : decode cX1_highWithDead 36 = .ok (.iload_n 2, 1) := by decide +kernel
theorem dX1_highWithDead_37 : decode cX1_highWithDead 37 = .ok (.ineg, 1) := by decide +kernel
theorem dX1_highWithDead_38 : decode cX1_highWithDead 38 = .ok (.istore_n 3, 1) := by decide +kernel
theorem dX1_highWithDead_39 : decode cX1_highWithDead 39 = .ok (.aload_n 0, 1) := by decide +kernel
theorem dX1_highWithDead_40 : decode cX1_highWithDead 40 = .ok (.getfield 9, 3) := by decide +kernel
theorem dX1_highWithDead_43 : decode cX1_highWithDead 43 = .ok (.iload_n 1, 1) := by decide +kernel
theorem dX1_highWithDead_44 : decode cX1_highWithDead 44 = .ok (.iaload, 1) := by decide +kernel
theorem dX1_highWithDead_45 : decode cX1_highWithDead 45 = .ok (.iload_n 3, 1) := by decide +kernel
theorem dX1_highWithDead_46 : decode cX1_highWithDead 46 = .ok (.iadd, 1) := by decide +kernel
theorem dX1_highWithDead_47 : decode cX1_highWithDead 47 = .ok (.iconst 0, 1) := by decide +kernel
theorem dX1_highWithDead_48 : decode cX1_highWithDead 48 = .ok (.aload_n 0, 1) := by decide +kernel
theorem dX1_highWithDead_49 : decode cX1_highWithDead 49 = .ok (.getfield 24, 3) := by decide +kernel
theorem dX1_highWithDead_52 : decode cX1_highWithDead 52 = .ok (.invokestatic 52, 3) := by decide +kernel
theorem dX1_highWithDead_55 : decode cX1_highWithDead 55 = .ok (.ireturn, 1) := by decide +kernel
theorem dX1_isWanted_0 : decode cX1_isWanted 0 = .ok (.iload_n 2, 1) := by decide +kernel
theorem dX1_isWanted_1 : decode cX1_isWanted 1 = .ok (.aload_n 0, 1) := by decide +kernel
theorem dX1_isWanted_2 : decode cX1_isWanted 2 = .ok (.getfield 18, 3) := by decide +kernel
theorem dX1_isWanted_5 : decode cX1_isWanted 5 = .ok (.iload_n 1, 1) := by decide +kernel
theorem dX1_isWanted_6 : decode cX1_isWanted 6 = .ok (.iaload, 1) := by decide +kernel
theorem dX1_isWanted_7 : decode cX1_isWanted 7 = .ok (.if_icmp .lt 24, 3) := by decide +kernel
theorem dX1_isWanted_10 : decode cX1_isWanted 10 = .ok (.iload_n 2, 1) := by decide +kernel
theorem dX1_isWanted_11 : decode cX1_isWanted 11 = .ok (.aload_n 0, 1) := by decide +kernel
theorem dX1_isWanted_12 : decode cX1_isWanted 12 = .ok (.getfield 18, 3) := by decide +kernel
theorem dX1_isWanted_15 : decode cX1_isWanted 15 = .ok (.iload_n 1, 1) := by decide +kernel
theorem dX1_isWanted_16 : decode cX1_isWanted 16 = .ok (.iaload, 1) := by decide +kernel
theorem dX1_isWanted_17 : decode cX1_isWanted 17 = .ok (.aload_n 0, 1) := by decide +kernel
theorem dX1_isWanted_18 : decode cX1_isWanted 18 = .ok (.getfield 15, 3) := by decide +kernel
theorem dX1_isWanted_21 : decode cX1_isWanted 21 = .ok (.iload_n 1, 1) := by decide +kernel
theorem dX1_isWanted_22 : decode cX1_isWanted 22 = .ok (.iaload, 1) := by decide +kernel
theorem dX1_isWanted_23 : decode cX1_isWanted 23 = .ok (.iadd, 1) := by decide +kernel
theorem dX1_isWanted_24 : decode cX1_isWanted 24 = .ok (.if_icmp .ge 7, 3) := by decide +kernel
theorem dX1_isWanted_27 : decode cX1_isWanted 27 = .ok (.iconst 1, 1) := by decide +kernel
theorem dX1_isWanted_28 : decode cX1_isWanted 28 = .ok (.goto 4, 3) := by decide +kernel
theorem dX1_isWanted_31 : decode cX1_isWanted 31 = .ok (.iconst 0, 1) := by decide +kernel
theorem dX1_isWanted_32 : decode cX1_isWanted 32 = .ok (.ireturn, 1) := by decide +kernel
theorem dX1_tickBehindBy_0 : decode cX1_tickBehindBy 0 = .ok (.iload_n 2, 1) := by decide +kernel
theorem dX1_tickBehindBy_1 : decode cX1_tickBehindBy 1 = .ok (.iload_n 1, 1) := by decide +kernel
theorem dX1_tickBehindBy_2 : decode cX1_tickBehindBy 2 = .ok (.if_icmp .lt 9, 3) := by decide +kernel
theorem dX1_tickBehindBy_5 : decode cX1_tickBehindBy 5 = .ok (.iload_n 2, 1) := by decide +kernel
theorem dX1_tickBehindBy_6 : decode cX1_tickBehindBy 6 = .ok (.iload_n 1, 1) := by decide +kernel
theorem dX1_tickBehindBy_7 : decode cX1_tickBehindBy 7 = .ok (.isub, 1) := by decide +kernel
theorem dX1_tickBehindBy_8 : decode cX1_tickBehindBy 8 = .ok (.goto 11, 3) := by decide +kernel
theorem dX1_tickBehindBy_11 : decode cX1_tickBehindBy 11 = .ok (.iload_n 2, 1) := by decide +kernel
theorem dX1_tickBehindBy_12 : decode cX1_tickBehindBy 12 = .ok (.iload_n 1, 1) := by decide +kernel
theorem dX1_tickBehindBy_13 : decode cX1_tickBehindBy 13 = .ok (.isub, 1) := by decide +kernel
theorem dX1_tickBehindBy_14 : decode cX1_tickBehindBy 14 = .ok (.aload_n 0, 1) := by decide +kernel
theorem dX1_tickBehindBy_15 : decode cX1_tickBehindBy 15 = .ok (.getfield 24, 3) := by decide +kernel
theorem dX1_tickBehindBy_18 : decode cX1_tickBehindBy 18 = .ok (.iadd, 1) := by decide +kernel
theorem dX1_tickBehindBy_19 : decode cX1_tickBehindBy 19 = .ok (.ireturn, 1) := by decide +kernel
theorem dX1_isOn_0 : decode cX1_isOn 0 = .ok (.iload_n 2, 1) := by decide +kernel
theorem dX1_isOn_1 : decode cX1_isOn 1 = .ok (.ifCond .ne 7, 3) := by decide +kernel
theorem dX1_isOn_4 : decode cX1_isOn 4 = .ok (.iconst 1, 1) := by decide +kernel
theorem dX1_isOn_5 : decode cX1_isOn 5 = .ok (.goto 4, 3) := by decide +kernel
theorem dX1_isOn_8 : decode cX1_isOn 8 = .ok (.iconst 0, 1) := by decide +kernel
theorem dX1_isOn_9 : decode cX1_isOn 9 = .ok (.istore 4, 2) := by decide +kernel
theorem dX1_isOn_11 : decode cX1_isOn 11 = .ok (.iconst 0, 1) := by decide +kernel
theorem dX1_isOn_12 : decode cX1_isOn 12 = .ok (.istore 5, 2) := by decide +kernel
theorem dX1_isOn_14 : decode cX1_isOn 14 = .ok (.iload 5, 2) := by decide +kernel
theorem dX1_isOn_16 : decode cX1_isOn 16 = .ok (.aload_n 0, 1) := by decide +kernel
theorem dX1_isOn_17 : decode cX1_isOn 17 = .ok (.getfield 28, 3) := by decide +kernel
theorem dX1_isOn_20 : decode cX1_isOn 20 = .ok (.if_icmp .gt 28, 3) := by decide +kernel
theorem dX1_isOn_23 : decode cX1_isOn 23 = .ok (.aload_n 0, 1) := by decide +kernel
theorem dX1_isOn_24 : decode cX1_isOn 24 = .ok (.iload_n 1, 1) := by decide +kernel
theorem dX1_isOn_25 : decode cX1_isOn 25 = .ok (.aload_n 0, 1) := by decide +kernel
theorem dX1_isOn_26 : decode cX1_isOn 26 = .ok (.iload 5, 2) := by decide +kernel
theorem dX1_isOn_28 : decode cX1_isOn 28 = .ok (.iload_n 3, 1) := by decide +kernel
theorem dX1_isOn_29 : decode cX1_isOn 29 = .ok (.invokevirtual 60, 3) := by decide +kernel
theorem dX1_isOn_32 : decode cX1_isOn 32 = .ok (.invokevirtual 63, 3) := by decide +kernel
theorem dX1_isOn_35 : decode cX1_isOn 35 = .ok (.iload 4, 2) := by decide +kernel
theorem dX1_isOn_37 : decode cX1_isOn 37 = .ok (.if_icmp .eq 5, 3) := by decide +kernel
theorem dX1_isOn_40 : decode cX1_isOn 40 = .ok (.iconst 0, 1) := by decide +kernel
theorem dX1_isOn_41 : decode cX1_isOn 41 = .ok (.ireturn, 1) := by decide +kernel
theorem dX1_isOn_42 : decode cX1_isOn 42 = .ok (.iinc 5 1, 3) := by decide +kernel
theorem dX1_isOn_45 : decode cX1_isOn 45 = .ok (.goto (-31), 3) := by decide +kernel
theorem dX1_isOn_48 : decode cX1_isOn 48 = .ok (.iconst 1, 1) := by decide +kernel
theorem dX1_isOn_49 : decode cX1_isOn 49 = .ok (.ireturn, 1) := by decide +kernel
theorem dX1_givesOne_0 : decode cX1_givesOne 0 = .ok (.aload_n 0, 1) := by decide +kernel
theorem dX1_givesOne_1 : decode cX1_givesOne 1 = .ok (.iload_n 1, 1) := by decide +kernel
theorem dX1_givesOne_2 : decode cX1_givesOne 2 = .ok (.iconst 0, 1) := by decide +kernel
theorem dX1_givesOne_3 : decode cX1_givesOne 3 = .ok (.iload_n 2, 1) := by decide +kernel
theorem dX1_givesOne_4 : decode cX1_givesOne 4 = .ok (.invokevirtual 67, 3) := by decide +kernel
theorem dX1_givesOne_7 : decode cX1_givesOne 7 = .ok (.ifCond .eq 5, 3) := by decide +kernel
theorem dX1_givesOne_10 : decode cX1_givesOne 10 = .ok (.iconst 1, 1) := by decide +kernel
theorem dX1_givesOne_11 : decode cX1_givesOne 11 = .ok (.ireturn, 1) := by decide +kernel
theorem dX1_givesOne_12 : decode cX1_givesOne 12 = .ok (.aload_n 0, 1) := by decide +kernel
theorem dX1_givesOne_13 : decode cX1_givesOne 13 = .ok (.iload_n 1, 1) := by decide +kernel
theorem dX1_givesOne_14 : decode cX1_givesOne 14 = .ok (.iconst 1, 1) := by decide +kernel
theorem dX1_givesOne_15 : decode cX1_givesOne 15 = .ok (.iload_n 2, 1) := by decide +kernel
theorem dX1_givesOne_16 : decode cX1_givesOne 16 = .ok (.invokevirtual 67, 3) := by decide +kernel
theorem dX1_givesOne_19 : decode cX1_givesOne 19 = .ok (.ifCond .ne 16, 3) := by decide +kernel
theorem dX1_givesOne_22 : decode cX1_givesOne 22 = .ok (.aload_n 0, 1) := by decide +kernel
theorem dX1_givesOne_23 : decode cX1_givesOne 23 = .ok (.getfield 21, 3) := by decide +kernel
theorem dX1_givesOne_26 : decode cX1_givesOne 26 = .ok (.iload_n 1, 1) := by decide +kernel
theorem dX1_givesOne_27 : decode cX1_givesOne 27 = .ok (.iaload, 1) := by decide +kernel
theorem dX1_givesOne_28 : decode cX1_givesOne 28 = .ok (.ifCond .ge 7, 3) := by decide +kernel
theorem dX1_givesOne_31 : decode cX1_givesOne 31 = .ok (.iconst 1, 1) := by decide +kernel
theorem dX1_givesOne_32 : decode cX1_givesOne 32 = .ok (.goto 4, 3) := by decide +kernel
theorem dX1_givesOne_35 : decode cX1_givesOne 35 = .ok (.iconst 0, 1) := by decide +kernel
theorem dX1_givesOne_36 : decode cX1_givesOne 36 = .ok (.ireturn, 1) := by decide +kernel
theorem dX1_ticksOn_0 : decode cX1_ticksOn 0 = .ok (.iload_n 1, 1) := by decide +kernel
theorem dX1_ticksOn_1 : decode cX1_ticksOn 1 = .ok (.aload_n 0, 1) := by decide +kernel
theorem dX1_ticksOn_2 : decode cX1_ticksOn 2 = .ok (.getfield 24, 3) := by decide +kernel
theorem dX1_ticksOn_5 : decode cX1_ticksOn 5 = .ok (.if_icmp .lt 10, 3) := by decide +kernel
theorem dX1_ticksOn_8 : decode cX1_ticksOn 8 = .ok (.aload_n 0, 1) := by decide +kernel
theorem dX1_ticksOn_9 : decode cX1_ticksOn 9 = .ok (.getfield 24, 3) := by decide +kernel
theorem dX1_ticksOn_12 : decode cX1_ticksOn 12 = .ok (.goto 10, 3) := by decide +kernel
theorem dX1_ticksOn_15 : decode cX1_ticksOn 15 = .ok (.iconst 0, 1) := by decide +kernel
theorem dX1_ticksOn_16 : decode cX1_ticksOn 16 = .ok (.iload_n 1, 1) := by decide +kernel
theorem dX1_ticksOn_17 : decode cX1_ticksOn 17 = .ok (.iload_n 2, 1) := by decide +kernel
theorem dX1_ticksOn_18 : decode cX1_ticksOn 18 = .ok (.isub, 1) := by decide +kernel
theorem dX1_ticksOn_19 : decode cX1_ticksOn 19 = .ok (.invokestatic 71, 3) := by decide +kernel
theorem dX1_ticksOn_22 : decode cX1_ticksOn 22 = .ok (.ireturn, 1) := by decide +kernel
theorem dX1_upperTicks_0 : decode cX1_upperTicks 0 = .ok (.aload_n 0, 1) := by decide +kernel
theorem dX1_upperTicks_1 : decode cX1_upperTicks 1 = .ok (.aload_n 0, 1) := by decide +kernel
theorem dX1_upperTicks_2 : decode cX1_upperTicks 2 = .ok (.getfield 15, 3) := by decide +kernel
theorem dX1_upperTicks_5 : decode cX1_upperTicks 5 = .ok (.iload_n 1, 1) := by decide +kernel
theorem dX1_upperTicks_6 : decode cX1_upperTicks 6 = .ok (.iaload, 1) := by decide +kernel
theorem dX1_upperTicks_7 : decode cX1_upperTicks 7 = .ok (.aload_n 0, 1) := by decide +kernel
theorem dX1_upperTicks_8 : decode cX1_upperTicks 8 = .ok (.getfield 28, 3) := by decide +kernel
theorem dX1_upperTicks_11 : decode cX1_upperTicks 11 = .ok (.invokevirtual 76, 3) := by decide +kernel
theorem dX1_upperTicks_14 : decode cX1_upperTicks 14 = .ok (.ireturn, 1) := by decide +kernel
theorem dX1_lowerTicks_0 : decode cX1_lowerTicks 0 = .ok (.aload_n 0, 1) := by decide +kernel
theorem dX1_lowerTicks_1 : decode cX1_lowerTicks 1 = .ok (.aload_n 0, 1) := by decide +kernel
theorem dX1_lowerTicks_2 : decode cX1_lowerTicks 2 = .ok (.getfield 24, 3) := by decide +kernel
theorem dX1_lowerTicks_5 : decode cX1_lowerTicks 5 = .ok (.aload_n 0, 1) := by decide +kernel
theorem dX1_lowerTicks_6 : decode cX1_lowerTicks 6 = .ok (.getfield 15, 3) := by decide +kernel
theorem dX1_lowerTicks_9 : decode cX1_lowerTicks 9 = .ok (.iload_n 1, 1) := by decide +kernel
theorem dX1_lowerTicks_10 : decode cX1_lowerTicks 10 = .ok (.iaload, 1) := by decide +kernel
theorem dX1_lowerTicks_11 : decode cX1_lowerTicks 11 = .ok (.isub, 1) := by decide +kernel
theorem dX1_lowerTicks_12 : decode cX1_lowerTicks 12 = .ok (.aload_n 0, 1) := by decide +kernel
theorem dX1_lowerTicks_13 : decode cX1_lowerTicks 13 = .ok (.getfield 28, 3) := by decide +kernel
theorem dX1_lowerTicks_16 : decode cX1_lowerTicks 16 = .ok (.invokevirtual 76, 3) := by decide +kernel
theorem dX1_lowerTicks_19 : decode cX1_lowerTicks 19 = .ok (.ireturn, 1) := by decide +kernel
theorem dX1_neitherTicks_0 : decode cX1_neitherTicks 0 = .ok (.aload_n 0, 1) := by decide +kernel
theorem dX1_neitherTicks_1 : decode cX1_neitherTicks 1 = .ok (.getfield 24, 3) := by decide +kernel
theorem dX1_neitherTicks_4 : decode cX1_neitherTicks 4 = .ok (.aload_n 0, 1) := by decide +kernel
theorem dX1_neitherTicks_5 : decode cX1_neitherTicks 5 = .ok (.iload_n 1, 1) := by decide +kernel
theorem dX1_neitherTicks_6 : decode cX1_neitherTicks 6 = .ok (.invokevirtual 79, 3) := by decide +kernel
theorem dX1_neitherTicks_9 : decode cX1_neitherTicks 9 = .ok (.isub, 1) := by decide +kernel
theorem dX1_neitherTicks_10 : decode cX1_neitherTicks 10 = .ok (.aload_n 0, 1) := by decide +kernel
theorem dX1_neitherTicks_11 : decode cX1_neitherTicks 11 = .ok (.iload_n 1, 1) := by decide +kernel
theorem dX1_neitherTicks_12 : decode cX1_neitherTicks 12 = .ok (.invokevirtual 82, 3) := by decide +kernel
theorem dX1_neitherTicks_15 : decode cX1_neitherTicks 15 = .ok (.isub, 1) := by decide +kernel
theorem dX1_neitherTicks_16 : decode cX1_neitherTicks 16 = .ok (.ireturn, 1) := by decide +kernel
theorem dX1_mean_0 : decode cX1_mean 0 = .ok (.aload_n 0, 1) := by decide +kernel
theorem dX1_mean_1 : decode cX1_mean 1 = .ok (.getfield 21, 3) := by decide +kernel
theorem dX1_mean_4 : decode cX1_mean 4 = .ok (.iload_n 1, 1) := by decide +kernel
theorem dX1_mean_5 : decode cX1_mean 5 = .ok (.iaload, 1) := by decide +kernel
theorem dX1_mean_6 : decode cX1_mean 6 = .ok (.ifCond .ge 16, 3) := by decide +kernel
theorem dX1_mean_9 : decode cX1_mean 9 = .ok (.aload_n 0, 1) := by decide +kernel
theorem dX1_mean_10 : decode cX1_mean 10 = .ok (.getfield 24, 3) := by decide +kernel
theorem dX1_mean_13 : decode cX1_mean 13 = .ok (.aload_n 0, 1) := by decide +kernel
theorem dX1_mean_14 : decode cX1_mean 14 = .ok (.iload_n 1, 1) := by decide +kernel
theorem dX1_mean_15 : decode cX1_mean 15 = .ok (.invokevirtual 82, 3) := by decide +kernel
theorem dX1_mean_18 : decode cX1_mean 18 = .ok (.isub, 1) := by decide +kernel
theorem dX1_mean_19 : decode cX1_mean 19 = .ok (.goto 8, 3) := by decide +kernel
theorem dX1_mean_22 : decode cX1_mean 22 = .ok (.aload_n 0, 1) := by decide +kernel
theorem dX1_mean_23 : decode cX1_mean 23 = .ok (.iload_n 1, 1) := by decide +kernel
theorem dX1_mean_24 : decode cX1_mean 24 = .ok (.invokevirtual 79, 3) := by decide +kernel
theorem dX1_mean_27 : decode cX1_mean 27 = .ok (.ireturn, 1) := by decide +kernel
theorem dX1_timesUpperComesOn_0 : decode cX1_timesUpperComesOn 0 = .ok (.aload_n 0, 1) := by decide +kernel
theorem dX1_timesUpperComesOn_1 : decode cX1_timesUpperComesOn 1 = .ok (.iload_n 1, 1) := by decide +kernel
theorem dX1_timesUpperComesOn_2 : decode cX1_timesUpperComesOn 2 = .ok (.invokevirtual 79, 3) := by decide +kernel
theorem dX1_timesUpperComesOn_5 : decode cX1_timesUpperComesOn 5 = .ok (.istore_n 2, 1) := by decide +kernel
theorem dX1_timesUpperComesOn_6 : decode cX1_timesUpperComesOn 6 = .ok (.iload_n 2, 1) := by decide +kernel
theorem dX1_timesUpperComesOn_7 : decode cX1_timesUpperComesOn 7 = .ok (.ifCond .le 15, 3) := by decide +kernel
theorem dX1_timesUpperComesOn_10 : decode cX1_timesUpperComesOn 10 = .ok (.iload_n 2, 1) := by decide +kernel
theorem dX1_timesUpperComesOn_11 : decode cX1_timesUpperComesOn 11 = .ok (.aload_n 0, 1) := by decide +kernel
theorem dX1_timesUpperComesOn_12 : decode cX1_timesUpperComesOn 12 = .ok (.getfield 24, 3) := by decide +kernel
theorem dX1_timesUpperComesOn_15 : decode cX1_timesUpperComesOn 15 = .ok (.if_icmp .ge 7, 3) := by decide +kernel
theorem dX1_timesUpperComesOn_18 : decode cX1_timesUpperComesOn 18 = .ok (.iconst 1, 1) := by decide +kernel
theorem dX1_timesUpperComesOn_19 : decode cX1_timesUpperComesOn 19 = .ok (.goto 4, 3) := by decide +kernel
theorem dX1_timesUpperComesOn_22 : decode cX1_timesUpperComesOn 22 = .ok (.iconst 0, 1) := by decide +kernel
theorem dX1_timesUpperComesOn_23 : decode cX1_timesUpperComesOn 23 = .ok (.ireturn, 1) := by decide +kernel
theorem dX1_leastDeadWithoutUpper_0 : decode cX1_leastDeadWithoutUpper 0 = .ok (.iconst (-1), 1) := by decide +kernel
theorem dX1_leastDeadWithoutUpper_1 : decode cX1_leastDeadWithoutUpper 1 = .ok (.istore_n 2, 1) := by decide +kernel
theorem dX1_leastDeadWithoutUpper_2 : decode cX1_leastDeadWithoutUpper 2 = .ok (.iconst 5, 1) := by decide +kernel
theorem dX1_leastDeadWithoutUpper_3 : decode cX1_leastDeadWithoutUpper 3 = .ok (.istore_n 3, 1) := by decide +kernel
theorem dX1_leastDeadWithoutUpper_4 : decode cX1_leastDeadWithoutUpper 4 = .ok (.iload_n 3, 1) := by decide +kernel
theorem dX1_leastDeadWithoutUpper_5 : decode cX1_leastDeadWithoutUpper 5 = .ok (.ifCond .lt 25, 3) := by decide +kernel
theorem dX1_leastDeadWithoutUpper_8 : decode cX1_leastDeadWithoutUpper 8 = .ok (.aload_n 0, 1) := by decide +kernel
theorem dX1_leastDeadWithoutUpper_9 : decode cX1_leastDeadWithoutUpper 9 = .ok (.aload_n 0, 1) := by decide +kernel
theorem dX1_leastDeadWithoutUpper_10 : decode cX1_leastDeadWithoutUpper 10 = .ok (.iload_n 1, 1) := by decide +kernel
theorem dX1_leastDeadWithoutUpper_11 : decode cX1_leastDeadWithoutUpper 11 = .ok (.iload_n 3, 1) := by decide +kernel
theorem dX1_leastDeadWithoutUpper_12 : decode cX1_leastDeadWithoutUpper 12 = .ok (.invokevirtual 56, 3) := by decide +kernel
theorem dX1_leastDeadWithoutUpper_15 : decode cX1_leastDeadWithoutUpper 15 = .ok (.iload_n 3, 1) := by decide +kernel
theorem dX1_leastDeadWithoutUpper_16 : decode cX1_leastDeadWithoutUpper 16 = .ok (.invokevirtual 76, 3) := by decide +kernel
theorem dX1_leastDeadWithoutUpper_19 : decode cX1_leastDeadWithoutUpper 19 = .ok (.ifCond .ne 11, 3) := by decide +kernel
theorem dX1_leastDeadWithoutUpper_22 : decode cX1_leastDeadWithoutUpper 22 = .ok (.iload_n 3, 1) := by decide +kernel
theorem dX1_leastDeadWithoutUpper_23 : decode cX1_leastDeadWithoutUpper 23 = .ok (.istore_n 2, 1) := by decide +kernel
theorem dX1_leastDeadWithoutUpper_24 : decode cX1_leastDeadWithoutUpper 24 = .ok (.iinc 3 (-1), 3) := by decide +kernel
theorem dX1_leastDeadWithoutUpper_27 : decode cX1_leastDeadWithoutUpper 27 = .ok (.goto (-23), 3) := by decide +kernel
theorem dX1_leastDeadWithoutUpper_30 : decode cX1_leastDeadWithoutUpper 30 = .ok (.iload_n 2, 1) := by decide +kernel
theorem dX1_leastDeadWithoutUpper_31 : decode cX1_leastDeadWithoutUpper 31 = .ok (.ireturn, 1) := by decide +kernel
theorem dX1_listEvents_0 : decode cX1_listEvents 0 = .ok (.aload_n 1, 1) := by decide +kernel
theorem dX1_listEvents_1 : decode cX1_listEvents 1 = .ok (.iconst 0, 1) := by decide +kernel
theorem dX1_listEvents_2 : decode cX1_listEvents 2 = .ok (.invokevirtual 85, 3) := by decide +kernel
theorem dX1_listEvents_5 : decode cX1_listEvents 5 = .ok (.iconst 0, 1) := by decide +kernel
theorem dX1_listEvents_6 : decode cX1_listEvents 6 = .ok (.istore_n 2, 1) := by decide +kernel
theorem dX1_listEvents_7 : decode cX1_listEvents 7 = .ok (.iload_n 2, 1) := by decide +kernel
theorem dX1_listEvents_8 : decode cX1_listEvents 8 = .ok (.aload_n 0, 1) := by decide +kernel
theorem dX1_listEvents_9 : decode cX1_listEvents 9 = .ok (.getfield 24, 3) := by decide +kernel
theorem dX1_listEvents_12 : decode cX1_listEvents 12 = .ok (.if_icmp .ge 38, 3) := by decide +kernel
theorem dX1_listEvents_15 : decode cX1_listEvents 15 = .ok (.iconst 0, 1) := by decide +kernel
theorem dX1_listEvents_16 : decode cX1_listEvents 16 = .ok (.istore_n 3, 1) := by decide +kernel
theorem dX1_listEvents_17 : decode cX1_listEvents 17 = .ok (.iload_n 3, 1) := by decide +kernel
theorem dX1_listEvents_18 : decode cX1_listEvents 18 = .ok (.iconst 3, 1) := by decide +kernel
theorem dX1_listEvents_19 : decode cX1_listEvents 19 = .ok (.if_icmp .ge 25, 3) := by decide +kernel
theorem dX1_listEvents_22 : decode cX1_listEvents 22 = .ok (.aload_n 0, 1) := by decide +kernel
theorem dX1_listEvents_23 : decode cX1_listEvents 23 = .ok (.aload_n 1, 1) := by decide +kernel
theorem dX1_listEvents_24 : decode cX1_listEvents 24 = .ok (.iload_n 2, 1) := by decide +kernel
theorem dX1_listEvents_25 : decode cX1_listEvents 25 = .ok (.iload_n 3, 1) := by decide +kernel
theorem dX1_listEvents_26 : decode cX1_listEvents 26 = .ok (.iconst 0, 1) := by decide +kernel
theorem dX1_listEvents_27 : decode cX1_listEvents 27 = .ok (.invokevirtual 91, 3) := by decide +kernel
theorem dX1_listEvents_30 : decode cX1_listEvents 30 = .ok (.aload_n 0, 1) := by decide +kernel
theorem dX1_listEvents_31 : decode cX1_listEvents 31 = .ok (.aload_n 1, 1) := by decide +kernel
theorem dX1_listEvents_32 : decode cX1_listEvents 32 = .ok (.iload_n 2, 1) := by decide +kernel
theorem dX1_listEvents_33 : decode cX1_listEvents 33 = .ok (.iload_n 3, 1) := by decide +kernel
theorem dX1_listEvents_34 : decode cX1_listEvents 34 = .ok (.iconst 1, 1) := by decide +kernel
theorem dX1_listEvents_35 : decode cX1_listEvents 35 = .ok (.invokevirtual 91, 3) := by decide +kernel
theorem dX1_listEvents_38 : decode cX1_listEvents 38 = .ok (.iinc 3 1, 3) := by decide +kernel
theorem dX1_listEvents_41 : decode cX1_listEvents 41 = .ok (.goto (-24), 3) := by decide +kernel
theorem dX1_listEvents_44 : decode cX1_listEvents 44 = .ok (.iinc 2 1, 3) := by decide +kernel
theorem dX1_listEvents_47 : decode cX1_listEvents 47 = .ok (.goto (-40), 3) := by decide +kernel
theorem dX1_listEvents_50 : decode cX1_listEvents 50 = .ok (.return_, 1) := by decide +kernel
theorem dX1_listEvent_0 : decode cX1_listEvent 0 = .ok (.aload_n 0, 1) := by decide +kernel
theorem dX1_listEvent_1 : decode cX1_listEvent 1 = .ok (.iload_n 3, 1) := by decide +kernel
theorem dX1_listEvent_2 : decode cX1_listEvent 2 = .ok (.iload 4, 2) := by decide +kernel
theorem dX1_listEvent_4 : decode cX1_listEvent 4 = .ok (.iload_n 2, 1) := by decide +kernel
theorem dX1_listEvent_5 : decode cX1_listEvent 5 = .ok (.invokevirtual 67, 3) := by decide +kernel
theorem dX1_listEvent_8 : decode cX1_listEvent 8 = .ok (.istore 5, 2) := by decide +kernel
theorem dX1_listEvent_10 : decode cX1_listEvent 10 = .ok (.aload_n 0, 1) := by decide +kernel
theorem dX1_listEvent_11 : decode cX1_listEvent 11 = .ok (.iload_n 3, 1) := by decide +kernel
theorem dX1_listEvent_12 : decode cX1_listEvent 12 = .ok (.iload 4, 2) := by decide +kernel
theorem dX1_listEvent_14 : decode cX1_listEvent 14 = .ok (.aload_n 0, 1) := by decide +kernel
theorem dX1_listEvent_15 : decode cX1_listEvent 15 = .ok (.iconst 1, 1) := by decide +kernel
theorem dX1_listEvent_16 : decode cX1_listEvent 16 = .ok (.iload_n 2, 1) := by decide +kernel
theorem dX1_listEvent_17 : decode cX1_listEvent 17 = .ok (.invokevirtual 60, 3) := by decide +kernel
theorem dX1_listEvent_20 : decode cX1_listEvent 20 = .ok (.invokevirtual 67, 3) := by decide +kernel
theorem dX1_listEvent_23 : decode cX1_listEvent 23 = .ok (.istore 6, 2) := by decide +kernel
theorem dX1_listEvent_25 : decode cX1_listEvent 25 = .ok (.iload 5, 2) := by decide +kernel
theorem dX1_listEvent_27 : decode cX1_listEvent 27 = .ok (.iload 6, 2) := by decide +kernel
theorem dX1_listEvent_29 : decode cX1_listEvent 29 = .ok (.if_icmp .eq 21, 3) := by decide +kernel
theorem dX1_listEvent_32 : decode cX1_listEvent 32 = .ok (.aload_n 1, 1) := by decide +kernel
theorem dX1_listEvent_33 : decode cX1_listEvent 33 = .ok (.iload_n 2, 1) := by decide +kernel
theorem dX1_listEvent_34 : decode cX1_listEvent 34 = .ok (.iload_n 3, 1) := by decide +kernel
theorem dX1_listEvent_35 : decode cX1_listEvent 35 = .ok (.iload 4, 2) := by decide +kernel
theorem dX1_listEvent_37 : decode cX1_listEvent 37 = .ok (.iload 5, 2) := by decide +kernel
theorem dX1_listEvent_39 : decode cX1_listEvent 39 = .ok (.ifCond .eq 7, 3) := by decide +kernel
theorem dX1_listEvent_42 : decode cX1_listEvent 42 = .ok (.iconst 1, 1) := by decide +kernel
theorem dX1_listEvent_43 : decode cX1_listEvent 43 = .ok (.goto 4, 3) := by decide +kernel
theorem dX1_listEvent_46 : decode cX1_listEvent 46 = .ok (.iconst 0, 1) := by decide +kernel
theorem dX1_listEvent_47 : decode cX1_listEvent 47 = .ok (.invokevirtual 95, 3) := by decide +kernel
theorem dX1_listEvent_50 : decode cX1_listEvent 50 = .ok (.return_, 1) := by decide +kernel
theorem dX2_init_0 : decode cX2_init 0 = .ok (.aload_n 0, 1) := by decide +kernel
theorem dX2_init_1 : decode cX2_init 1 = .ok (.invokespecial 3, 3) := by decide +kernel
theorem dX2_init_4 : decode cX2_init 4 = .ok (.aload_n 0, 1) := by decide +kernel
theorem dX2_init_5 : decode cX2_init 5 = .ok (.new 9, 3) := by decide +kernel
theorem dX2_init_8 : decode cX2_init 8 = .ok (.dup, 1) := by decide +kernel
theorem dX2_init_9 : decode cX2_init 9 = .ok (.bipush 7, 2) := by decide +kernel
theorem dX2_init_11 : decode cX2_init 11 = .ok (.invokespecial 11, 3) := by decide +kernel
theorem dX2_init_14 : decode cX2_init 14 = .ok (.putfield 14, 3) := by decide +kernel
theorem dX2_init_17 : decode cX2_init 17 = .ok (.return_, 1) := by decide +kernel
theorem dX2_find_0 : decode cX2_find 0 = .ok (.aload_n 0, 1) := by decide +kernel
theorem dX2_find_1 : decode cX2_find 1 = .ok (.getfield 14, 3) := by decide +kernel
theorem dX2_find_4 : decode cX2_find 4 = .ok (.iconst 0, 1) := by decide +kernel
theorem dX2_find_5 : decode cX2_find 5 = .ok (.invokevirtual 20, 3) := by decide +kernel
theorem dX2_find_8 : decode cX2_find 8 = .ok (.aload_n 0, 1) := by decide +kernel
theorem dX2_find_9 : decode cX2_find 9 = .ok (.iconst 0, 1) := by decide +kernel
theorem dX2_find_10 : decode cX2_find 10 = .ok (.putfield 23, 3) := by decide +kernel
theorem dX2_find_13 : decode cX2_find 13 = .ok (.iconst 0, 1) := by decide +kernel
theorem dX2_find_14 : decode cX2_find 14 = .ok (.istore 5, 2) := by decide +kernel
theorem dX2_find_16 : decode cX2_find 16 = .ok (.iconst 0, 1) := by decide +kernel
theorem dX2_find_17 : decode cX2_find 17 = .ok (.istore 6, 2) := by decide +kernel
theorem dX2_find_19 : decode cX2_find 19 = .ok (.iload 6, 2) := by decide +kernel
theorem dX2_find_21 : decode cX2_find 21 = .ok (.bipush 7, 2) := by decide +kernel
theorem dX2_find_23 : decode cX2_find 23 = .ok (.if_icmp .ge 98, 3) := by decide +kernel
theorem dX2_find_26 : decode cX2_find 26 = .ok (.iload 5, 2) := by decide +kernel
theorem dX2_find_28 : decode cX2_find 28 = .ok (.iload_n 1, 1) := by decide +kernel
theorem dX2_find_29 : decode cX2_find 29 = .ok (.if_icmp .ge 92, 3) := by decide +kernel
theorem dX2_find_32 : decode cX2_find 32 = .ok (.iload 5, 2) := by decide +kernel
theorem dX2_find_34 : decode cX2_find 34 = .ok (.iload_n 1, 1) := by decide +kernel
theorem dX2_find_35 : decode cX2_find 35 = .ok (.aload_n 3, 1) := by decide +kernel
theorem dX2_find_36 : decode cX2_find 36 = .ok (.aload 4, 2) := by decide +kernel
theorem dX2_find_38 : decode cX2_find 38 = .ok (.invokestatic 27, 3) := by decide +kernel
theorem dX2_find_41 : decode cX2_find 41 = .ok (.istore 7, 2) := by decide +kernel
theorem dX2_find_43 : decode cX2_find 43 = .ok (.iload 5, 2) := by decide +kernel
theorem dX2_find_45 : decode cX2_find 45 = .ok (.aload_n 3, 1) := by decide +kernel
theorem dX2_find_46 : decode cX2_find 46 = .ok (.aload 4, 2) := by decide +kernel
theorem dX2_find_48 : decode cX2_find 48 = .ok (.invokestatic 31, 3) := by decide +kernel
theorem dX2_find_51 : decode cX2_find 51 = .ok (.istore 8, 2) := by decide +kernel
theorem dX2_find_53 : decode cX2_find 53 = .ok (.iload 7, 2) := by decide +kernel
theorem dX2_find_55 : decode cX2_find 55 = .ok (.iload 5, 2) := by decide +kernel
theorem dX2_find_57 : decode cX2_find 57 = .ok (.isub, 1) := by decide +kernel
theorem dX2_find_58 : decode cX2_find 58 = .ok (.iload_n 2, 1) := by decide +kernel
theorem dX2_find_59 : decode cX2_find 59 = .ok (.if_icmp .lt 12, 3) := by decide +kernel
theorem dX2_find_62 : decode cX2_find 62 = .ok (.getstatic 35, 3) := by decide +kernel
theorem dX2_find_65 : decode cX2_find 65 = .ok (.iload 8, 2) := by decide +kernel
theorem dX2_find_67 : decode cX2_find 67 = .ok (.iaload, 1) := by decide +kernel
theorem dX2_find_68 : decode cX2_find 68 = .ok (.goto 4, 3) := by decide +kernel
theorem dX2_find_71 : decode cX2_find 71 = .ok (.iconst (-1), 1) := by decide +kernel
theorem dX2_find_72 : decode cX2_find 72 = .ok (.istore 9, 2) := by decide +kernel
theorem dX2_find_74 : decode cX2_find 74 = .ok (.iload 9, 2) := by decide +kernel
theorem dX2_find_76 : decode cX2_find 76 = .ok (.iconst (-1), 1) := by decide +kernel
theorem dX2_find_77 : decode cX2_find 77 = .ok (.if_icmp .eq 16, 3) := by decide +kernel
theorem dX2_find_80 : decode cX2_find 80 = .ok (.aload_n 0, 1) := by decide +kernel
theorem dX2_find_81 : decode cX2_find 81 = .ok (.dup, 1) := by decide +kernel
theorem dX2_find_82 : decode cX2_find 82 = .ok (.getfield 23, 3) := by decide +kernel
theorem dX2_find_85 : decode cX2_find 85 = .ok (.iconst 1, 1) := by decide +kernel
theorem dX2_find_86 : decode cX2_find 86 = .ok (.iload 9, 2) := by decide +kernel
theorem dX2_find_88 : decode cX2_find 88 = .ok (.ishl, 1) := by decide +kernel
theorem dX2_find_89 : decode cX2_find 89 = .ok (.ior, 1) := by decide +kernel
theorem dX2_find_90 : decode cX2_find 90 = .ok (.putfield 23, 3) := by decide +kernel
theorem dX2_find_93 : decode cX2_find 93 = .ok (.aload_n 0, 1) := by decide +kernel
theorem dX2_find_94 : decode cX2_find 94 = .ok (.getfield 14, 3) := by decide +kernel
theorem dX2_find_97 : decode cX2_find 97 = .ok (.iload 5, 2) := by decide +kernel
theorem dX2_find_99 : decode cX2_find 99 = .ok (.iload 7, 2) := by decide +kernel
theorem dX2_find_101 : decode cX2_find 101 = .ok (.iload 5, 2) := by decide +kernel
theorem dX2_find_103 : decode cX2_find 103 = .ok (.isub, 1) := by decide +kernel
theorem dX2_find_104 : decode cX2_find 104 = .ok (.iload 8, 2) := by decide +kernel
theorem dX2_find_106 : decode cX2_find 106 = .ok (.iload 9, 2) := by decide +kernel
theorem dX2_find_108 : decode cX2_find 108 = .ok (.invokevirtual 39, 3) := by decide +kernel
theorem dX2_find_111 : decode cX2_find 111 = .ok (.iload 7, 2) := by decide +kernel
theorem dX2_find_113 : decode cX2_find 113 = .ok (.istore 5, 2) := by decide +kernel
theorem dX2_find_115 : decode cX2_find 115 = .ok (.iinc 6 1, 3) := by decide +kernel
theorem dX2_find_118 : decode cX2_find 118 = .ok (.goto (-99), 3) := by decide +kernel
theorem dX2_find_121 : decode cX2_find 121 = .ok (.return_, 1) := by decide +kernel
theorem dX2_nextChange_0 : decode cX2_nextChange 0 = .ok (.iload_n 1, 1) := by decide +kernel
theorem dX2_nextChange_1 : decode cX2_nextChange 1 = .ok (.istore 4, 2) := by decide +kernel
theorem dX2_nextChange_3 : decode cX2_nextChange 3 = .ok (.iconst 0, 1) := by decide +kernel
theorem dX2_nextChange_4 : decode cX2_nextChange 4 = .ok (.istore 5, 2) := by decide +kernel
theorem dX2_nextChange_6 : decode cX2_nextChange 6 = .ok (.iload 5, 2) := by decide +kernel
theorem dX2_nextChange_8 : decode cX2_nextChange 8 = .ok (.iconst 3, 1) := by decide +kernel
theorem dX2_nextChange_9 : decode cX2_nextChange 9 = .ok (.if_icmp .ge 71, 3) := by decide +kernel
theorem dX2_nextChange_12 : decode cX2_nextChange 12 = .ok (.aload_n 2, 1) := by decide +kernel
theorem dX2_nextChange_13 : decode cX2_nextChange 13 = .ok (.iload 5, 2) := by decide +kernel
theorem dX2_nextChange_15 : decode cX2_nextChange 15 = .ok (.iaload, 1) := by decide +kernel
theorem dX2_nextChange_16 : decode cX2_nextChange 16 = .ok (.aload_n 3, 1) := by decide +kernel
theorem dX2_nextChange_17 : decode cX2_nextChange 17 = .ok (.iload 5, 2) := by decide +kernel
theorem dX2_nextChange_19 : decode cX2_nextChange 19 = .ok (.iaload, 1) := by decide +kernel
theorem dX2_nextChange_20 : decode cX2_nextChange 20 = .ok (.iadd, 1) := by decide +kernel
theorem dX2_nextChange_21 : decode cX2_nextChange 21 = .ok (.istore 6, 2) := by decide +kernel
theorem dX2_nextChange_23 : decode cX2_nextChange 23 = .ok (.aload_n 2, 1) := by decide +kernel
theorem dX2_nextChange_24 : decode cX2_nextChange 24 = .ok (.iload 5, 2) := by decide +kernel
theorem dX2_nextChange_26 : decode cX2_nextChange 26 = .ok (.iaload, 1) := by decide +kernel
theorem dX2_nextChange_27 : decode cX2_nextChange 27 = .ok (.iload_n 0, 1) := by decide +kernel
theorem dX2_nextChange_28 : decode cX2_nextChange 28 = .ok (.if_icmp .le 24, 3) := by decide +kernel
theorem dX2_nextChange_31 : decode cX2_nextChange 31 = .ok (.aload_n 3, 1) := by decide +kernel
theorem dX2_nextChange_32 : decode cX2_nextChange 32 = .ok (.iload 5, 2) := by decide +kernel
theorem dX2_nextChange_34 : decode cX2_nextChange 34 = .ok (.iaload, 1) := by decide +kernel
theorem dX2_nextChange_35 : decode cX2_nextChange 35 = .ok (.ifCond .le 17, 3) := by decide +kernel
theorem dX2_nextChange_38 : decode cX2_nextChange 38 = .ok (.iload 4, 2) := by decide +kernel
theorem dX2_nextChange_40 : decode cX2_nextChange 40 = .ok (.aload_n 2, 1) := by decide +kernel
theorem dX2_nextChange_41 : decode cX2_nextChange 41 = .ok (.iload 5, 2) := by decide +kernel
theorem dX2_nextChange_43 : decode cX2_nextChange 43 = .ok (.iaload, 1) := by decide +kernel
theorem dX2_nextChange_44 : decode cX2_nextChange 44 = .ok (.invokestatic 43, 3) := by decide +kernel
theorem dX2_nextChange_47 : decode cX2_nextChange 47 = .ok (.istore 4, 2) := by decide +kernel
theorem dX2_nextChange_49 : decode cX2_nextChange 49 = .ok (.goto 25, 3) := by decide +kernel
theorem dX2_nextChange_52 : decode cX2_nextChange 52 = .ok (.iload 6, 2) := by decide +kernel
theorem dX2_nextChange_54 : decode cX2_nextChange 54 = .ok (.iload_n 0, 1) := by decide +kernel
theorem dX2_nextChange_55 : decode cX2_nextChange 55 = .ok (.if_icmp .le 19, 3) := by decide +kernel
theorem dX2_nextChange_58 : decode cX2_nextChange 58 = .ok (.aload_n 3, 1) := by decide +kernel
theorem dX2_nextChange_59 : decode cX2_nextChange 59 = .ok (.iload 5, 2) := by decide +kernel
theorem dX2_nextChange_61 : decode cX2_nextChange 61 = .ok (.iaload, 1) := by decide +kernel
theorem dX2_nextChange_62 : decode cX2_nextChange 62 = .ok (.ifCond .le 12, 3) := by decide +kernel
theorem dX2_nextChange_65 : decode cX2_nextChange 65 = .ok (.iload 4, 2) := by decide +kernel
theorem dX2_nextChange_67 : decode cX2_nextChange 67 = .ok (.iload 6, 2) := by decide +kernel
theorem dX2_nextChange_69 : decode cX2_nextChange 69 = .ok (.invokestatic 43, 3) := by decide +kernel
theorem dX2_nextChange_72 : decode cX2_nextChange 72 = .ok (.istore 4, 2) := by decide +kernel
theorem dX2_nextChange_74 : decode cX2_nextChange 74 = .ok (.iinc 5 1, 3) := by decide +kernel
theorem dX2_nextChange_77 : decode cX2_nextChange 77 = .ok (.goto (-71), 3) := by decide +kernel
theorem dX2_nextChange_80 : decode cX2_nextChange 80 = .ok (.iload 4, 2) := by decide +kernel
theorem dX2_nextChange_82 : decode cX2_nextChange 82 = .ok (.ireturn, 1) := by decide +kernel
theorem dX2_patternAt_0 : decode cX2_patternAt 0 = .ok (.iconst 0, 1) := by decide +kernel
theorem dX2_patternAt_1 : decode cX2_patternAt 1 = .ok (.istore_n 3, 1) := by decide +kernel
theorem dX2_patternAt_2 : decode cX2_patternAt 2 = .ok (.iconst 0, 1) := by decide +kernel
theorem dX2_patternAt_3 : decode cX2_patternAt 3 = .ok (.istore 4, 2) := by decide +kernel
theorem dX2_patternAt_5 : decode cX2_patternAt 5 = .ok (.iload 4, 2) := by decide +kernel
theorem dX2_patternAt_7 : decode cX2_patternAt 7 = .ok (.iconst 3, 1) := by decide +kernel
theorem dX2_patternAt_8 : decode cX2_patternAt 8 = .ok (.if_icmp .ge 37, 3) := by decide +kernel
theorem dX2_patternAt_11 : decode cX2_patternAt 11 = .ok (.iload_n 0, 1) := by decide +kernel
theorem dX2_patternAt_12 : decode cX2_patternAt 12 = .ok (.aload_n 1, 1) := by decide +kernel
theorem dX2_patternAt_13 : decode cX2_patternAt 13 = .ok (.iload 4, 2) := by decide +kernel
theorem dX2_patternAt_15 : decode cX2_patternAt 15 = .ok (.iaload, 1) := by decide +kernel
theorem dX2_patternAt_16 : decode cX2_patternAt 16 = .ok (.if_icmp .lt 23, 3) := by decide +kernel
theorem dX2_patternAt_19 : decode cX2_patternAt 19 = .ok (.iload_n 0, 1) := by decide +kernel
theorem dX2_patternAt_20 : decode cX2_patternAt 20 = .ok (.aload_n 1, 1) := by decide +kernel
theorem dX2_patternAt_21 : decode cX2_patternAt 21 = .ok (.iload 4, 2) := by decide +kernel
theorem dX2_patternAt_23 : decode cX2_patternAt 23 = .ok (.iaload, 1) := by decide +kernel
theorem dX2_patternAt_24 : decode cX2_patternAt 24 = .ok (.aload_n 2, 1) := by decide +kernel
theorem dX2_patternAt_25 : decode cX2_patternAt 25 = .ok (.iload 4, 2) := by decide +kernel
theorem dX2_patternAt_27 : decode cX2_patternAt 27 = .ok (.iaload, 1) := by decide +kernel
theorem dX2_patternAt_28 : decode cX2_patternAt 28 = .ok (.iadd, 1) := by decide +kernel
theorem dX2_patternAt_29 : decode cX2_patternAt 29 = .ok (.if_icmp .ge 10, 3) := by decide +kernel
theorem dX2_patternAt_32 : decode cX2_patternAt 32 = .ok (.iload_n 3, 1) := by decide +kernel
theorem dX2_patternAt_33 : decode cX2_patternAt 33 = .ok (.iconst 1, 1) := by decide +kernel
theorem dX2_patternAt_34 : decode cX2_patternAt 34 = .ok (.iload 4, 2) := by decide +kernel
theorem dX2_patternAt_36 : decode cX2_patternAt 36 = .ok (.ishl, 1) := by decide +kernel
theorem dX2_patternAt_37 : decode cX2_patternAt 37 = .ok (.ior, 1) := by decide +kernel
theorem dX2_patternAt_38 : decode cX2_patternAt 38 = .ok (.istore_n 3, 1) := by decide +kernel
theorem dX2_patternAt_39 : decode cX2_patternAt 39 = .ok (.iinc 4 1, 3) := by decide +kernel
theorem dX2_patternAt_42 : decode cX2_patternAt 42 = .ok (.goto (-37), 3) := by decide +kernel
theorem dX2_patternAt_45 : decode cX2_patternAt 45 = .ok (.iload_n 3, 1) := by decide +kernel
theorem dX2_patternAt_46 : decode cX2_patternAt 46 = .ok (.ireturn, 1) := by decide +kernel
theorem dX2_sees_0 : decode cX2_sees 0 = .ok (.aload_n 0, 1) := by decide +kernel
theorem dX2_sees_1 : decode cX2_sees 1 = .ok (.getfield 23, 3) := by decide +kernel
theorem dX2_sees_4 : decode cX2_sees 4 = .ok (.iload_n 1, 1) := by decide +kernel
theorem dX2_sees_5 : decode cX2_sees 5 = .ok (.ishr, 1) := by decide +kernel
theorem dX2_sees_6 : decode cX2_sees 6 = .ok (.iconst 1, 1) := by decide +kernel
theorem dX2_sees_7 : decode cX2_sees 7 = .ok (.iand, 1) := by decide +kernel
theorem dX2_sees_8 : decode cX2_sees 8 = .ok (.iconst 1, 1) := by decide +kernel
theorem dX2_sees_9 : decode cX2_sees 9 = .ok (.if_icmp .ne 7, 3) := by decide +kernel
theorem dX2_sees_12 : decode cX2_sees 12 = .ok (.iconst 1, 1) := by decide +kernel
theorem dX2_sees_13 : decode cX2_sees 13 = .ok (.goto 4, 3) := by decide +kernel
theorem dX2_sees_16 : decode cX2_sees 16 = .ok (.iconst 0, 1) := by decide +kernel
theorem dX2_sees_17 : decode cX2_sees 17 = .ok (.ireturn, 1) := by decide +kernel
theorem dX2_howManySeen_0 : decode cX2_howManySeen 0 = .ok (.aload_n 0, 1) := by decide +kernel
theorem dX2_howManySeen_1 : decode cX2_howManySeen 1 = .ok (.getfield 23, 3) := by decide +kernel
theorem dX2_howManySeen_4 : decode cX2_howManySeen 4 = .ok (.invokestatic 49, 3) := by decide +kernel
theorem dX2_howManySeen_7 : decode cX2_howManySeen 7 = .ok (.ireturn, 1) := by decide +kernel
theorem dX2_ticksOf_0 : decode cX2_ticksOf 0 = .ok (.iconst 0, 1) := by decide +kernel
theorem dX2_ticksOf_1 : decode cX2_ticksOf 1 = .ok (.istore_n 2, 1) := by decide +kernel
theorem dX2_ticksOf_2 : decode cX2_ticksOf 2 = .ok (.iconst 0, 1) := by decide +kernel
theorem dX2_ticksOf_3 : decode cX2_ticksOf 3 = .ok (.istore_n 3, 1) := by decide +kernel
theorem dX2_ticksOf_4 : decode cX2_ticksOf 4 = .ok (.iload_n 3, 1) := by decide +kernel
theorem dX2_ticksOf_5 : decode cX2_ticksOf 5 = .ok (.aload_n 0, 1) := by decide +kernel
theorem dX2_ticksOf_6 : decode cX2_ticksOf 6 = .ok (.getfield 14, 3) := by decide +kernel
theorem dX2_ticksOf_9 : decode cX2_ticksOf 9 = .ok (.getfield 55, 3) := by decide +kernel
theorem dX2_ticksOf_12 : decode cX2_ticksOf 12 = .ok (.if_icmp .ge 36, 3) := by decide +kernel
theorem dX2_ticksOf_15 : decode cX2_ticksOf 15 = .ok (.aload_n 0, 1) := by decide +kernel
theorem dX2_ticksOf_16 : decode cX2_ticksOf 16 = .ok (.getfield 14, 3) := by decide +kernel
theorem dX2_ticksOf_19 : decode cX2_ticksOf 19 = .ok (.iconst (-1), 1) := by decide +kernel
theorem dX2_ticksOf_20 : decode cX2_ticksOf 20 = .ok (.iload_n 3, 1) := by decide +kernel
theorem dX2_ticksOf_21 : decode cX2_ticksOf 21 = .ok (.iconst 2, 1) := by decide +kernel
theorem dX2_ticksOf_22 : decode cX2_ticksOf 22 = .ok (.invokevirtual 58, 3) := by decide +kernel
theorem dX2_ticksOf_25 : decode cX2_ticksOf 25 = .ok (.iload_n 1, 1) := by decide +kernel
theorem dX2_ticksOf_26 : decode cX2_ticksOf 26 = .ok (.if_icmp .ne 16, 3) := by decide +kernel
theorem dX2_ticksOf_29 : decode cX2_ticksOf 29 = .ok (.iload_n 2, 1) := by decide +kernel
theorem dX2_ticksOf_30 : decode cX2_ticksOf 30 = .ok (.aload_n 0, 1) := by decide +kernel
theorem dX2_ticksOf_31 : decode cX2_ticksOf 31 = .ok (.getfield 14, 3) := by decide +kernel
theorem dX2_ticksOf_34 : decode cX2_ticksOf 34 = .ok (.iconst 0, 1) := by decide +kernel
theorem dX2_ticksOf_35 : decode cX2_ticksOf 35 = .ok (.iload_n 3, 1) := by decide +kernel
theorem dX2_ticksOf_36 : decode cX2_ticksOf 36 = .ok (.iconst 1, 1) := by decide +kernel
theorem dX2_ticksOf_37 : decode cX2_ticksOf 37 = .ok (.invokevirtual 58, 3) := by decide +kernel
theorem dX2_ticksOf_40 : decode cX2_ticksOf 40 = .ok (.iadd, 1) := by decide +kernel
theorem dX2_ticksOf_41 : decode cX2_ticksOf 41 = .ok (.istore_n 2, 1) := by decide +kernel
theorem dX2_ticksOf_42 : decode cX2_ticksOf 42 = .ok (.iinc 3 1, 3) := by decide +kernel
theorem dX2_ticksOf_45 : decode cX2_ticksOf 45 = .ok (.goto (-41), 3) := by decide +kernel
theorem dX2_ticksOf_48 : decode cX2_ticksOf 48 = .ok (.iload_n 2, 1) := by decide +kernel
theorem dX2_ticksOf_49 : decode cX2_ticksOf 49 = .ok (.ireturn, 1) := by decide +kernel
theorem dX3_init_0 : decode cX3_init 0 = .ok (.aload_n 0, 1) := by decide +kernel
theorem dX3_init_1 : decode cX3_init 1 = .ok (.invokespecial 3, 3) := by decide +kernel
theorem dX3_init_4 : decode cX3_init 4 = .ok (.aload_n 0, 1) := by decide +kernel
theorem dX3_init_5 : decode cX3_init 5 = .ok (.new 9, 3) := by decide +kernel
theorem dX3_init_8 : decode cX3_init 8 = .ok (.dup, 1) := by decide +kernel
theorem dX3_init_9 : decode cX3_init 9 = .ok (.invokespecial 11, 3) := by decide +kernel
theorem dX3_init_12 : decode cX3_init 12 = .ok (.putfield 12, 3) := by decide +kernel
theorem dX3_init_15 : decode cX3_init 15 = .ok (.aload_n 0, 1) := by decide +kernel
theorem dX3_init_16 : decode cX3_init 16 = .ok (.iconst 3, 1) := by decide +kernel
theorem dX3_init_17 : decode cX3_init 17 = .ok (.newarray .int, 2) := by decide +kernel
theorem dX3_init_19 : decode cX3_init 19 = .ok (.putfield 18, 3) := by decide +kernel
theorem dX3_init_22 : decode cX3_init 22 = .ok (.aload_n 0, 1) := by decide +kernel
theorem dX3_init_23 : decode cX3_init 23 = .ok (.iconst 3, 1) := by decide +kernel
theorem dX3_init_24 : decode cX3_init 24 = .ok (.newarray .int, 2) := by decide +kernel
theorem dX3_init_26 : decode cX3_init 26 = .ok (.putfield 22, 3) := by decide +kernel
theorem dX3_init_29 : decode cX3_init 29 = .ok (.aload_n 0, 1) := by decide +kernel
theorem dX3_init_30 : decode cX3_init 30 = .ok (.iconst 3, 1) := by decide +kernel
theorem dX3_init_31 : decode cX3_init 31 = .ok (.newarray .int, 2) := by decide +kernel
theorem dX3_init_33 : decode cX3_init 33 = .ok (.putfield 25, 3) := by decide +kernel
theorem dX3_init_36 : decode cX3_init 36 = .ok (.return_, 1) := by decide +kernel
theorem dX3_search_0 : decode cX3_search 0 = .ok (.aload_n 0, 1) := by decide +kernel
theorem dX3_search_1 : decode cX3_search 1 = .ok (.iconst 0, 1) := by decide +kernel
theorem dX3_search_2 : decode cX3_search 2 = .ok (.putfield 28, 3) := by decide +kernel
theorem dX3_search_5 : decode cX3_search 5 = .ok (.iconst 0, 1) := by decide +kernel
theorem dX3_search_6 : decode cX3_search 6 = .ok (.istore_n 3, 1) := by decide +kernel
theorem dX3_search_7 : decode cX3_search 7 = .ok (.iload_n 3, 1) := by decide +kernel
theorem dX3_search_8 : decode cX3_search 8 = .ok (.bipush 18, 2) := by decide +kernel
theorem dX3_search_10 : decode cX3_search 10 = .ok (.if_icmp .gt 28, 3) := by decide +kernel
theorem dX3_search_13 : decode cX3_search 13 = .ok (.aload_n 0, 1) := by decide +kernel
theorem dX3_search_14 : decode cX3_search 14 = .ok (.getfield 28, 3) := by decide +kernel
theorem dX3_search_17 : decode cX3_search 17 = .ok (.ifCond .ne 21, 3) := by decide +kernel
theorem dX3_search_20 : decode cX3_search 20 = .ok (.aload_n 0, 1) := by decide +kernel
theorem dX3_search_21 : decode cX3_search 21 = .ok (.iload_n 3, 1) := by decide +kernel
theorem dX3_search_22 : decode cX3_search 22 = .ok (.putfield 32, 3) := by decide +kernel
theorem dX3_search_25 : decode cX3_search 25 = .ok (.aload_n 0, 1) := by decide +kernel
theorem dX3_search_26 : decode cX3_search 26 = .ok (.iload_n 3, 1) := by decide +kernel
theorem dX3_search_27 : decode cX3_search 27 = .ok (.aload_n 1, 1) := by decide +kernel
theorem dX3_search_28 : decode cX3_search 28 = .ok (.iload_n 2, 1) := by decide +kernel
theorem dX3_search_29 : decode cX3_search 29 = .ok (.invokevirtual 35, 3) := by decide +kernel
theorem dX3_search_32 : decode cX3_search 32 = .ok (.iinc 3 1, 3) := by decide +kernel
theorem dX3_search_35 : decode cX3_search 35 = .ok (.goto (-28), 3) := by decide +kernel
theorem dX3_search_38 : decode cX3_search 38 = .ok (.return_, 1) := by decide +kernel
theorem dX3_searchAllOf_0 : decode cX3_searchAllOf 0 = .ok (.bipush (-6), 2) := by decide +kernel
theorem dX3_searchAllOf_2 : decode cX3_searchAllOf 2 = .ok (.istore 4, 2) := by decide +kernel
theorem dX3_searchAllOf_4 : decode cX3_searchAllOf 4 = .ok (.iload 4, 2) := by decide +kernel
theorem dX3_searchAllOf_6 : decode cX3_searchAllOf 6 = .ok (.bipush 6, 2) := by decide +kernel
theorem dX3_searchAllOf_8 : decode cX3_searchAllOf 8 = .ok (.if_icmp .gt 85, 3) := by decide +kernel
theorem dX3_searchAllOf_11 : decode cX3_searchAllOf 11 = .ok (.bipush (-6), 2) := by decide +kernel
theorem dX3_searchAllOf_13 : decode cX3_searchAllOf 13 = .ok (.istore 5, 2) := by decide +kernel
theorem dX3_searchAllOf_15 : decode cX3_searchAllOf 15 = .ok (.iload 5, 2) := by decide +kernel
theorem dX3_searchAllOf_17 : decode cX3_searchAllOf 17 = .ok (.bipush 6, 2) := by decide +kernel
theorem dX3_searchAllOf_19 : decode cX3_searchAllOf 19 = .ok (.if_icmp .gt 68, 3) := by decide +kernel
theorem dX3_searchAllOf_22 : decode cX3_searchAllOf 22 = .ok (.iload_n 1, 1) := by decide +kernel
theorem dX3_searchAllOf_23 : decode cX3_searchAllOf 23 = .ok (.iload 4, 2) := by decide +kernel
theorem dX3_searchAllOf_25 : decode cX3_searchAllOf 25 = .ok (.invokestatic 39, 3) := by decide +kernel
theorem dX3_searchAllOf_28 : decode cX3_searchAllOf 28 = .ok (.isub, 1) := by decide +kernel
theorem dX3_searchAllOf_29 : decode cX3_searchAllOf 29 = .ok (.iload 5, 2) := by decide +kernel
theorem dX3_searchAllOf_31 : decode cX3_searchAllOf 31 = .ok (.invokestatic 39, 3) := by decide +kernel
theorem dX3_searchAllOf_34 : decode cX3_searchAllOf 34 = .ok (.isub, 1) := by decide +kernel
theorem dX3_searchAllOf_35 : decode cX3_searchAllOf 35 = .ok (.istore 6, 2) := by decide +kernel
theorem dX3_searchAllOf_37 : decode cX3_searchAllOf 37 = .ok (.iload 6, 2) := by decide +kernel
theorem dX3_searchAllOf_39 : decode cX3_searchAllOf 39 = .ok (.iconst 0, 1) := by decide +kernel
theorem dX3_searchAllOf_40 : decode cX3_searchAllOf 40 = .ok (.bipush 6, 2) := by decide +kernel
theorem dX3_searchAllOf_42 : decode cX3_searchAllOf 42 = .ok (.invokestatic 45, 3) := by decide +kernel
theorem dX3_searchAllOf_45 : decode cX3_searchAllOf 45 = .ok (.ifCond .ne 6, 3) := by decide +kernel
theorem dX3_searchAllOf_48 : decode cX3_searchAllOf 48 = .ok (.goto 33, 3) := by decide +kernel
theorem dX3_searchAllOf_51 : decode cX3_searchAllOf 51 = .ok (.aload_n 0, 1) := by decide +kernel
theorem dX3_searchAllOf_52 : decode cX3_searchAllOf 52 = .ok (.iload 4, 2) := by decide +kernel
theorem dX3_searchAllOf_54 : decode cX3_searchAllOf 54 = .ok (.iload 5, 2) := by decide +kernel
theorem dX3_searchAllOf_56 : decode cX3_searchAllOf 56 = .ok (.iload 6, 2) := by decide +kernel
theorem dX3_searchAllOf_58 : decode cX3_searchAllOf 58 = .ok (.ineg, 1) := by decide +kernel
theorem dX3_searchAllOf_59 : decode cX3_searchAllOf 59 = .ok (.aload_n 2, 1) := by decide +kernel
theorem dX3_searchAllOf_60 : decode cX3_searchAllOf 60 = .ok (.iload_n 3, 1) := by decide +kernel
theorem dX3_searchAllOf_61 : decode cX3_searchAllOf 61 = .ok (.invokevirtual 49, 3) := by decide +kernel
theorem dX3_searchAllOf_64 : decode cX3_searchAllOf 64 = .ok (.iload 6, 2) := by decide +kernel
theorem dX3_searchAllOf_66 : decode cX3_searchAllOf 66 = .ok (.ifCond .le 15, 3) := by decide +kernel
theorem dX3_searchAllOf_69 : decode cX3_searchAllOf 69 = .ok (.aload_n 0, 1) := by decide +kernel
theorem dX3_searchAllOf_70 : decode cX3_searchAllOf 70 = .ok (.iload 4, 2) := by decide +kernel
theorem dX3_searchAllOf_72 : decode cX3_searchAllOf 72 = .ok (.iload 5, 2) := by decide +kernel
theorem dX3_searchAllOf_74 : decode cX3_searchAllOf 74 = .ok (.iload 6, 2) := by decide +kernel
theorem dX3_searchAllOf_76 : decode cX3_searchAllOf 76 = .ok (.aload_n 2, 1) := by decide +kernel
theorem dX3_searchAllOf_77 : decode cX3_searchAllOf 77 = .ok (.iload_n 3, 1) := by decide +kernel
theorem dX3_searchAllOf_78 : decode cX3_searchAllOf 78 = .ok (.invokevirtual 49, 3) := by decide +kernel
theorem dX3_searchAllOf_81 : decode cX3_searchAllOf 81 = .ok (.iinc 5 1, 3) := by decide +kernel
theorem dX3_searchAllOf_84 : decode cX3_searchAllOf 84 = .ok (.goto (-69), 3) := by decide +kernel
theorem dX3_searchAllOf_87 : decode cX3_searchAllOf 87 = .ok (.iinc 4 1, 3) := by decide +kernel
theorem dX3_searchAllOf_90 : decode cX3_searchAllOf 90 = .ok (.goto (-86), 3) := by decide +kernel
theorem dX3_searchAllOf_93 : decode cX3_searchAllOf 93 = .ok (.return_, 1) := by decide +kernel
theorem dX3_tryOne_0 : decode cX3_tryOne 0 = .ok (.aload_n 0, 1) := by decide +kernel
theorem dX3_tryOne_1 : decode cX3_tryOne 1 = .ok (.getfield 18, 3) := by decide +kernel
theorem dX3_tryOne_4 : decode cX3_tryOne 4 = .ok (.iconst 0, 1) := by decide +kernel
theorem dX3_tryOne_5 : decode cX3_tryOne 5 = .ok (.iload_n 1, 1) := by decide +kernel
theorem dX3_tryOne_6 : decode cX3_tryOne 6 = .ok (.iastore, 1) := by decide +kernel
theorem dX3_tryOne_7 : decode cX3_tryOne 7 = .ok (.aload_n 0, 1) := by decide +kernel
theorem dX3_tryOne_8 : decode cX3_tryOne 8 = .ok (.getfield 18, 3) := by decide +kernel
theorem dX3_tryOne_11 : decode cX3_tryOne 11 = .ok (.iconst 1, 1) := by decide +kernel
theorem dX3_tryOne_12 : decode cX3_tryOne 12 = .ok (.iload_n 2, 1) := by decide +kernel
theorem dX3_tryOne_13 : decode cX3_tryOne 13 = .ok (.iastore, 1) := by decide +kernel
theorem dX3_tryOne_14 : decode cX3_tryOne 14 = .ok (.aload_n 0, 1) := by decide +kernel
theorem dX3_tryOne_15 : decode cX3_tryOne 15 = .ok (.getfield 18, 3) := by decide +kernel
theorem dX3_tryOne_18 : decode cX3_tryOne 18 = .ok (.iconst 2, 1) := by decide +kernel
end
section
theorem dX3_tryOne_19 : decode cX3_tryOne 19 = .ok (.iload_n 3, 1) := by decide +kernel
theorem dX3_tryOne_20 : decode cX3_tryOne 20 = .ok (.iastore, 1) := by decide +kernel
theorem dX3_tryOne_21 : decode cX3_tryOne 21 = .ok (.iconst 0, 1) := by decide +kernel
theorem dX3_tryOne_22 : decode cX3_tryOne 22 = .ok (.istore 6, 2) := by decide +kernel
theorem dX3_tryOne_24 : decode cX3_tryOne 24 = .ok (.iload 6, 2) := by decide +kernel
theorem dX3_tryOne_26 : decode cX3_tryOne 26 = .ok (.iconst 3, 1) := by decide +kernel
theorem dX3_tryOne_27 : decode cX3_tryOne 27 = .ok (.if_icmp .ge 50, 3) := by decide +kernel
theorem dX3_tryOne_30 : decode cX3_tryOne 30 = .ok (.aload 4, 2) := by decide +kernel
theorem dX3_tryOne_32 : decode cX3_tryOne 32 = .ok (.iload 6, 2) := by decide +kernel
theorem dX3_tryOne_34 : decode cX3_tryOne 34 = .ok (.aload_n 0, 1) := by decide +kernel
theorem dX3_tryOne_35 : decode cX3_tryOne 35 = .ok (.getfield 18, 3) := by decide +kernel
theorem dX3_tryOne_38 : decode cX3_tryOne 38 = .ok (.iload 6, 2) := by decide +kernel
theorem dX3_tryOne_40 : decode cX3_tryOne 40 = .ok (.iaload, 1) := by decide +kernel
theorem dX3_tryOne_41 : decode cX3_tryOne 41 = .ok (.invokestatic 53, 3) := by decide +kernel
theorem dX3_tryOne_44 : decode cX3_tryOne 44 = .ok (.ifCond .ne 4, 3) := by decide +kernel
theorem dX3_tryOne_47 : decode cX3_tryOne 47 = .ok (.return_, 1) := by decide +kernel
theorem dX3_tryOne_48 : decode cX3_tryOne 48 = .ok (.aload_n 0, 1) := by decide +kernel
theorem dX3_tryOne_49 : decode cX3_tryOne 49 = .ok (.getfield 22, 3) := by decide +kernel
theorem dX3_tryOne_52 : decode cX3_tryOne 52 = .ok (.iload 6, 2) := by decide +kernel
theorem dX3_tryOne_54 : decode cX3_tryOne 54 = .ok (.aload 4, 2) := by decide +kernel
theorem dX3_tryOne_56 : decode cX3_tryOne 56 = .ok (.getfield 57, 3) := by decide +kernel
theorem dX3_tryOne_59 : decode cX3_tryOne 59 = .ok (.iload 6, 2) := by decide +kernel
theorem dX3_tryOne_61 : decode cX3_tryOne 61 = .ok (.iaload, 1) := by decide +kernel
theorem dX3_tryOne_62 : decode cX3_tryOne 62 = .ok (.aload_n 0, 1) := by decide +kernel
theorem dX3_tryOne_63 : decode cX3_tryOne 63 = .ok (.getfield 18, 3) := by decide +kernel
theorem dX3_tryOne_66 : decode cX3_tryOne 66 = .ok (.iload 6, 2) := by decide +kernel
theorem dX3_tryOne_68 : decode cX3_tryOne 68 = .ok (.iaload, 1) := by decide +kernel
theorem dX3_tryOne_69 : decode cX3_tryOne 69 = .ok (.iadd, 1) := by decide +kernel
theorem dX3_tryOne_70 : decode cX3_tryOne 70 = .ok (.iastore, 1) := by decide +kernel
theorem dX3_tryOne_71 : decode cX3_tryOne 71 = .ok (.iinc 6 1, 3) := by decide +kernel
theorem dX3_tryOne_74 : decode cX3_tryOne 74 = .ok (.goto (-50), 3) := by decide +kernel
theorem dX3_tryOne_77 : decode cX3_tryOne 77 = .ok (.aload_n 0, 1) := by decide +kernel
theorem dX3_tryOne_78 : decode cX3_tryOne 78 = .ok (.getfield 12, 3) := by decide +kernel
theorem dX3_tryOne_81 : decode cX3_tryOne 81 = .ok (.aload 4, 2) := by decide +kernel
theorem dX3_tryOne_83 : decode cX3_tryOne 83 = .ok (.getfield 62, 3) := by decide +kernel
theorem dX3_tryOne_86 : decode cX3_tryOne 86 = .ok (.iload 5, 2) := by decide +kernel
theorem dX3_tryOne_88 : decode cX3_tryOne 88 = .ok (.aload_n 0, 1) := by decide +kernel
theorem dX3_tryOne_89 : decode cX3_tryOne 89 = .ok (.getfield 22, 3) := by decide +kernel
theorem dX3_tryOne_92 : decode cX3_tryOne 92 = .ok (.aload 4, 2) := by decide +kernel
theorem dX3_tryOne_94 : decode cX3_tryOne 94 = .ok (.getfield 65, 3) := by decide +kernel
theorem dX3_tryOne_97 : decode cX3_tryOne 97 = .ok (.invokevirtual 68, 3) := by decide +kernel
theorem dX3_tryOne_100 : decode cX3_tryOne 100 = .ok (.aload_n 0, 1) := by decide +kernel
theorem dX3_tryOne_101 : decode cX3_tryOne 101 = .ok (.getfield 12, 3) := by decide +kernel
theorem dX3_tryOne_104 : decode cX3_tryOne 104 = .ok (.invokevirtual 72, 3) := by decide +kernel
theorem dX3_tryOne_107 : decode cX3_tryOne 107 = .ok (.iconst 2, 1) := by decide +kernel
theorem dX3_tryOne_108 : decode cX3_tryOne 108 = .ok (.if_icmp .ge 4, 3) := by decide +kernel
theorem dX3_tryOne_111 : decode cX3_tryOne 111 = .ok (.return_, 1) := by decide +kernel
theorem dX3_tryOne_112 : decode cX3_tryOne 112 = .ok (.aload_n 0, 1) := by decide +kernel
theorem dX3_tryOne_113 : decode cX3_tryOne 113 = .ok (.getfield 28, 3) := by decide +kernel
theorem dX3_tryOne_116 : decode cX3_tryOne 116 = .ok (.ifCond .ne 17, 3) := by decide +kernel
theorem dX3_tryOne_119 : decode cX3_tryOne 119 = .ok (.aload_n 0, 1) := by decide +kernel
theorem dX3_tryOne_120 : decode cX3_tryOne 120 = .ok (.getfield 18, 3) := by decide +kernel
theorem dX3_tryOne_123 : decode cX3_tryOne 123 = .ok (.iconst 0, 1) := by decide +kernel
theorem dX3_tryOne_124 : decode cX3_tryOne 124 = .ok (.aload_n 0, 1) := by decide +kernel
theorem dX3_tryOne_125 : decode cX3_tryOne 125 = .ok (.getfield 25, 3) := by decide +kernel
theorem dX3_tryOne_128 : decode cX3_tryOne 128 = .ok (.iconst 0, 1) := by decide +kernel
theorem dX3_tryOne_129 : decode cX3_tryOne 129 = .ok (.iconst 3, 1) := by decide +kernel
theorem dX3_tryOne_130 : decode cX3_tryOne 130 = .ok (.invokestatic 76, 3) := by decide +kernel
theorem dX3_tryOne_133 : decode cX3_tryOne 133 = .ok (.aload_n 0, 1) := by decide +kernel
theorem dX3_tryOne_134 : decode cX3_tryOne 134 = .ok (.dup, 1) := by decide +kernel
theorem dX3_tryOne_135 : decode cX3_tryOne 135 = .ok (.getfield 28, 3) := by decide +kernel
theorem dX3_tryOne_138 : decode cX3_tryOne 138 = .ok (.iconst 1, 1) := by decide +kernel
theorem dX3_tryOne_139 : decode cX3_tryOne 139 = .ok (.iadd, 1) := by decide +kernel
theorem dX3_tryOne_140 : decode cX3_tryOne 140 = .ok (.putfield 28, 3) := by decide +kernel
theorem dX3_tryOne_143 : decode cX3_tryOne 143 = .ok (.return_, 1) := by decide +kernel
theorem dX3_mayMove_0 : decode cX3_mayMove 0 = .ok (.aload_n 0, 1) := by decide +kernel
theorem dX3_mayMove_1 : decode cX3_mayMove 1 = .ok (.getfield 65, 3) := by decide +kernel
theorem dX3_mayMove_4 : decode cX3_mayMove 4 = .ok (.iload_n 1, 1) := by decide +kernel
theorem dX3_mayMove_5 : decode cX3_mayMove 5 = .ok (.iaload, 1) := by decide +kernel
theorem dX3_mayMove_6 : decode cX3_mayMove 6 = .ok (.ifCond .ne 13, 3) := by decide +kernel
theorem dX3_mayMove_9 : decode cX3_mayMove 9 = .ok (.iload_n 2, 1) := by decide +kernel
theorem dX3_mayMove_10 : decode cX3_mayMove 10 = .ok (.ifCond .ne 7, 3) := by decide +kernel
theorem dX3_mayMove_13 : decode cX3_mayMove 13 = .ok (.iconst 1, 1) := by decide +kernel
theorem dX3_mayMove_14 : decode cX3_mayMove 14 = .ok (.goto 4, 3) := by decide +kernel
theorem dX3_mayMove_17 : decode cX3_mayMove 17 = .ok (.iconst 0, 1) := by decide +kernel
theorem dX3_mayMove_18 : decode cX3_mayMove 18 = .ok (.ireturn, 1) := by decide +kernel
theorem dX3_mayMove_19 : decode cX3_mayMove 19 = .ok (.aload_n 0, 1) := by decide +kernel
theorem dX3_mayMove_20 : decode cX3_mayMove 20 = .ok (.getfield 57, 3) := by decide +kernel
theorem dX3_mayMove_23 : decode cX3_mayMove 23 = .ok (.iload_n 1, 1) := by decide +kernel
theorem dX3_mayMove_24 : decode cX3_mayMove 24 = .ok (.iaload, 1) := by decide +kernel
theorem dX3_mayMove_25 : decode cX3_mayMove 25 = .ok (.iload_n 2, 1) := by decide +kernel
theorem dX3_mayMove_26 : decode cX3_mayMove 26 = .ok (.iadd, 1) := by decide +kernel
theorem dX3_mayMove_27 : decode cX3_mayMove 27 = .ok (.istore_n 3, 1) := by decide +kernel
theorem dX3_mayMove_28 : decode cX3_mayMove 28 = .ok (.iload_n 3, 1) := by decide +kernel
theorem dX3_mayMove_29 : decode cX3_mayMove 29 = .ok (.ifCond .lt 22, 3) := by decide +kernel
theorem dX3_mayMove_32 : decode cX3_mayMove 32 = .ok (.iload_n 3, 1) := by decide +kernel
theorem dX3_mayMove_33 : decode cX3_mayMove 33 = .ok (.aload_n 0, 1) := by decide +kernel
theorem dX3_mayMove_34 : decode cX3_mayMove 34 = .ok (.getfield 65, 3) := by decide +kernel
theorem dX3_mayMove_37 : decode cX3_mayMove 37 = .ok (.iload_n 1, 1) := by decide +kernel
theorem dX3_mayMove_38 : decode cX3_mayMove 38 = .ok (.iaload, 1) := by decide +kernel
theorem dX3_mayMove_39 : decode cX3_mayMove 39 = .ok (.iadd, 1) := by decide +kernel
theorem dX3_mayMove_40 : decode cX3_mayMove 40 = .ok (.aload_n 0, 1) := by decide +kernel
theorem dX3_mayMove_41 : decode cX3_mayMove 41 = .ok (.getfield 62, 3) := by decide +kernel
theorem dX3_mayMove_44 : decode cX3_mayMove 44 = .ok (.if_icmp .gt 7, 3) := by decide +kernel
theorem dX3_mayMove_47 : decode cX3_mayMove 47 = .ok (.iconst 1, 1) := by decide +kernel
theorem dX3_mayMove_48 : decode cX3_mayMove 48 = .ok (.goto 4, 3) := by decide +kernel
theorem dX3_mayMove_51 : decode cX3_mayMove 51 = .ok (.iconst 0, 1) := by decide +kernel
theorem dX3_mayMove_52 : decode cX3_mayMove 52 = .ok (.ireturn, 1) := by decide +kernel
theorem dX4_init_0 : decode cX4_init 0 = .ok (.aload_n 0, 1) := by decide +kernel
theorem dX4_init_1 : decode cX4_init 1 = .ok (.invokespecial 3, 3) := by decide +kernel
theorem dX4_init_4 : decode cX4_init 4 = .ok (.aload_n 0, 1) := by decide +kernel
theorem dX4_init_5 : decode cX4_init 5 = .ok (.iconst 0, 1) := by decide +kernel
theorem dX4_init_6 : decode cX4_init 6 = .ok (.iload_n 1, 1) := by decide +kernel
theorem dX4_init_7 : decode cX4_init 7 = .ok (.invokestatic 9, 3) := by decide +kernel
theorem dX4_init_10 : decode cX4_init 10 = .ok (.putfield 15, 3) := by decide +kernel
theorem dX4_init_13 : decode cX4_init 13 = .ok (.aload_n 0, 1) := by decide +kernel
theorem dX4_init_14 : decode cX4_init 14 = .ok (.aload_n 0, 1) := by decide +kernel
theorem dX4_init_15 : decode cX4_init 15 = .ok (.getfield 15, 3) := by decide +kernel
theorem dX4_init_18 : decode cX4_init 18 = .ok (.iconst 4, 1) := by decide +kernel
theorem dX4_init_19 : decode cX4_init 19 = .ok (.imul, 1) := by decide +kernel
theorem dX4_init_20 : decode cX4_init 20 = .ok (.newarray .int, 2) := by decide +kernel
theorem dX4_init_22 : decode cX4_init 22 = .ok (.putfield 21, 3) := by decide +kernel
theorem dX4_init_25 : decode cX4_init 25 = .ok (.return_, 1) := by decide +kernel
theorem dX4_isFull_0 : decode cX4_isFull 0 = .ok (.aload_n 0, 1) := by decide +kernel
theorem dX4_isFull_1 : decode cX4_isFull 1 = .ok (.getfield 25, 3) := by decide +kernel
theorem dX4_isFull_4 : decode cX4_isFull 4 = .ok (.aload_n 0, 1) := by decide +kernel
theorem dX4_isFull_5 : decode cX4_isFull 5 = .ok (.getfield 15, 3) := by decide +kernel
theorem dX4_isFull_8 : decode cX4_isFull 8 = .ok (.if_icmp .lt 7, 3) := by decide +kernel
theorem dX4_isFull_11 : decode cX4_isFull 11 = .ok (.iconst 1, 1) := by decide +kernel
theorem dX4_isFull_12 : decode cX4_isFull 12 = .ok (.goto 4, 3) := by decide +kernel
theorem dX4_isFull_15 : decode cX4_isFull 15 = .ok (.iconst 0, 1) := by decide +kernel
theorem dX4_isFull_16 : decode cX4_isFull 16 = .ok (.ireturn, 1) := by decide +kernel
theorem dX4_add_0 : decode cX4_add 0 = .ok (.aload_n 0, 1) := by decide +kernel
theorem dX4_add_1 : decode cX4_add 1 = .ok (.invokevirtual 28, 3) := by decide +kernel
theorem dX4_add_4 : decode cX4_add 4 = .ok (.ifCond .eq 4, 3) := by decide +kernel
theorem dX4_add_7 : decode cX4_add 7 = .ok (.return_, 1) := by decide +kernel
theorem dX4_add_8 : decode cX4_add 8 = .ok (.aload_n 0, 1) := by decide +kernel
theorem dX4_add_9 : decode cX4_add 9 = .ok (.getfield 25, 3) := by decide +kernel
theorem dX4_add_12 : decode cX4_add 12 = .ok (.iconst 4, 1) := by decide +kernel
theorem dX4_add_13 : decode cX4_add 13 = .ok (.imul, 1) := by decide +kernel
theorem dX4_add_14 : decode cX4_add 14 = .ok (.istore 5, 2) := by decide +kernel
theorem dX4_add_16 : decode cX4_add 16 = .ok (.aload_n 0, 1) := by decide +kernel
theorem dX4_add_17 : decode cX4_add 17 = .ok (.getfield 21, 3) := by decide +kernel
theorem dX4_add_20 : decode cX4_add 20 = .ok (.iload 5, 2) := by decide +kernel
theorem dX4_add_22 : decode cX4_add 22 = .ok (.iload_n 1, 1) := by decide +kernel
theorem dX4_add_23 : decode cX4_add 23 = .ok (.iastore, 1) := by decide +kernel
theorem dX4_add_24 : decode cX4_add 24 = .ok (.aload_n 0, 1) := by decide +kernel
theorem dX4_add_25 : decode cX4_add 25 = .ok (.getfield 21, 3) := by decide +kernel
theorem dX4_add_28 : decode cX4_add 28 = .ok (.iload 5, 2) := by decide +kernel
theorem dX4_add_30 : decode cX4_add 30 = .ok (.iconst 1, 1) := by decide +kernel
theorem dX4_add_31 : decode cX4_add 31 = .ok (.iadd, 1) := by decide +kernel
theorem dX4_add_32 : decode cX4_add 32 = .ok (.iload_n 2, 1) := by decide +kernel
theorem dX4_add_33 : decode cX4_add 33 = .ok (.iastore, 1) := by decide +kernel
theorem dX4_add_34 : decode cX4_add 34 = .ok (.aload_n 0, 1) := by decide +kernel
theorem dX4_add_35 : decode cX4_add 35 = .ok (.getfield 21, 3) := by decide +kernel
theorem dX4_add_38 : decode cX4_add 38 = .ok (.iload 5, 2) := by decide +kernel
theorem dX4_add_40 : decode cX4_add 40 = .ok (.iconst 2, 1) := by decide +kernel
theorem dX4_add_41 : decode cX4_add 41 = .ok (.iadd, 1) := by decide +kernel
theorem dX4_add_42 : decode cX4_add 42 = .ok (.iload_n 3, 1) := by decide +kernel
theorem dX4_add_43 : decode cX4_add 43 = .ok (.iastore, 1) := by decide +kernel
theorem dX4_add_44 : decode cX4_add 44 = .ok (.aload_n 0, 1) := by decide +kernel
theorem dX4_add_45 : decode cX4_add 45 = .ok (.getfield 21, 3) := by decide +kernel
theorem dX4_add_48 : decode cX4_add 48 = .ok (.iload 5, 2) := by decide +kernel
theorem dX4_add_50 : decode cX4_add 50 = .ok (.iconst 3, 1) := by decide +kernel
theorem dX4_add_51 : decode cX4_add 51 = .ok (.iadd, 1) := by decide +kernel
theorem dX4_add_52 : decode cX4_add 52 = .ok (.iload 4, 2) := by decide +kernel
theorem dX4_add_54 : decode cX4_add 54 = .ok (.iastore, 1) := by decide +kernel
theorem dX4_add_55 : decode cX4_add 55 = .ok (.aload_n 0, 1) := by decide +kernel
theorem dX4_add_56 : decode cX4_add 56 = .ok (.dup, 1) := by decide +kernel
theorem dX4_add_57 : decode cX4_add 57 = .ok (.getfield 25, 3) := by decide +kernel
theorem dX4_add_60 : decode cX4_add 60 = .ok (.iconst 1, 1) := by decide +kernel
theorem dX4_add_61 : decode cX4_add 61 = .ok (.iadd, 1) := by decide +kernel
theorem dX4_add_62 : decode cX4_add 62 = .ok (.putfield 25, 3) := by decide +kernel
theorem dX4_add_65 : decode cX4_add 65 = .ok (.return_, 1) := by decide +kernel
theorem dX4_addAll_0 : decode cX4_addAll 0 = .ok (.iconst 0, 1) := by decide +kernel
theorem dX4_addAll_1 : decode cX4_addAll 1 = .ok (.istore_n 2, 1) := by decide +kernel
theorem dX4_addAll_2 : decode cX4_addAll 2 = .ok (.iload_n 2, 1) := by decide +kernel
theorem dX4_addAll_3 : decode cX4_addAll 3 = .ok (.aload_n 1, 1) := by decide +kernel
theorem dX4_addAll_4 : decode cX4_addAll 4 = .ok (.getfield 25, 3) := by decide +kernel
theorem dX4_addAll_7 : decode cX4_addAll 7 = .ok (.if_icmp .ge 47, 3) := by decide +kernel
theorem dX4_addAll_10 : decode cX4_addAll 10 = .ok (.iload_n 2, 1) := by decide +kernel
theorem dX4_addAll_11 : decode cX4_addAll 11 = .ok (.iconst 4, 1) := by decide +kernel
theorem dX4_addAll_12 : decode cX4_addAll 12 = .ok (.imul, 1) := by decide +kernel
theorem dX4_addAll_13 : decode cX4_addAll 13 = .ok (.istore_n 3, 1) := by decide +kernel
theorem dX4_addAll_14 : decode cX4_addAll 14 = .ok (.aload_n 0, 1) := by decide +kernel
theorem dX4_addAll_15 : decode cX4_addAll 15 = .ok (.aload_n 1, 1) := by decide +kernel
theorem dX4_addAll_16 : decode cX4_addAll 16 = .ok (.getfield 21, 3) := by decide +kernel
theorem dX4_addAll_19 : decode cX4_addAll 19 = .ok (.iload_n 3, 1) := by decide +kernel
theorem dX4_addAll_20 : decode cX4_addAll 20 = .ok (.iaload, 1) := by decide +kernel
theorem dX4_addAll_21 : decode cX4_addAll 21 = .ok (.aload_n 1, 1) := by decide +kernel
theorem dX4_addAll_22 : decode cX4_addAll 22 = .ok (.getfield 21, 3) := by decide +kernel
theorem dX4_addAll_25 : decode cX4_addAll 25 = .ok (.iload_n 3, 1) := by decide +kernel
theorem dX4_addAll_26 : decode cX4_addAll 26 = .ok (.iconst 1, 1) := by decide +kernel
theorem dX4_addAll_27 : decode cX4_addAll 27 = .ok (.iadd, 1) := by decide +kernel
theorem dX4_addAll_28 : decode cX4_addAll 28 = .ok (.iaload, 1) := by decide +kernel
theorem dX4_addAll_29 : decode cX4_addAll 29 = .ok (.aload_n 1, 1) := by decide +kernel
theorem dX4_addAll_30 : decode cX4_addAll 30 = .ok (.getfield 21, 3) := by decide +kernel
theorem dX4_addAll_33 : decode cX4_addAll 33 = .ok (.iload_n 3, 1) := by decide +kernel
theorem dX4_addAll_34 : decode cX4_addAll 34 = .ok (.iconst 2, 1) := by decide +kernel
theorem dX4_addAll_35 : decode cX4_addAll 35 = .ok (.iadd, 1) := by decide +kernel
theorem dX4_addAll_36 : decode cX4_addAll 36 = .ok (.iaload, 1) := by decide +kernel
theorem dX4_addAll_37 : decode cX4_addAll 37 = .ok (.aload_n 1, 1) := by decide +kernel
theorem dX4_addAll_38 : decode cX4_addAll 38 = .ok (.getfield 21, 3) := by decide +kernel
theorem dX4_addAll_41 : decode cX4_addAll 41 = .ok (.iload_n 3, 1) := by decide +kernel
theorem dX4_addAll_42 : decode cX4_addAll 42 = .ok (.iconst 3, 1) := by decide +kernel
theorem dX4_addAll_43 : decode cX4_addAll 43 = .ok (.iadd, 1) := by decide +kernel
theorem dX4_addAll_44 : decode cX4_addAll 44 = .ok (.iaload, 1) := by decide +kernel
theorem dX4_addAll_45 : decode cX4_addAll 45 = .ok (.invokevirtual 32, 3) := by decide +kernel
theorem dX4_addAll_48 : decode cX4_addAll 48 = .ok (.iinc 2 1, 3) := by decide +kernel
theorem dX4_addAll_51 : decode cX4_addAll 51 = .ok (.goto (-49), 3) := by decide +kernel
theorem dX4_addAll_54 : decode cX4_addAll 54 = .ok (.return_, 1) := by decide +kernel
theorem dX4_cellOr_0 : decode cX4_cellOr 0 = .ok (.iload_n 2, 1) := by decide +kernel
theorem dX4_cellOr_1 : decode cX4_cellOr 1 = .ok (.iconst 0, 1) := by decide +kernel
theorem dX4_cellOr_2 : decode cX4_cellOr 2 = .ok (.aload_n 0, 1) := by decide +kernel
theorem dX4_cellOr_3 : decode cX4_cellOr 3 = .ok (.getfield 25, 3) := by decide +kernel
theorem dX4_cellOr_6 : decode cX4_cellOr 6 = .ok (.iconst 1, 1) := by decide +kernel
theorem dX4_cellOr_7 : decode cX4_cellOr 7 = .ok (.isub, 1) := by decide +kernel
theorem dX4_cellOr_8 : decode cX4_cellOr 8 = .ok (.invokestatic 36, 3) := by decide +kernel
theorem dX4_cellOr_11 : decode cX4_cellOr 11 = .ok (.ifCond .eq 12, 3) := by decide +kernel
theorem dX4_cellOr_14 : decode cX4_cellOr 14 = .ok (.iload_n 3, 1) := by decide +kernel
theorem dX4_cellOr_15 : decode cX4_cellOr 15 = .ok (.iconst 0, 1) := by decide +kernel
theorem dX4_cellOr_16 : decode cX4_cellOr 16 = .ok (.iconst 3, 1) := by decide +kernel
theorem dX4_cellOr_17 : decode cX4_cellOr 17 = .ok (.invokestatic 36, 3) := by decide +kernel
theorem dX4_cellOr_20 : decode cX4_cellOr 20 = .ok (.ifCond .ne 5, 3) := by decide +kernel
theorem dX4_cellOr_23 : decode cX4_cellOr 23 = .ok (.iload_n 1, 1) := by decide +kernel
theorem dX4_cellOr_24 : decode cX4_cellOr 24 = .ok (.ireturn, 1) := by decide +kernel
theorem dX4_cellOr_25 : decode cX4_cellOr 25 = .ok (.aload_n 0, 1) := by decide +kernel
theorem dX4_cellOr_26 : decode cX4_cellOr 26 = .ok (.getfield 21, 3) := by decide +kernel
theorem dX4_cellOr_29 : decode cX4_cellOr 29 = .ok (.iload_n 2, 1) := by decide +kernel
theorem dX4_cellOr_30 : decode cX4_cellOr 30 = .ok (.iconst 4, 1) := by decide +kernel
theorem dX4_cellOr_31 : decode cX4_cellOr 31 = .ok (.imul, 1) := by decide +kernel
theorem dX4_cellOr_32 : decode cX4_cellOr 32 = .ok (.iload_n 3, 1) := by decide +kernel
theorem dX4_cellOr_33 : decode cX4_cellOr 33 = .ok (.iadd, 1) := by decide +kernel
theorem dX4_cellOr_34 : decode cX4_cellOr 34 = .ok (.iaload, 1) := by decide +kernel
theorem dX4_cellOr_35 : decode cX4_cellOr 35 = .ok (.ireturn, 1) := by decide +kernel
theorem dX4_moveRow_0 : decode cX4_moveRow 0 = .ok (.iload_n 1, 1) := by decide +kernel
theorem dX4_moveRow_1 : decode cX4_moveRow 1 = .ok (.iconst 0, 1) := by decide +kernel
theorem dX4_moveRow_2 : decode cX4_moveRow 2 = .ok (.aload_n 0, 1) := by decide +kernel
theorem dX4_moveRow_3 : decode cX4_moveRow 3 = .ok (.getfield 25, 3) := by decide +kernel
theorem dX4_moveRow_6 : decode cX4_moveRow 6 = .ok (.iconst 1, 1) := by decide +kernel
theorem dX4_moveRow_7 : decode cX4_moveRow 7 = .ok (.isub, 1) := by decide +kernel
theorem dX4_moveRow_8 : decode cX4_moveRow 8 = .ok (.invokestatic 36, 3) := by decide +kernel
theorem dX4_moveRow_11 : decode cX4_moveRow 11 = .ok (.ifCond .eq 35, 3) := by decide +kernel
theorem dX4_moveRow_14 : decode cX4_moveRow 14 = .ok (.iload_n 2, 1) := by decide +kernel
theorem dX4_moveRow_15 : decode cX4_moveRow 15 = .ok (.iconst 0, 1) := by decide +kernel
theorem dX4_moveRow_16 : decode cX4_moveRow 16 = .ok (.aload_n 0, 1) := by decide +kernel
theorem dX4_moveRow_17 : decode cX4_moveRow 17 = .ok (.getfield 25, 3) := by decide +kernel
theorem dX4_moveRow_20 : decode cX4_moveRow 20 = .ok (.iconst 1, 1) := by decide +kernel
theorem dX4_moveRow_21 : decode cX4_moveRow 21 = .ok (.isub, 1) := by decide +kernel
theorem dX4_moveRow_22 : decode cX4_moveRow 22 = .ok (.invokestatic 36, 3) := by decide +kernel
theorem dX4_moveRow_25 : decode cX4_moveRow 25 = .ok (.ifCond .eq 21, 3) := by decide +kernel
theorem dX4_moveRow_28 : decode cX4_moveRow 28 = .ok (.aload_n 0, 1) := by decide +kernel
theorem dX4_moveRow_29 : decode cX4_moveRow 29 = .ok (.getfield 21, 3) := by decide +kernel
theorem dX4_moveRow_32 : decode cX4_moveRow 32 = .ok (.iload_n 1, 1) := by decide +kernel
theorem dX4_moveRow_33 : decode cX4_moveRow 33 = .ok (.iconst 4, 1) := by decide +kernel
theorem dX4_moveRow_34 : decode cX4_moveRow 34 = .ok (.imul, 1) := by decide +kernel
theorem dX4_moveRow_35 : decode cX4_moveRow 35 = .ok (.aload_n 0, 1) := by decide +kernel
theorem dX4_moveRow_36 : decode cX4_moveRow 36 = .ok (.getfield 21, 3) := by decide +kernel
theorem dX4_moveRow_39 : decode cX4_moveRow 39 = .ok (.iload_n 2, 1) := by decide +kernel
theorem dX4_moveRow_40 : decode cX4_moveRow 40 = .ok (.iconst 4, 1) := by decide +kernel
theorem dX4_moveRow_41 : decode cX4_moveRow 41 = .ok (.imul, 1) := by decide +kernel
theorem dX4_moveRow_42 : decode cX4_moveRow 42 = .ok (.iconst 4, 1) := by decide +kernel
theorem dX4_moveRow_43 : decode cX4_moveRow 43 = .ok (.invokestatic 40, 3) := by decide +kernel
theorem dX4_moveRow_46 : decode cX4_moveRow 46 = .ok (.return_, 1) := by decide +kernel
theorem dX4_cutTo_0 : decode cX4_cutTo 0 = .ok (.aload_n 0, 1) := by decide +kernel
theorem dX4_cutTo_1 : decode cX4_cutTo 1 = .ok (.iload_n 1, 1) := by decide +kernel
theorem dX4_cutTo_2 : decode cX4_cutTo 2 = .ok (.iconst 0, 1) := by decide +kernel
theorem dX4_cutTo_3 : decode cX4_cutTo 3 = .ok (.aload_n 0, 1) := by decide +kernel
theorem dX4_cutTo_4 : decode cX4_cutTo 4 = .ok (.getfield 25, 3) := by decide +kernel
theorem dX4_cutTo_7 : decode cX4_cutTo 7 = .ok (.invokestatic 46, 3) := by decide +kernel
theorem dX4_cutTo_10 : decode cX4_cutTo 10 = .ok (.putfield 25, 3) := by decide +kernel
theorem dX4_cutTo_13 : decode cX4_cutTo 13 = .ok (.return_, 1) := by decide +kernel
theorem dX4_dropFirst_0 : decode cX4_dropFirst 0 = .ok (.iconst 1, 1) := by decide +kernel
theorem dX4_dropFirst_1 : decode cX4_dropFirst 1 = .ok (.istore_n 1, 1) := by decide +kernel
theorem dX4_dropFirst_2 : decode cX4_dropFirst 2 = .ok (.iload_n 1, 1) := by decide +kernel
theorem dX4_dropFirst_3 : decode cX4_dropFirst 3 = .ok (.aload_n 0, 1) := by decide +kernel
theorem dX4_dropFirst_4 : decode cX4_dropFirst 4 = .ok (.getfield 25, 3) := by decide +kernel
theorem dX4_dropFirst_7 : decode cX4_dropFirst 7 = .ok (.if_icmp .ge 17, 3) := by decide +kernel
theorem dX4_dropFirst_10 : decode cX4_dropFirst 10 = .ok (.aload_n 0, 1) := by decide +kernel
theorem dX4_dropFirst_11 : decode cX4_dropFirst 11 = .ok (.iload_n 1, 1) := by decide +kernel
theorem dX4_dropFirst_12 : decode cX4_dropFirst 12 = .ok (.iload_n 1, 1) := by decide +kernel
theorem dX4_dropFirst_13 : decode cX4_dropFirst 13 = .ok (.iconst 1, 1) := by decide +kernel
theorem dX4_dropFirst_14 : decode cX4_dropFirst 14 = .ok (.isub, 1) := by decide +kernel
theorem dX4_dropFirst_15 : decode cX4_dropFirst 15 = .ok (.invokevirtual 50, 3) := by decide +kernel
theorem dX4_dropFirst_18 : decode cX4_dropFirst 18 = .ok (.iinc 1 1, 3) := by decide +kernel
theorem dX4_dropFirst_21 : decode cX4_dropFirst 21 = .ok (.goto (-19), 3) := by decide +kernel
theorem dX4_dropFirst_24 : decode cX4_dropFirst 24 = .ok (.aload_n 0, 1) := by decide +kernel
theorem dX4_dropFirst_25 : decode cX4_dropFirst 25 = .ok (.aload_n 0, 1) := by decide +kernel
theorem dX4_dropFirst_26 : decode cX4_dropFirst 26 = .ok (.getfield 25, 3) := by decide +kernel
theorem dX4_dropFirst_29 : decode cX4_dropFirst 29 = .ok (.iconst 1, 1) := by decide +kernel
theorem dX4_dropFirst_30 : decode cX4_dropFirst 30 = .ok (.isub, 1) := by decide +kernel
theorem dX4_dropFirst_31 : decode cX4_dropFirst 31 = .ok (.invokevirtual 54, 3) := by decide +kernel
theorem dX4_dropFirst_34 : decode cX4_dropFirst 34 = .ok (.return_, 1) := by decide +kernel
theorem dX4_greatestOr_0 : decode cX4_greatestOr 0 = .ok (.aload_n 0, 1) := by decide +kernel
theorem dX4_greatestOr_1 : decode cX4_greatestOr 1 = .ok (.iload_n 1, 1) := by decide +kernel
theorem dX4_greatestOr_2 : decode cX4_greatestOr 2 = .ok (.iconst 0, 1) := by decide +kernel
theorem dX4_greatestOr_3 : decode cX4_greatestOr 3 = .ok (.iload_n 2, 1) := by decide +kernel
theorem dX4_greatestOr_4 : decode cX4_greatestOr 4 = .ok (.invokevirtual 58, 3) := by decide +kernel
theorem dX4_greatestOr_7 : decode cX4_greatestOr 7 = .ok (.istore_n 3, 1) := by decide +kernel
theorem dX4_greatestOr_8 : decode cX4_greatestOr 8 = .ok (.iconst 1, 1) := by decide +kernel
theorem dX4_greatestOr_9 : decode cX4_greatestOr 9 = .ok (.istore 4, 2) := by decide +kernel
theorem dX4_greatestOr_11 : decode cX4_greatestOr 11 = .ok (.iload 4, 2) := by decide +kernel
theorem dX4_greatestOr_13 : decode cX4_greatestOr 13 = .ok (.aload_n 0, 1) := by decide +kernel
theorem dX4_greatestOr_14 : decode cX4_greatestOr 14 = .ok (.getfield 25, 3) := by decide +kernel
theorem dX4_greatestOr_17 : decode cX4_greatestOr 17 = .ok (.if_icmp .ge 22, 3) := by decide +kernel
theorem dX4_greatestOr_20 : decode cX4_greatestOr 20 = .ok (.iload_n 3, 1) := by decide +kernel
theorem dX4_greatestOr_21 : decode cX4_greatestOr 21 = .ok (.aload_n 0, 1) := by decide +kernel
theorem dX4_greatestOr_22 : decode cX4_greatestOr 22 = .ok (.iload_n 1, 1) := by decide +kernel
theorem dX4_greatestOr_23 : decode cX4_greatestOr 23 = .ok (.iload 4, 2) := by decide +kernel
theorem dX4_greatestOr_25 : decode cX4_greatestOr 25 = .ok (.iload_n 2, 1) := by decide +kernel
theorem dX4_greatestOr_26 : decode cX4_greatestOr 26 = .ok (.invokevirtual 58, 3) := by decide +kernel
theorem dX4_greatestOr_29 : decode cX4_greatestOr 29 = .ok (.invokestatic 9, 3) := by decide +kernel
theorem dX4_greatestOr_32 : decode cX4_greatestOr 32 = .ok (.istore_n 3, 1) := by decide +kernel
theorem dX4_greatestOr_33 : decode cX4_greatestOr 33 = .ok (.iinc 4 1, 3) := by decide +kernel
theorem dX4_greatestOr_36 : decode cX4_greatestOr 36 = .ok (.goto (-25), 3) := by decide +kernel
theorem dX4_greatestOr_39 : decode cX4_greatestOr 39 = .ok (.iload_n 3, 1) := by decide +kernel
theorem dX4_greatestOr_40 : decode cX4_greatestOr 40 = .ok (.ireturn, 1) := by decide +kernel
theorem dX4_leastOr_0 : decode cX4_leastOr 0 = .ok (.aload_n 0, 1) := by decide +kernel
theorem dX4_leastOr_1 : decode cX4_leastOr 1 = .ok (.iload_n 1, 1) := by decide +kernel
theorem dX4_leastOr_2 : decode cX4_leastOr 2 = .ok (.iconst 0, 1) := by decide +kernel
theorem dX4_leastOr_3 : decode cX4_leastOr 3 = .ok (.iload_n 2, 1) := by decide +kernel
theorem dX4_leastOr_4 : decode cX4_leastOr 4 = .ok (.invokevirtual 58, 3) := by decide +kernel
theorem dX4_leastOr_7 : decode cX4_leastOr 7 = .ok (.istore_n 3, 1) := by decide +kernel
theorem dX4_leastOr_8 : decode cX4_leastOr 8 = .ok (.iconst 1, 1) := by decide +kernel
theorem dX4_leastOr_9 : decode cX4_leastOr 9 = .ok (.istore 4, 2) := by decide +kernel
theorem dX4_leastOr_11 : decode cX4_leastOr 11 = .ok (.iload 4, 2) := by decide +kernel
theorem dX4_leastOr_13 : decode cX4_leastOr 13 = .ok (.aload_n 0, 1) := by decide +kernel
theorem dX4_leastOr_14 : decode cX4_leastOr 14 = .ok (.getfield 25, 3) := by decide +kernel
theorem dX4_leastOr_17 : decode cX4_leastOr 17 = .ok (.if_icmp .ge 22, 3) := by decide +kernel
theorem dX4_leastOr_20 : decode cX4_leastOr 20 = .ok (.iload_n 3, 1) := by decide +kernel
theorem dX4_leastOr_21 : decode cX4_leastOr 21 = .ok (.aload_n 0, 1) := by decide +kernel
theorem dX4_leastOr_22 : decode cX4_leastOr 22 = .ok (.iload_n 1, 1) := by decide +kernel
theorem dX4_leastOr_23 : decode cX4_leastOr 23 = .ok (.iload 4, 2) := by decide +kernel
theorem dX4_leastOr_25 : decode cX4_leastOr 25 = .ok (.iload_n 2, 1) := by decide +kernel
theorem dX4_leastOr_26 : decode cX4_leastOr 26 = .ok (.invokevirtual 58, 3) := by decide +kernel
theorem dX4_leastOr_29 : decode cX4_leastOr 29 = .ok (.invokestatic 61, 3) := by decide +kernel
theorem dX4_leastOr_32 : decode cX4_leastOr 32 = .ok (.istore_n 3, 1) := by decide +kernel
theorem dX4_leastOr_33 : decode cX4_leastOr 33 = .ok (.iinc 4 1, 3) := by decide +kernel
theorem dX4_leastOr_36 : decode cX4_leastOr 36 = .ok (.goto (-25), 3) := by decide +kernel
theorem dX4_leastOr_39 : decode cX4_leastOr 39 = .ok (.iload_n 3, 1) := by decide +kernel
theorem dX4_leastOr_40 : decode cX4_leastOr 40 = .ok (.ireturn, 1) := by decide +kernel
theorem dX4_totalOr_0 : decode cX4_totalOr 0 = .ok (.aload_n 0, 1) := by decide +kernel
theorem dX4_totalOr_1 : decode cX4_totalOr 1 = .ok (.iload_n 1, 1) := by decide +kernel
theorem dX4_totalOr_2 : decode cX4_totalOr 2 = .ok (.iconst 0, 1) := by decide +kernel
theorem dX4_totalOr_3 : decode cX4_totalOr 3 = .ok (.iload_n 2, 1) := by decide +kernel
theorem dX4_totalOr_4 : decode cX4_totalOr 4 = .ok (.invokevirtual 58, 3) := by decide +kernel
theorem dX4_totalOr_7 : decode cX4_totalOr 7 = .ok (.istore_n 3, 1) := by decide +kernel
theorem dX4_totalOr_8 : decode cX4_totalOr 8 = .ok (.iconst 1, 1) := by decide +kernel
theorem dX4_totalOr_9 : decode cX4_totalOr 9 = .ok (.istore 4, 2) := by decide +kernel
theorem dX4_totalOr_11 : decode cX4_totalOr 11 = .ok (.iload 4, 2) := by decide +kernel
theorem dX4_totalOr_13 : decode cX4_totalOr 13 = .ok (.aload_n 0, 1) := by decide +kernel
theorem dX4_totalOr_14 : decode cX4_totalOr 14 = .ok (.getfield 25, 3) := by decide +kernel
theorem dX4_totalOr_17 : decode cX4_totalOr 17 = .ok (.if_icmp .ge 20, 3) := by decide +kernel
theorem dX4_totalOr_20 : decode cX4_totalOr 20 = .ok (.iload_n 3, 1) := by decide +kernel
theorem dX4_totalOr_21 : decode cX4_totalOr 21 = .ok (.aload_n 0, 1) := by decide +kernel
theorem dX4_totalOr_22 : decode cX4_totalOr 22 = .ok (.iload_n 1, 1) := by decide +kernel
theorem dX4_totalOr_23 : decode cX4_totalOr 23 = .ok (.iload 4, 2) := by decide +kernel
theorem dX4_totalOr_25 : decode cX4_totalOr 25 = .ok (.iload_n 2, 1) := by decide +kernel
theorem dX4_totalOr_26 : decode cX4_totalOr 26 = .ok (.invokevirtual 58, 3) := by decide +kernel
theorem dX4_totalOr_29 : decode cX4_totalOr 29 = .ok (.iadd, 1) := by decide +kernel
theorem dX4_totalOr_30 : decode cX4_totalOr 30 = .ok (.istore_n 3, 1) := by decide +kernel
theorem dX4_totalOr_31 : decode cX4_totalOr 31 = .ok (.iinc 4 1, 3) := by decide +kernel
theorem dX4_totalOr_34 : decode cX4_totalOr 34 = .ok (.goto (-23), 3) := by decide +kernel
theorem dX4_totalOr_37 : decode cX4_totalOr 37 = .ok (.iload_n 3, 1) := by decide +kernel
theorem dX4_totalOr_38 : decode cX4_totalOr 38 = .ok (.ireturn, 1) := by decide +kernel
theorem dX5_init_0 : decode cX5_init 0 = .ok (.aload_n 0, 1) := by decide +kernel
theorem dX5_init_1 : decode cX5_init 1 = .ok (.invokespecial 3, 3) := by decide +kernel
theorem dX5_init_4 : decode cX5_init 4 = .ok (.aload_n 0, 1) := by decide +kernel
theorem dX5_init_5 : decode cX5_init 5 = .ok (.bipush 120, 2) := by decide +kernel
theorem dX5_init_7 : decode cX5_init 7 = .ok (.newarray .int, 2) := by decide +kernel
theorem dX5_init_9 : decode cX5_init 9 = .ok (.putfield 9, 3) := by decide +kernel
theorem dX5_init_12 : decode cX5_init 12 = .ok (.aload_n 0, 1) := by decide +kernel
theorem dX5_init_13 : decode cX5_init 13 = .ok (.new 15, 3) := by decide +kernel
theorem dX5_init_16 : decode cX5_init 16 = .ok (.dup, 1) := by decide +kernel
theorem dX5_init_17 : decode cX5_init 17 = .ok (.bipush 12, 2) := by decide +kernel
theorem dX5_init_19 : decode cX5_init 19 = .ok (.invokespecial 17, 3) := by decide +kernel
theorem dX5_init_22 : decode cX5_init 22 = .ok (.putfield 20, 3) := by decide +kernel
theorem dX5_init_25 : decode cX5_init 25 = .ok (.return_, 1) := by decide +kernel
theorem dX5_append_0 : decode cX5_append 0 = .ok (.aload_n 0, 1) := by decide +kernel
theorem dX5_append_1 : decode cX5_append 1 = .ok (.getfield 24, 3) := by decide +kernel
theorem dX5_append_4 : decode cX5_append 4 = .ok (.bipush 120, 2) := by decide +kernel
theorem dX5_append_6 : decode cX5_append 6 = .ok (.if_icmp .ge 23, 3) := by decide +kernel
theorem dX5_append_9 : decode cX5_append 9 = .ok (.aload_n 0, 1) := by decide +kernel
theorem dX5_append_10 : decode cX5_append 10 = .ok (.getfield 9, 3) := by decide +kernel
theorem dX5_append_13 : decode cX5_append 13 = .ok (.aload_n 0, 1) := by decide +kernel
theorem dX5_append_14 : decode cX5_append 14 = .ok (.getfield 24, 3) := by decide +kernel
theorem dX5_append_17 : decode cX5_append 17 = .ok (.iload_n 1, 1) := by decide +kernel
theorem dX5_append_18 : decode cX5_append 18 = .ok (.iastore, 1) := by decide +kernel
theorem dX5_append_19 : decode cX5_append 19 = .ok (.aload_n 0, 1) := by decide +kernel
theorem dX5_append_20 : decode cX5_append 20 = .ok (.dup, 1) := by decide +kernel
theorem dX5_append_21 : decode cX5_append 21 = .ok (.getfield 24, 3) := by decide +kernel
theorem dX5_append_24 : decode cX5_append 24 = .ok (.iconst 1, 1) := by decide +kernel
theorem dX5_append_25 : decode cX5_append 25 = .ok (.iadd, 1) := by decide +kernel
theorem dX5_append_26 : decode cX5_append 26 = .ok (.putfield 24, 3) := by decide +kernel
theorem dX5_append_29 : decode cX5_append 29 = .ok (.return_, 1) := by decide +kernel
theorem dX5_faultOfWishes_0 : decode cX5_faultOfWishes 0 = .ok (.aload_n 0, 1) := by decide +kernel
theorem dX5_faultOfWishes_1 : decode cX5_faultOfWishes 1 = .ok (.getfield 20, 3) := by decide +kernel
theorem dX5_faultOfWishes_4 : decode cX5_faultOfWishes 4 = .ok (.iconst 0, 1) := by decide +kernel
theorem dX5_faultOfWishes_5 : decode cX5_faultOfWishes 5 = .ok (.invokevirtual 28, 3) := by decide +kernel
theorem dX5_faultOfWishes_8 : decode cX5_faultOfWishes 8 = .ok (.aload_n 0, 1) := by decide +kernel
theorem dX5_faultOfWishes_9 : decode cX5_faultOfWishes 9 = .ok (.iconst 0, 1) := by decide +kernel
theorem dX5_faultOfWishes_10 : decode cX5_faultOfWishes 10 = .ok (.putfield 31, 3) := by decide +kernel
theorem dX5_faultOfWishes_13 : decode cX5_faultOfWishes 13 = .ok (.aload_n 0, 1) := by decide +kernel
theorem dX5_faultOfWishes_14 : decode cX5_faultOfWishes 14 = .ok (.iconst (-1), 1) := by decide +kernel
theorem dX5_faultOfWishes_15 : decode cX5_faultOfWishes 15 = .ok (.putfield 34, 3) := by decide +kernel
theorem dX5_faultOfWishes_18 : decode cX5_faultOfWishes 18 = .ok (.aload_n 0, 1) := by decide +kernel
theorem dX5_faultOfWishes_19 : decode cX5_faultOfWishes 19 = .ok (.invokevirtual 37, 3) := by decide +kernel
theorem dX5_faultOfWishes_22 : decode cX5_faultOfWishes 22 = .ok (.aload_n 0, 1) := by decide +kernel
theorem dX5_faultOfWishes_23 : decode cX5_faultOfWishes 23 = .ok (.getfield 31, 3) := by decide +kernel
theorem dX5_faultOfWishes_26 : decode cX5_faultOfWishes 26 = .ok (.aload_n 0, 1) := by decide +kernel
theorem dX5_faultOfWishes_27 : decode cX5_faultOfWishes 27 = .ok (.getfield 24, 3) := by decide +kernel
theorem dX5_faultOfWishes_30 : decode cX5_faultOfWishes 30 = .ok (.if_icmp .lt 8, 3) := by decide +kernel
theorem dX5_faultOfWishes_33 : decode cX5_faultOfWishes 33 = .ok (.aload_n 0, 1) := by decide +kernel
theorem dX5_faultOfWishes_34 : decode cX5_faultOfWishes 34 = .ok (.getfield 24, 3) := by decide +kernel
theorem dX5_faultOfWishes_37 : decode cX5_faultOfWishes 37 = .ok (.ireturn, 1) := by decide +kernel
theorem dX5_faultOfWishes_38 : decode cX5_faultOfWishes 38 = .ok (.iconst 0, 1) := by decide +kernel
theorem dX5_faultOfWishes_39 : decode cX5_faultOfWishes 39 = .ok (.istore_n 3, 1) := by decide +kernel
theorem dX5_faultOfWishes_40 : decode cX5_faultOfWishes 40 = .ok (.iload_n 3, 1) := by decide +kernel
theorem dX5_faultOfWishes_41 : decode cX5_faultOfWishes 41 = .ok (.bipush 12, 2) := by decide +kernel
theorem dX5_faultOfWishes_43 : decode cX5_faultOfWishes 43 = .ok (.if_icmp .gt 38, 3) := by decide +kernel
theorem dX5_faultOfWishes_46 : decode cX5_faultOfWishes 46 = .ok (.aload_n 0, 1) := by decide +kernel
theorem dX5_faultOfWishes_47 : decode cX5_faultOfWishes 47 = .ok (.getfield 31, 3) := by decide +kernel
theorem dX5_faultOfWishes_50 : decode cX5_faultOfWishes 50 = .ok (.aload_n 0, 1) := by decide +kernel
theorem dX5_faultOfWishes_51 : decode cX5_faultOfWishes 51 = .ok (.getfield 24, 3) := by decide +kernel
theorem dX5_faultOfWishes_54 : decode cX5_faultOfWishes 54 = .ok (.if_icmp .ge 27, 3) := by decide +kernel
theorem dX5_faultOfWishes_57 : decode cX5_faultOfWishes 57 = .ok (.aload_n 0, 1) := by decide +kernel
theorem dX5_faultOfWishes_58 : decode cX5_faultOfWishes 58 = .ok (.getfield 34, 3) := by decide +kernel
theorem dX5_faultOfWishes_61 : decode cX5_faultOfWishes 61 = .ok (.iconst (-1), 1) := by decide +kernel
theorem dX5_faultOfWishes_62 : decode cX5_faultOfWishes 62 = .ok (.if_icmp .ne 19, 3) := by decide +kernel
theorem dX5_faultOfWishes_65 : decode cX5_faultOfWishes 65 = .ok (.aload_n 0, 1) := by decide +kernel
theorem dX5_faultOfWishes_66 : decode cX5_faultOfWishes 66 = .ok (.iload_n 1, 1) := by decide +kernel
theorem dX5_faultOfWishes_67 : decode cX5_faultOfWishes 67 = .ok (.iload_n 2, 1) := by decide +kernel
theorem dX5_faultOfWishes_68 : decode cX5_faultOfWishes 68 = .ok (.invokevirtual 40, 3) := by decide +kernel
theorem dX5_faultOfWishes_71 : decode cX5_faultOfWishes 71 = .ok (.aload_n 0, 1) := by decide +kernel
theorem dX5_faultOfWishes_72 : decode cX5_faultOfWishes 72 = .ok (.invokevirtual 37, 3) := by decide +kernel
theorem dX5_faultOfWishes_75 : decode cX5_faultOfWishes 75 = .ok (.iinc 3 1, 3) := by decide +kernel
theorem dX5_faultOfWishes_78 : decode cX5_faultOfWishes 78 = .ok (.goto (-38), 3) := by decide +kernel
theorem dX5_faultOfWishes_81 : decode cX5_faultOfWishes 81 = .ok (.aload_n 0, 1) := by decide +kernel
theorem dX5_faultOfWishes_82 : decode cX5_faultOfWishes 82 = .ok (.getfield 34, 3) := by decide +kernel
theorem dX5_faultOfWishes_85 : decode cX5_faultOfWishes 85 = .ok (.ireturn, 1) := by decide +kernel
theorem dX5_readWish_0 : decode cX5_readWish 0 = .ok (.aload_n 0, 1) := by decide +kernel
theorem dX5_readWish_1 : decode cX5_readWish 1 = .ok (.invokevirtual 44, 3) := by decide +kernel
theorem dX5_readWish_4 : decode cX5_readWish 4 = .ok (.bipush 117, 2) := by decide +kernel
theorem dX5_readWish_6 : decode cX5_readWish 6 = .ok (.isub, 1) := by decide +kernel
theorem dX5_readWish_7 : decode cX5_readWish 7 = .ok (.istore_n 3, 1) := by decide +kernel
theorem dX5_readWish_8 : decode cX5_readWish 8 = .ok (.iload_n 3, 1) := by decide +kernel
theorem dX5_readWish_9 : decode cX5_readWish 9 = .ok (.invokestatic 48, 3) := by decide +kernel
theorem dX5_readWish_12 : decode cX5_readWish 12 = .ok (.ifCond .eq 14, 3) := by decide +kernel
theorem dX5_readWish_15 : decode cX5_readWish 15 = .ok (.aload_n 0, 1) := by decide +kernel
theorem dX5_readWish_16 : decode cX5_readWish 16 = .ok (.getfield 20, 3) := by decide +kernel
theorem dX5_readWish_19 : decode cX5_readWish 19 = .ok (.getfield 52, 3) := by decide +kernel
theorem dX5_readWish_22 : decode cX5_readWish 22 = .ok (.iload_n 1, 1) := by decide +kernel
theorem dX5_readWish_23 : decode cX5_readWish 23 = .ok (.if_icmp .lt 12, 3) := by decide +kernel
theorem dX5_readWish_26 : decode cX5_readWish 26 = .ok (.aload_n 0, 1) := by decide +kernel
theorem dX5_readWish_27 : decode cX5_readWish 27 = .ok (.aload_n 0, 1) := by decide +kernel
theorem dX5_readWish_28 : decode cX5_readWish 28 = .ok (.getfield 31, 3) := by decide +kernel
theorem dX5_readWish_31 : decode cX5_readWish 31 = .ok (.invokevirtual 55, 3) := by decide +kernel
theorem dX5_readWish_34 : decode cX5_readWish 34 = .ok (.return_, 1) := by decide +kernel
theorem dX5_readWish_35 : decode cX5_readWish 35 = .ok (.aload_n 0, 1) := by decide +kernel
theorem dX5_readWish_36 : decode cX5_readWish 36 = .ok (.dup, 1) := by decide +kernel
theorem dX5_readWish_37 : decode cX5_readWish 37 = .ok (.getfield 31, 3) := by decide +kernel
theorem dX5_readWish_40 : decode cX5_readWish 40 = .ok (.iconst 1, 1) := by decide +kernel
theorem dX5_readWish_41 : decode cX5_readWish 41 = .ok (.iadd, 1) := by decide +kernel
theorem dX5_readWish_42 : decode cX5_readWish 42 = .ok (.putfield 31, 3) := by decide +kernel
theorem dX5_readWish_45 : decode cX5_readWish 45 = .ok (.aload_n 0, 1) := by decide +kernel
theorem dX5_readWish_46 : decode cX5_readWish 46 = .ok (.invokevirtual 58, 3) := by decide +kernel
theorem dX5_readWish_49 : decode cX5_readWish 49 = .ok (.istore 4, 2) := by decide +kernel
theorem dX5_readWish_51 : decode cX5_readWish 51 = .ok (.aload_n 0, 1) := by decide +kernel
theorem dX5_readWish_52 : decode cX5_readWish 52 = .ok (.getfield 34, 3) := by decide +kernel
theorem dX5_readWish_55 : decode cX5_readWish 55 = .ok (.iconst (-1), 1) := by decide +kernel
theorem dX5_readWish_56 : decode cX5_readWish 56 = .ok (.if_icmp .ne 11, 3) := by decide +kernel
theorem dX5_readWish_59 : decode cX5_readWish 59 = .ok (.aload_n 0, 1) := by decide +kernel
theorem dX5_readWish_60 : decode cX5_readWish 60 = .ok (.iload_n 2, 1) := by decide +kernel
theorem dX5_readWish_61 : decode cX5_readWish 61 = .ok (.invokevirtual 61, 3) := by decide +kernel
theorem dX5_readWish_64 : decode cX5_readWish 64 = .ok (.goto 4, 3) := by decide +kernel
theorem dX5_readWish_67 : decode cX5_readWish 67 = .ok (.iconst 0, 1) := by decide +kernel
theorem dX5_readWish_68 : decode cX5_readWish 68 = .ok (.istore 5, 2) := by decide +kernel
theorem dX5_readWish_70 : decode cX5_readWish 70 = .ok (.aload_n 0, 1) := by decide +kernel
theorem dX5_readWish_71 : decode cX5_readWish 71 = .ok (.getfield 34, 3) := by decide +kernel
theorem dX5_readWish_74 : decode cX5_readWish 74 = .ok (.iconst (-1), 1) := by decide +kernel
theorem dX5_readWish_75 : decode cX5_readWish 75 = .ok (.if_icmp .ne 23, 3) := by decide +kernel
theorem dX5_readWish_78 : decode cX5_readWish 78 = .ok (.aload_n 0, 1) := by decide +kernel
theorem dX5_readWish_79 : decode cX5_readWish 79 = .ok (.invokevirtual 65, 3) := by decide +kernel
theorem dX5_readWish_82 : decode cX5_readWish 82 = .ok (.ifCond .eq 16, 3) := by decide +kernel
theorem dX5_readWish_85 : decode cX5_readWish 85 = .ok (.aload_n 0, 1) := by decide +kernel
theorem dX5_readWish_86 : decode cX5_readWish 86 = .ok (.getfield 20, 3) := by decide +kernel
theorem dX5_readWish_89 : decode cX5_readWish 89 = .ok (.iload_n 3, 1) := by decide +kernel
theorem dX5_readWish_90 : decode cX5_readWish 90 = .ok (.iload 5, 2) := by decide +kernel
theorem dX5_readWish_92 : decode cX5_readWish 92 = .ok (.iload 4, 2) := by decide +kernel
theorem dX5_readWish_94 : decode cX5_readWish 94 = .ok (.iconst 0, 1) := by decide +kernel
theorem dX5_readWish_95 : decode cX5_readWish 95 = .ok (.invokevirtual 69, 3) := by decide +kernel
theorem dX5_readWish_98 : decode cX5_readWish 98 = .ok (.return_, 1) := by decide +kernel
theorem dX5_readEnd_0 : decode cX5_readEnd 0 = .ok (.aload_n 0, 1) := by decide +kernel
theorem dX5_readEnd_1 : decode cX5_readEnd 1 = .ok (.invokevirtual 37, 3) := by decide +kernel
theorem dX5_readEnd_4 : decode cX5_readEnd 4 = .ok (.aload_n 0, 1) := by decide +kernel
theorem dX5_readEnd_5 : decode cX5_readEnd 5 = .ok (.invokevirtual 44, 3) := by decide +kernel
theorem dX5_readEnd_8 : decode cX5_readEnd 8 = .ok (.bipush 59, 2) := by decide +kernel
theorem dX5_readEnd_10 : decode cX5_readEnd 10 = .ok (.if_icmp .eq 13, 3) := by decide +kernel
theorem dX5_readEnd_13 : decode cX5_readEnd 13 = .ok (.aload_n 0, 1) := by decide +kernel
theorem dX5_readEnd_14 : decode cX5_readEnd 14 = .ok (.aload_n 0, 1) := by decide +kernel
theorem dX5_readEnd_15 : decode cX5_readEnd 15 = .ok (.getfield 31, 3) := by decide +kernel
theorem dX5_readEnd_18 : decode cX5_readEnd 18 = .ok (.invokevirtual 55, 3) := by decide +kernel
theorem dX5_readEnd_21 : decode cX5_readEnd 21 = .ok (.iconst 0, 1) := by decide +kernel
theorem dX5_readEnd_22 : decode cX5_readEnd 22 = .ok (.ireturn, 1) := by decide +kernel
theorem dX5_readEnd_23 : decode cX5_readEnd 23 = .ok (.aload_n 0, 1) := by decide +kernel
theorem dX5_readEnd_24 : decode cX5_readEnd 24 = .ok (.dup, 1) := by decide +kernel
theorem dX5_readEnd_25 : decode cX5_readEnd 25 = .ok (.getfield 31, 3) := by decide +kernel
theorem dX5_readEnd_28 : decode cX5_readEnd 28 = .ok (.iconst 1, 1) := by decide +kernel
theorem dX5_readEnd_29 : decode cX5_readEnd 29 = .ok (.iadd, 1) := by decide +kernel
theorem dX5_readEnd_30 : decode cX5_readEnd 30 = .ok (.putfield 31, 3) := by decide +kernel
theorem dX5_readEnd_33 : decode cX5_readEnd 33 = .ok (.iconst 1, 1) := by decide +kernel
theorem dX5_readEnd_34 : decode cX5_readEnd 34 = .ok (.ireturn, 1) := by decide +kernel
theorem dX5_readWant_0 : decode cX5_readWant 0 = .ok (.aload_n 0, 1) := by decide +kernel
theorem dX5_readWant_1 : decode cX5_readWant 1 = .ok (.invokevirtual 37, 3) := by decide +kernel
theorem dX5_readWant_4 : decode cX5_readWant 4 = .ok (.aload_n 0, 1) := by decide +kernel
theorem dX5_readWant_5 : decode cX5_readWant 5 = .ok (.invokevirtual 44, 3) := by decide +kernel
theorem dX5_readWant_8 : decode cX5_readWant 8 = .ok (.istore_n 1, 1) := by decide +kernel
theorem dX5_readWant_9 : decode cX5_readWant 9 = .ok (.iload_n 1, 1) := by decide +kernel
theorem dX5_readWant_10 : decode cX5_readWant 10 = .ok (.bipush 43, 2) := by decide +kernel
theorem dX5_readWant_12 : decode cX5_readWant 12 = .ok (.if_icmp .eq 11, 3) := by decide +kernel
theorem dX5_readWant_15 : decode cX5_readWant 15 = .ok (.iload_n 1, 1) := by decide +kernel
theorem dX5_readWant_16 : decode cX5_readWant 16 = .ok (.bipush 45, 2) := by decide +kernel
theorem dX5_readWant_18 : decode cX5_readWant 18 = .ok (.if_icmp .eq 5, 3) := by decide +kernel
theorem dX5_readWant_21 : decode cX5_readWant 21 = .ok (.iconst 0, 1) := by decide +kernel
theorem dX5_readWant_22 : decode cX5_readWant 22 = .ok (.ireturn, 1) := by decide +kernel
theorem dX5_readWant_23 : decode cX5_readWant 23 = .ok (.aload_n 0, 1) := by decide +kernel
theorem dX5_readWant_24 : decode cX5_readWant 24 = .ok (.dup, 1) := by decide +kernel
theorem dX5_readWant_25 : decode cX5_readWant 25 = .ok (.getfield 31, 3) := by decide +kernel
theorem dX5_readWant_28 : decode cX5_readWant 28 = .ok (.iconst 1, 1) := by decide +kernel
theorem dX5_readWant_29 : decode cX5_readWant 29 = .ok (.iadd, 1) := by decide +kernel
theorem dX5_readWant_30 : decode cX5_readWant 30 = .ok (.putfield 31, 3) := by decide +kernel
theorem dX5_readWant_33 : decode cX5_readWant 33 = .ok (.aload_n 0, 1) := by decide +kernel
theorem dX5_readWant_34 : decode cX5_readWant 34 = .ok (.sipush 500, 3) := by decide +kernel
theorem dX5_readWant_37 : decode cX5_readWant 37 = .ok (.invokevirtual 73, 3) := by decide +kernel
theorem dX5_readWant_40 : decode cX5_readWant 40 = .ok (.istore_n 2, 1) := by decide +kernel
theorem dX5_readWant_41 : decode cX5_readWant 41 = .ok (.iload_n 1, 1) := by decide +kernel
theorem dX5_readWant_42 : decode cX5_readWant 42 = .ok (.bipush 45, 2) := by decide +kernel
theorem dX5_readWant_44 : decode cX5_readWant 44 = .ok (.if_icmp .ne 8, 3) := by decide +kernel
theorem dX5_readWant_47 : decode cX5_readWant 47 = .ok (.iload_n 2, 1) := by decide +kernel
theorem dX5_readWant_48 : decode cX5_readWant 48 = .ok (.ineg, 1) := by decide +kernel
theorem dX5_readWant_49 : decode cX5_readWant 49 = .ok (.goto 4, 3) := by decide +kernel
theorem dX5_readWant_52 : decode cX5_readWant 52 = .ok (.iload_n 2, 1) := by decide +kernel
theorem dX5_readWant_53 : decode cX5_readWant 53 = .ok (.ireturn, 1) := by decide +kernel
theorem dX5_readPeriod_0 : decode cX5_readPeriod 0 = .ok (.aload_n 0, 1) := by decide +kernel
theorem dX5_readPeriod_1 : decode cX5_readPeriod 1 = .ok (.invokevirtual 37, 3) := by decide +kernel
theorem dX5_readPeriod_4 : decode cX5_readPeriod 4 = .ok (.aload_n 0, 1) := by decide +kernel
theorem dX5_readPeriod_5 : decode cX5_readPeriod 5 = .ok (.invokevirtual 44, 3) := by decide +kernel
theorem dX5_readPeriod_8 : decode cX5_readPeriod 8 = .ok (.bipush 64, 2) := by decide +kernel
theorem dX5_readPeriod_10 : decode cX5_readPeriod 10 = .ok (.if_icmp .eq 5, 3) := by decide +kernel
theorem dX5_readPeriod_13 : decode cX5_readPeriod 13 = .ok (.iload_n 1, 1) := by decide +kernel
theorem dX5_readPeriod_14 : decode cX5_readPeriod 14 = .ok (.ireturn, 1) := by decide +kernel
theorem dX5_readPeriod_15 : decode cX5_readPeriod 15 = .ok (.aload_n 0, 1) := by decide +kernel
theorem dX5_readPeriod_16 : decode cX5_readPeriod 16 = .ok (.dup, 1) := by decide +kernel
theorem dX5_readPeriod_17 : decode cX5_readPeriod 17 = .ok (.getfield 31, 3) := by decide +kernel
theorem dX5_readPeriod_20 : decode cX5_readPeriod 20 = .ok (.iconst 1, 1) := by decide +kernel
theorem dX5_readPeriod_21 : decode cX5_readPeriod 21 = .ok (.iadd, 1) := by decide +kernel
theorem dX5_readPeriod_22 : decode cX5_readPeriod 22 = .ok (.putfield 31, 3) := by decide +kernel
theorem dX5_readPeriod_25 : decode cX5_readPeriod 25 = .ok (.aload_n 0, 1) := by decide +kernel
theorem dX5_readPeriod_26 : decode cX5_readPeriod 26 = .ok (.sipush 999, 3) := by decide +kernel
theorem dX5_readPeriod_29 : decode cX5_readPeriod 29 = .ok (.invokevirtual 73, 3) := by decide +kernel
theorem dX5_readPeriod_32 : decode cX5_readPeriod 32 = .ok (.ireturn, 1) := by decide +kernel
theorem dX5_readNumber_0 : decode cX5_readNumber 0 = .ok (.aload_n 0, 1) := by decide +kernel
theorem dX5_readNumber_1 : decode cX5_readNumber 1 = .ok (.invokevirtual 37, 3) := by decide +kernel
theorem dX5_readNumber_4 : decode cX5_readNumber 4 = .ok (.aload_n 0, 1) := by decide +kernel
theorem dX5_readNumber_5 : decode cX5_readNumber 5 = .ok (.getfield 31, 3) := by decide +kernel
theorem dX5_readNumber_8 : decode cX5_readNumber 8 = .ok (.istore_n 2, 1) := by decide +kernel
theorem dX5_readNumber_9 : decode cX5_readNumber 9 = .ok (.iconst 0, 1) := by decide +kernel
theorem dX5_readNumber_10 : decode cX5_readNumber 10 = .ok (.istore_n 3, 1) := by decide +kernel
theorem dX5_readNumber_11 : decode cX5_readNumber 11 = .ok (.aload_n 0, 1) := by decide +kernel
theorem dX5_readNumber_12 : decode cX5_readNumber 12 = .ok (.getfield 31, 3) := by decide +kernel
theorem dX5_readNumber_15 : decode cX5_readNumber 15 = .ok (.aload_n 0, 1) := by decide +kernel
theorem dX5_readNumber_16 : decode cX5_readNumber 16 = .ok (.getfield 24, 3) := by decide +kernel
theorem dX5_readNumber_19 : decode cX5_readNumber 19 = .ok (.if_icmp .ge 53, 3) := by decide +kernel
theorem dX5_readNumber_22 : decode cX5_readNumber 22 = .ok (.aload_n 0, 1) := by decide +kernel
theorem dX5_readNumber_23 : decode cX5_readNumber 23 = .ok (.invokevirtual 44, 3) := by decide +kernel
theorem dX5_readNumber_26 : decode cX5_readNumber 26 = .ok (.bipush 48, 2) := by decide +kernel
theorem dX5_readNumber_28 : decode cX5_readNumber 28 = .ok (.bipush 57, 2) := by decide +kernel
theorem dX5_readNumber_30 : decode cX5_readNumber 30 = .ok (.invokestatic 76, 3) := by decide +kernel
theorem dX5_readNumber_33 : decode cX5_readNumber 33 = .ok (.ifCond .eq 39, 3) := by decide +kernel
theorem dX5_readNumber_36 : decode cX5_readNumber 36 = .ok (.aload_n 0, 1) := by decide +kernel
theorem dX5_readNumber_37 : decode cX5_readNumber 37 = .ok (.getfield 31, 3) := by decide +kernel
theorem dX5_readNumber_40 : decode cX5_readNumber 40 = .ok (.iload_n 2, 1) := by decide +kernel
theorem dX5_readNumber_41 : decode cX5_readNumber 41 = .ok (.isub, 1) := by decide +kernel
theorem dX5_readNumber_42 : decode cX5_readNumber 42 = .ok (.iconst 3, 1) := by decide +kernel
theorem dX5_readNumber_43 : decode cX5_readNumber 43 = .ok (.if_icmp .ge 16, 3) := by decide +kernel
theorem dX5_readNumber_46 : decode cX5_readNumber 46 = .ok (.iload_n 3, 1) := by decide +kernel
theorem dX5_readNumber_47 : decode cX5_readNumber 47 = .ok (.bipush 10, 2) := by decide +kernel
theorem dX5_readNumber_49 : decode cX5_readNumber 49 = .ok (.imul, 1) := by decide +kernel
theorem dX5_readNumber_50 : decode cX5_readNumber 50 = .ok (.aload_n 0, 1) := by decide +kernel
theorem dX5_readNumber_51 : decode cX5_readNumber 51 = .ok (.invokevirtual 44, 3) := by decide +kernel
theorem dX5_readNumber_54 : decode cX5_readNumber 54 = .ok (.iadd, 1) := by decide +kernel
theorem dX5_readNumber_55 : decode cX5_readNumber 55 = .ok (.bipush 48, 2) := by decide +kernel
theorem dX5_readNumber_57 : decode cX5_readNumber 57 = .ok (.isub, 1) := by decide +kernel
theorem dX5_readNumber_58 : decode cX5_readNumber 58 = .ok (.istore_n 3, 1) := by decide +kernel
theorem dX5_readNumber_59 : decode cX5_readNumber 59 = .ok (.aload_n 0, 1) := by decide +kernel
theorem dX5_readNumber_60 : decode cX5_readNumber 60 = .ok (.dup, 1) := by decide +kernel
theorem dX5_readNumber_61 : decode cX5_readNumber 61 = .ok (.getfield 31, 3) := by decide +kernel
theorem dX5_readNumber_64 : decode cX5_readNumber 64 = .ok (.iconst 1, 1) := by decide +kernel
theorem dX5_readNumber_65 : decode cX5_readNumber 65 = .ok (.iadd, 1) := by decide +kernel
theorem dX5_readNumber_66 : decode cX5_readNumber 66 = .ok (.putfield 31, 3) := by decide +kernel
theorem dX5_readNumber_69 : decode cX5_readNumber 69 = .ok (.goto (-58), 3) := by decide +kernel
theorem dX5_readNumber_72 : decode cX5_readNumber 72 = .ok (.aload_n 0, 1) := by decide +kernel
theorem dX5_readNumber_73 : decode cX5_readNumber 73 = .ok (.getfield 31, 3) := by decide +kernel
theorem dX5_readNumber_76 : decode cX5_readNumber 76 = .ok (.iload_n 2, 1) := by decide +kernel
theorem dX5_readNumber_77 : decode cX5_readNumber 77 = .ok (.isub, 1) := by decide +kernel
theorem dX5_readNumber_78 : decode cX5_readNumber 78 = .ok (.istore 4, 2) := by decide +kernel
theorem dX5_readNumber_80 : decode cX5_readNumber 80 = .ok (.iload 4, 2) := by decide +kernel
theorem dX5_readNumber_82 : decode cX5_readNumber 82 = .ok (.ifCond .eq 14, 3) := by decide +kernel
theorem dX5_readNumber_85 : decode cX5_readNumber 85 = .ok (.iload 4, 2) := by decide +kernel
theorem dX5_readNumber_87 : decode cX5_readNumber 87 = .ok (.iconst 3, 1) := by decide +kernel
theorem dX5_readNumber_88 : decode cX5_readNumber 88 = .ok (.if_icmp .gt 8, 3) := by decide +kernel
theorem dX5_readNumber_91 : decode cX5_readNumber 91 = .ok (.iload_n 3, 1) := by decide +kernel
theorem dX5_readNumber_92 : decode cX5_readNumber 92 = .ok (.iload_n 1, 1) := by decide +kernel
theorem dX5_readNumber_93 : decode cX5_readNumber 93 = .ok (.if_icmp .le 10, 3) := by decide +kernel
theorem dX5_readNumber_96 : decode cX5_readNumber 96 = .ok (.aload_n 0, 1) := by decide +kernel
theorem dX5_readNumber_97 : decode cX5_readNumber 97 = .ok (.iload_n 2, 1) := by decide +kernel
theorem dX5_readNumber_98 : decode cX5_readNumber 98 = .ok (.invokevirtual 55, 3) := by decide +kernel
theorem dX5_readNumber_101 : decode cX5_readNumber 101 = .ok (.iconst 0, 1) := by decide +kernel
theorem dX5_readNumber_102 : decode cX5_readNumber 102 = .ok (.ireturn, 1) := by decide +kernel
theorem dX5_readNumber_103 : decode cX5_readNumber 103 = .ok (.iload_n 3, 1) := by decide +kernel
theorem dX5_readNumber_104 : decode cX5_readNumber 104 = .ok (.ireturn, 1) := by decide +kernel
theorem dX5_skipBlanks_0 : decode cX5_skipBlanks 0 = .ok (.aload_n 0, 1) := by decide +kernel
theorem dX5_skipBlanks_1 : decode cX5_skipBlanks 1 = .ok (.getfield 31, 3) := by decide +kernel
theorem dX5_skipBlanks_4 : decode cX5_skipBlanks 4 = .ok (.aload_n 0, 1) := by decide +kernel
theorem dX5_skipBlanks_5 : decode cX5_skipBlanks 5 = .ok (.getfield 24, 3) := by decide +kernel
theorem dX5_skipBlanks_8 : decode cX5_skipBlanks 8 = .ok (.if_icmp .ge 25, 3) := by decide +kernel
theorem dX5_skipBlanks_11 : decode cX5_skipBlanks 11 = .ok (.aload_n 0, 1) := by decide +kernel
theorem dX5_skipBlanks_12 : decode cX5_skipBlanks 12 = .ok (.invokevirtual 44, 3) := by decide +kernel
theorem dX5_skipBlanks_15 : decode cX5_skipBlanks 15 = .ok (.bipush 32, 2) := by decide +kernel
theorem dX5_skipBlanks_17 : decode cX5_skipBlanks 17 = .ok (.if_icmp .ne 16, 3) := by decide +kernel
theorem dX5_skipBlanks_20 : decode cX5_skipBlanks 20 = .ok (.aload_n 0, 1) := by decide +kernel
theorem dX5_skipBlanks_21 : decode cX5_skipBlanks 21 = .ok (.dup, 1) := by decide +kernel
theorem dX5_skipBlanks_22 : decode cX5_skipBlanks 22 = .ok (.getfield 31, 3) := by decide +kernel
theorem dX5_skipBlanks_25 : decode cX5_skipBlanks 25 = .ok (.iconst 1, 1) := by decide +kernel
theorem dX5_skipBlanks_26 : decode cX5_skipBlanks 26 = .ok (.iadd, 1) := by decide +kernel
theorem dX5_skipBlanks_27 : decode cX5_skipBlanks 27 = .ok (.putfield 31, 3) := by decide +kernel
theorem dX5_skipBlanks_30 : decode cX5_skipBlanks 30 = .ok (.goto (-30), 3) := by decide +kernel
theorem dX5_skipBlanks_33 : decode cX5_skipBlanks 33 = .ok (.return_, 1) := by decide +kernel
theorem dX5_byteHere_0 : decode cX5_byteHere 0 = .ok (.aload_n 0, 1) := by decide +kernel
theorem dX5_byteHere_1 : decode cX5_byteHere 1 = .ok (.getfield 31, 3) := by decide +kernel
theorem dX5_byteHere_4 : decode cX5_byteHere 4 = .ok (.ifCond .lt 35, 3) := by decide +kernel
theorem dX5_byteHere_7 : decode cX5_byteHere 7 = .ok (.aload_n 0, 1) := by decide +kernel
theorem dX5_byteHere_8 : decode cX5_byteHere 8 = .ok (.getfield 31, 3) := by decide +kernel
theorem dX5_byteHere_11 : decode cX5_byteHere 11 = .ok (.aload_n 0, 1) := by decide +kernel
theorem dX5_byteHere_12 : decode cX5_byteHere 12 = .ok (.getfield 24, 3) := by decide +kernel
theorem dX5_byteHere_15 : decode cX5_byteHere 15 = .ok (.if_icmp .ge 24, 3) := by decide +kernel
theorem dX5_byteHere_18 : decode cX5_byteHere 18 = .ok (.aload_n 0, 1) := by decide +kernel
theorem dX5_byteHere_19 : decode cX5_byteHere 19 = .ok (.getfield 31, 3) := by decide +kernel
theorem dX5_byteHere_22 : decode cX5_byteHere 22 = .ok (.bipush 120, 2) := by decide +kernel
theorem dX5_byteHere_24 : decode cX5_byteHere 24 = .ok (.if_icmp .ge 15, 3) := by decide +kernel
theorem dX5_byteHere_27 : decode cX5_byteHere 27 = .ok (.aload_n 0, 1) := by decide +kernel
theorem dX5_byteHere_28 : decode cX5_byteHere 28 = .ok (.getfield 9, 3) := by decide +kernel
theorem dX5_byteHere_31 : decode cX5_byteHere 31 = .ok (.aload_n 0, 1) := by decide +kernel
theorem dX5_byteHere_32 : decode cX5_byteHere 32 = .ok (.getfield 31, 3) := by decide +kernel
theorem dX5_byteHere_35 : decode cX5_byteHere 35 = .ok (.iaload, 1) := by decide +kernel
theorem dX5_byteHere_36 : decode cX5_byteHere 36 = .ok (.goto 4, 3) := by decide +kernel
theorem dX5_byteHere_39 : decode cX5_byteHere 39 = .ok (.iconst (-1), 1) := by decide +kernel
theorem dX5_byteHere_40 : decode cX5_byteHere 40 = .ok (.ireturn, 1) := by decide +kernel
theorem dX5_failAt_0 : decode cX5_failAt 0 = .ok (.aload_n 0, 1) := by decide +kernel
theorem dX5_failAt_1 : decode cX5_failAt 1 = .ok (.iload_n 1, 1) := by decide +kernel
theorem dX5_failAt_2 : decode cX5_failAt 2 = .ok (.putfield 34, 3) := by decide +kernel
theorem dX5_failAt_5 : decode cX5_failAt 5 = .ok (.return_, 1) := by decide +kernel
theorem dX6_init_0 : decode cX6_init 0 = .ok (.aload_n 0, 1) := by decide +kernel
theorem dX6_init_1 : decode cX6_init 1 = .ok (.invokespecial 1, 3) := by decide +kernel
theorem dX6_init_4 : decode cX6_init 4 = .ok (.aload_n 0, 1) := by decide +kernel
theorem dX6_init_5 : decode cX6_init 5 = .ok (.new 7, 3) := by decide +kernel
theorem dX6_init_8 : decode cX6_init 8 = .ok (.dup, 1) := by decide +kernel
theorem dX6_init_9 : decode cX6_init 9 = .ok (.invokespecial 9, 3) := by decide +kernel
theorem dX6_init_12 : decode cX6_init 12 = .ok (.putfield 10, 3) := by decide +kernel
theorem dX6_init_15 : decode cX6_init 15 = .ok (.aload_n 0, 1) := by decide +kernel
theorem dX6_init_16 : decode cX6_init 16 = .ok (.new 7, 3) := by decide +kernel
theorem dX6_init_19 : decode cX6_init 19 = .ok (.dup, 1) := by decide +kernel
theorem dX6_init_20 : decode cX6_init 20 = .ok (.invokespecial 9, 3) := by decide +kernel
theorem dX6_init_23 : decode cX6_init 23 = .ok (.putfield 16, 3) := by decide +kernel
theorem dX6_init_26 : decode cX6_init 26 = .ok (.aload_n 0, 1) := by decide +kernel
theorem dX6_init_27 : decode cX6_init 27 = .ok (.new 19, 3) := by decide +kernel
theorem dX6_init_30 : decode cX6_init 30 = .ok (.dup, 1) := by decide +kernel
theorem dX6_init_31 : decode cX6_init 31 = .ok (.invokespecial 21, 3) := by decide +kernel
theorem dX6_init_34 : decode cX6_init 34 = .ok (.putfield 22, 3) := by decide +kernel
theorem dX6_init_37 : decode cX6_init 37 = .ok (.aload_n 0, 1) := by decide +kernel
theorem dX6_init_38 : decode cX6_init 38 = .ok (.new 26, 3) := by decide +kernel
theorem dX6_init_41 : decode cX6_init 41 = .ok (.dup, 1) := by decide +kernel
theorem dX6_init_42 : decode cX6_init 42 = .ok (.bipush 12, 2) := by decide +kernel
theorem dX6_init_44 : decode cX6_init 44 = .ok (.invokespecial 28, 3) := by decide +kernel
theorem dX6_init_47 : decode cX6_init 47 = .ok (.putfield 31, 3) := by decide +kernel
theorem dX6_init_50 : decode cX6_init 50 = .ok (.aload_n 0, 1) := by decide +kernel
theorem dX6_init_51 : decode cX6_init 51 = .ok (.new 35, 3) := by decide +kernel
theorem dX6_init_54 : decode cX6_init 54 = .ok (.dup, 1) := by decide +kernel
theorem dX6_init_55 : decode cX6_init 55 = .ok (.invokespecial 37, 3) := by decide +kernel
theorem dX6_init_58 : decode cX6_init 58 = .ok (.putfield 38, 3) := by decide +kernel
theorem dX6_init_61 : decode cX6_init 61 = .ok (.aload_n 0, 1) := by decide +kernel
theorem dX6_init_62 : decode cX6_init 62 = .ok (.new 26, 3) := by decide +kernel
theorem dX6_init_65 : decode cX6_init 65 = .ok (.dup, 1) := by decide +kernel
theorem dX6_init_66 : decode cX6_init 66 = .ok (.bipush 10, 2) := by decide +kernel
theorem dX6_init_68 : decode cX6_init 68 = .ok (.invokespecial 28, 3) := by decide +kernel
theorem dX6_init_71 : decode cX6_init 71 = .ok (.putfield 42, 3) := by decide +kernel
theorem dX6_init_74 : decode cX6_init 74 = .ok (.aload_n 0, 1) := by decide +kernel
theorem dX6_init_75 : decode cX6_init 75 = .ok (.new 45, 3) := by decide +kernel
theorem dX6_init_78 : decode cX6_init 78 = .ok (.dup, 1) := by decide +kernel
theorem dX6_init_79 : decode cX6_init 79 = .ok (.invokespecial 47, 3) := by decide +kernel
theorem dX6_init_82 : decode cX6_init 82 = .ok (.putfield 48, 3) := by decide +kernel
theorem dX6_init_85 : decode cX6_init 85 = .ok (.aload_n 0, 1) := by decide +kernel
theorem dX6_init_86 : decode cX6_init 86 = .ok (.iconst 3, 1) := by decide +kernel
theorem dX6_init_87 : decode cX6_init 87 = .ok (.newarray .int, 2) := by decide +kernel
theorem dX6_init_89 : decode cX6_init 89 = .ok (.putfield 52, 3) := by decide +kernel
theorem dX6_init_92 : decode cX6_init 92 = .ok (.return_, 1) := by decide +kernel
theorem dX6_sets_0 : decode cX6_sets 0 = .ok (.iload_n 1, 1) := by decide +kernel
theorem dX6_sets_1 : decode cX6_sets 1 = .ok (.iconst 0, 1) := by decide +kernel
theorem dX6_sets_2 : decode cX6_sets 2 = .ok (.bipush 6, 2) := by decide +kernel
theorem dX6_sets_4 : decode cX6_sets 4 = .ok (.invokestatic 56, 3) := by decide +kernel
theorem dX6_sets_7 : decode cX6_sets 7 = .ok (.ifCond .eq 20, 3) := by decide +kernel
theorem dX6_sets_10 : decode cX6_sets 10 = .ok (.iload_n 2, 1) := by decide +kernel
theorem dX6_sets_11 : decode cX6_sets 11 = .ok (.getstatic 60, 3) := by decide +kernel
theorem dX6_sets_14 : decode cX6_sets 14 = .ok (.iload_n 1, 1) := by decide +kernel
theorem dX6_sets_15 : decode cX6_sets 15 = .ok (.iaload, 1) := by decide +kernel
theorem dX6_sets_16 : decode cX6_sets 16 = .ok (.getstatic 63, 3) := by decide +kernel
theorem dX6_sets_19 : decode cX6_sets 19 = .ok (.iload_n 1, 1) := by decide +kernel
theorem dX6_sets_20 : decode cX6_sets 20 = .ok (.iaload, 1) := by decide +kernel
theorem dX6_sets_21 : decode cX6_sets 21 = .ok (.invokestatic 56, 3) := by decide +kernel
theorem dX6_sets_24 : decode cX6_sets 24 = .ok (.ifCond .ne 8, 3) := by decide +kernel
theorem dX6_sets_27 : decode cX6_sets 27 = .ok (.aload_n 0, 1) := by decide +kernel
theorem dX6_sets_28 : decode cX6_sets 28 = .ok (.invokevirtual 66, 3) := by decide +kernel
theorem dX6_sets_31 : decode cX6_sets 31 = .ok (.ireturn, 1) := by decide +kernel
theorem dX6_sets_32 : decode cX6_sets 32 = .ok (.iload_n 1, 1) := by decide +kernel
theorem dX6_sets_33 : decode cX6_sets 33 = .ok (.ifCond .ne 14, 3) := by decide +kernel
theorem dX6_sets_36 : decode cX6_sets 36 = .ok (.iload_n 2, 1) := by decide +kernel
theorem dX6_sets_37 : decode cX6_sets 37 = .ok (.iconst 2, 1) := by decide +kernel
theorem dX6_sets_38 : decode cX6_sets 38 = .ok (.irem, 1) := by decide +kernel
theorem dX6_sets_39 : decode cX6_sets 39 = .ok (.ifCond .eq 8, 3) := by decide +kernel
theorem dX6_sets_42 : decode cX6_sets 42 = .ok (.aload_n 0, 1) := by decide +kernel
theorem dX6_sets_43 : decode cX6_sets 43 = .ok (.invokevirtual 66, 3) := by decide +kernel
theorem dX6_sets_46 : decode cX6_sets 46 = .ok (.ireturn, 1) := by decide +kernel
theorem dX6_sets_47 : decode cX6_sets 47 = .ok (.aload_n 0, 1) := by decide +kernel
theorem dX6_sets_48 : decode cX6_sets 48 = .ok (.getfield 10, 3) := by decide +kernel
theorem dX6_sets_51 : decode cX6_sets 51 = .ok (.getfield 70, 3) := by decide +kernel
theorem dX6_sets_54 : decode cX6_sets 54 = .ok (.iload_n 1, 1) := by decide +kernel
theorem dX6_sets_55 : decode cX6_sets 55 = .ok (.iaload, 1) := by decide +kernel
theorem dX6_sets_56 : decode cX6_sets 56 = .ok (.istore_n 3, 1) := by decide +kernel
theorem dX6_sets_57 : decode cX6_sets 57 = .ok (.aload_n 0, 1) := by decide +kernel
theorem dX6_sets_58 : decode cX6_sets 58 = .ok (.getfield 10, 3) := by decide +kernel
theorem dX6_sets_61 : decode cX6_sets 61 = .ok (.getfield 70, 3) := by decide +kernel
theorem dX6_sets_64 : decode cX6_sets 64 = .ok (.iload_n 1, 1) := by decide +kernel
theorem dX6_sets_65 : decode cX6_sets 65 = .ok (.iload_n 2, 1) := by decide +kernel
theorem dX6_sets_66 : decode cX6_sets 66 = .ok (.iastore, 1) := by decide +kernel
theorem dX6_sets_67 : decode cX6_sets 67 = .ok (.iload_n 3, 1) := by decide +kernel
theorem dX6_sets_68 : decode cX6_sets 68 = .ok (.ireturn, 1) := by decide +kernel
theorem dX6_leg_0 : decode cX6_leg 0 = .ok (.iload_n 1, 1) := by decide +kernel
theorem dX6_leg_1 : decode cX6_leg 1 = .ok (.invokestatic 73, 3) := by decide +kernel
theorem dX6_leg_4 : decode cX6_leg 4 = .ok (.ifCond .eq 12, 3) := by decide +kernel
theorem dX6_leg_7 : decode cX6_leg 7 = .ok (.iload_n 2, 1) := by decide +kernel
theorem dX6_leg_8 : decode cX6_leg 8 = .ok (.iconst 0, 1) := by decide +kernel
theorem dX6_leg_9 : decode cX6_leg 9 = .ok (.iconst 1, 1) := by decide +kernel
theorem dX6_leg_10 : decode cX6_leg 10 = .ok (.invokestatic 56, 3) := by decide +kernel
theorem dX6_leg_13 : decode cX6_leg 13 = .ok (.ifCond .ne 8, 3) := by decide +kernel
theorem dX6_leg_16 : decode cX6_leg 16 = .ok (.aload_n 0, 1) := by decide +kernel
theorem dX6_leg_17 : decode cX6_leg 17 = .ok (.invokevirtual 66, 3) := by decide +kernel
theorem dX6_leg_20 : decode cX6_leg 20 = .ok (.ireturn, 1) := by decide +kernel
theorem dX6_leg_21 : decode cX6_leg 21 = .ok (.iload_n 2, 1) := by decide +kernel
theorem dX6_leg_22 : decode cX6_leg 22 = .ok (.ifCond .ne 9, 3) := by decide +kernel
theorem dX6_leg_25 : decode cX6_leg 25 = .ok (.sipush 200, 3) := by decide +kernel
theorem dX6_leg_28 : decode cX6_leg 28 = .ok (.goto 6, 3) := by decide +kernel
theorem dX6_leg_31 : decode cX6_leg 31 = .ok (.sipush 999, 3) := by decide +kernel
theorem dX6_leg_34 : decode cX6_leg 34 = .ok (.istore 4, 2) := by decide +kernel
theorem dX6_leg_36 : decode cX6_leg 36 = .ok (.iload_n 3, 1) := by decide +kernel
theorem dX6_leg_37 : decode cX6_leg 37 = .ok (.iload 4, 2) := by decide +kernel
theorem dX6_leg_39 : decode cX6_leg 39 = .ok (.ineg, 1) := by decide +kernel
theorem dX6_leg_40 : decode cX6_leg 40 = .ok (.iload 4, 2) := by decide +kernel
theorem dX6_leg_42 : decode cX6_leg 42 = .ok (.invokestatic 56, 3) := by decide +kernel
theorem dX6_leg_45 : decode cX6_leg 45 = .ok (.ifCond .ne 8, 3) := by decide +kernel
theorem dX6_leg_48 : decode cX6_leg 48 = .ok (.aload_n 0, 1) := by decide +kernel
theorem dX6_leg_49 : decode cX6_leg 49 = .ok (.invokevirtual 66, 3) := by decide +kernel
theorem dX6_leg_52 : decode cX6_leg 52 = .ok (.ireturn, 1) := by decide +kernel
theorem dX6_leg_53 : decode cX6_leg 53 = .ok (.iload_n 2, 1) := by decide +kernel
theorem dX6_leg_54 : decode cX6_leg 54 = .ok (.ifCond .ne 13, 3) := by decide +kernel
theorem dX6_leg_57 : decode cX6_leg 57 = .ok (.aload_n 0, 1) := by decide +kernel
theorem dX6_leg_58 : decode cX6_leg 58 = .ok (.getfield 10, 3) := by decide +kernel
theorem dX6_leg_61 : decode cX6_leg 61 = .ok (.getfield 77, 3) := by decide +kernel
theorem dX6_leg_64 : decode cX6_leg 64 = .ok (.goto 10, 3) := by decide +kernel
theorem dX6_leg_67 : decode cX6_leg 67 = .ok (.aload_n 0, 1) := by decide +kernel
theorem dX6_leg_68 : decode cX6_leg 68 = .ok (.getfield 10, 3) := by decide +kernel
theorem dX6_leg_71 : decode cX6_leg 71 = .ok (.getfield 80, 3) := by decide +kernel
theorem dX6_leg_74 : decode cX6_leg 74 = .ok (.astore 5, 2) := by decide +kernel
theorem dX6_leg_76 : decode cX6_leg 76 = .ok (.aload 5, 2) := by decide +kernel
theorem dX6_leg_78 : decode cX6_leg 78 = .ok (.iload_n 1, 1) := by decide +kernel
theorem dX6_leg_79 : decode cX6_leg 79 = .ok (.iaload, 1) := by decide +kernel
theorem dX6_leg_80 : decode cX6_leg 80 = .ok (.istore 6, 2) := by decide +kernel
theorem dX6_leg_82 : decode cX6_leg 82 = .ok (.aload 5, 2) := by decide +kernel
theorem dX6_leg_84 : decode cX6_leg 84 = .ok (.iload_n 1, 1) := by decide +kernel
theorem dX6_leg_85 : decode cX6_leg 85 = .ok (.iload_n 3, 1) := by decide +kernel
theorem dX6_leg_86 : decode cX6_leg 86 = .ok (.iastore, 1) := by decide +kernel
theorem dX6_leg_87 : decode cX6_leg 87 = .ok (.iload 6, 2) := by decide +kernel
theorem dX6_leg_89 : decode cX6_leg 89 = .ok (.ireturn, 1) := by decide +kernel
theorem dX6_anew_0 : decode cX6_anew 0 = .ok (.aload_n 0, 1) := by decide +kernel
theorem dX6_anew_1 : decode cX6_anew 1 = .ok (.getfield 10, 3) := by decide +kernel
theorem dX6_anew_4 : decode cX6_anew 4 = .ok (.getfield 83, 3) := by decide +kernel
theorem dX6_anew_7 : decode cX6_anew 7 = .ok (.istore_n 1, 1) := by decide +kernel
theorem dX6_anew_8 : decode cX6_anew 8 = .ok (.aload_n 0, 1) := by decide +kernel
theorem dX6_anew_9 : decode cX6_anew 9 = .ok (.getfield 10, 3) := by decide +kernel
theorem dX6_anew_12 : decode cX6_anew 12 = .ok (.invokevirtual 87, 3) := by decide +kernel
theorem dX6_anew_15 : decode cX6_anew 15 = .ok (.aload_n 0, 1) := by decide +kernel
theorem dX6_anew_16 : decode cX6_anew 16 = .ok (.getfield 42, 3) := by decide +kernel
theorem dX6_anew_19 : decode cX6_anew 19 = .ok (.iconst 0, 1) := by decide +kernel
theorem dX6_anew_20 : decode cX6_anew 20 = .ok (.invokevirtual 90, 3) := by decide +kernel
theorem dX6_anew_23 : decode cX6_anew 23 = .ok (.iload_n 1, 1) := by decide +kernel
theorem dX6_anew_24 : decode cX6_anew 24 = .ok (.ireturn, 1) := by decide +kernel
theorem dX6_draw_0 : decode cX6_draw 0 = .ok (.iload_n 1, 1) := by decide +kernel
theorem dX6_draw_1 : decode cX6_draw 1 = .ok (.iconst 0, 1) := by decide +kernel
theorem dX6_draw_2 : decode cX6_draw 2 = .ok (.ldc 93, 2) := by decide +kernel
theorem dX6_draw_4 : decode cX6_draw 4 = .ok (.invokestatic 56, 3) := by decide +kernel
theorem dX6_draw_7 : decode cX6_draw 7 = .ok (.ifCond .ne 8, 3) := by decide +kernel
theorem dX6_draw_10 : decode cX6_draw 10 = .ok (.aload_n 0, 1) := by decide +kernel
theorem dX6_draw_11 : decode cX6_draw 11 = .ok (.invokevirtual 66, 3) := by decide +kernel
theorem dX6_draw_14 : decode cX6_draw 14 = .ok (.ireturn, 1) := by decide +kernel
theorem dX6_draw_15 : decode cX6_draw 15 = .ok (.iload_n 1, 1) := by decide +kernel
theorem dX6_draw_16 : decode cX6_draw 16 = .ok (.i2l, 1) := by decide +kernel
theorem dX6_draw_17 : decode cX6_draw 17 = .ok (.lstore_n 2, 1) := by decide +kernel
theorem dX6_draw_18 : decode cX6_draw 18 = .ok (.iconst 0, 1) := by decide +kernel
theorem dX6_draw_19 : decode cX6_draw 19 = .ok (.istore 4, 2) := by decide +kernel
theorem dX6_draw_21 : decode cX6_draw 21 = .ok (.iload 4, 2) := by decide +kernel
theorem dX6_draw_23 : decode cX6_draw 23 = .ok (.iconst 3, 1) := by decide +kernel
theorem dX6_draw_24 : decode cX6_draw 24 = .ok (.if_icmp .ge 70, 3) := by decide +kernel
theorem dX6_draw_27 : decode cX6_draw 27 = .ok (.lload_n 2, 1) := by decide +kernel
theorem dX6_draw_28 : decode cX6_draw 28 = .ok (.ldc2_w 94, 3) := by decide +kernel
theorem dX6_draw_31 : decode cX6_draw 31 = .ok (.lmul, 1) := by decide +kernel
theorem dX6_draw_32 : decode cX6_draw 32 = .ok (.ldc2_w 96, 3) := by decide +kernel
theorem dX6_draw_35 : decode cX6_draw 35 = .ok (.ladd, 1) := by decide +kernel
theorem dX6_draw_36 : decode cX6_draw 36 = .ok (.ldc2_w 98, 3) := by decide +kernel
theorem dX6_draw_39 : decode cX6_draw 39 = .ok (.lrem, 1) := by decide +kernel
theorem dX6_draw_40 : decode cX6_draw 40 = .ok (.lstore_n 2, 1) := by decide +kernel
theorem dX6_draw_41 : decode cX6_draw 41 = .ok (.aload_n 0, 1) := by decide +kernel
theorem dX6_draw_42 : decode cX6_draw 42 = .ok (.getfield 10, 3) := by decide +kernel
theorem dX6_draw_45 : decode cX6_draw 45 = .ok (.getfield 77, 3) := by decide +kernel
theorem dX6_draw_48 : decode cX6_draw 48 = .ok (.iload 4, 2) := by decide +kernel
theorem dX6_draw_50 : decode cX6_draw 50 = .ok (.lload_n 2, 1) := by decide +kernel
theorem dX6_draw_51 : decode cX6_draw 51 = .ok (.ldc2_w 100, 3) := by decide +kernel
theorem dX6_draw_54 : decode cX6_draw 54 = .ok (.ldiv, 1) := by decide +kernel
theorem dX6_draw_55 : decode cX6_draw 55 = .ok (.ldc2_w 102, 3) := by decide +kernel
theorem dX6_draw_58 : decode cX6_draw 58 = .ok (.lrem, 1) := by decide +kernel
theorem dX6_draw_59 : decode cX6_draw 59 = .ok (.l2i, 1) := by decide +kernel
theorem dX6_draw_60 : decode cX6_draw 60 = .ok (.bipush 100, 2) := by decide +kernel
theorem dX6_draw_62 : decode cX6_draw 62 = .ok (.isub, 1) := by decide +kernel
theorem dX6_draw_63 : decode cX6_draw 63 = .ok (.iastore, 1) := by decide +kernel
theorem dX6_draw_64 : decode cX6_draw 64 = .ok (.aload_n 0, 1) := by decide +kernel
theorem dX6_draw_65 : decode cX6_draw 65 = .ok (.getfield 10, 3) := by decide +kernel
theorem dX6_draw_68 : decode cX6_draw 68 = .ok (.getfield 80, 3) := by decide +kernel
theorem dX6_draw_71 : decode cX6_draw 71 = .ok (.iload 4, 2) := by decide +kernel
theorem dX6_draw_73 : decode cX6_draw 73 = .ok (.lload_n 2, 1) := by decide +kernel
theorem dX6_draw_74 : decode cX6_draw 74 = .ok (.ldc2_w 104, 3) := by decide +kernel
theorem dX6_draw_77 : decode cX6_draw 77 = .ok (.ldiv, 1) := by decide +kernel
theorem dX6_draw_78 : decode cX6_draw 78 = .ok (.ldc2_w 106, 3) := by decide +kernel
theorem dX6_draw_81 : decode cX6_draw 81 = .ok (.lrem, 1) := by decide +kernel
theorem dX6_draw_82 : decode cX6_draw 82 = .ok (.l2i, 1) := by decide +kernel
theorem dX6_draw_83 : decode cX6_draw 83 = .ok (.sipush 200, 3) := by decide +kernel
theorem dX6_draw_86 : decode cX6_draw 86 = .ok (.isub, 1) := by decide +kernel
theorem dX6_draw_87 : decode cX6_draw 87 = .ok (.iastore, 1) := by decide +kernel
theorem dX6_draw_88 : decode cX6_draw 88 = .ok (.iinc 4 1, 3) := by decide +kernel
theorem dX6_draw_91 : decode cX6_draw 91 = .ok (.goto (-70), 3) := by decide +kernel
theorem dX6_draw_94 : decode cX6_draw 94 = .ok (.aload_n 0, 1) := by decide +kernel
theorem dX6_draw_95 : decode cX6_draw 95 = .ok (.invokevirtual 108, 3) := by decide +kernel
theorem dX6_draw_98 : decode cX6_draw 98 = .ok (.getfield 112, 3) := by decide +kernel
theorem dX6_draw_101 : decode cX6_draw 101 = .ok (.ireturn, 1) := by decide +kernel
theorem dX6_plan_0 : decode cX6_plan 0 = .ok (.iload_n 1, 1) := by decide +kernel
theorem dX6_plan_1 : decode cX6_plan 1 = .ok (.tableswitch 89 0 4 #[35, 43, 59, 68, 78], 35) := by decide +kernel
theorem dX6_plan_36 : decode cX6_plan 36 = .ok (.aload_n 0, 1) := by decide +kernel
theorem dX6_plan_37 : decode cX6_plan 37 = .ok (.invokevirtual 108, 3) := by decide +kernel
theorem dX6_plan_40 : decode cX6_plan 40 = .ok (.getfield 112, 3) := by decide +kernel
theorem dX6_plan_43 : decode cX6_plan 43 = .ok (.ireturn, 1) := by decide +kernel
theorem dX6_plan_44 : decode cX6_plan 44 = .ok (.aload_n 0, 1) := by decide +kernel
theorem dX6_plan_45 : decode cX6_plan 45 = .ok (.invokevirtual 108, 3) := by decide +kernel
theorem dX6_plan_48 : decode cX6_plan 48 = .ok (.getfield 117, 3) := by decide +kernel
theorem dX6_plan_51 : decode cX6_plan 51 = .ok (.ifCond .eq 7, 3) := by decide +kernel
theorem dX6_plan_54 : decode cX6_plan 54 = .ok (.iconst 1, 1) := by decide +kernel
theorem dX6_plan_55 : decode cX6_plan 55 = .ok (.goto 4, 3) := by decide +kernel
theorem dX6_plan_58 : decode cX6_plan 58 = .ok (.iconst 0, 1) := by decide +kernel
theorem dX6_plan_59 : decode cX6_plan 59 = .ok (.ireturn, 1) := by decide +kernel
theorem dX6_plan_60 : decode cX6_plan 60 = .ok (.aload_n 0, 1) := by decide +kernel
theorem dX6_plan_61 : decode cX6_plan 61 = .ok (.invokevirtual 121, 3) := by decide +kernel
theorem dX6_plan_64 : decode cX6_plan 64 = .ok (.iconst 0, 1) := by decide +kernel
theorem dX6_plan_65 : decode cX6_plan 65 = .ok (.invokevirtual 125, 3) := by decide +kernel
theorem dX6_plan_68 : decode cX6_plan 68 = .ok (.ireturn, 1) := by decide +kernel
theorem dX6_plan_69 : decode cX6_plan 69 = .ok (.aload_n 0, 1) := by decide +kernel
theorem dX6_plan_70 : decode cX6_plan 70 = .ok (.invokevirtual 121, 3) := by decide +kernel
theorem dX6_plan_73 : decode cX6_plan 73 = .ok (.bipush 7, 2) := by decide +kernel
theorem dX6_plan_75 : decode cX6_plan 75 = .ok (.invokevirtual 125, 3) := by decide +kernel
theorem dX6_plan_78 : decode cX6_plan 78 = .ok (.ireturn, 1) := by decide +kernel
theorem dX6_plan_79 : decode cX6_plan 79 = .ok (.aload_n 0, 1) := by decide +kernel
theorem dX6_plan_80 : decode cX6_plan 80 = .ok (.invokevirtual 121, 3) := by decide +kernel
theorem dX6_plan_83 : decode cX6_plan 83 = .ok (.getfield 129, 3) := by decide +kernel
theorem dX6_plan_86 : decode cX6_plan 86 = .ok (.getfield 132, 3) := by decide +kernel
theorem dX6_plan_89 : decode cX6_plan 89 = .ok (.ireturn, 1) := by decide +kernel
theorem dX6_plan_90 : decode cX6_plan 90 = .ok (.aload_n 0, 1) := by decide +kernel
theorem dX6_plan_91 : decode cX6_plan 91 = .ok (.invokevirtual 66, 3) := by decide +kernel
theorem dX6_plan_94 : decode cX6_plan 94 = .ok (.ireturn, 1) := by decide +kernel
theorem dX6_of_0 : decode cX6_of 0 = .ok (.iload_n 1, 1) := by decide +kernel
theorem dX6_of_1 : decode cX6_of 1 = .ok (.invokestatic 73, 3) := by decide +kernel
theorem dX6_of_4 : decode cX6_of 4 = .ok (.ifCond .ne 8, 3) := by decide +kernel
theorem dX6_of_7 : decode cX6_of 7 = .ok (.aload_n 0, 1) := by decide +kernel
theorem dX6_of_8 : decode cX6_of 8 = .ok (.invokevirtual 66, 3) := by decide +kernel
theorem dX6_of_11 : decode cX6_of 11 = .ok (.ireturn, 1) := by decide +kernel
theorem dX6_of_12 : decode cX6_of 12 = .ok (.aload_n 0, 1) := by decide +kernel
theorem dX6_of_13 : decode cX6_of 13 = .ok (.invokevirtual 108, 3) := by decide +kernel
theorem dX6_of_16 : decode cX6_of 16 = .ok (.astore_n 3, 1) := by decide +kernel
theorem dX6_of_17 : decode cX6_of 17 = .ok (.iload_n 2, 1) := by decide +kernel
theorem dX6_of_18 : decode cX6_of 18 = .ok (.tableswitch 86 0 6 #[42, 49, 56, 62, 68, 74, 80], 42) := by decide +kernel
theorem dX6_of_60 : decode cX6_of 60 = .ok (.aload_n 3, 1) := by decide +kernel
theorem dX6_of_61 : decode cX6_of 61 = .ok (.getfield 135, 3) := by decide +kernel
theorem dX6_of_64 : decode cX6_of 64 = .ok (.iload_n 1, 1) := by decide +kernel
theorem dX6_of_65 : decode cX6_of 65 = .ok (.iaload, 1) := by decide +kernel
theorem dX6_of_66 : decode cX6_of 66 = .ok (.ireturn, 1) := by decide +kernel
theorem dX6_of_67 : decode cX6_of 67 = .ok (.aload_n 3, 1) := by decide +kernel
theorem dX6_of_68 : decode cX6_of 68 = .ok (.getfield 138, 3) := by decide +kernel
theorem dX6_of_71 : decode cX6_of 71 = .ok (.iload_n 1, 1) := by decide +kernel
theorem dX6_of_72 : decode cX6_of 72 = .ok (.iaload, 1) := by decide +kernel
theorem dX6_of_73 : decode cX6_of 73 = .ok (.ireturn, 1) := by decide +kernel
theorem dX6_of_74 : decode cX6_of 74 = .ok (.aload_n 3, 1) := by decide +kernel
theorem dX6_of_75 : decode cX6_of 75 = .ok (.iload_n 1, 1) := by decide +kernel
theorem dX6_of_76 : decode cX6_of 76 = .ok (.invokevirtual 141, 3) := by decide +kernel
theorem dX6_of_79 : decode cX6_of 79 = .ok (.ireturn, 1) := by decide +kernel
theorem dX6_of_80 : decode cX6_of 80 = .ok (.aload_n 3, 1) := by decide +kernel
theorem dX6_of_81 : decode cX6_of 81 = .ok (.iload_n 1, 1) := by decide +kernel
theorem dX6_of_82 : decode cX6_of 82 = .ok (.invokevirtual 144, 3) := by decide +kernel
theorem dX6_of_85 : decode cX6_of 85 = .ok (.ireturn, 1) := by decide +kernel
theorem dX6_of_86 : decode cX6_of 86 = .ok (.aload_n 3, 1) := by decide +kernel
theorem dX6_of_87 : decode cX6_of 87 = .ok (.iload_n 1, 1) := by decide +kernel
theorem dX6_of_88 : decode cX6_of 88 = .ok (.invokevirtual 147, 3) := by decide +kernel
theorem dX6_of_91 : decode cX6_of 91 = .ok (.ireturn, 1) := by decide +kernel
theorem dX6_of_92 : decode cX6_of 92 = .ok (.aload_n 3, 1) := by decide +kernel
theorem dX6_of_93 : decode cX6_of 93 = .ok (.iload_n 1, 1) := by decide +kernel
theorem dX6_of_94 : decode cX6_of 94 = .ok (.invokevirtual 150, 3) := by decide +kernel
theorem dX6_of_97 : decode cX6_of 97 = .ok (.ireturn, 1) := by decide +kernel
theorem dX6_of_98 : decode cX6_of 98 = .ok (.aload_n 3, 1) := by decide +kernel
theorem dX6_of_99 : decode cX6_of 99 = .ok (.iload_n 1, 1) := by decide +kernel
theorem dX6_of_100 : decode cX6_of 100 = .ok (.invokevirtual 153, 3) := by decide +kernel
theorem dX6_of_103 : decode cX6_of 103 = .ok (.ireturn, 1) := by decide +kernel
theorem dX6_of_104 : decode cX6_of 104 = .ok (.aload_n 0, 1) := by decide +kernel
theorem dX6_of_105 : decode cX6_of 105 = .ok (.invokevirtual 66, 3) := by decide +kernel
theorem dX6_of_108 : decode cX6_of 108 = .ok (.ireturn, 1) := by decide +kernel
theorem dX6_at_0 : decode cX6_at 0 = .ok (.iload_n 1, 1) := by decide +kernel
theorem dX6_at_1 : decode cX6_at 1 = .ok (.invokestatic 73, 3) := by decide +kernel
theorem dX6_at_4 : decode cX6_at 4 = .ok (.ifCond .eq 22, 3) := by decide +kernel
theorem dX6_at_7 : decode cX6_at 7 = .ok (.iload_n 2, 1) := by decide +kernel
theorem dX6_at_8 : decode cX6_at 8 = .ok (.iconst 0, 1) := by decide +kernel
theorem dX6_at_9 : decode cX6_at 9 = .ok (.aload_n 0, 1) := by decide +kernel
theorem dX6_at_10 : decode cX6_at 10 = .ok (.getfield 10, 3) := by decide +kernel
theorem dX6_at_13 : decode cX6_at 13 = .ok (.getfield 70, 3) := by decide +kernel
theorem dX6_at_16 : decode cX6_at 16 = .ok (.iconst 0, 1) := by decide +kernel
theorem dX6_at_17 : decode cX6_at 17 = .ok (.iaload, 1) := by decide +kernel
theorem dX6_at_18 : decode cX6_at 18 = .ok (.iconst 1, 1) := by decide +kernel
theorem dX6_at_19 : decode cX6_at 19 = .ok (.isub, 1) := by decide +kernel
theorem dX6_at_20 : decode cX6_at 20 = .ok (.invokestatic 56, 3) := by decide +kernel
theorem dX6_at_23 : decode cX6_at 23 = .ok (.ifCond .ne 8, 3) := by decide +kernel
theorem dX6_at_26 : decode cX6_at 26 = .ok (.aload_n 0, 1) := by decide +kernel
theorem dX6_at_27 : decode cX6_at 27 = .ok (.invokevirtual 66, 3) := by decide +kernel
theorem dX6_at_30 : decode cX6_at 30 = .ok (.ireturn, 1) := by decide +kernel
theorem dX6_at_31 : decode cX6_at 31 = .ok (.aload_n 0, 1) := by decide +kernel
theorem dX6_at_32 : decode cX6_at 32 = .ok (.invokevirtual 108, 3) := by decide +kernel
theorem dX6_at_35 : decode cX6_at 35 = .ok (.astore 4, 2) := by decide +kernel
theorem dX6_at_37 : decode cX6_at 37 = .ok (.iload_n 3, 1) := by decide +kernel
theorem dX6_at_38 : decode cX6_at 38 = .ok (.tableswitch 96 0 3 #[30, 46, 63, 80], 30) := by decide +kernel
theorem dX6_at_68 : decode cX6_at 68 = .ok (.aload 4, 2) := by decide +kernel
theorem dX6_at_70 : decode cX6_at 70 = .ok (.iload_n 1, 1) := by decide +kernel
theorem dX6_at_71 : decode cX6_at 71 = .ok (.iload_n 2, 1) := by decide +kernel
theorem dX6_at_72 : decode cX6_at 72 = .ok (.invokevirtual 156, 3) := by decide +kernel
theorem dX6_at_75 : decode cX6_at 75 = .ok (.ifCond .eq 7, 3) := by decide +kernel
theorem dX6_at_78 : decode cX6_at 78 = .ok (.iconst 1, 1) := by decide +kernel
theorem dX6_at_79 : decode cX6_at 79 = .ok (.goto 4, 3) := by decide +kernel
theorem dX6_at_82 : decode cX6_at 82 = .ok (.iconst 0, 1) := by decide +kernel
theorem dX6_at_83 : decode cX6_at 83 = .ok (.ireturn, 1) := by decide +kernel
theorem dX6_at_84 : decode cX6_at 84 = .ok (.aload 4, 2) := by decide +kernel
theorem dX6_at_86 : decode cX6_at 86 = .ok (.iload_n 1, 1) := by decide +kernel
theorem dX6_at_87 : decode cX6_at 87 = .ok (.iconst 0, 1) := by decide +kernel
theorem dX6_at_88 : decode cX6_at 88 = .ok (.iload_n 2, 1) := by decide +kernel
theorem dX6_at_89 : decode cX6_at 89 = .ok (.invokevirtual 160, 3) := by decide +kernel
theorem dX6_at_92 : decode cX6_at 92 = .ok (.ifCond .eq 7, 3) := by decide +kernel
theorem dX6_at_95 : decode cX6_at 95 = .ok (.iconst 1, 1) := by decide +kernel
theorem dX6_at_96 : decode cX6_at 96 = .ok (.goto 4, 3) := by decide +kernel
theorem dX6_at_99 : decode cX6_at 99 = .ok (.iconst 0, 1) := by decide +kernel
theorem dX6_at_100 : decode cX6_at 100 = .ok (.ireturn, 1) := by decide +kernel
theorem dX6_at_101 : decode cX6_at 101 = .ok (.aload 4, 2) := by decide +kernel
theorem dX6_at_103 : decode cX6_at 103 = .ok (.iload_n 1, 1) := by decide +kernel
theorem dX6_at_104 : decode cX6_at 104 = .ok (.iconst 1, 1) := by decide +kernel
theorem dX6_at_105 : decode cX6_at 105 = .ok (.iload_n 2, 1) := by decide +kernel
theorem dX6_at_106 : decode cX6_at 106 = .ok (.invokevirtual 160, 3) := by decide +kernel
theorem dX6_at_109 : decode cX6_at 109 = .ok (.ifCond .eq 7, 3) := by decide +kernel
theorem dX6_at_112 : decode cX6_at 112 = .ok (.iconst 1, 1) := by decide +kernel
theorem dX6_at_113 : decode cX6_at 113 = .ok (.goto 4, 3) := by decide +kernel
theorem dX6_at_116 : decode cX6_at 116 = .ok (.iconst 0, 1) := by decide +kernel
theorem dX6_at_117 : decode cX6_at 117 = .ok (.ireturn, 1) := by decide +kernel
theorem dX6_at_118 : decode cX6_at 118 = .ok (.aload 4, 2) := by decide +kernel
theorem dX6_at_120 : decode cX6_at 120 = .ok (.iload_n 1, 1) := by decide +kernel
theorem dX6_at_121 : decode cX6_at 121 = .ok (.iload_n 2, 1) := by decide +kernel
theorem dX6_at_122 : decode cX6_at 122 = .ok (.invokevirtual 163, 3) := by decide +kernel
theorem dX6_at_125 : decode cX6_at 125 = .ok (.ifCond .eq 7, 3) := by decide +kernel
theorem dX6_at_128 : decode cX6_at 128 = .ok (.iconst 1, 1) := by decide +kernel
theorem dX6_at_129 : decode cX6_at 129 = .ok (.goto 4, 3) := by decide +kernel
theorem dX6_at_132 : decode cX6_at 132 = .ok (.iconst 0, 1) := by decide +kernel
theorem dX6_at_133 : decode cX6_at 133 = .ok (.ireturn, 1) := by decide +kernel
theorem dX6_at_134 : decode cX6_at 134 = .ok (.aload_n 0, 1) := by decide +kernel
theorem dX6_at_135 : decode cX6_at 135 = .ok (.invokevirtual 66, 3) := by decide +kernel
theorem dX6_at_138 : decode cX6_at 138 = .ok (.ireturn, 1) := by decide +kernel
theorem dX6_run_0 : decode cX6_run 0 = .ok (.iload_n 1, 1) := by decide +kernel
theorem dX6_run_1 : decode cX6_run 1 = .ok (.ifCond .lt 12, 3) := by decide +kernel
theorem dX6_run_4 : decode cX6_run 4 = .ok (.iload_n 2, 1) := by decide +kernel
theorem dX6_run_5 : decode cX6_run 5 = .ok (.iconst 0, 1) := by decide +kernel
theorem dX6_run_6 : decode cX6_run 6 = .ok (.iconst 3, 1) := by decide +kernel
theorem dX6_run_7 : decode cX6_run 7 = .ok (.invokestatic 56, 3) := by decide +kernel
theorem dX6_run_10 : decode cX6_run 10 = .ok (.ifCond .ne 8, 3) := by decide +kernel
theorem dX6_run_13 : decode cX6_run 13 = .ok (.aload_n 0, 1) := by decide +kernel
theorem dX6_run_14 : decode cX6_run 14 = .ok (.invokevirtual 66, 3) := by decide +kernel
theorem dX6_run_17 : decode cX6_run 17 = .ok (.ireturn, 1) := by decide +kernel
theorem dX6_run_18 : decode cX6_run 18 = .ok (.aload_n 0, 1) := by decide +kernel
theorem dX6_run_19 : decode cX6_run 19 = .ok (.invokevirtual 121, 3) := by decide +kernel
theorem dX6_run_22 : decode cX6_run 22 = .ok (.getfield 129, 3) := by decide +kernel
theorem dX6_run_25 : decode cX6_run 25 = .ok (.iconst (-1), 1) := by decide +kernel
theorem dX6_run_26 : decode cX6_run 26 = .ok (.iload_n 1, 1) := by decide +kernel
theorem dX6_run_27 : decode cX6_run 27 = .ok (.iload_n 2, 1) := by decide +kernel
theorem dX6_run_28 : decode cX6_run 28 = .ok (.invokevirtual 166, 3) := by decide +kernel
theorem dX6_run_31 : decode cX6_run 31 = .ok (.ireturn, 1) := by decide +kernel
theorem dX6_seen_0 : decode cX6_seen 0 = .ok (.iload_n 1, 1) := by decide +kernel
theorem dX6_seen_1 : decode cX6_seen 1 = .ok (.lookupswitch 43 #[(0, 27), (1, 35)], 27) := by decide +kernel
theorem dX6_seen_28 : decode cX6_seen 28 = .ok (.aload_n 0, 1) := by decide +kernel
theorem dX6_seen_29 : decode cX6_seen 29 = .ok (.invokevirtual 121, 3) := by decide +kernel
theorem dX6_seen_32 : decode cX6_seen 32 = .ok (.getfield 170, 3) := by decide +kernel
theorem dX6_seen_35 : decode cX6_seen 35 = .ok (.ireturn, 1) := by decide +kernel
theorem dX6_seen_36 : decode cX6_seen 36 = .ok (.aload_n 0, 1) := by decide +kernel
theorem dX6_seen_37 : decode cX6_seen 37 = .ok (.invokevirtual 121, 3) := by decide +kernel
theorem dX6_seen_40 : decode cX6_seen 40 = .ok (.invokevirtual 173, 3) := by decide +kernel
theorem dX6_seen_43 : decode cX6_seen 43 = .ok (.ireturn, 1) := by decide +kernel
theorem dX6_seen_44 : decode cX6_seen 44 = .ok (.aload_n 0, 1) := by decide +kernel
theorem dX6_seen_45 : decode cX6_seen 45 = .ok (.invokevirtual 66, 3) := by decide +kernel
theorem dX6_seen_48 : decode cX6_seen 48 = .ok (.ireturn, 1) := by decide +kernel
theorem dX6_told_0 : decode cX6_told 0 = .ok (.iload_n 1, 1) := by decide +kernel
theorem dX6_told_1 : decode cX6_told 1 = .ok (.invokestatic 73, 3) := by decide +kernel
theorem dX6_told_4 : decode cX6_told 4 = .ok (.ifCond .ne 8, 3) := by decide +kernel
theorem dX6_told_7 : decode cX6_told 7 = .ok (.aload_n 0, 1) := by decide +kernel
theorem dX6_told_8 : decode cX6_told 8 = .ok (.invokevirtual 66, 3) := by decide +kernel
theorem dX6_told_11 : decode cX6_told 11 = .ok (.ireturn, 1) := by decide +kernel
theorem dX6_told_12 : decode cX6_told 12 = .ok (.aload_n 0, 1) := by decide +kernel
theorem dX6_told_13 : decode cX6_told 13 = .ok (.invokevirtual 121, 3) := by decide +kernel
theorem dX6_told_16 : decode cX6_told 16 = .ok (.astore_n 2, 1) := by decide +kernel
theorem dX6_told_17 : decode cX6_told 17 = .ok (.aload_n 2, 1) := by decide +kernel
theorem dX6_told_18 : decode cX6_told 18 = .ok (.iload_n 1, 1) := by decide +kernel
theorem dX6_told_19 : decode cX6_told 19 = .ok (.invokevirtual 176, 3) := by decide +kernel
theorem dX6_told_22 : decode cX6_told 22 = .ok (.ifCond .eq 13, 3) := by decide +kernel
theorem dX6_told_25 : decode cX6_told 25 = .ok (.aload_n 0, 1) := by decide +kernel
theorem dX6_told_26 : decode cX6_told 26 = .ok (.getfield 10, 3) := by decide +kernel
theorem dX6_told_29 : decode cX6_told 29 = .ok (.getfield 80, 3) := by decide +kernel
theorem dX6_told_32 : decode cX6_told 32 = .ok (.iload_n 1, 1) := by decide +kernel
theorem dX6_told_33 : decode cX6_told 33 = .ok (.iaload, 1) := by decide +kernel
theorem dX6_told_34 : decode cX6_told 34 = .ok (.ireturn, 1) := by decide +kernel
theorem dX6_told_35 : decode cX6_told 35 = .ok (.aload_n 2, 1) := by decide +kernel
theorem dX6_told_36 : decode cX6_told 36 = .ok (.invokevirtual 173, 3) := by decide +kernel
theorem dX6_told_39 : decode cX6_told 39 = .ok (.iconst 2, 1) := by decide +kernel
theorem dX6_told_40 : decode cX6_told 40 = .ok (.if_icmp .ne 11, 3) := by decide +kernel
theorem dX6_told_43 : decode cX6_told 43 = .ok (.aload_n 0, 1) := by decide +kernel
theorem dX6_told_44 : decode cX6_told 44 = .ok (.iload_n 1, 1) := by decide +kernel
theorem dX6_told_45 : decode cX6_told 45 = .ok (.invokevirtual 179, 3) := by decide +kernel
theorem dX6_told_48 : decode cX6_told 48 = .ok (.goto 6, 3) := by decide +kernel
theorem dX6_told_51 : decode cX6_told 51 = .ok (.sipush (-1000), 3) := by decide +kernel
theorem dX6_told_54 : decode cX6_told 54 = .ok (.ireturn, 1) := by decide +kernel
theorem dX6_both_0 : decode cX6_both 0 = .ok (.aload_n 0, 1) := by decide +kernel
theorem dX6_both_1 : decode cX6_both 1 = .ok (.invokevirtual 108, 3) := by decide +kernel
theorem dX6_both_4 : decode cX6_both 4 = .ok (.astore_n 1, 1) := by decide +kernel
theorem dX6_both_5 : decode cX6_both 5 = .ok (.iconst 0, 1) := by decide +kernel
theorem dX6_both_6 : decode cX6_both 6 = .ok (.istore_n 2, 1) := by decide +kernel
theorem dX6_both_7 : decode cX6_both 7 = .ok (.iload_n 2, 1) := by decide +kernel
theorem dX6_both_8 : decode cX6_both 8 = .ok (.iconst 3, 1) := by decide +kernel
theorem dX6_both_9 : decode cX6_both 9 = .ok (.if_icmp .ge 47, 3) := by decide +kernel
theorem dX6_both_12 : decode cX6_both 12 = .ok (.iconst 0, 1) := by decide +kernel
theorem dX6_both_13 : decode cX6_both 13 = .ok (.istore_n 3, 1) := by decide +kernel
theorem dX6_both_14 : decode cX6_both 14 = .ok (.iload_n 3, 1) := by decide +kernel
theorem dX6_both_15 : decode cX6_both 15 = .ok (.aload_n 1, 1) := by decide +kernel
theorem dX6_both_16 : decode cX6_both 16 = .ok (.getfield 182, 3) := by decide +kernel
theorem dX6_both_19 : decode cX6_both 19 = .ok (.if_icmp .ge 31, 3) := by decide +kernel
theorem dX6_both_22 : decode cX6_both 22 = .ok (.aload_n 1, 1) := by decide +kernel
theorem dX6_both_23 : decode cX6_both 23 = .ok (.iload_n 2, 1) := by decide +kernel
theorem dX6_both_24 : decode cX6_both 24 = .ok (.iconst 0, 1) := by decide +kernel
theorem dX6_both_25 : decode cX6_both 25 = .ok (.iload_n 3, 1) := by decide +kernel
theorem dX6_both_26 : decode cX6_both 26 = .ok (.invokevirtual 160, 3) := by decide +kernel
theorem dX6_both_29 : decode cX6_both 29 = .ok (.ifCond .eq 15, 3) := by decide +kernel
theorem dX6_both_32 : decode cX6_both 32 = .ok (.aload_n 1, 1) := by decide +kernel
theorem dX6_both_33 : decode cX6_both 33 = .ok (.iload_n 2, 1) := by decide +kernel
theorem dX6_both_34 : decode cX6_both 34 = .ok (.iconst 1, 1) := by decide +kernel
theorem dX6_both_35 : decode cX6_both 35 = .ok (.iload_n 3, 1) := by decide +kernel
theorem dX6_both_36 : decode cX6_both 36 = .ok (.invokevirtual 160, 3) := by decide +kernel
theorem dX6_both_39 : decode cX6_both 39 = .ok (.ifCond .eq 5, 3) := by decide +kernel
theorem dX6_both_42 : decode cX6_both 42 = .ok (.iconst 1, 1) := by decide +kernel
theorem dX6_both_43 : decode cX6_both 43 = .ok (.ireturn, 1) := by decide +kernel
theorem dX6_both_44 : decode cX6_both 44 = .ok (.iinc 3 1, 3) := by decide +kernel
theorem dX6_both_47 : decode cX6_both 47 = .ok (.goto (-33), 3) := by decide +kernel
theorem dX6_both_50 : decode cX6_both 50 = .ok (.iinc 2 1, 3) := by decide +kernel
theorem dX6_both_53 : decode cX6_both 53 = .ok (.goto (-46), 3) := by decide +kernel
theorem dX6_both_56 : decode cX6_both 56 = .ok (.iconst 0, 1) := by decide +kernel
theorem dX6_both_57 : decode cX6_both 57 = .ok (.ireturn, 1) := by decide +kernel
theorem dX6_off_0 : decode cX6_off 0 = .ok (.iload_n 1, 1) := by decide +kernel
theorem dX6_off_1 : decode cX6_off 1 = .ok (.invokestatic 73, 3) := by decide +kernel
theorem dX6_off_4 : decode cX6_off 4 = .ok (.ifCond .ne 8, 3) := by decide +kernel
theorem dX6_off_7 : decode cX6_off 7 = .ok (.aload_n 0, 1) := by decide +kernel
theorem dX6_off_8 : decode cX6_off 8 = .ok (.invokevirtual 66, 3) := by decide +kernel
theorem dX6_off_11 : decode cX6_off 11 = .ok (.ireturn, 1) := by decide +kernel
theorem dX6_off_12 : decode cX6_off 12 = .ok (.aload_n 0, 1) := by decide +kernel
theorem dX6_off_13 : decode cX6_off 13 = .ok (.invokevirtual 108, 3) := by decide +kernel
theorem dX6_off_16 : decode cX6_off 16 = .ok (.astore_n 2, 1) := by decide +kernel
theorem dX6_off_17 : decode cX6_off 17 = .ok (.aload_n 2, 1) := by decide +kernel
theorem dX6_off_18 : decode cX6_off 18 = .ok (.iload_n 1, 1) := by decide +kernel
theorem dX6_off_19 : decode cX6_off 19 = .ok (.invokevirtual 141, 3) := by decide +kernel
theorem dX6_off_22 : decode cX6_off 22 = .ok (.aload_n 2, 1) := by decide +kernel
theorem dX6_off_23 : decode cX6_off 23 = .ok (.getfield 185, 3) := by decide +kernel
theorem dX6_off_26 : decode cX6_off 26 = .ok (.iload_n 1, 1) := by decide +kernel
theorem dX6_off_27 : decode cX6_off 27 = .ok (.iaload, 1) := by decide +kernel
theorem dX6_off_28 : decode cX6_off 28 = .ok (.isub, 1) := by decide +kernel
theorem dX6_off_29 : decode cX6_off 29 = .ok (.ireturn, 1) := by decide +kernel
theorem dX6_dies_0 : decode cX6_dies 0 = .ok (.iload_n 1, 1) := by decide +kernel
theorem dX6_dies_1 : decode cX6_dies 1 = .ok (.invokestatic 73, 3) := by decide +kernel
theorem dX6_dies_4 : decode cX6_dies 4 = .ok (.ifCond .ne 8, 3) := by decide +kernel
theorem dX6_dies_7 : decode cX6_dies 7 = .ok (.aload_n 0, 1) := by decide +kernel
theorem dX6_dies_8 : decode cX6_dies 8 = .ok (.invokevirtual 66, 3) := by decide +kernel
theorem dX6_dies_11 : decode cX6_dies 11 = .ok (.ireturn, 1) := by decide +kernel
theorem dX6_dies_12 : decode cX6_dies 12 = .ok (.aload_n 0, 1) := by decide +kernel
theorem dX6_dies_13 : decode cX6_dies 13 = .ok (.invokevirtual 108, 3) := by decide +kernel
theorem dX6_dies_16 : decode cX6_dies 16 = .ok (.iload_n 1, 1) := by decide +kernel
theorem dX6_dies_17 : decode cX6_dies 17 = .ok (.invokevirtual 188, 3) := by decide +kernel
theorem dX6_dies_20 : decode cX6_dies 20 = .ok (.ireturn, 1) := by decide +kernel
theorem dX6_event_0 : decode cX6_event 0 = .ok (.iload_n 1, 1) := by decide +kernel
theorem dX6_event_1 : decode cX6_event 1 = .ok (.ifCond .lt 12, 3) := by decide +kernel
theorem dX6_event_4 : decode cX6_event 4 = .ok (.iload_n 2, 1) := by decide +kernel
theorem dX6_event_5 : decode cX6_event 5 = .ok (.iconst 0, 1) := by decide +kernel
theorem dX6_event_6 : decode cX6_event 6 = .ok (.iconst 3, 1) := by decide +kernel
theorem dX6_event_7 : decode cX6_event 7 = .ok (.invokestatic 56, 3) := by decide +kernel
theorem dX6_event_10 : decode cX6_event 10 = .ok (.ifCond .ne 8, 3) := by decide +kernel
theorem dX6_event_13 : decode cX6_event 13 = .ok (.aload_n 0, 1) := by decide +kernel
theorem dX6_event_14 : decode cX6_event 14 = .ok (.invokevirtual 66, 3) := by decide +kernel
theorem dX6_event_17 : decode cX6_event 17 = .ok (.ireturn, 1) := by decide +kernel
theorem dX6_event_18 : decode cX6_event 18 = .ok (.aload_n 0, 1) := by decide +kernel
theorem dX6_event_19 : decode cX6_event 19 = .ok (.invokevirtual 191, 3) := by decide +kernel
theorem dX6_event_22 : decode cX6_event 22 = .ok (.iconst (-1), 1) := by decide +kernel
theorem dX6_event_23 : decode cX6_event 23 = .ok (.iload_n 1, 1) := by decide +kernel
theorem dX6_event_24 : decode cX6_event 24 = .ok (.iload_n 2, 1) := by decide +kernel
theorem dX6_event_25 : decode cX6_event 25 = .ok (.invokevirtual 166, 3) := by decide +kernel
theorem dX6_event_28 : decode cX6_event 28 = .ok (.ireturn, 1) := by decide +kernel
theorem dX6_events_0 : decode cX6_events 0 = .ok (.aload_n 0, 1) := by decide +kernel
theorem dX6_events_1 : decode cX6_events 1 = .ok (.invokevirtual 191, 3) := by decide +kernel
theorem dX6_events_4 : decode cX6_events 4 = .ok (.getfield 132, 3) := by decide +kernel
theorem dX6_events_7 : decode cX6_events 7 = .ok (.ireturn, 1) := by decide +kernel
theorem dX6_shift_0 : decode cX6_shift 0 = .ok (.iload_n 1, 1) := by decide +kernel
theorem dX6_shift_1 : decode cX6_shift 1 = .ok (.iconst 0, 1) := by decide +kernel
theorem dX6_shift_2 : decode cX6_shift 2 = .ok (.iconst 4, 1) := by decide +kernel
theorem dX6_shift_3 : decode cX6_shift 3 = .ok (.invokestatic 56, 3) := by decide +kernel
theorem dX6_shift_6 : decode cX6_shift 6 = .ok (.ifCond .ne 8, 3) := by decide +kernel
theorem dX6_shift_9 : decode cX6_shift 9 = .ok (.aload_n 0, 1) := by decide +kernel
theorem dX6_shift_10 : decode cX6_shift 10 = .ok (.invokevirtual 66, 3) := by decide +kernel
theorem dX6_shift_13 : decode cX6_shift 13 = .ok (.ireturn, 1) := by decide +kernel
theorem dX6_shift_14 : decode cX6_shift 14 = .ok (.aload_n 0, 1) := by decide +kernel
theorem dX6_shift_15 : decode cX6_shift 15 = .ok (.getfield 38, 3) := by decide +kernel
theorem dX6_shift_18 : decode cX6_shift 18 = .ok (.aload_n 0, 1) := by decide +kernel
theorem dX6_shift_19 : decode cX6_shift 19 = .ok (.invokevirtual 108, 3) := by decide +kernel
theorem dX6_shift_22 : decode cX6_shift 22 = .ok (.aload_n 0, 1) := by decide +kernel
theorem dX6_shift_23 : decode cX6_shift 23 = .ok (.getfield 10, 3) := by decide +kernel
theorem dX6_shift_26 : decode cX6_shift 26 = .ok (.getfield 70, 3) := by decide +kernel
theorem dX6_shift_29 : decode cX6_shift 29 = .ok (.iconst 3, 1) := by decide +kernel
end
section
theorem dX6_shift_30 : decode cX6_shift 30 = .ok (.iaload, 1) := by decide +kernel
theorem dX6_shift_31 : decode cX6_shift 31 = .ok (.invokevirtual 195, 3) := by decide +kernel
theorem dX6_shift_34 : decode cX6_shift 34 = .ok (.aload_n 0, 1) := by decide +kernel
theorem dX6_shift_35 : decode cX6_shift 35 = .ok (.getfield 38, 3) := by decide +kernel
theorem dX6_shift_38 : decode cX6_shift 38 = .ok (.getfield 199, 3) := by decide +kernel
theorem dX6_shift_41 : decode cX6_shift 41 = .ok (.ifCond .ne 7, 3) := by decide +kernel
theorem dX6_shift_44 : decode cX6_shift 44 = .ok (.sipush (-1000), 3) := by decide +kernel
theorem dX6_shift_47 : decode cX6_shift 47 = .ok (.ireturn, 1) := by decide +kernel
theorem dX6_shift_48 : decode cX6_shift 48 = .ok (.iload_n 1, 1) := by decide +kernel
theorem dX6_shift_49 : decode cX6_shift 49 = .ok (.iconst 3, 1) := by decide +kernel
theorem dX6_shift_50 : decode cX6_shift 50 = .ok (.if_icmp .ne 11, 3) := by decide +kernel
theorem dX6_shift_53 : decode cX6_shift 53 = .ok (.aload_n 0, 1) := by decide +kernel
theorem dX6_shift_54 : decode cX6_shift 54 = .ok (.getfield 38, 3) := by decide +kernel
theorem dX6_shift_57 : decode cX6_shift 57 = .ok (.getfield 202, 3) := by decide +kernel
theorem dX6_shift_60 : decode cX6_shift 60 = .ok (.ireturn, 1) := by decide +kernel
theorem dX6_shift_61 : decode cX6_shift 61 = .ok (.iload_n 1, 1) := by decide +kernel
theorem dX6_shift_62 : decode cX6_shift 62 = .ok (.iconst 4, 1) := by decide +kernel
theorem dX6_shift_63 : decode cX6_shift 63 = .ok (.if_icmp .ne 13, 3) := by decide +kernel
theorem dX6_shift_66 : decode cX6_shift 66 = .ok (.aload_n 0, 1) := by decide +kernel
theorem dX6_shift_67 : decode cX6_shift 67 = .ok (.getfield 38, 3) := by decide +kernel
theorem dX6_shift_70 : decode cX6_shift 70 = .ok (.getfield 199, 3) := by decide +kernel
theorem dX6_shift_73 : decode cX6_shift 73 = .ok (.goto 12, 3) := by decide +kernel
theorem dX6_shift_76 : decode cX6_shift 76 = .ok (.aload_n 0, 1) := by decide +kernel
theorem dX6_shift_77 : decode cX6_shift 77 = .ok (.getfield 38, 3) := by decide +kernel
theorem dX6_shift_80 : decode cX6_shift 80 = .ok (.getfield 205, 3) := by decide +kernel
theorem dX6_shift_83 : decode cX6_shift 83 = .ok (.iload_n 1, 1) := by decide +kernel
theorem dX6_shift_84 : decode cX6_shift 84 = .ok (.iaload, 1) := by decide +kernel
theorem dX6_shift_85 : decode cX6_shift 85 = .ok (.ireturn, 1) := by decide +kernel
theorem dX6_wish_0 : decode cX6_wish 0 = .ok (.iload_n 1, 1) := by decide +kernel
theorem dX6_wish_1 : decode cX6_wish 1 = .ok (.invokestatic 73, 3) := by decide +kernel
theorem dX6_wish_4 : decode cX6_wish 4 = .ok (.ifCond .eq 27, 3) := by decide +kernel
theorem dX6_wish_7 : decode cX6_wish 7 = .ok (.iload_n 2, 1) := by decide +kernel
theorem dX6_wish_8 : decode cX6_wish 8 = .ok (.iconst 0, 1) := by decide +kernel
theorem dX6_wish_9 : decode cX6_wish 9 = .ok (.sipush 999, 3) := by decide +kernel
theorem dX6_wish_12 : decode cX6_wish 12 = .ok (.invokestatic 56, 3) := by decide +kernel
theorem dX6_wish_15 : decode cX6_wish 15 = .ok (.ifCond .eq 16, 3) := by decide +kernel
theorem dX6_wish_18 : decode cX6_wish 18 = .ok (.iload_n 3, 1) := by decide +kernel
theorem dX6_wish_19 : decode cX6_wish 19 = .ok (.sipush (-500), 3) := by decide +kernel
theorem dX6_wish_22 : decode cX6_wish 22 = .ok (.sipush 500, 3) := by decide +kernel
theorem dX6_wish_25 : decode cX6_wish 25 = .ok (.invokestatic 56, 3) := by decide +kernel
theorem dX6_wish_28 : decode cX6_wish 28 = .ok (.ifCond .ne 8, 3) := by decide +kernel
theorem dX6_wish_31 : decode cX6_wish 31 = .ok (.aload_n 0, 1) := by decide +kernel
theorem dX6_wish_32 : decode cX6_wish 32 = .ok (.invokevirtual 66, 3) := by decide +kernel
theorem dX6_wish_35 : decode cX6_wish 35 = .ok (.ireturn, 1) := by decide +kernel
theorem dX6_wish_36 : decode cX6_wish 36 = .ok (.aload_n 0, 1) := by decide +kernel
theorem dX6_wish_37 : decode cX6_wish 37 = .ok (.getfield 10, 3) := by decide +kernel
theorem dX6_wish_40 : decode cX6_wish 40 = .ok (.getfield 208, 3) := by decide +kernel
theorem dX6_wish_43 : decode cX6_wish 43 = .ok (.invokevirtual 211, 3) := by decide +kernel
theorem dX6_wish_46 : decode cX6_wish 46 = .ok (.ifCond .eq 8, 3) := by decide +kernel
theorem dX6_wish_49 : decode cX6_wish 49 = .ok (.aload_n 0, 1) := by decide +kernel
theorem dX6_wish_50 : decode cX6_wish 50 = .ok (.invokevirtual 215, 3) := by decide +kernel
theorem dX6_wish_53 : decode cX6_wish 53 = .ok (.ireturn, 1) := by decide +kernel
theorem dX6_wish_54 : decode cX6_wish 54 = .ok (.aload_n 0, 1) := by decide +kernel
theorem dX6_wish_55 : decode cX6_wish 55 = .ok (.getfield 10, 3) := by decide +kernel
theorem dX6_wish_58 : decode cX6_wish 58 = .ok (.getfield 208, 3) := by decide +kernel
theorem dX6_wish_61 : decode cX6_wish 61 = .ok (.iload_n 1, 1) := by decide +kernel
theorem dX6_wish_62 : decode cX6_wish 62 = .ok (.iload_n 2, 1) := by decide +kernel
theorem dX6_wish_63 : decode cX6_wish 63 = .ok (.iload_n 3, 1) := by decide +kernel
theorem dX6_wish_64 : decode cX6_wish 64 = .ok (.iconst 0, 1) := by decide +kernel
theorem dX6_wish_65 : decode cX6_wish 65 = .ok (.invokevirtual 218, 3) := by decide +kernel
theorem dX6_wish_68 : decode cX6_wish 68 = .ok (.aload_n 0, 1) := by decide +kernel
theorem dX6_wish_69 : decode cX6_wish 69 = .ok (.getfield 10, 3) := by decide +kernel
theorem dX6_wish_72 : decode cX6_wish 72 = .ok (.getfield 208, 3) := by decide +kernel
theorem dX6_wish_75 : decode cX6_wish 75 = .ok (.getfield 132, 3) := by decide +kernel
theorem dX6_wish_78 : decode cX6_wish 78 = .ok (.ireturn, 1) := by decide +kernel
theorem dX6_unwish_0 : decode cX6_unwish 0 = .ok (.iload_n 1, 1) := by decide +kernel
theorem dX6_unwish_1 : decode cX6_unwish 1 = .ok (.invokestatic 73, 3) := by decide +kernel
theorem dX6_unwish_4 : decode cX6_unwish 4 = .ok (.ifCond .ne 8, 3) := by decide +kernel
theorem dX6_unwish_7 : decode cX6_unwish 7 = .ok (.aload_n 0, 1) := by decide +kernel
theorem dX6_unwish_8 : decode cX6_unwish 8 = .ok (.invokevirtual 66, 3) := by decide +kernel
theorem dX6_unwish_11 : decode cX6_unwish 11 = .ok (.ireturn, 1) := by decide +kernel
theorem dX6_unwish_12 : decode cX6_unwish 12 = .ok (.aload_n 0, 1) := by decide +kernel
theorem dX6_unwish_13 : decode cX6_unwish 13 = .ok (.getfield 10, 3) := by decide +kernel
theorem dX6_unwish_16 : decode cX6_unwish 16 = .ok (.iload_n 1, 1) := by decide +kernel
theorem dX6_unwish_17 : decode cX6_unwish 17 = .ok (.invokevirtual 222, 3) := by decide +kernel
theorem dX6_unwish_20 : decode cX6_unwish 20 = .ok (.ireturn, 1) := by decide +kernel
theorem dX6_wished_0 : decode cX6_wished 0 = .ok (.iload_n 1, 1) := by decide +kernel
theorem dX6_wished_1 : decode cX6_wished 1 = .ok (.ifCond .lt 12, 3) := by decide +kernel
theorem dX6_wished_4 : decode cX6_wished 4 = .ok (.iload_n 2, 1) := by decide +kernel
theorem dX6_wished_5 : decode cX6_wished 5 = .ok (.iconst 0, 1) := by decide +kernel
theorem dX6_wished_6 : decode cX6_wished 6 = .ok (.iconst 2, 1) := by decide +kernel
theorem dX6_wished_7 : decode cX6_wished 7 = .ok (.invokestatic 56, 3) := by decide +kernel
theorem dX6_wished_10 : decode cX6_wished 10 = .ok (.ifCond .ne 8, 3) := by decide +kernel
theorem dX6_wished_13 : decode cX6_wished 13 = .ok (.aload_n 0, 1) := by decide +kernel
theorem dX6_wished_14 : decode cX6_wished 14 = .ok (.invokevirtual 66, 3) := by decide +kernel
theorem dX6_wished_17 : decode cX6_wished 17 = .ok (.ireturn, 1) := by decide +kernel
theorem dX6_wished_18 : decode cX6_wished 18 = .ok (.aload_n 0, 1) := by decide +kernel
theorem dX6_wished_19 : decode cX6_wished 19 = .ok (.getfield 10, 3) := by decide +kernel
theorem dX6_wished_22 : decode cX6_wished 22 = .ok (.getfield 208, 3) := by decide +kernel
theorem dX6_wished_25 : decode cX6_wished 25 = .ok (.iconst (-1), 1) := by decide +kernel
theorem dX6_wished_26 : decode cX6_wished 26 = .ok (.iload_n 1, 1) := by decide +kernel
theorem dX6_wished_27 : decode cX6_wished 27 = .ok (.iload_n 2, 1) := by decide +kernel
theorem dX6_wished_28 : decode cX6_wished 28 = .ok (.invokevirtual 166, 3) := by decide +kernel
theorem dX6_wished_31 : decode cX6_wished 31 = .ok (.ireturn, 1) := by decide +kernel
theorem dX6_steps_0 : decode cX6_steps 0 = .ok (.iload_n 1, 1) := by decide +kernel
theorem dX6_steps_1 : decode cX6_steps 1 = .ok (.iconst 1, 1) := by decide +kernel
theorem dX6_steps_2 : decode cX6_steps 2 = .ok (.bipush 50, 2) := by decide +kernel
theorem dX6_steps_4 : decode cX6_steps 4 = .ok (.invokestatic 56, 3) := by decide +kernel
theorem dX6_steps_7 : decode cX6_steps 7 = .ok (.ifCond .ne 8, 3) := by decide +kernel
theorem dX6_steps_10 : decode cX6_steps 10 = .ok (.aload_n 0, 1) := by decide +kernel
theorem dX6_steps_11 : decode cX6_steps 11 = .ok (.invokevirtual 66, 3) := by decide +kernel
theorem dX6_steps_14 : decode cX6_steps 14 = .ok (.ireturn, 1) := by decide +kernel
theorem dX6_steps_15 : decode cX6_steps 15 = .ok (.iconst 0, 1) := by decide +kernel
theorem dX6_steps_16 : decode cX6_steps 16 = .ok (.istore_n 2, 1) := by decide +kernel
theorem dX6_steps_17 : decode cX6_steps 17 = .ok (.iconst 0, 1) := by decide +kernel
theorem dX6_steps_18 : decode cX6_steps 18 = .ok (.istore_n 3, 1) := by decide +kernel
theorem dX6_steps_19 : decode cX6_steps 19 = .ok (.iload_n 3, 1) := by decide +kernel
theorem dX6_steps_20 : decode cX6_steps 20 = .ok (.iload_n 1, 1) := by decide +kernel
theorem dX6_steps_21 : decode cX6_steps 21 = .ok (.if_icmp .ge 37, 3) := by decide +kernel
theorem dX6_steps_24 : decode cX6_steps 24 = .ok (.aload_n 0, 1) := by decide +kernel
theorem dX6_steps_25 : decode cX6_steps 25 = .ok (.getfield 10, 3) := by decide +kernel
theorem dX6_steps_28 : decode cX6_steps 28 = .ok (.invokevirtual 225, 3) := by decide +kernel
theorem dX6_steps_31 : decode cX6_steps 31 = .ok (.ifCond .eq 7, 3) := by decide +kernel
theorem dX6_steps_34 : decode cX6_steps 34 = .ok (.iconst 1, 1) := by decide +kernel
theorem dX6_steps_35 : decode cX6_steps 35 = .ok (.goto 4, 3) := by decide +kernel
theorem dX6_steps_38 : decode cX6_steps 38 = .ok (.iconst 0, 1) := by decide +kernel
theorem dX6_steps_39 : decode cX6_steps 39 = .ok (.istore 4, 2) := by decide +kernel
theorem dX6_steps_41 : decode cX6_steps 41 = .ok (.aload_n 0, 1) := by decide +kernel
theorem dX6_steps_42 : decode cX6_steps 42 = .ok (.iload 4, 2) := by decide +kernel
theorem dX6_steps_44 : decode cX6_steps 44 = .ok (.invokevirtual 228, 3) := by decide +kernel
theorem dX6_steps_47 : decode cX6_steps 47 = .ok (.iload_n 2, 1) := by decide +kernel
theorem dX6_steps_48 : decode cX6_steps 48 = .ok (.iload 4, 2) := by decide +kernel
theorem dX6_steps_50 : decode cX6_steps 50 = .ok (.iadd, 1) := by decide +kernel
theorem dX6_steps_51 : decode cX6_steps 51 = .ok (.istore_n 2, 1) := by decide +kernel
theorem dX6_steps_52 : decode cX6_steps 52 = .ok (.iinc 3 1, 3) := by decide +kernel
theorem dX6_steps_55 : decode cX6_steps 55 = .ok (.goto (-36), 3) := by decide +kernel
theorem dX6_steps_58 : decode cX6_steps 58 = .ok (.iload_n 2, 1) := by decide +kernel
theorem dX6_steps_59 : decode cX6_steps 59 = .ok (.ireturn, 1) := by decide +kernel
theorem dX6_settles_0 : decode cX6_settles 0 = .ok (.iload_n 1, 1) := by decide +kernel
theorem dX6_settles_1 : decode cX6_settles 1 = .ok (.iconst 0, 1) := by decide +kernel
theorem dX6_settles_2 : decode cX6_settles 2 = .ok (.sipush 500, 3) := by decide +kernel
theorem dX6_settles_5 : decode cX6_settles 5 = .ok (.invokestatic 56, 3) := by decide +kernel
theorem dX6_settles_8 : decode cX6_settles 8 = .ok (.ifCond .ne 8, 3) := by decide +kernel
theorem dX6_settles_11 : decode cX6_settles 11 = .ok (.aload_n 0, 1) := by decide +kernel
theorem dX6_settles_12 : decode cX6_settles 12 = .ok (.invokevirtual 66, 3) := by decide +kernel
theorem dX6_settles_15 : decode cX6_settles 15 = .ok (.ireturn, 1) := by decide +kernel
theorem dX6_settles_16 : decode cX6_settles 16 = .ok (.aload_n 0, 1) := by decide +kernel
theorem dX6_settles_17 : decode cX6_settles 17 = .ok (.iload_n 1, 1) := by decide +kernel
theorem dX6_settles_18 : decode cX6_settles 18 = .ok (.aload_n 0, 1) := by decide +kernel
theorem dX6_settles_19 : decode cX6_settles 19 = .ok (.getfield 10, 3) := by decide +kernel
theorem dX6_settles_22 : decode cX6_settles 22 = .ok (.getfield 70, 3) := by decide +kernel
theorem dX6_settles_25 : decode cX6_settles 25 = .ok (.iconst 4, 1) := by decide +kernel
theorem dX6_settles_26 : decode cX6_settles 26 = .ok (.iaload, 1) := by decide +kernel
theorem dX6_settles_27 : decode cX6_settles 27 = .ok (.bipush 60, 2) := by decide +kernel
theorem dX6_settles_29 : decode cX6_settles 29 = .ok (.invokevirtual 231, 3) := by decide +kernel
theorem dX6_settles_32 : decode cX6_settles 32 = .ok (.ireturn, 1) := by decide +kernel
theorem dX6_tunes_0 : decode cX6_tunes 0 = .ok (.iload_n 1, 1) := by decide +kernel
theorem dX6_tunes_1 : decode cX6_tunes 1 = .ok (.iconst 0, 1) := by decide +kernel
theorem dX6_tunes_2 : decode cX6_tunes 2 = .ok (.sipush 500, 3) := by decide +kernel
theorem dX6_tunes_5 : decode cX6_tunes 5 = .ok (.invokestatic 56, 3) := by decide +kernel
theorem dX6_tunes_8 : decode cX6_tunes 8 = .ok (.ifCond .ne 8, 3) := by decide +kernel
theorem dX6_tunes_11 : decode cX6_tunes 11 = .ok (.aload_n 0, 1) := by decide +kernel
theorem dX6_tunes_12 : decode cX6_tunes 12 = .ok (.invokevirtual 66, 3) := by decide +kernel
theorem dX6_tunes_15 : decode cX6_tunes 15 = .ok (.ireturn, 1) := by decide +kernel
theorem dX6_tunes_16 : decode cX6_tunes 16 = .ok (.iconst (-1), 1) := by decide +kernel
theorem dX6_tunes_17 : decode cX6_tunes 17 = .ok (.istore_n 2, 1) := by decide +kernel
theorem dX6_tunes_18 : decode cX6_tunes 18 = .ok (.bipush 60, 2) := by decide +kernel
theorem dX6_tunes_20 : decode cX6_tunes 20 = .ok (.istore_n 3, 1) := by decide +kernel
theorem dX6_tunes_21 : decode cX6_tunes 21 = .ok (.iconst 0, 1) := by decide +kernel
theorem dX6_tunes_22 : decode cX6_tunes 22 = .ok (.istore 4, 2) := by decide +kernel
theorem dX6_tunes_24 : decode cX6_tunes 24 = .ok (.iload 4, 2) := by decide +kernel
theorem dX6_tunes_26 : decode cX6_tunes 26 = .ok (.bipush 20, 2) := by decide +kernel
theorem dX6_tunes_28 : decode cX6_tunes 28 = .ok (.if_icmp .gt 33, 3) := by decide +kernel
theorem dX6_tunes_31 : decode cX6_tunes 31 = .ok (.aload_n 0, 1) := by decide +kernel
theorem dX6_tunes_32 : decode cX6_tunes 32 = .ok (.iload_n 1, 1) := by decide +kernel
theorem dX6_tunes_33 : decode cX6_tunes 33 = .ok (.iload 4, 2) := by decide +kernel
theorem dX6_tunes_35 : decode cX6_tunes 35 = .ok (.iload_n 3, 1) := by decide +kernel
theorem dX6_tunes_36 : decode cX6_tunes 36 = .ok (.invokevirtual 231, 3) := by decide +kernel
theorem dX6_tunes_39 : decode cX6_tunes 39 = .ok (.istore 5, 2) := by decide +kernel
theorem dX6_tunes_41 : decode cX6_tunes 41 = .ok (.iload 5, 2) := by decide +kernel
theorem dX6_tunes_43 : decode cX6_tunes 43 = .ok (.iconst (-1), 1) := by decide +kernel
theorem dX6_tunes_44 : decode cX6_tunes 44 = .ok (.if_icmp .eq 11, 3) := by decide +kernel
theorem dX6_tunes_47 : decode cX6_tunes 47 = .ok (.iload 4, 2) := by decide +kernel
theorem dX6_tunes_49 : decode cX6_tunes 49 = .ok (.istore_n 2, 1) := by decide +kernel
theorem dX6_tunes_50 : decode cX6_tunes 50 = .ok (.iload 5, 2) := by decide +kernel
theorem dX6_tunes_52 : decode cX6_tunes 52 = .ok (.iconst 1, 1) := by decide +kernel
theorem dX6_tunes_53 : decode cX6_tunes 53 = .ok (.isub, 1) := by decide +kernel
theorem dX6_tunes_54 : decode cX6_tunes 54 = .ok (.istore_n 3, 1) := by decide +kernel
theorem dX6_tunes_55 : decode cX6_tunes 55 = .ok (.iinc 4 1, 3) := by decide +kernel
theorem dX6_tunes_58 : decode cX6_tunes 58 = .ok (.goto (-34), 3) := by decide +kernel
theorem dX6_tunes_61 : decode cX6_tunes 61 = .ok (.iload_n 2, 1) := by decide +kernel
theorem dX6_tunes_62 : decode cX6_tunes 62 = .ok (.ireturn, 1) := by decide +kernel
theorem dX6_state_0 : decode cX6_state 0 = .ok (.iload_n 1, 1) := by decide +kernel
theorem dX6_state_1 : decode cX6_state 1 = .ok (.invokestatic 73, 3) := by decide +kernel
theorem dX6_state_4 : decode cX6_state 4 = .ok (.ifCond .ne 8, 3) := by decide +kernel
theorem dX6_state_7 : decode cX6_state 7 = .ok (.aload_n 0, 1) := by decide +kernel
theorem dX6_state_8 : decode cX6_state 8 = .ok (.invokevirtual 66, 3) := by decide +kernel
theorem dX6_state_11 : decode cX6_state 11 = .ok (.ireturn, 1) := by decide +kernel
theorem dX6_state_12 : decode cX6_state 12 = .ok (.iload_n 2, 1) := by decide +kernel
theorem dX6_state_13 : decode cX6_state 13 = .ok (.tableswitch 71 0 3 #[31, 41, 51, 61], 31) := by decide +kernel
theorem dX6_state_44 : decode cX6_state 44 = .ok (.aload_n 0, 1) := by decide +kernel
theorem dX6_state_45 : decode cX6_state 45 = .ok (.getfield 10, 3) := by decide +kernel
theorem dX6_state_48 : decode cX6_state 48 = .ok (.getfield 80, 3) := by decide +kernel
theorem dX6_state_51 : decode cX6_state 51 = .ok (.iload_n 1, 1) := by decide +kernel
theorem dX6_state_52 : decode cX6_state 52 = .ok (.iaload, 1) := by decide +kernel
theorem dX6_state_53 : decode cX6_state 53 = .ok (.ireturn, 1) := by decide +kernel
theorem dX6_state_54 : decode cX6_state 54 = .ok (.aload_n 0, 1) := by decide +kernel
theorem dX6_state_55 : decode cX6_state 55 = .ok (.getfield 10, 3) := by decide +kernel
theorem dX6_state_58 : decode cX6_state 58 = .ok (.getfield 77, 3) := by decide +kernel
theorem dX6_state_61 : decode cX6_state 61 = .ok (.iload_n 1, 1) := by decide +kernel
theorem dX6_state_62 : decode cX6_state 62 = .ok (.iaload, 1) := by decide +kernel
theorem dX6_state_63 : decode cX6_state 63 = .ok (.ireturn, 1) := by decide +kernel
theorem dX6_state_64 : decode cX6_state 64 = .ok (.aload_n 0, 1) := by decide +kernel
theorem dX6_state_65 : decode cX6_state 65 = .ok (.getfield 10, 3) := by decide +kernel
theorem dX6_state_68 : decode cX6_state 68 = .ok (.getfield 234, 3) := by decide +kernel
theorem dX6_state_71 : decode cX6_state 71 = .ok (.iload_n 1, 1) := by decide +kernel
theorem dX6_state_72 : decode cX6_state 72 = .ok (.iaload, 1) := by decide +kernel
theorem dX6_state_73 : decode cX6_state 73 = .ok (.ireturn, 1) := by decide +kernel
theorem dX6_state_74 : decode cX6_state 74 = .ok (.aload_n 0, 1) := by decide +kernel
theorem dX6_state_75 : decode cX6_state 75 = .ok (.getfield 10, 3) := by decide +kernel
theorem dX6_state_78 : decode cX6_state 78 = .ok (.getfield 237, 3) := by decide +kernel
theorem dX6_state_81 : decode cX6_state 81 = .ok (.iload_n 1, 1) := by decide +kernel
theorem dX6_state_82 : decode cX6_state 82 = .ok (.iaload, 1) := by decide +kernel
theorem dX6_state_83 : decode cX6_state 83 = .ok (.ireturn, 1) := by decide +kernel
theorem dX6_state_84 : decode cX6_state 84 = .ok (.aload_n 0, 1) := by decide +kernel
theorem dX6_state_85 : decode cX6_state 85 = .ok (.invokevirtual 66, 3) := by decide +kernel
theorem dX6_state_88 : decode cX6_state 88 = .ok (.ireturn, 1) := by decide +kernel
theorem dX6_memory_0 : decode cX6_memory 0 = .ok (.iload_n 1, 1) := by decide +kernel
theorem dX6_memory_1 : decode cX6_memory 1 = .ok (.ifCond .lt 12, 3) := by decide +kernel
theorem dX6_memory_4 : decode cX6_memory 4 = .ok (.iload_n 2, 1) := by decide +kernel
theorem dX6_memory_5 : decode cX6_memory 5 = .ok (.iconst 0, 1) := by decide +kernel
theorem dX6_memory_6 : decode cX6_memory 6 = .ok (.iconst 3, 1) := by decide +kernel
theorem dX6_memory_7 : decode cX6_memory 7 = .ok (.invokestatic 56, 3) := by decide +kernel
theorem dX6_memory_10 : decode cX6_memory 10 = .ok (.ifCond .ne 8, 3) := by decide +kernel
theorem dX6_memory_13 : decode cX6_memory 13 = .ok (.aload_n 0, 1) := by decide +kernel
theorem dX6_memory_14 : decode cX6_memory 14 = .ok (.invokevirtual 66, 3) := by decide +kernel
theorem dX6_memory_17 : decode cX6_memory 17 = .ok (.ireturn, 1) := by decide +kernel
theorem dX6_memory_18 : decode cX6_memory 18 = .ok (.aload_n 0, 1) := by decide +kernel
theorem dX6_memory_19 : decode cX6_memory 19 = .ok (.getfield 42, 3) := by decide +kernel
theorem dX6_memory_22 : decode cX6_memory 22 = .ok (.sipush (-1000), 3) := by decide +kernel
theorem dX6_memory_25 : decode cX6_memory 25 = .ok (.aload_n 0, 1) := by decide +kernel
theorem dX6_memory_26 : decode cX6_memory 26 = .ok (.getfield 42, 3) := by decide +kernel
theorem dX6_memory_29 : decode cX6_memory 29 = .ok (.getfield 132, 3) := by decide +kernel
theorem dX6_memory_32 : decode cX6_memory 32 = .ok (.iconst 1, 1) := by decide +kernel
theorem dX6_memory_33 : decode cX6_memory 33 = .ok (.isub, 1) := by decide +kernel
theorem dX6_memory_34 : decode cX6_memory 34 = .ok (.iload_n 1, 1) := by decide +kernel
theorem dX6_memory_35 : decode cX6_memory 35 = .ok (.isub, 1) := by decide +kernel
theorem dX6_memory_36 : decode cX6_memory 36 = .ok (.iload_n 2, 1) := by decide +kernel
theorem dX6_memory_37 : decode cX6_memory 37 = .ok (.invokevirtual 166, 3) := by decide +kernel
theorem dX6_memory_40 : decode cX6_memory 40 = .ok (.ireturn, 1) := by decide +kernel
theorem dX6_over_0 : decode cX6_over 0 = .ok (.iload_n 1, 1) := by decide +kernel
theorem dX6_over_1 : decode cX6_over 1 = .ok (.invokestatic 73, 3) := by decide +kernel
theorem dX6_over_4 : decode cX6_over 4 = .ok (.ifCond .ne 8, 3) := by decide +kernel
theorem dX6_over_7 : decode cX6_over 7 = .ok (.aload_n 0, 1) := by decide +kernel
theorem dX6_over_8 : decode cX6_over 8 = .ok (.invokevirtual 66, 3) := by decide +kernel
theorem dX6_over_11 : decode cX6_over 11 = .ok (.ireturn, 1) := by decide +kernel
theorem dX6_over_12 : decode cX6_over 12 = .ok (.iload_n 2, 1) := by decide +kernel
theorem dX6_over_13 : decode cX6_over 13 = .ok (.tableswitch 63 0 2 #[27, 39, 51], 27) := by decide +kernel
theorem dX6_over_40 : decode cX6_over 40 = .ok (.aload_n 0, 1) := by decide +kernel
theorem dX6_over_41 : decode cX6_over 41 = .ok (.getfield 42, 3) := by decide +kernel
theorem dX6_over_44 : decode cX6_over 44 = .ok (.sipush (-1000), 3) := by decide +kernel
theorem dX6_over_47 : decode cX6_over 47 = .ok (.iload_n 1, 1) := by decide +kernel
theorem dX6_over_48 : decode cX6_over 48 = .ok (.invokevirtual 240, 3) := by decide +kernel
theorem dX6_over_51 : decode cX6_over 51 = .ok (.ireturn, 1) := by decide +kernel
theorem dX6_over_52 : decode cX6_over 52 = .ok (.aload_n 0, 1) := by decide +kernel
theorem dX6_over_53 : decode cX6_over 53 = .ok (.getfield 42, 3) := by decide +kernel
theorem dX6_over_56 : decode cX6_over 56 = .ok (.sipush (-1000), 3) := by decide +kernel
theorem dX6_over_59 : decode cX6_over 59 = .ok (.iload_n 1, 1) := by decide +kernel
theorem dX6_over_60 : decode cX6_over 60 = .ok (.invokevirtual 244, 3) := by decide +kernel
theorem dX6_over_63 : decode cX6_over 63 = .ok (.ireturn, 1) := by decide +kernel
theorem dX6_over_64 : decode cX6_over 64 = .ok (.aload_n 0, 1) := by decide +kernel
theorem dX6_over_65 : decode cX6_over 65 = .ok (.getfield 42, 3) := by decide +kernel
theorem dX6_over_68 : decode cX6_over 68 = .ok (.sipush (-1000), 3) := by decide +kernel
theorem dX6_over_71 : decode cX6_over 71 = .ok (.iconst 3, 1) := by decide +kernel
theorem dX6_over_72 : decode cX6_over 72 = .ok (.invokevirtual 247, 3) := by decide +kernel
theorem dX6_over_75 : decode cX6_over 75 = .ok (.ireturn, 1) := by decide +kernel
theorem dX6_over_76 : decode cX6_over 76 = .ok (.aload_n 0, 1) := by decide +kernel
theorem dX6_over_77 : decode cX6_over 77 = .ok (.invokevirtual 66, 3) := by decide +kernel
theorem dX6_over_80 : decode cX6_over 80 = .ok (.ireturn, 1) := by decide +kernel
theorem dX6_type_0 : decode cX6_type 0 = .ok (.iload_n 1, 1) := by decide +kernel
theorem dX6_type_1 : decode cX6_type 1 = .ok (.iconst 0, 1) := by decide +kernel
theorem dX6_type_2 : decode cX6_type 2 = .ok (.bipush 127, 2) := by decide +kernel
theorem dX6_type_4 : decode cX6_type 4 = .ok (.invokestatic 56, 3) := by decide +kernel
theorem dX6_type_7 : decode cX6_type 7 = .ok (.ifCond .ne 8, 3) := by decide +kernel
theorem dX6_type_10 : decode cX6_type 10 = .ok (.aload_n 0, 1) := by decide +kernel
theorem dX6_type_11 : decode cX6_type 11 = .ok (.invokevirtual 66, 3) := by decide +kernel
theorem dX6_type_14 : decode cX6_type 14 = .ok (.ireturn, 1) := by decide +kernel
theorem dX6_type_15 : decode cX6_type 15 = .ok (.aload_n 0, 1) := by decide +kernel
theorem dX6_type_16 : decode cX6_type 16 = .ok (.getfield 48, 3) := by decide +kernel
theorem dX6_type_19 : decode cX6_type 19 = .ok (.getfield 250, 3) := by decide +kernel
theorem dX6_type_22 : decode cX6_type 22 = .ok (.bipush 120, 2) := by decide +kernel
theorem dX6_type_24 : decode cX6_type 24 = .ok (.if_icmp .lt 8, 3) := by decide +kernel
theorem dX6_type_27 : decode cX6_type 27 = .ok (.aload_n 0, 1) := by decide +kernel
theorem dX6_type_28 : decode cX6_type 28 = .ok (.invokevirtual 215, 3) := by decide +kernel
theorem dX6_type_31 : decode cX6_type 31 = .ok (.ireturn, 1) := by decide +kernel
theorem dX6_type_32 : decode cX6_type 32 = .ok (.aload_n 0, 1) := by decide +kernel
theorem dX6_type_33 : decode cX6_type 33 = .ok (.getfield 48, 3) := by decide +kernel
theorem dX6_type_36 : decode cX6_type 36 = .ok (.iload_n 1, 1) := by decide +kernel
theorem dX6_type_37 : decode cX6_type 37 = .ok (.invokevirtual 253, 3) := by decide +kernel
theorem dX6_type_40 : decode cX6_type 40 = .ok (.aload_n 0, 1) := by decide +kernel
theorem dX6_type_41 : decode cX6_type 41 = .ok (.getfield 48, 3) := by decide +kernel
theorem dX6_type_44 : decode cX6_type 44 = .ok (.getfield 250, 3) := by decide +kernel
theorem dX6_type_47 : decode cX6_type 47 = .ok (.ireturn, 1) := by decide +kernel
theorem dX6_clear_0 : decode cX6_clear 0 = .ok (.aload_n 0, 1) := by decide +kernel
theorem dX6_clear_1 : decode cX6_clear 1 = .ok (.getfield 48, 3) := by decide +kernel
theorem dX6_clear_4 : decode cX6_clear 4 = .ok (.getfield 250, 3) := by decide +kernel
theorem dX6_clear_7 : decode cX6_clear 7 = .ok (.istore_n 1, 1) := by decide +kernel
theorem dX6_clear_8 : decode cX6_clear 8 = .ok (.aload_n 0, 1) := by decide +kernel
theorem dX6_clear_9 : decode cX6_clear 9 = .ok (.getfield 48, 3) := by decide +kernel
theorem dX6_clear_12 : decode cX6_clear 12 = .ok (.iconst 0, 1) := by decide +kernel
theorem dX6_clear_13 : decode cX6_clear 13 = .ok (.putfield 250, 3) := by decide +kernel
theorem dX6_clear_16 : decode cX6_clear 16 = .ok (.iload_n 1, 1) := by decide +kernel
theorem dX6_clear_17 : decode cX6_clear 17 = .ok (.ireturn, 1) := by decide +kernel
theorem dX6_reads_0 : decode cX6_reads 0 = .ok (.bipush 12, 2) := by decide +kernel
theorem dX6_reads_2 : decode cX6_reads 2 = .ok (.aload_n 0, 1) := by decide +kernel
theorem dX6_reads_3 : decode cX6_reads 3 = .ok (.getfield 10, 3) := by decide +kernel
theorem dX6_reads_6 : decode cX6_reads 6 = .ok (.getfield 208, 3) := by decide +kernel
theorem dX6_reads_9 : decode cX6_reads 9 = .ok (.getfield 132, 3) := by decide +kernel
theorem dX6_reads_12 : decode cX6_reads 12 = .ok (.isub, 1) := by decide +kernel
theorem dX6_reads_13 : decode cX6_reads 13 = .ok (.istore_n 1, 1) := by decide +kernel
theorem dX6_reads_14 : decode cX6_reads 14 = .ok (.aload_n 0, 1) := by decide +kernel
theorem dX6_reads_15 : decode cX6_reads 15 = .ok (.getfield 48, 3) := by decide +kernel
theorem dX6_reads_18 : decode cX6_reads 18 = .ok (.iload_n 1, 1) := by decide +kernel
theorem dX6_reads_19 : decode cX6_reads 19 = .ok (.aload_n 0, 1) := by decide +kernel
theorem dX6_reads_20 : decode cX6_reads 20 = .ok (.getfield 10, 3) := by decide +kernel
theorem dX6_reads_23 : decode cX6_reads 23 = .ok (.getfield 83, 3) := by decide +kernel
theorem dX6_reads_26 : decode cX6_reads 26 = .ok (.sipush 999, 3) := by decide +kernel
theorem dX6_reads_29 : decode cX6_reads 29 = .ok (.invokestatic 256, 3) := by decide +kernel
theorem dX6_reads_32 : decode cX6_reads 32 = .ok (.invokevirtual 261, 3) := by decide +kernel
theorem dX6_reads_35 : decode cX6_reads 35 = .ok (.istore_n 2, 1) := by decide +kernel
theorem dX6_reads_36 : decode cX6_reads 36 = .ok (.iload_n 2, 1) := by decide +kernel
theorem dX6_reads_37 : decode cX6_reads 37 = .ok (.iconst (-1), 1) := by decide +kernel
theorem dX6_reads_38 : decode cX6_reads 38 = .ok (.if_icmp .eq 8, 3) := by decide +kernel
theorem dX6_reads_41 : decode cX6_reads 41 = .ok (.bipush (-10), 2) := by decide +kernel
theorem dX6_reads_43 : decode cX6_reads 43 = .ok (.iload_n 2, 1) := by decide +kernel
theorem dX6_reads_44 : decode cX6_reads 44 = .ok (.isub, 1) := by decide +kernel
theorem dX6_reads_45 : decode cX6_reads 45 = .ok (.ireturn, 1) := by decide +kernel
theorem dX6_reads_46 : decode cX6_reads 46 = .ok (.aload_n 0, 1) := by decide +kernel
theorem dX6_reads_47 : decode cX6_reads 47 = .ok (.getfield 10, 3) := by decide +kernel
theorem dX6_reads_50 : decode cX6_reads 50 = .ok (.getfield 208, 3) := by decide +kernel
theorem dX6_reads_53 : decode cX6_reads 53 = .ok (.aload_n 0, 1) := by decide +kernel
theorem dX6_reads_54 : decode cX6_reads 54 = .ok (.getfield 48, 3) := by decide +kernel
theorem dX6_reads_57 : decode cX6_reads 57 = .ok (.getfield 264, 3) := by decide +kernel
theorem dX6_reads_60 : decode cX6_reads 60 = .ok (.invokevirtual 265, 3) := by decide +kernel
theorem dX6_reads_63 : decode cX6_reads 63 = .ok (.aload_n 0, 1) := by decide +kernel
theorem dX6_reads_64 : decode cX6_reads 64 = .ok (.getfield 48, 3) := by decide +kernel
theorem dX6_reads_67 : decode cX6_reads 67 = .ok (.getfield 264, 3) := by decide +kernel
theorem dX6_reads_70 : decode cX6_reads 70 = .ok (.getfield 132, 3) := by decide +kernel
theorem dX6_reads_73 : decode cX6_reads 73 = .ok (.ireturn, 1) := by decide +kernel
theorem dX6_count_0 : decode cX6_count 0 = .ok (.iload_n 1, 1) := by decide +kernel
theorem dX6_count_1 : decode cX6_count 1 = .ok (.iconst 0, 1) := by decide +kernel
theorem dX6_count_2 : decode cX6_count 2 = .ok (.bipush 12, 2) := by decide +kernel
theorem dX6_count_4 : decode cX6_count 4 = .ok (.invokestatic 56, 3) := by decide +kernel
theorem dX6_count_7 : decode cX6_count 7 = .ok (.ifCond .ne 8, 3) := by decide +kernel
theorem dX6_count_10 : decode cX6_count 10 = .ok (.aload_n 0, 1) := by decide +kernel
theorem dX6_count_11 : decode cX6_count 11 = .ok (.invokevirtual 66, 3) := by decide +kernel
theorem dX6_count_14 : decode cX6_count 14 = .ok (.ireturn, 1) := by decide +kernel
theorem dX6_count_15 : decode cX6_count 15 = .ok (.aload_n 0, 1) := by decide +kernel
theorem dX6_count_16 : decode cX6_count 16 = .ok (.iload_n 1, 1) := by decide +kernel
theorem dX6_count_17 : decode cX6_count 17 = .ok (.invokevirtual 269, 3) := by decide +kernel
theorem dX6_count_20 : decode cX6_count 20 = .ok (.ireturn, 1) := by decide +kernel
theorem dX6_digest_0 : decode cX6_digest 0 = .ok (.ldc2_w 272, 3) := by decide +kernel
theorem dX6_digest_3 : decode cX6_digest 3 = .ok (.lstore_n 1, 1) := by decide +kernel
theorem dX6_digest_4 : decode cX6_digest 4 = .ok (.iconst 0, 1) := by decide +kernel
theorem dX6_digest_5 : decode cX6_digest 5 = .ok (.istore_n 3, 1) := by decide +kernel
theorem dX6_digest_6 : decode cX6_digest 6 = .ok (.iload_n 3, 1) := by decide +kernel
theorem dX6_digest_7 : decode cX6_digest 7 = .ok (.bipush 13, 2) := by decide +kernel
theorem dX6_digest_9 : decode cX6_digest 9 = .ok (.if_icmp .ge 22, 3) := by decide +kernel
theorem dX6_digest_12 : decode cX6_digest 12 = .ok (.ldc2_w 274, 3) := by decide +kernel
theorem dX6_digest_15 : decode cX6_digest 15 = .ok (.lload_n 1, 1) := by decide +kernel
theorem dX6_digest_16 : decode cX6_digest 16 = .ok (.lmul, 1) := by decide +kernel
theorem dX6_digest_17 : decode cX6_digest 17 = .ok (.aload_n 0, 1) := by decide +kernel
theorem dX6_digest_18 : decode cX6_digest 18 = .ok (.iload_n 3, 1) := by decide +kernel
theorem dX6_digest_19 : decode cX6_digest 19 = .ok (.invokevirtual 269, 3) := by decide +kernel
theorem dX6_digest_22 : decode cX6_digest 22 = .ok (.i2l, 1) := by decide +kernel
theorem dX6_digest_23 : decode cX6_digest 23 = .ok (.ladd, 1) := by decide +kernel
theorem dX6_digest_24 : decode cX6_digest 24 = .ok (.lstore_n 1, 1) := by decide +kernel
theorem dX6_digest_25 : decode cX6_digest 25 = .ok (.iinc 3 1, 3) := by decide +kernel
theorem dX6_digest_28 : decode cX6_digest 28 = .ok (.goto (-22), 3) := by decide +kernel
theorem dX6_digest_31 : decode cX6_digest 31 = .ok (.aload_n 0, 1) := by decide +kernel
theorem dX6_digest_32 : decode cX6_digest 32 = .ok (.invokevirtual 108, 3) := by decide +kernel
theorem dX6_digest_35 : decode cX6_digest 35 = .ok (.astore_n 3, 1) := by decide +kernel
theorem dX6_digest_36 : decode cX6_digest 36 = .ok (.iconst 0, 1) := by decide +kernel
theorem dX6_digest_37 : decode cX6_digest 37 = .ok (.istore 4, 2) := by decide +kernel
theorem dX6_digest_39 : decode cX6_digest 39 = .ok (.iload 4, 2) := by decide +kernel
theorem dX6_digest_41 : decode cX6_digest 41 = .ok (.iconst 3, 1) := by decide +kernel
theorem dX6_digest_42 : decode cX6_digest 42 = .ok (.if_icmp .ge 110, 3) := by decide +kernel
theorem dX6_digest_45 : decode cX6_digest 45 = .ok (.ldc2_w 274, 3) := by decide +kernel
theorem dX6_digest_48 : decode cX6_digest 48 = .ok (.lload_n 1, 1) := by decide +kernel
theorem dX6_digest_49 : decode cX6_digest 49 = .ok (.lmul, 1) := by decide +kernel
theorem dX6_digest_50 : decode cX6_digest 50 = .ok (.aload_n 0, 1) := by decide +kernel
theorem dX6_digest_51 : decode cX6_digest 51 = .ok (.getfield 10, 3) := by decide +kernel
theorem dX6_digest_54 : decode cX6_digest 54 = .ok (.getfield 80, 3) := by decide +kernel
theorem dX6_digest_57 : decode cX6_digest 57 = .ok (.iload 4, 2) := by decide +kernel
theorem dX6_digest_59 : decode cX6_digest 59 = .ok (.iaload, 1) := by decide +kernel
theorem dX6_digest_60 : decode cX6_digest 60 = .ok (.i2l, 1) := by decide +kernel
theorem dX6_digest_61 : decode cX6_digest 61 = .ok (.ladd, 1) := by decide +kernel
theorem dX6_digest_62 : decode cX6_digest 62 = .ok (.lstore_n 1, 1) := by decide +kernel
theorem dX6_digest_63 : decode cX6_digest 63 = .ok (.ldc2_w 274, 3) := by decide +kernel
theorem dX6_digest_66 : decode cX6_digest 66 = .ok (.lload_n 1, 1) := by decide +kernel
theorem dX6_digest_67 : decode cX6_digest 67 = .ok (.lmul, 1) := by decide +kernel
theorem dX6_digest_68 : decode cX6_digest 68 = .ok (.aload_n 0, 1) := by decide +kernel
theorem dX6_digest_69 : decode cX6_digest 69 = .ok (.getfield 10, 3) := by decide +kernel
theorem dX6_digest_72 : decode cX6_digest 72 = .ok (.getfield 77, 3) := by decide +kernel
theorem dX6_digest_75 : decode cX6_digest 75 = .ok (.iload 4, 2) := by decide +kernel
theorem dX6_digest_77 : decode cX6_digest 77 = .ok (.iaload, 1) := by decide +kernel
theorem dX6_digest_78 : decode cX6_digest 78 = .ok (.i2l, 1) := by decide +kernel
theorem dX6_digest_79 : decode cX6_digest 79 = .ok (.ladd, 1) := by decide +kernel
theorem dX6_digest_80 : decode cX6_digest 80 = .ok (.lstore_n 1, 1) := by decide +kernel
theorem dX6_digest_81 : decode cX6_digest 81 = .ok (.ldc2_w 274, 3) := by decide +kernel
theorem dX6_digest_84 : decode cX6_digest 84 = .ok (.lload_n 1, 1) := by decide +kernel
theorem dX6_digest_85 : decode cX6_digest 85 = .ok (.lmul, 1) := by decide +kernel
theorem dX6_digest_86 : decode cX6_digest 86 = .ok (.aload_n 0, 1) := by decide +kernel
theorem dX6_digest_87 : decode cX6_digest 87 = .ok (.getfield 10, 3) := by decide +kernel
theorem dX6_digest_90 : decode cX6_digest 90 = .ok (.getfield 234, 3) := by decide +kernel
theorem dX6_digest_93 : decode cX6_digest 93 = .ok (.iload 4, 2) := by decide +kernel
theorem dX6_digest_95 : decode cX6_digest 95 = .ok (.iaload, 1) := by decide +kernel
theorem dX6_digest_96 : decode cX6_digest 96 = .ok (.i2l, 1) := by decide +kernel
theorem dX6_digest_97 : decode cX6_digest 97 = .ok (.ladd, 1) := by decide +kernel
theorem dX6_digest_98 : decode cX6_digest 98 = .ok (.lstore_n 1, 1) := by decide +kernel
theorem dX6_digest_99 : decode cX6_digest 99 = .ok (.ldc2_w 274, 3) := by decide +kernel
theorem dX6_digest_102 : decode cX6_digest 102 = .ok (.lload_n 1, 1) := by decide +kernel
theorem dX6_digest_103 : decode cX6_digest 103 = .ok (.lmul, 1) := by decide +kernel
theorem dX6_digest_104 : decode cX6_digest 104 = .ok (.aload_n 0, 1) := by decide +kernel
theorem dX6_digest_105 : decode cX6_digest 105 = .ok (.getfield 10, 3) := by decide +kernel
theorem dX6_digest_108 : decode cX6_digest 108 = .ok (.getfield 237, 3) := by decide +kernel
theorem dX6_digest_111 : decode cX6_digest 111 = .ok (.iload 4, 2) := by decide +kernel
theorem dX6_digest_113 : decode cX6_digest 113 = .ok (.iaload, 1) := by decide +kernel
theorem dX6_digest_114 : decode cX6_digest 114 = .ok (.i2l, 1) := by decide +kernel
theorem dX6_digest_115 : decode cX6_digest 115 = .ok (.ladd, 1) := by decide +kernel
theorem dX6_digest_116 : decode cX6_digest 116 = .ok (.lstore_n 1, 1) := by decide +kernel
theorem dX6_digest_117 : decode cX6_digest 117 = .ok (.ldc2_w 274, 3) := by decide +kernel
theorem dX6_digest_120 : decode cX6_digest 120 = .ok (.lload_n 1, 1) := by decide +kernel
theorem dX6_digest_121 : decode cX6_digest 121 = .ok (.lmul, 1) := by decide +kernel
theorem dX6_digest_122 : decode cX6_digest 122 = .ok (.aload_n 3, 1) := by decide +kernel
theorem dX6_digest_123 : decode cX6_digest 123 = .ok (.getfield 135, 3) := by decide +kernel
theorem dX6_digest_126 : decode cX6_digest 126 = .ok (.iload 4, 2) := by decide +kernel
theorem dX6_digest_128 : decode cX6_digest 128 = .ok (.iaload, 1) := by decide +kernel
theorem dX6_digest_129 : decode cX6_digest 129 = .ok (.i2l, 1) := by decide +kernel
theorem dX6_digest_130 : decode cX6_digest 130 = .ok (.ladd, 1) := by decide +kernel
theorem dX6_digest_131 : decode cX6_digest 131 = .ok (.lstore_n 1, 1) := by decide +kernel
theorem dX6_digest_132 : decode cX6_digest 132 = .ok (.ldc2_w 274, 3) := by decide +kernel
theorem dX6_digest_135 : decode cX6_digest 135 = .ok (.lload_n 1, 1) := by decide +kernel
theorem dX6_digest_136 : decode cX6_digest 136 = .ok (.lmul, 1) := by decide +kernel
theorem dX6_digest_137 : decode cX6_digest 137 = .ok (.aload_n 3, 1) := by decide +kernel
theorem dX6_digest_138 : decode cX6_digest 138 = .ok (.iload 4, 2) := by decide +kernel
theorem dX6_digest_140 : decode cX6_digest 140 = .ok (.invokevirtual 141, 3) := by decide +kernel
theorem dX6_digest_143 : decode cX6_digest 143 = .ok (.i2l, 1) := by decide +kernel
theorem dX6_digest_144 : decode cX6_digest 144 = .ok (.ladd, 1) := by decide +kernel
theorem dX6_digest_145 : decode cX6_digest 145 = .ok (.lstore_n 1, 1) := by decide +kernel
theorem dX6_digest_146 : decode cX6_digest 146 = .ok (.iinc 4 1, 3) := by decide +kernel
theorem dX6_digest_149 : decode cX6_digest 149 = .ok (.goto (-110), 3) := by decide +kernel
theorem dX6_digest_152 : decode cX6_digest 152 = .ok (.iconst 0, 1) := by decide +kernel
theorem dX6_digest_153 : decode cX6_digest 153 = .ok (.istore 4, 2) := by decide +kernel
theorem dX6_digest_155 : decode cX6_digest 155 = .ok (.iload 4, 2) := by decide +kernel
theorem dX6_digest_157 : decode cX6_digest 157 = .ok (.aload_n 0, 1) := by decide +kernel
theorem dX6_digest_158 : decode cX6_digest 158 = .ok (.getfield 10, 3) := by decide +kernel
theorem dX6_digest_161 : decode cX6_digest 161 = .ok (.getfield 208, 3) := by decide +kernel
theorem dX6_digest_164 : decode cX6_digest 164 = .ok (.getfield 132, 3) := by decide +kernel
theorem dX6_digest_167 : decode cX6_digest 167 = .ok (.if_icmp .ge 47, 3) := by decide +kernel
theorem dX6_digest_170 : decode cX6_digest 170 = .ok (.iconst 0, 1) := by decide +kernel
theorem dX6_digest_171 : decode cX6_digest 171 = .ok (.istore 5, 2) := by decide +kernel
theorem dX6_digest_173 : decode cX6_digest 173 = .ok (.iload 5, 2) := by decide +kernel
theorem dX6_digest_175 : decode cX6_digest 175 = .ok (.iconst 3, 1) := by decide +kernel
theorem dX6_digest_176 : decode cX6_digest 176 = .ok (.if_icmp .ge 32, 3) := by decide +kernel
theorem dX6_digest_179 : decode cX6_digest 179 = .ok (.ldc2_w 274, 3) := by decide +kernel
theorem dX6_digest_182 : decode cX6_digest 182 = .ok (.lload_n 1, 1) := by decide +kernel
theorem dX6_digest_183 : decode cX6_digest 183 = .ok (.lmul, 1) := by decide +kernel
theorem dX6_digest_184 : decode cX6_digest 184 = .ok (.aload_n 0, 1) := by decide +kernel
theorem dX6_digest_185 : decode cX6_digest 185 = .ok (.getfield 10, 3) := by decide +kernel
theorem dX6_digest_188 : decode cX6_digest 188 = .ok (.getfield 208, 3) := by decide +kernel
theorem dX6_digest_191 : decode cX6_digest 191 = .ok (.iconst (-1), 1) := by decide +kernel
theorem dX6_digest_192 : decode cX6_digest 192 = .ok (.iload 4, 2) := by decide +kernel
theorem dX6_digest_194 : decode cX6_digest 194 = .ok (.iload 5, 2) := by decide +kernel
theorem dX6_digest_196 : decode cX6_digest 196 = .ok (.invokevirtual 166, 3) := by decide +kernel
theorem dX6_digest_199 : decode cX6_digest 199 = .ok (.i2l, 1) := by decide +kernel
theorem dX6_digest_200 : decode cX6_digest 200 = .ok (.ladd, 1) := by decide +kernel
theorem dX6_digest_201 : decode cX6_digest 201 = .ok (.lstore_n 1, 1) := by decide +kernel
theorem dX6_digest_202 : decode cX6_digest 202 = .ok (.iinc 5 1, 3) := by decide +kernel
theorem dX6_digest_205 : decode cX6_digest 205 = .ok (.goto (-32), 3) := by decide +kernel
theorem dX6_digest_208 : decode cX6_digest 208 = .ok (.iinc 4 1, 3) := by decide +kernel
theorem dX6_digest_211 : decode cX6_digest 211 = .ok (.goto (-56), 3) := by decide +kernel
theorem dX6_digest_214 : decode cX6_digest 214 = .ok (.ldc2_w 274, 3) := by decide +kernel
theorem dX6_digest_217 : decode cX6_digest 217 = .ok (.lload_n 1, 1) := by decide +kernel
theorem dX6_digest_218 : decode cX6_digest 218 = .ok (.lmul, 1) := by decide +kernel
theorem dX6_digest_219 : decode cX6_digest 219 = .ok (.aload_n 3, 1) := by decide +kernel
theorem dX6_digest_220 : decode cX6_digest 220 = .ok (.getfield 112, 3) := by decide +kernel
theorem dX6_digest_223 : decode cX6_digest 223 = .ok (.i2l, 1) := by decide +kernel
theorem dX6_digest_224 : decode cX6_digest 224 = .ok (.ladd, 1) := by decide +kernel
theorem dX6_digest_225 : decode cX6_digest 225 = .ok (.lstore_n 1, 1) := by decide +kernel
theorem dX6_digest_226 : decode cX6_digest 226 = .ok (.ldc2_w 274, 3) := by decide +kernel
theorem dX6_digest_229 : decode cX6_digest 229 = .ok (.lload_n 1, 1) := by decide +kernel
theorem dX6_digest_230 : decode cX6_digest 230 = .ok (.lmul, 1) := by decide +kernel
theorem dX6_digest_231 : decode cX6_digest 231 = .ok (.aload_n 0, 1) := by decide +kernel
theorem dX6_digest_232 : decode cX6_digest 232 = .ok (.invokevirtual 121, 3) := by decide +kernel
theorem dX6_digest_235 : decode cX6_digest 235 = .ok (.getfield 129, 3) := by decide +kernel
theorem dX6_digest_238 : decode cX6_digest 238 = .ok (.getfield 132, 3) := by decide +kernel
theorem dX6_digest_241 : decode cX6_digest 241 = .ok (.i2l, 1) := by decide +kernel
theorem dX6_digest_242 : decode cX6_digest 242 = .ok (.ladd, 1) := by decide +kernel
theorem dX6_digest_243 : decode cX6_digest 243 = .ok (.lreturn, 1) := by decide +kernel
theorem dX6_within_0 : decode cX6_within 0 = .ok (.iload_n 0, 1) := by decide +kernel
theorem dX6_within_1 : decode cX6_within 1 = .ok (.iload_n 1, 1) := by decide +kernel
theorem dX6_within_2 : decode cX6_within 2 = .ok (.if_icmp .lt 12, 3) := by decide +kernel
theorem dX6_within_5 : decode cX6_within 5 = .ok (.iload_n 0, 1) := by decide +kernel
theorem dX6_within_6 : decode cX6_within 6 = .ok (.iload_n 2, 1) := by decide +kernel
theorem dX6_within_7 : decode cX6_within 7 = .ok (.if_icmp .gt 7, 3) := by decide +kernel
theorem dX6_within_10 : decode cX6_within 10 = .ok (.iconst 1, 1) := by decide +kernel
theorem dX6_within_11 : decode cX6_within 11 = .ok (.goto 4, 3) := by decide +kernel
theorem dX6_within_14 : decode cX6_within 14 = .ok (.iconst 0, 1) := by decide +kernel
theorem dX6_within_15 : decode cX6_within 15 = .ok (.ireturn, 1) := by decide +kernel
theorem dX6_isLeg_0 : decode cX6_isLeg 0 = .ok (.iload_n 0, 1) := by decide +kernel
theorem dX6_isLeg_1 : decode cX6_isLeg 1 = .ok (.iconst 0, 1) := by decide +kernel
theorem dX6_isLeg_2 : decode cX6_isLeg 2 = .ok (.iconst 2, 1) := by decide +kernel
theorem dX6_isLeg_3 : decode cX6_isLeg 3 = .ok (.invokestatic 56, 3) := by decide +kernel
theorem dX6_isLeg_6 : decode cX6_isLeg 6 = .ok (.ireturn, 1) := by decide +kernel
theorem dX6_pulledWithin_0 : decode cX6_pulledWithin 0 = .ok (.iload_n 1, 1) := by decide +kernel
theorem dX6_pulledWithin_1 : decode cX6_pulledWithin 1 = .ok (.iload_n 2, 1) := by decide +kernel
theorem dX6_pulledWithin_2 : decode cX6_pulledWithin 2 = .ok (.iload_n 0, 1) := by decide +kernel
theorem dX6_pulledWithin_3 : decode cX6_pulledWithin 3 = .ok (.invokestatic 256, 3) := by decide +kernel
theorem dX6_pulledWithin_6 : decode cX6_pulledWithin 6 = .ok (.invokestatic 276, 3) := by decide +kernel
theorem dX6_pulledWithin_9 : decode cX6_pulledWithin 9 = .ok (.ireturn, 1) := by decide +kernel
theorem dX6_greatestOf_0 : decode cX6_greatestOf 0 = .ok (.aload_n 0, 1) := by decide +kernel
theorem dX6_greatestOf_1 : decode cX6_greatestOf 1 = .ok (.iconst 0, 1) := by decide +kernel
theorem dX6_greatestOf_2 : decode cX6_greatestOf 2 = .ok (.iaload, 1) := by decide +kernel
theorem dX6_greatestOf_3 : decode cX6_greatestOf 3 = .ok (.aload_n 0, 1) := by decide +kernel
theorem dX6_greatestOf_4 : decode cX6_greatestOf 4 = .ok (.iconst 1, 1) := by decide +kernel
theorem dX6_greatestOf_5 : decode cX6_greatestOf 5 = .ok (.iaload, 1) := by decide +kernel
theorem dX6_greatestOf_6 : decode cX6_greatestOf 6 = .ok (.aload_n 0, 1) := by decide +kernel
theorem dX6_greatestOf_7 : decode cX6_greatestOf 7 = .ok (.iconst 2, 1) := by decide +kernel
theorem dX6_greatestOf_8 : decode cX6_greatestOf 8 = .ok (.iaload, 1) := by decide +kernel
theorem dX6_greatestOf_9 : decode cX6_greatestOf 9 = .ok (.invokestatic 276, 3) := by decide +kernel
theorem dX6_greatestOf_12 : decode cX6_greatestOf 12 = .ok (.invokestatic 276, 3) := by decide +kernel
theorem dX6_greatestOf_15 : decode cX6_greatestOf 15 = .ok (.ireturn, 1) := by decide +kernel
theorem dX6_leastOf_0 : decode cX6_leastOf 0 = .ok (.aload_n 0, 1) := by decide +kernel
theorem dX6_leastOf_1 : decode cX6_leastOf 1 = .ok (.iconst 0, 1) := by decide +kernel
theorem dX6_leastOf_2 : decode cX6_leastOf 2 = .ok (.iaload, 1) := by decide +kernel
theorem dX6_leastOf_3 : decode cX6_leastOf 3 = .ok (.aload_n 0, 1) := by decide +kernel
theorem dX6_leastOf_4 : decode cX6_leastOf 4 = .ok (.iconst 1, 1) := by decide +kernel
theorem dX6_leastOf_5 : decode cX6_leastOf 5 = .ok (.iaload, 1) := by decide +kernel
theorem dX6_leastOf_6 : decode cX6_leastOf 6 = .ok (.aload_n 0, 1) := by decide +kernel
theorem dX6_leastOf_7 : decode cX6_leastOf 7 = .ok (.iconst 2, 1) := by decide +kernel
theorem dX6_leastOf_8 : decode cX6_leastOf 8 = .ok (.iaload, 1) := by decide +kernel
theorem dX6_leastOf_9 : decode cX6_leastOf 9 = .ok (.invokestatic 256, 3) := by decide +kernel
theorem dX6_leastOf_12 : decode cX6_leastOf 12 = .ok (.invokestatic 256, 3) := by decide +kernel
theorem dX6_leastOf_15 : decode cX6_leastOf 15 = .ok (.ireturn, 1) := by decide +kernel
theorem dX6_refuseBad_0 : decode cX6_refuseBad 0 = .ok (.aload_n 0, 1) := by decide +kernel
theorem dX6_refuseBad_1 : decode cX6_refuseBad 1 = .ok (.getfield 52, 3) := by decide +kernel
theorem dX6_refuseBad_4 : decode cX6_refuseBad 4 = .ok (.iconst 0, 1) := by decide +kernel
theorem dX6_refuseBad_5 : decode cX6_refuseBad 5 = .ok (.dup2, 1) := by decide +kernel
theorem dX6_refuseBad_6 : decode cX6_refuseBad 6 = .ok (.iaload, 1) := by decide +kernel
theorem dX6_refuseBad_7 : decode cX6_refuseBad 7 = .ok (.iconst 1, 1) := by decide +kernel
theorem dX6_refuseBad_8 : decode cX6_refuseBad 8 = .ok (.iadd, 1) := by decide +kernel
theorem dX6_refuseBad_9 : decode cX6_refuseBad 9 = .ok (.iastore, 1) := by decide +kernel
theorem dX6_refuseBad_10 : decode cX6_refuseBad 10 = .ok (.bipush (-2), 2) := by decide +kernel
theorem dX6_refuseBad_12 : decode cX6_refuseBad 12 = .ok (.ireturn, 1) := by decide +kernel
theorem dX6_refuseFull_0 : decode cX6_refuseFull 0 = .ok (.aload_n 0, 1) := by decide +kernel
theorem dX6_refuseFull_1 : decode cX6_refuseFull 1 = .ok (.getfield 52, 3) := by decide +kernel
theorem dX6_refuseFull_4 : decode cX6_refuseFull 4 = .ok (.iconst 2, 1) := by decide +kernel
theorem dX6_refuseFull_5 : decode cX6_refuseFull 5 = .ok (.dup2, 1) := by decide +kernel
theorem dX6_refuseFull_6 : decode cX6_refuseFull 6 = .ok (.iaload, 1) := by decide +kernel
theorem dX6_refuseFull_7 : decode cX6_refuseFull 7 = .ok (.iconst 1, 1) := by decide +kernel
theorem dX6_refuseFull_8 : decode cX6_refuseFull 8 = .ok (.iadd, 1) := by decide +kernel
theorem dX6_refuseFull_9 : decode cX6_refuseFull 9 = .ok (.iastore, 1) := by decide +kernel
theorem dX6_refuseFull_10 : decode cX6_refuseFull 10 = .ok (.bipush (-4), 2) := by decide +kernel
theorem dX6_refuseFull_12 : decode cX6_refuseFull 12 = .ok (.ireturn, 1) := by decide +kernel
theorem dX6_planNow_0 : decode cX6_planNow 0 = .ok (.aload_n 0, 1) := by decide +kernel
theorem dX6_planNow_1 : decode cX6_planNow 1 = .ok (.getfield 10, 3) := by decide +kernel
theorem dX6_planNow_4 : decode cX6_planNow 4 = .ok (.invokevirtual 279, 3) := by decide +kernel
theorem dX6_planNow_7 : decode cX6_planNow 7 = .ok (.aload_n 0, 1) := by decide +kernel
theorem dX6_planNow_8 : decode cX6_planNow 8 = .ok (.getfield 10, 3) := by decide +kernel
theorem dX6_planNow_11 : decode cX6_planNow 11 = .ok (.getfield 282, 3) := by decide +kernel
theorem dX6_planNow_14 : decode cX6_planNow 14 = .ok (.areturn, 1) := by decide +kernel
theorem dX6_runsNow_0 : decode cX6_runsNow 0 = .ok (.aload_n 0, 1) := by decide +kernel
theorem dX6_runsNow_1 : decode cX6_runsNow 1 = .ok (.invokevirtual 108, 3) := by decide +kernel
theorem dX6_runsNow_4 : decode cX6_runsNow 4 = .ok (.astore_n 1, 1) := by decide +kernel
theorem dX6_runsNow_5 : decode cX6_runsNow 5 = .ok (.aload_n 0, 1) := by decide +kernel
theorem dX6_runsNow_6 : decode cX6_runsNow 6 = .ok (.getfield 22, 3) := by decide +kernel
theorem dX6_runsNow_9 : decode cX6_runsNow 9 = .ok (.aload_n 1, 1) := by decide +kernel
theorem dX6_runsNow_10 : decode cX6_runsNow 10 = .ok (.getfield 182, 3) := by decide +kernel
theorem dX6_runsNow_13 : decode cX6_runsNow 13 = .ok (.aload_n 0, 1) := by decide +kernel
theorem dX6_runsNow_14 : decode cX6_runsNow 14 = .ok (.getfield 10, 3) := by decide +kernel
theorem dX6_runsNow_17 : decode cX6_runsNow 17 = .ok (.getfield 70, 3) := by decide +kernel
theorem dX6_runsNow_20 : decode cX6_runsNow 20 = .ok (.iconst 3, 1) := by decide +kernel
theorem dX6_runsNow_21 : decode cX6_runsNow 21 = .ok (.iaload, 1) := by decide +kernel
theorem dX6_runsNow_22 : decode cX6_runsNow 22 = .ok (.aload_n 1, 1) := by decide +kernel
theorem dX6_runsNow_23 : decode cX6_runsNow 23 = .ok (.getfield 138, 3) := by decide +kernel
theorem dX6_runsNow_26 : decode cX6_runsNow 26 = .ok (.aload_n 1, 1) := by decide +kernel
theorem dX6_runsNow_27 : decode cX6_runsNow 27 = .ok (.getfield 135, 3) := by decide +kernel
theorem dX6_runsNow_30 : decode cX6_runsNow 30 = .ok (.invokevirtual 286, 3) := by decide +kernel
theorem dX6_runsNow_33 : decode cX6_runsNow 33 = .ok (.aload_n 0, 1) := by decide +kernel
theorem dX6_runsNow_34 : decode cX6_runsNow 34 = .ok (.getfield 22, 3) := by decide +kernel
theorem dX6_runsNow_37 : decode cX6_runsNow 37 = .ok (.areturn, 1) := by decide +kernel
theorem dX6_eventsNow_0 : decode cX6_eventsNow 0 = .ok (.aload_n 0, 1) := by decide +kernel
theorem dX6_eventsNow_1 : decode cX6_eventsNow 1 = .ok (.invokevirtual 108, 3) := by decide +kernel
theorem dX6_eventsNow_4 : decode cX6_eventsNow 4 = .ok (.aload_n 0, 1) := by decide +kernel
theorem dX6_eventsNow_5 : decode cX6_eventsNow 5 = .ok (.getfield 31, 3) := by decide +kernel
theorem dX6_eventsNow_8 : decode cX6_eventsNow 8 = .ok (.invokevirtual 290, 3) := by decide +kernel
theorem dX6_eventsNow_11 : decode cX6_eventsNow 11 = .ok (.aload_n 0, 1) := by decide +kernel
theorem dX6_eventsNow_12 : decode cX6_eventsNow 12 = .ok (.getfield 31, 3) := by decide +kernel
theorem dX6_eventsNow_15 : decode cX6_eventsNow 15 = .ok (.areturn, 1) := by decide +kernel
theorem dX6_currentByTheOthers_0 : decode cX6_currentByTheOthers 0 = .ok (.iconst 0, 1) := by decide +kernel
theorem dX6_currentByTheOthers_1 : decode cX6_currentByTheOthers 1 = .ok (.istore_n 2, 1) := by decide +kernel
theorem dX6_currentByTheOthers_2 : decode cX6_currentByTheOthers 2 = .ok (.iconst 0, 1) := by decide +kernel
theorem dX6_currentByTheOthers_3 : decode cX6_currentByTheOthers 3 = .ok (.istore_n 3, 1) := by decide +kernel
theorem dX6_currentByTheOthers_4 : decode cX6_currentByTheOthers 4 = .ok (.iload_n 3, 1) := by decide +kernel
theorem dX6_currentByTheOthers_5 : decode cX6_currentByTheOthers 5 = .ok (.iconst 3, 1) := by decide +kernel
theorem dX6_currentByTheOthers_6 : decode cX6_currentByTheOthers 6 = .ok (.if_icmp .ge 26, 3) := by decide +kernel
theorem dX6_currentByTheOthers_9 : decode cX6_currentByTheOthers 9 = .ok (.iload_n 3, 1) := by decide +kernel
theorem dX6_currentByTheOthers_10 : decode cX6_currentByTheOthers 10 = .ok (.iload_n 1, 1) := by decide +kernel
theorem dX6_currentByTheOthers_11 : decode cX6_currentByTheOthers 11 = .ok (.if_icmp .eq 15, 3) := by decide +kernel
theorem dX6_currentByTheOthers_14 : decode cX6_currentByTheOthers 14 = .ok (.iload_n 2, 1) := by decide +kernel
theorem dX6_currentByTheOthers_15 : decode cX6_currentByTheOthers 15 = .ok (.aload_n 0, 1) := by decide +kernel
theorem dX6_currentByTheOthers_16 : decode cX6_currentByTheOthers 16 = .ok (.getfield 10, 3) := by decide +kernel
theorem dX6_currentByTheOthers_19 : decode cX6_currentByTheOthers 19 = .ok (.getfield 80, 3) := by decide +kernel
theorem dX6_currentByTheOthers_22 : decode cX6_currentByTheOthers 22 = .ok (.iload_n 3, 1) := by decide +kernel
theorem dX6_currentByTheOthers_23 : decode cX6_currentByTheOthers 23 = .ok (.iaload, 1) := by decide +kernel
theorem dX6_currentByTheOthers_24 : decode cX6_currentByTheOthers 24 = .ok (.iadd, 1) := by decide +kernel
theorem dX6_currentByTheOthers_25 : decode cX6_currentByTheOthers 25 = .ok (.istore_n 2, 1) := by decide +kernel
theorem dX6_currentByTheOthers_26 : decode cX6_currentByTheOthers 26 = .ok (.iinc 3 1, 3) := by decide +kernel
theorem dX6_currentByTheOthers_29 : decode cX6_currentByTheOthers 29 = .ok (.goto (-25), 3) := by decide +kernel
theorem dX6_currentByTheOthers_32 : decode cX6_currentByTheOthers 32 = .ok (.iload_n 2, 1) := by decide +kernel
theorem dX6_currentByTheOthers_33 : decode cX6_currentByTheOthers 33 = .ok (.ineg, 1) := by decide +kernel
theorem dX6_currentByTheOthers_34 : decode cX6_currentByTheOthers 34 = .ok (.ireturn, 1) := by decide +kernel
theorem dX6_remember_0 : decode cX6_remember 0 = .ok (.aload_n 0, 1) := by decide +kernel
theorem dX6_remember_1 : decode cX6_remember 1 = .ok (.getfield 42, 3) := by decide +kernel
theorem dX6_remember_4 : decode cX6_remember 4 = .ok (.invokevirtual 211, 3) := by decide +kernel
theorem dX6_remember_7 : decode cX6_remember 7 = .ok (.ifCond .eq 10, 3) := by decide +kernel
theorem dX6_remember_10 : decode cX6_remember 10 = .ok (.aload_n 0, 1) := by decide +kernel
theorem dX6_remember_11 : decode cX6_remember 11 = .ok (.getfield 42, 3) := by decide +kernel
theorem dX6_remember_14 : decode cX6_remember 14 = .ok (.invokevirtual 293, 3) := by decide +kernel
theorem dX6_remember_17 : decode cX6_remember 17 = .ok (.aload_n 0, 1) := by decide +kernel
theorem dX6_remember_18 : decode cX6_remember 18 = .ok (.getfield 42, 3) := by decide +kernel
theorem dX6_remember_21 : decode cX6_remember 21 = .ok (.aload_n 0, 1) := by decide +kernel
theorem dX6_remember_22 : decode cX6_remember 22 = .ok (.getfield 10, 3) := by decide +kernel
theorem dX6_remember_25 : decode cX6_remember 25 = .ok (.getfield 80, 3) := by decide +kernel
theorem dX6_remember_28 : decode cX6_remember 28 = .ok (.iconst 0, 1) := by decide +kernel
theorem dX6_remember_29 : decode cX6_remember 29 = .ok (.iaload, 1) := by decide +kernel
theorem dX6_remember_30 : decode cX6_remember 30 = .ok (.aload_n 0, 1) := by decide +kernel
theorem dX6_remember_31 : decode cX6_remember 31 = .ok (.getfield 10, 3) := by decide +kernel
theorem dX6_remember_34 : decode cX6_remember 34 = .ok (.getfield 80, 3) := by decide +kernel
theorem dX6_remember_37 : decode cX6_remember 37 = .ok (.iconst 1, 1) := by decide +kernel
theorem dX6_remember_38 : decode cX6_remember 38 = .ok (.iaload, 1) := by decide +kernel
theorem dX6_remember_39 : decode cX6_remember 39 = .ok (.aload_n 0, 1) := by decide +kernel
theorem dX6_remember_40 : decode cX6_remember 40 = .ok (.getfield 10, 3) := by decide +kernel
theorem dX6_remember_43 : decode cX6_remember 43 = .ok (.getfield 80, 3) := by decide +kernel
theorem dX6_remember_46 : decode cX6_remember 46 = .ok (.iconst 2, 1) := by decide +kernel
theorem dX6_remember_47 : decode cX6_remember 47 = .ok (.iaload, 1) := by decide +kernel
theorem dX6_remember_48 : decode cX6_remember 48 = .ok (.iload_n 1, 1) := by decide +kernel
theorem dX6_remember_49 : decode cX6_remember 49 = .ok (.invokevirtual 218, 3) := by decide +kernel
theorem dX6_remember_52 : decode cX6_remember 52 = .ok (.return_, 1) := by decide +kernel
theorem dX6_stepsToSettle_0 : decode cX6_stepsToSettle 0 = .ok (.aload_n 0, 1) := by decide +kernel
theorem dX6_stepsToSettle_1 : decode cX6_stepsToSettle 1 = .ok (.getfield 16, 3) := by decide +kernel
theorem dX6_stepsToSettle_4 : decode cX6_stepsToSettle 4 = .ok (.aload_n 0, 1) := by decide +kernel
theorem dX6_stepsToSettle_5 : decode cX6_stepsToSettle 5 = .ok (.getfield 10, 3) := by decide +kernel
theorem dX6_stepsToSettle_8 : decode cX6_stepsToSettle 8 = .ok (.invokevirtual 296, 3) := by decide +kernel
theorem dX6_stepsToSettle_11 : decode cX6_stepsToSettle 11 = .ok (.aload_n 0, 1) := by decide +kernel
theorem dX6_stepsToSettle_12 : decode cX6_stepsToSettle 12 = .ok (.getfield 16, 3) := by decide +kernel
theorem dX6_stepsToSettle_15 : decode cX6_stepsToSettle 15 = .ok (.getfield 70, 3) := by decide +kernel
theorem dX6_stepsToSettle_18 : decode cX6_stepsToSettle 18 = .ok (.iconst 4, 1) := by decide +kernel
theorem dX6_stepsToSettle_19 : decode cX6_stepsToSettle 19 = .ok (.iload_n 2, 1) := by decide +kernel
theorem dX6_stepsToSettle_20 : decode cX6_stepsToSettle 20 = .ok (.iastore, 1) := by decide +kernel
theorem dX6_stepsToSettle_21 : decode cX6_stepsToSettle 21 = .ok (.iconst 0, 1) := by decide +kernel
theorem dX6_stepsToSettle_22 : decode cX6_stepsToSettle 22 = .ok (.istore 4, 2) := by decide +kernel
theorem dX6_stepsToSettle_24 : decode cX6_stepsToSettle 24 = .ok (.iload 4, 2) := by decide +kernel
theorem dX6_stepsToSettle_26 : decode cX6_stepsToSettle 26 = .ok (.iload_n 3, 1) := by decide +kernel
theorem dX6_stepsToSettle_27 : decode cX6_stepsToSettle 27 = .ok (.if_icmp .gt 31, 3) := by decide +kernel
theorem dX6_stepsToSettle_30 : decode cX6_stepsToSettle 30 = .ok (.aload_n 0, 1) := by decide +kernel
theorem dX6_stepsToSettle_31 : decode cX6_stepsToSettle 31 = .ok (.getfield 16, 3) := by decide +kernel
theorem dX6_stepsToSettle_34 : decode cX6_stepsToSettle 34 = .ok (.iload_n 1, 1) := by decide +kernel
theorem dX6_stepsToSettle_35 : decode cX6_stepsToSettle 35 = .ok (.invokevirtual 300, 3) := by decide +kernel
theorem dX6_stepsToSettle_38 : decode cX6_stepsToSettle 38 = .ok (.ifCond .eq 6, 3) := by decide +kernel
theorem dX6_stepsToSettle_41 : decode cX6_stepsToSettle 41 = .ok (.iload 4, 2) := by decide +kernel
theorem dX6_stepsToSettle_43 : decode cX6_stepsToSettle 43 = .ok (.ireturn, 1) := by decide +kernel
theorem dX6_stepsToSettle_44 : decode cX6_stepsToSettle 44 = .ok (.aload_n 0, 1) := by decide +kernel
theorem dX6_stepsToSettle_45 : decode cX6_stepsToSettle 45 = .ok (.getfield 16, 3) := by decide +kernel
theorem dX6_stepsToSettle_48 : decode cX6_stepsToSettle 48 = .ok (.invokevirtual 225, 3) := by decide +kernel
theorem dX6_stepsToSettle_51 : decode cX6_stepsToSettle 51 = .ok (.pop, 1) := by decide +kernel
theorem dX6_stepsToSettle_52 : decode cX6_stepsToSettle 52 = .ok (.iinc 4 1, 3) := by decide +kernel
theorem dX6_stepsToSettle_55 : decode cX6_stepsToSettle 55 = .ok (.goto (-31), 3) := by decide +kernel
theorem dX6_stepsToSettle_58 : decode cX6_stepsToSettle 58 = .ok (.iconst (-1), 1) := by decide +kernel
theorem dX6_stepsToSettle_59 : decode cX6_stepsToSettle 59 = .ok (.ireturn, 1) := by decide +kernel
theorem dX6_counted_0 : decode cX6_counted 0 = .ok (.iload_n 1, 1) := by decide +kernel
theorem dX6_counted_1 : decode cX6_counted 1 = .ok (.tableswitch 115 0 12 #[67, 74, 81, 88, 96, 115, 115, 115, 115, 115, 115, 115, 107], 67) := by decide +kernel
theorem dX6_counted_68 : decode cX6_counted 68 = .ok (.aload_n 0, 1) := by decide +kernel
theorem dX6_counted_69 : decode cX6_counted 69 = .ok (.getfield 52, 3) := by decide +kernel
theorem dX6_counted_72 : decode cX6_counted 72 = .ok (.iconst 0, 1) := by decide +kernel
theorem dX6_counted_73 : decode cX6_counted 73 = .ok (.iaload, 1) := by decide +kernel
theorem dX6_counted_74 : decode cX6_counted 74 = .ok (.ireturn, 1) := by decide +kernel
theorem dX6_counted_75 : decode cX6_counted 75 = .ok (.aload_n 0, 1) := by decide +kernel
theorem dX6_counted_76 : decode cX6_counted 76 = .ok (.getfield 52, 3) := by decide +kernel
theorem dX6_counted_79 : decode cX6_counted 79 = .ok (.iconst 1, 1) := by decide +kernel
theorem dX6_counted_80 : decode cX6_counted 80 = .ok (.iaload, 1) := by decide +kernel
theorem dX6_counted_81 : decode cX6_counted 81 = .ok (.ireturn, 1) := by decide +kernel
theorem dX6_counted_82 : decode cX6_counted 82 = .ok (.aload_n 0, 1) := by decide +kernel
theorem dX6_counted_83 : decode cX6_counted 83 = .ok (.getfield 52, 3) := by decide +kernel
theorem dX6_counted_86 : decode cX6_counted 86 = .ok (.iconst 2, 1) := by decide +kernel
theorem dX6_counted_87 : decode cX6_counted 87 = .ok (.iaload, 1) := by decide +kernel
theorem dX6_counted_88 : decode cX6_counted 88 = .ok (.ireturn, 1) := by decide +kernel
theorem dX6_counted_89 : decode cX6_counted 89 = .ok (.aload_n 0, 1) := by decide +kernel
theorem dX6_counted_90 : decode cX6_counted 90 = .ok (.getfield 10, 3) := by decide +kernel
theorem dX6_counted_93 : decode cX6_counted 93 = .ok (.getfield 83, 3) := by decide +kernel
theorem dX6_counted_96 : decode cX6_counted 96 = .ok (.ireturn, 1) := by decide +kernel
theorem dX6_counted_97 : decode cX6_counted 97 = .ok (.aload_n 0, 1) := by decide +kernel
theorem dX6_counted_98 : decode cX6_counted 98 = .ok (.getfield 10, 3) := by decide +kernel
theorem dX6_counted_101 : decode cX6_counted 101 = .ok (.getfield 208, 3) := by decide +kernel
theorem dX6_counted_104 : decode cX6_counted 104 = .ok (.getfield 132, 3) := by decide +kernel
theorem dX6_counted_107 : decode cX6_counted 107 = .ok (.ireturn, 1) := by decide +kernel
theorem dX6_counted_108 : decode cX6_counted 108 = .ok (.aload_n 0, 1) := by decide +kernel
theorem dX6_counted_109 : decode cX6_counted 109 = .ok (.getfield 48, 3) := by decide +kernel
theorem dX6_counted_112 : decode cX6_counted 112 = .ok (.getfield 250, 3) := by decide +kernel
theorem dX6_counted_115 : decode cX6_counted 115 = .ok (.ireturn, 1) := by decide +kernel
theorem dX6_counted_116 : decode cX6_counted 116 = .ok (.aload_n 0, 1) := by decide +kernel
theorem dX6_counted_117 : decode cX6_counted 117 = .ok (.iload_n 1, 1) := by decide +kernel
theorem dX6_counted_118 : decode cX6_counted 118 = .ok (.iconst 5, 1) := by decide +kernel
theorem dX6_counted_119 : decode cX6_counted 119 = .ok (.isub, 1) := by decide +kernel
theorem dX6_counted_120 : decode cX6_counted 120 = .ok (.invokevirtual 303, 3) := by decide +kernel
theorem dX6_counted_123 : decode cX6_counted 123 = .ok (.ireturn, 1) := by decide +kernel
theorem dX6_countedSetting_0 : decode cX6_countedSetting 0 = .ok (.iload_n 1, 1) := by decide +kernel
theorem dX6_countedSetting_1 : decode cX6_countedSetting 1 = .ok (.iconst 0, 1) := by decide +kernel
theorem dX6_countedSetting_2 : decode cX6_countedSetting 2 = .ok (.bipush 6, 2) := by decide +kernel
theorem dX6_countedSetting_4 : decode cX6_countedSetting 4 = .ok (.invokestatic 56, 3) := by decide +kernel
theorem dX6_countedSetting_7 : decode cX6_countedSetting 7 = .ok (.ifCond .eq 15, 3) := by decide +kernel
theorem dX6_countedSetting_10 : decode cX6_countedSetting 10 = .ok (.aload_n 0, 1) := by decide +kernel
theorem dX6_countedSetting_11 : decode cX6_countedSetting 11 = .ok (.getfield 10, 3) := by decide +kernel
theorem dX6_countedSetting_14 : decode cX6_countedSetting 14 = .ok (.getfield 70, 3) := by decide +kernel
theorem dX6_countedSetting_17 : decode cX6_countedSetting 17 = .ok (.iload_n 1, 1) := by decide +kernel
theorem dX6_countedSetting_18 : decode cX6_countedSetting 18 = .ok (.iaload, 1) := by decide +kernel
theorem dX6_countedSetting_19 : decode cX6_countedSetting 19 = .ok (.goto 4, 3) := by decide +kernel
theorem dX6_countedSetting_22 : decode cX6_countedSetting 22 = .ok (.iconst (-1), 1) := by decide +kernel
theorem dX6_countedSetting_23 : decode cX6_countedSetting 23 = .ok (.ireturn, 1) := by decide +kernel
theorem dX7_bad_0 : decode cX7_bad 0 = .ok (.aload_n 0, 1) := by decide +kernel
theorem dX7_bad_1 : decode cX7_bad 1 = .ok (.getfield 1, 3) := by decide +kernel
theorem dX7_bad_4 : decode cX7_bad 4 = .ok (.iconst 0, 1) := by decide +kernel
theorem dX7_bad_5 : decode cX7_bad 5 = .ok (.dup2, 1) := by decide +kernel
theorem dX7_bad_6 : decode cX7_bad 6 = .ok (.iaload, 1) := by decide +kernel
theorem dX7_bad_7 : decode cX7_bad 7 = .ok (.iconst 1, 1) := by decide +kernel
theorem dX7_bad_8 : decode cX7_bad 8 = .ok (.iadd, 1) := by decide +kernel
theorem dX7_bad_9 : decode cX7_bad 9 = .ok (.iastore, 1) := by decide +kernel
theorem dX7_bad_10 : decode cX7_bad 10 = .ok (.bipush (-2), 2) := by decide +kernel
theorem dX7_bad_12 : decode cX7_bad 12 = .ok (.ireturn, 1) := by decide +kernel
theorem dX7_full_0 : decode cX7_full 0 = .ok (.aload_n 0, 1) := by decide +kernel
theorem dX7_full_1 : decode cX7_full 1 = .ok (.getfield 1, 3) := by decide +kernel
theorem dX7_full_4 : decode cX7_full 4 = .ok (.iconst 2, 1) := by decide +kernel
theorem dX7_full_5 : decode cX7_full 5 = .ok (.dup2, 1) := by decide +kernel
theorem dX7_full_6 : decode cX7_full 6 = .ok (.iaload, 1) := by decide +kernel
theorem dX7_full_7 : decode cX7_full 7 = .ok (.iconst 1, 1) := by decide +kernel
theorem dX7_full_8 : decode cX7_full 8 = .ok (.iadd, 1) := by decide +kernel
theorem dX7_full_9 : decode cX7_full 9 = .ok (.iastore, 1) := by decide +kernel
theorem dX7_full_10 : decode cX7_full 10 = .ok (.bipush (-4), 2) := by decide +kernel
theorem dX7_full_12 : decode cX7_full 12 = .ok (.ireturn, 1) := by decide +kernel
theorem dX7_in_0 : decode cX7_in 0 = .ok (.iload_n 0, 1) := by decide +kernel
theorem dX7_in_1 : decode cX7_in 1 = .ok (.iload_n 1, 1) := by decide +kernel
theorem dX7_in_2 : decode cX7_in 2 = .ok (.if_icmp .lt 12, 3) := by decide +kernel
theorem dX7_in_5 : decode cX7_in 5 = .ok (.iload_n 0, 1) := by decide +kernel
theorem dX7_in_6 : decode cX7_in 6 = .ok (.iload_n 2, 1) := by decide +kernel
theorem dX7_in_7 : decode cX7_in 7 = .ok (.if_icmp .gt 7, 3) := by decide +kernel
theorem dX7_in_10 : decode cX7_in 10 = .ok (.iconst 1, 1) := by decide +kernel
theorem dX7_in_11 : decode cX7_in 11 = .ok (.goto 4, 3) := by decide +kernel
theorem dX7_in_14 : decode cX7_in 14 = .ok (.iconst 0, 1) := by decide +kernel
theorem dX7_in_15 : decode cX7_in 15 = .ok (.ireturn, 1) := by decide +kernel
theorem dX7_within_0 : decode cX7_within 0 = .ok (.iload_n 0, 1) := by decide +kernel
theorem dX7_within_1 : decode cX7_within 1 = .ok (.iload_n 1, 1) := by decide +kernel
theorem dX7_within_2 : decode cX7_within 2 = .ok (.if_icmp .le 7, 3) := by decide +kernel
theorem dX7_within_5 : decode cX7_within 5 = .ok (.iload_n 1, 1) := by decide +kernel
theorem dX7_within_6 : decode cX7_within 6 = .ok (.goto 15, 3) := by decide +kernel
theorem dX7_within_9 : decode cX7_within 9 = .ok (.iload_n 0, 1) := by decide +kernel
theorem dX7_within_10 : decode cX7_within 10 = .ok (.iload_n 1, 1) := by decide +kernel
theorem dX7_within_11 : decode cX7_within 11 = .ok (.ineg, 1) := by decide +kernel
theorem dX7_within_12 : decode cX7_within 12 = .ok (.if_icmp .ge 8, 3) := by decide +kernel
theorem dX7_within_15 : decode cX7_within 15 = .ok (.iload_n 1, 1) := by decide +kernel
theorem dX7_within_16 : decode cX7_within 16 = .ok (.ineg, 1) := by decide +kernel
theorem dX7_within_17 : decode cX7_within 17 = .ok (.goto 4, 3) := by decide +kernel
theorem dX7_within_20 : decode cX7_within 20 = .ok (.iload_n 0, 1) := by decide +kernel
theorem dX7_within_21 : decode cX7_within 21 = .ok (.ireturn, 1) := by decide +kernel
theorem dX7_far_0 : decode cX7_far 0 = .ok (.iload_n 0, 1) := by decide +kernel
theorem dX7_far_1 : decode cX7_far 1 = .ok (.ifCond .ge 8, 3) := by decide +kernel
theorem dX7_far_4 : decode cX7_far 4 = .ok (.iload_n 0, 1) := by decide +kernel
theorem dX7_far_5 : decode cX7_far 5 = .ok (.ineg, 1) := by decide +kernel
theorem dX7_far_6 : decode cX7_far 6 = .ok (.goto 4, 3) := by decide +kernel
theorem dX7_far_9 : decode cX7_far 9 = .ok (.iload_n 0, 1) := by decide +kernel
theorem dX7_far_10 : decode cX7_far 10 = .ok (.ireturn, 1) := by decide +kernel
theorem dX7_init_0 : decode cX7_init 0 = .ok (.aload_n 0, 1) := by decide +kernel
theorem dX7_init_1 : decode cX7_init 1 = .ok (.invokespecial 7, 3) := by decide +kernel
theorem dX7_init_4 : decode cX7_init 4 = .ok (.aload_n 0, 1) := by decide +kernel
theorem dX7_init_5 : decode cX7_init 5 = .ok (.iconst 3, 1) := by decide +kernel
theorem dX7_init_6 : decode cX7_init 6 = .ok (.newarray .int, 2) := by decide +kernel
theorem dX7_init_8 : decode cX7_init 8 = .ok (.putfield 1, 3) := by decide +kernel
theorem dX7_init_11 : decode cX7_init 11 = .ok (.aload_n 0, 1) := by decide +kernel
theorem dX7_init_12 : decode cX7_init 12 = .ok (.bipush 7, 2) := by decide +kernel
theorem dX7_init_14 : decode cX7_init 14 = .ok (.newarray .int, 2) := by decide +kernel
theorem dX7_init_16 : decode cX7_init 16 = .ok (.putfield 13, 3) := by decide +kernel
theorem dX7_init_19 : decode cX7_init 19 = .ok (.aload_n 0, 1) := by decide +kernel
theorem dX7_init_20 : decode cX7_init 20 = .ok (.iconst 3, 1) := by decide +kernel
theorem dX7_init_21 : decode cX7_init 21 = .ok (.newarray .int, 2) := by decide +kernel
theorem dX7_init_23 : decode cX7_init 23 = .ok (.putfield 16, 3) := by decide +kernel
theorem dX7_init_26 : decode cX7_init 26 = .ok (.aload_n 0, 1) := by decide +kernel
theorem dX7_init_27 : decode cX7_init 27 = .ok (.iconst 3, 1) := by decide +kernel
theorem dX7_init_28 : decode cX7_init 28 = .ok (.newarray .int, 2) := by decide +kernel
theorem dX7_init_30 : decode cX7_init 30 = .ok (.putfield 19, 3) := by decide +kernel
theorem dX7_init_33 : decode cX7_init 33 = .ok (.aload_n 0, 1) := by decide +kernel
theorem dX7_init_34 : decode cX7_init 34 = .ok (.iconst 3, 1) := by decide +kernel
theorem dX7_init_35 : decode cX7_init 35 = .ok (.newarray .int, 2) := by decide +kernel
theorem dX7_init_37 : decode cX7_init 37 = .ok (.putfield 22, 3) := by decide +kernel
theorem dX7_init_40 : decode cX7_init 40 = .ok (.aload_n 0, 1) := by decide +kernel
theorem dX7_init_41 : decode cX7_init 41 = .ok (.iconst 3, 1) := by decide +kernel
theorem dX7_init_42 : decode cX7_init 42 = .ok (.newarray .int, 2) := by decide +kernel
theorem dX7_init_44 : decode cX7_init 44 = .ok (.putfield 25, 3) := by decide +kernel
theorem dX7_init_47 : decode cX7_init 47 = .ok (.aload_n 0, 1) := by decide +kernel
theorem dX7_init_48 : decode cX7_init 48 = .ok (.bipush 12, 2) := by decide +kernel
theorem dX7_init_50 : decode cX7_init 50 = .ok (.newarray .int, 2) := by decide +kernel
theorem dX7_init_52 : decode cX7_init 52 = .ok (.putfield 28, 3) := by decide +kernel
theorem dX7_init_55 : decode cX7_init 55 = .ok (.aload_n 0, 1) := by decide +kernel
theorem dX7_init_56 : decode cX7_init 56 = .ok (.bipush 12, 2) := by decide +kernel
theorem dX7_init_58 : decode cX7_init 58 = .ok (.newarray .int, 2) := by decide +kernel
theorem dX7_init_60 : decode cX7_init 60 = .ok (.putfield 31, 3) := by decide +kernel
theorem dX7_init_63 : decode cX7_init 63 = .ok (.aload_n 0, 1) := by decide +kernel
theorem dX7_init_64 : decode cX7_init 64 = .ok (.bipush 12, 2) := by decide +kernel
theorem dX7_init_66 : decode cX7_init 66 = .ok (.newarray .int, 2) := by decide +kernel
theorem dX7_init_68 : decode cX7_init 68 = .ok (.putfield 34, 3) := by decide +kernel
theorem dX7_init_71 : decode cX7_init 71 = .ok (.aload_n 0, 1) := by decide +kernel
theorem dX7_init_72 : decode cX7_init 72 = .ok (.bipush 40, 2) := by decide +kernel
theorem dX7_init_74 : decode cX7_init 74 = .ok (.newarray .int, 2) := by decide +kernel
theorem dX7_init_76 : decode cX7_init 76 = .ok (.putfield 37, 3) := by decide +kernel
theorem dX7_init_79 : decode cX7_init 79 = .ok (.aload_n 0, 1) := by decide +kernel
theorem dX7_init_80 : decode cX7_init 80 = .ok (.iconst 3, 1) := by decide +kernel
theorem dX7_init_81 : decode cX7_init 81 = .ok (.newarray .int, 2) := by decide +kernel
theorem dX7_init_83 : decode cX7_init 83 = .ok (.putfield 40, 3) := by decide +kernel
theorem dX7_init_86 : decode cX7_init 86 = .ok (.aload_n 0, 1) := by decide +kernel
theorem dX7_init_87 : decode cX7_init 87 = .ok (.iconst 3, 1) := by decide +kernel
theorem dX7_init_88 : decode cX7_init 88 = .ok (.newarray .int, 2) := by decide +kernel
theorem dX7_init_90 : decode cX7_init 90 = .ok (.putfield 43, 3) := by decide +kernel
theorem dX7_init_93 : decode cX7_init 93 = .ok (.aload_n 0, 1) := by decide +kernel
theorem dX7_init_94 : decode cX7_init 94 = .ok (.iconst 3, 1) := by decide +kernel
theorem dX7_init_95 : decode cX7_init 95 = .ok (.newarray .int, 2) := by decide +kernel
theorem dX7_init_97 : decode cX7_init 97 = .ok (.putfield 46, 3) := by decide +kernel
theorem dX7_init_100 : decode cX7_init 100 = .ok (.aload_n 0, 1) := by decide +kernel
theorem dX7_init_101 : decode cX7_init 101 = .ok (.iconst 3, 1) := by decide +kernel
theorem dX7_init_102 : decode cX7_init 102 = .ok (.newarray .int, 2) := by decide +kernel
theorem dX7_init_104 : decode cX7_init 104 = .ok (.putfield 49, 3) := by decide +kernel
theorem dX7_init_107 : decode cX7_init 107 = .ok (.aload_n 0, 1) := by decide +kernel
theorem dX7_init_108 : decode cX7_init 108 = .ok (.bipush 96, 2) := by decide +kernel
theorem dX7_init_110 : decode cX7_init 110 = .ok (.newarray .int, 2) := by decide +kernel
theorem dX7_init_112 : decode cX7_init 112 = .ok (.putfield 52, 3) := by decide +kernel
theorem dX7_init_115 : decode cX7_init 115 = .ok (.aload_n 0, 1) := by decide +kernel
theorem dX7_init_116 : decode cX7_init 116 = .ok (.bipush 96, 2) := by decide +kernel
theorem dX7_init_118 : decode cX7_init 118 = .ok (.newarray .int, 2) := by decide +kernel
theorem dX7_init_120 : decode cX7_init 120 = .ok (.putfield 55, 3) := by decide +kernel
theorem dX7_init_123 : decode cX7_init 123 = .ok (.aload_n 0, 1) := by decide +kernel
theorem dX7_init_124 : decode cX7_init 124 = .ok (.iconst 5, 1) := by decide +kernel
theorem dX7_init_125 : decode cX7_init 125 = .ok (.newarray .int, 2) := by decide +kernel
theorem dX7_init_127 : decode cX7_init 127 = .ok (.putfield 58, 3) := by decide +kernel
theorem dX7_init_130 : decode cX7_init 130 = .ok (.aload_n 0, 1) := by decide +kernel
theorem dX7_init_131 : decode cX7_init 131 = .ok (.iconst 3, 1) := by decide +kernel
theorem dX7_init_132 : decode cX7_init 132 = .ok (.newarray .int, 2) := by decide +kernel
theorem dX7_init_134 : decode cX7_init 134 = .ok (.putfield 61, 3) := by decide +kernel
theorem dX7_init_137 : decode cX7_init 137 = .ok (.aload_n 0, 1) := by decide +kernel
theorem dX7_init_138 : decode cX7_init 138 = .ok (.iconst 3, 1) := by decide +kernel
theorem dX7_init_139 : decode cX7_init 139 = .ok (.newarray .int, 2) := by decide +kernel
theorem dX7_init_141 : decode cX7_init 141 = .ok (.putfield 64, 3) := by decide +kernel
theorem dX7_init_144 : decode cX7_init 144 = .ok (.aload_n 0, 1) := by decide +kernel
theorem dX7_init_145 : decode cX7_init 145 = .ok (.bipush 50, 2) := by decide +kernel
theorem dX7_init_147 : decode cX7_init 147 = .ok (.newarray .int, 2) := by decide +kernel
theorem dX7_init_149 : decode cX7_init 149 = .ok (.putfield 67, 3) := by decide +kernel
theorem dX7_init_152 : decode cX7_init 152 = .ok (.aload_n 0, 1) := by decide +kernel
theorem dX7_init_153 : decode cX7_init 153 = .ok (.bipush 120, 2) := by decide +kernel
theorem dX7_init_155 : decode cX7_init 155 = .ok (.newarray .int, 2) := by decide +kernel
theorem dX7_init_157 : decode cX7_init 157 = .ok (.putfield 70, 3) := by decide +kernel
theorem dX7_init_160 : decode cX7_init 160 = .ok (.aload_n 0, 1) := by decide +kernel
theorem dX7_init_161 : decode cX7_init 161 = .ok (.invokevirtual 73, 3) := by decide +kernel
theorem dX7_init_164 : decode cX7_init 164 = .ok (.return_, 1) := by decide +kernel
theorem dX7_begins_0 : decode cX7_begins 0 = .ok (.aload_n 0, 1) := by decide +kernel
theorem dX7_begins_1 : decode cX7_begins 1 = .ok (.getfield 13, 3) := by decide +kernel
theorem dX7_begins_4 : decode cX7_begins 4 = .ok (.iconst 0, 1) := by decide +kernel
theorem dX7_begins_5 : decode cX7_begins 5 = .ok (.bipush 48, 2) := by decide +kernel
theorem dX7_begins_7 : decode cX7_begins 7 = .ok (.iastore, 1) := by decide +kernel
theorem dX7_begins_8 : decode cX7_begins 8 = .ok (.aload_n 0, 1) := by decide +kernel
theorem dX7_begins_9 : decode cX7_begins 9 = .ok (.getfield 13, 3) := by decide +kernel
theorem dX7_begins_12 : decode cX7_begins 12 = .ok (.iconst 1, 1) := by decide +kernel
theorem dX7_begins_13 : decode cX7_begins 13 = .ok (.iconst 2, 1) := by decide +kernel
theorem dX7_begins_14 : decode cX7_begins 14 = .ok (.iastore, 1) := by decide +kernel
theorem dX7_begins_15 : decode cX7_begins 15 = .ok (.aload_n 0, 1) := by decide +kernel
theorem dX7_begins_16 : decode cX7_begins 16 = .ok (.getfield 13, 3) := by decide +kernel
theorem dX7_begins_19 : decode cX7_begins 19 = .ok (.iconst 2, 1) := by decide +kernel
theorem dX7_begins_20 : decode cX7_begins 20 = .ok (.iconst 1, 1) := by decide +kernel
theorem dX7_begins_21 : decode cX7_begins 21 = .ok (.iastore, 1) := by decide +kernel
theorem dX7_begins_22 : decode cX7_begins 22 = .ok (.aload_n 0, 1) := by decide +kernel
theorem dX7_begins_23 : decode cX7_begins 23 = .ok (.getfield 13, 3) := by decide +kernel
theorem dX7_begins_26 : decode cX7_begins 26 = .ok (.iconst 3, 1) := by decide +kernel
theorem dX7_begins_27 : decode cX7_begins 27 = .ok (.iconst 4, 1) := by decide +kernel
theorem dX7_begins_28 : decode cX7_begins 28 = .ok (.iastore, 1) := by decide +kernel
theorem dX7_begins_29 : decode cX7_begins 29 = .ok (.aload_n 0, 1) := by decide +kernel
theorem dX7_begins_30 : decode cX7_begins 30 = .ok (.getfield 13, 3) := by decide +kernel
theorem dX7_begins_33 : decode cX7_begins 33 = .ok (.iconst 4, 1) := by decide +kernel
theorem dX7_begins_34 : decode cX7_begins 34 = .ok (.bipush 8, 2) := by decide +kernel
theorem dX7_begins_36 : decode cX7_begins 36 = .ok (.iastore, 1) := by decide +kernel
theorem dX7_begins_37 : decode cX7_begins 37 = .ok (.aload_n 0, 1) := by decide +kernel
theorem dX7_begins_38 : decode cX7_begins 38 = .ok (.getfield 13, 3) := by decide +kernel
theorem dX7_begins_41 : decode cX7_begins 41 = .ok (.iconst 5, 1) := by decide +kernel
theorem dX7_begins_42 : decode cX7_begins 42 = .ok (.iconst 4, 1) := by decide +kernel
theorem dX7_begins_43 : decode cX7_begins 43 = .ok (.iastore, 1) := by decide +kernel
theorem dX7_begins_44 : decode cX7_begins 44 = .ok (.aload_n 0, 1) := by decide +kernel
theorem dX7_begins_45 : decode cX7_begins 45 = .ok (.getfield 13, 3) := by decide +kernel
theorem dX7_begins_48 : decode cX7_begins 48 = .ok (.bipush 6, 2) := by decide +kernel
theorem dX7_begins_50 : decode cX7_begins 50 = .ok (.iconst 0, 1) := by decide +kernel
theorem dX7_begins_51 : decode cX7_begins 51 = .ok (.iastore, 1) := by decide +kernel
theorem dX7_begins_52 : decode cX7_begins 52 = .ok (.iconst 0, 1) := by decide +kernel
theorem dX7_begins_53 : decode cX7_begins 53 = .ok (.istore_n 1, 1) := by decide +kernel
theorem dX7_begins_54 : decode cX7_begins 54 = .ok (.iload_n 1, 1) := by decide +kernel
theorem dX7_begins_55 : decode cX7_begins 55 = .ok (.iconst 3, 1) := by decide +kernel
theorem dX7_begins_56 : decode cX7_begins 56 = .ok (.if_icmp .ge 37, 3) := by decide +kernel
theorem dX7_begins_59 : decode cX7_begins 59 = .ok (.aload_n 0, 1) := by decide +kernel
theorem dX7_begins_60 : decode cX7_begins 60 = .ok (.getfield 16, 3) := by decide +kernel
theorem dX7_begins_63 : decode cX7_begins 63 = .ok (.iload_n 1, 1) := by decide +kernel
theorem dX7_begins_64 : decode cX7_begins 64 = .ok (.iconst 0, 1) := by decide +kernel
theorem dX7_begins_65 : decode cX7_begins 65 = .ok (.iastore, 1) := by decide +kernel
theorem dX7_begins_66 : decode cX7_begins 66 = .ok (.aload_n 0, 1) := by decide +kernel
theorem dX7_begins_67 : decode cX7_begins 67 = .ok (.getfield 19, 3) := by decide +kernel
theorem dX7_begins_70 : decode cX7_begins 70 = .ok (.iload_n 1, 1) := by decide +kernel
theorem dX7_begins_71 : decode cX7_begins 71 = .ok (.iconst 0, 1) := by decide +kernel
theorem dX7_begins_72 : decode cX7_begins 72 = .ok (.iastore, 1) := by decide +kernel
theorem dX7_begins_73 : decode cX7_begins 73 = .ok (.aload_n 0, 1) := by decide +kernel
theorem dX7_begins_74 : decode cX7_begins 74 = .ok (.getfield 22, 3) := by decide +kernel
theorem dX7_begins_77 : decode cX7_begins 77 = .ok (.iload_n 1, 1) := by decide +kernel
theorem dX7_begins_78 : decode cX7_begins 78 = .ok (.iconst 0, 1) := by decide +kernel
theorem dX7_begins_79 : decode cX7_begins 79 = .ok (.iastore, 1) := by decide +kernel
theorem dX7_begins_80 : decode cX7_begins 80 = .ok (.aload_n 0, 1) := by decide +kernel
theorem dX7_begins_81 : decode cX7_begins 81 = .ok (.getfield 25, 3) := by decide +kernel
theorem dX7_begins_84 : decode cX7_begins 84 = .ok (.iload_n 1, 1) := by decide +kernel
theorem dX7_begins_85 : decode cX7_begins 85 = .ok (.iconst 0, 1) := by decide +kernel
theorem dX7_begins_86 : decode cX7_begins 86 = .ok (.iastore, 1) := by decide +kernel
theorem dX7_begins_87 : decode cX7_begins 87 = .ok (.iinc 1 1, 3) := by decide +kernel
theorem dX7_begins_90 : decode cX7_begins 90 = .ok (.goto (-36), 3) := by decide +kernel
theorem dX7_begins_93 : decode cX7_begins 93 = .ok (.aload_n 0, 1) := by decide +kernel
theorem dX7_begins_94 : decode cX7_begins 94 = .ok (.iconst 0, 1) := by decide +kernel
theorem dX7_begins_95 : decode cX7_begins 95 = .ok (.putfield 76, 3) := by decide +kernel
theorem dX7_begins_98 : decode cX7_begins 98 = .ok (.aload_n 0, 1) := by decide +kernel
theorem dX7_begins_99 : decode cX7_begins 99 = .ok (.iconst 0, 1) := by decide +kernel
theorem dX7_begins_100 : decode cX7_begins 100 = .ok (.putfield 80, 3) := by decide +kernel
theorem dX7_begins_103 : decode cX7_begins 103 = .ok (.aload_n 0, 1) := by decide +kernel
theorem dX7_begins_104 : decode cX7_begins 104 = .ok (.iconst 0, 1) := by decide +kernel
theorem dX7_begins_105 : decode cX7_begins 105 = .ok (.putfield 83, 3) := by decide +kernel
theorem dX7_begins_108 : decode cX7_begins 108 = .ok (.return_, 1) := by decide +kernel
theorem dX7_may_0 : decode cX7_may 0 = .ok (.iload_n 0, 1) := by decide +kernel
theorem dX7_may_1 : decode cX7_may 1 = .ok (.tableswitch 85 0 5 #[39, 62, 85, 69, 77, 77], 39) := by decide +kernel
theorem dX7_may_40 : decode cX7_may 40 = .ok (.iload_n 1, 1) := by decide +kernel
theorem dX7_may_41 : decode cX7_may 41 = .ok (.bipush 12, 2) := by decide +kernel
theorem dX7_may_43 : decode cX7_may 43 = .ok (.bipush 96, 2) := by decide +kernel
theorem dX7_may_45 : decode cX7_may 45 = .ok (.invokestatic 86, 3) := by decide +kernel
theorem dX7_may_48 : decode cX7_may 48 = .ok (.ifCond .eq 13, 3) := by decide +kernel
theorem dX7_may_51 : decode cX7_may 51 = .ok (.iload_n 1, 1) := by decide +kernel
theorem dX7_may_52 : decode cX7_may 52 = .ok (.iconst 2, 1) := by decide +kernel
theorem dX7_may_53 : decode cX7_may 53 = .ok (.irem, 1) := by decide +kernel
theorem dX7_may_54 : decode cX7_may 54 = .ok (.ifCond .ne 7, 3) := by decide +kernel
theorem dX7_may_57 : decode cX7_may 57 = .ok (.iconst 1, 1) := by decide +kernel
theorem dX7_may_58 : decode cX7_may 58 = .ok (.goto 4, 3) := by decide +kernel
theorem dX7_may_61 : decode cX7_may 61 = .ok (.iconst 0, 1) := by decide +kernel
theorem dX7_may_62 : decode cX7_may 62 = .ok (.ireturn, 1) := by decide +kernel
theorem dX7_may_63 : decode cX7_may 63 = .ok (.iload_n 1, 1) := by decide +kernel
theorem dX7_may_64 : decode cX7_may 64 = .ok (.iconst 0, 1) := by decide +kernel
theorem dX7_may_65 : decode cX7_may 65 = .ok (.iconst 5, 1) := by decide +kernel
theorem dX7_may_66 : decode cX7_may 66 = .ok (.invokestatic 86, 3) := by decide +kernel
theorem dX7_may_69 : decode cX7_may 69 = .ok (.ireturn, 1) := by decide +kernel
theorem dX7_may_70 : decode cX7_may 70 = .ok (.iload_n 1, 1) := by decide +kernel
theorem dX7_may_71 : decode cX7_may 71 = .ok (.iconst 1, 1) := by decide +kernel
theorem dX7_may_72 : decode cX7_may 72 = .ok (.bipush 20, 2) := by decide +kernel
theorem dX7_may_74 : decode cX7_may 74 = .ok (.invokestatic 86, 3) := by decide +kernel
theorem dX7_may_77 : decode cX7_may 77 = .ok (.ireturn, 1) := by decide +kernel
theorem dX7_may_78 : decode cX7_may 78 = .ok (.iload_n 1, 1) := by decide +kernel
theorem dX7_may_79 : decode cX7_may 79 = .ok (.iconst 0, 1) := by decide +kernel
theorem dX7_may_80 : decode cX7_may 80 = .ok (.bipush 20, 2) := by decide +kernel
theorem dX7_may_82 : decode cX7_may 82 = .ok (.invokestatic 86, 3) := by decide +kernel
theorem dX7_may_85 : decode cX7_may 85 = .ok (.ireturn, 1) := by decide +kernel
theorem dX7_may_86 : decode cX7_may 86 = .ok (.iload_n 1, 1) := by decide +kernel
theorem dX7_may_87 : decode cX7_may 87 = .ok (.iconst 0, 1) := by decide +kernel
theorem dX7_may_88 : decode cX7_may 88 = .ok (.iconst 1, 1) := by decide +kernel
theorem dX7_may_89 : decode cX7_may 89 = .ok (.invokestatic 86, 3) := by decide +kernel
theorem dX7_may_92 : decode cX7_may 92 = .ok (.ireturn, 1) := by decide +kernel
theorem dX7_isLeg_0 : decode cX7_isLeg 0 = .ok (.iload_n 0, 1) := by decide +kernel
theorem dX7_isLeg_1 : decode cX7_isLeg 1 = .ok (.iconst 0, 1) := by decide +kernel
theorem dX7_isLeg_2 : decode cX7_isLeg 2 = .ok (.iconst 2, 1) := by decide +kernel
theorem dX7_isLeg_3 : decode cX7_isLeg 3 = .ok (.invokestatic 86, 3) := by decide +kernel
theorem dX7_isLeg_6 : decode cX7_isLeg 6 = .ok (.ireturn, 1) := by decide +kernel
theorem dX7_sets_0 : decode cX7_sets 0 = .ok (.iload_n 1, 1) := by decide +kernel
theorem dX7_sets_1 : decode cX7_sets 1 = .ok (.iconst 0, 1) := by decide +kernel
theorem dX7_sets_2 : decode cX7_sets 2 = .ok (.bipush 6, 2) := by decide +kernel
theorem dX7_sets_4 : decode cX7_sets 4 = .ok (.invokestatic 86, 3) := by decide +kernel
theorem dX7_sets_7 : decode cX7_sets 7 = .ok (.ifCond .eq 11, 3) := by decide +kernel
theorem dX7_sets_10 : decode cX7_sets 10 = .ok (.iload_n 1, 1) := by decide +kernel
theorem dX7_sets_11 : decode cX7_sets 11 = .ok (.iload_n 2, 1) := by decide +kernel
theorem dX7_sets_12 : decode cX7_sets 12 = .ok (.invokestatic 90, 3) := by decide +kernel
theorem dX7_sets_15 : decode cX7_sets 15 = .ok (.ifCond .ne 8, 3) := by decide +kernel
theorem dX7_sets_18 : decode cX7_sets 18 = .ok (.aload_n 0, 1) := by decide +kernel
theorem dX7_sets_19 : decode cX7_sets 19 = .ok (.invokevirtual 94, 3) := by decide +kernel
theorem dX7_sets_22 : decode cX7_sets 22 = .ok (.ireturn, 1) := by decide +kernel
theorem dX7_sets_23 : decode cX7_sets 23 = .ok (.aload_n 0, 1) := by decide +kernel
theorem dX7_sets_24 : decode cX7_sets 24 = .ok (.getfield 13, 3) := by decide +kernel
theorem dX7_sets_27 : decode cX7_sets 27 = .ok (.iload_n 1, 1) := by decide +kernel
theorem dX7_sets_28 : decode cX7_sets 28 = .ok (.iaload, 1) := by decide +kernel
theorem dX7_sets_29 : decode cX7_sets 29 = .ok (.istore_n 3, 1) := by decide +kernel
theorem dX7_sets_30 : decode cX7_sets 30 = .ok (.aload_n 0, 1) := by decide +kernel
theorem dX7_sets_31 : decode cX7_sets 31 = .ok (.getfield 13, 3) := by decide +kernel
theorem dX7_sets_34 : decode cX7_sets 34 = .ok (.iload_n 1, 1) := by decide +kernel
theorem dX7_sets_35 : decode cX7_sets 35 = .ok (.iload_n 2, 1) := by decide +kernel
theorem dX7_sets_36 : decode cX7_sets 36 = .ok (.iastore, 1) := by decide +kernel
theorem dX7_sets_37 : decode cX7_sets 37 = .ok (.iload_n 3, 1) := by decide +kernel
theorem dX7_sets_38 : decode cX7_sets 38 = .ok (.ireturn, 1) := by decide +kernel
theorem dX7_leg_0 : decode cX7_leg 0 = .ok (.iload_n 1, 1) := by decide +kernel
theorem dX7_leg_1 : decode cX7_leg 1 = .ok (.invokestatic 98, 3) := by decide +kernel
theorem dX7_leg_4 : decode cX7_leg 4 = .ok (.ifCond .eq 45, 3) := by decide +kernel
theorem dX7_leg_7 : decode cX7_leg 7 = .ok (.iload_n 2, 1) := by decide +kernel
theorem dX7_leg_8 : decode cX7_leg 8 = .ok (.iconst 0, 1) := by decide +kernel
theorem dX7_leg_9 : decode cX7_leg 9 = .ok (.iconst 1, 1) := by decide +kernel
theorem dX7_leg_10 : decode cX7_leg 10 = .ok (.invokestatic 86, 3) := by decide +kernel
theorem dX7_leg_13 : decode cX7_leg 13 = .ok (.ifCond .eq 36, 3) := by decide +kernel
theorem dX7_leg_16 : decode cX7_leg 16 = .ok (.iload_n 3, 1) := by decide +kernel
theorem dX7_leg_17 : decode cX7_leg 17 = .ok (.iload_n 2, 1) := by decide +kernel
theorem dX7_leg_18 : decode cX7_leg 18 = .ok (.ifCond .ne 9, 3) := by decide +kernel
theorem dX7_leg_21 : decode cX7_leg 21 = .ok (.sipush (-200), 3) := by decide +kernel
theorem dX7_leg_24 : decode cX7_leg 24 = .ok (.goto 6, 3) := by decide +kernel
theorem dX7_leg_27 : decode cX7_leg 27 = .ok (.sipush (-999), 3) := by decide +kernel
theorem dX7_leg_30 : decode cX7_leg 30 = .ok (.iload_n 2, 1) := by decide +kernel
theorem dX7_leg_31 : decode cX7_leg 31 = .ok (.ifCond .ne 9, 3) := by decide +kernel
theorem dX7_leg_34 : decode cX7_leg 34 = .ok (.sipush 200, 3) := by decide +kernel
theorem dX7_leg_37 : decode cX7_leg 37 = .ok (.goto 6, 3) := by decide +kernel
theorem dX7_leg_40 : decode cX7_leg 40 = .ok (.sipush 999, 3) := by decide +kernel
theorem dX7_leg_43 : decode cX7_leg 43 = .ok (.invokestatic 86, 3) := by decide +kernel
theorem dX7_leg_46 : decode cX7_leg 46 = .ok (.ifCond .ne 8, 3) := by decide +kernel
theorem dX7_leg_49 : decode cX7_leg 49 = .ok (.aload_n 0, 1) := by decide +kernel
theorem dX7_leg_50 : decode cX7_leg 50 = .ok (.invokevirtual 94, 3) := by decide +kernel
theorem dX7_leg_53 : decode cX7_leg 53 = .ok (.ireturn, 1) := by decide +kernel
theorem dX7_leg_54 : decode cX7_leg 54 = .ok (.iload_n 2, 1) := by decide +kernel
theorem dX7_leg_55 : decode cX7_leg 55 = .ok (.ifCond .ne 12, 3) := by decide +kernel
theorem dX7_leg_58 : decode cX7_leg 58 = .ok (.aload_n 0, 1) := by decide +kernel
theorem dX7_leg_59 : decode cX7_leg 59 = .ok (.getfield 19, 3) := by decide +kernel
theorem dX7_leg_62 : decode cX7_leg 62 = .ok (.iload_n 1, 1) := by decide +kernel
theorem dX7_leg_63 : decode cX7_leg 63 = .ok (.iaload, 1) := by decide +kernel
theorem dX7_leg_64 : decode cX7_leg 64 = .ok (.goto 9, 3) := by decide +kernel
theorem dX7_leg_67 : decode cX7_leg 67 = .ok (.aload_n 0, 1) := by decide +kernel
theorem dX7_leg_68 : decode cX7_leg 68 = .ok (.getfield 16, 3) := by decide +kernel
theorem dX7_leg_71 : decode cX7_leg 71 = .ok (.iload_n 1, 1) := by decide +kernel
theorem dX7_leg_72 : decode cX7_leg 72 = .ok (.iaload, 1) := by decide +kernel
theorem dX7_leg_73 : decode cX7_leg 73 = .ok (.istore 4, 2) := by decide +kernel
theorem dX7_leg_75 : decode cX7_leg 75 = .ok (.aload_n 0, 1) := by decide +kernel
theorem dX7_leg_76 : decode cX7_leg 76 = .ok (.getfield 19, 3) := by decide +kernel
theorem dX7_leg_79 : decode cX7_leg 79 = .ok (.iload_n 1, 1) := by decide +kernel
theorem dX7_leg_80 : decode cX7_leg 80 = .ok (.iload_n 2, 1) := by decide +kernel
theorem dX7_leg_81 : decode cX7_leg 81 = .ok (.ifCond .ne 7, 3) := by decide +kernel
theorem dX7_leg_84 : decode cX7_leg 84 = .ok (.iload_n 3, 1) := by decide +kernel
theorem dX7_leg_85 : decode cX7_leg 85 = .ok (.goto 9, 3) := by decide +kernel
theorem dX7_leg_88 : decode cX7_leg 88 = .ok (.aload_n 0, 1) := by decide +kernel
theorem dX7_leg_89 : decode cX7_leg 89 = .ok (.getfield 19, 3) := by decide +kernel
theorem dX7_leg_92 : decode cX7_leg 92 = .ok (.iload_n 1, 1) := by decide +kernel
theorem dX7_leg_93 : decode cX7_leg 93 = .ok (.iaload, 1) := by decide +kernel
theorem dX7_leg_94 : decode cX7_leg 94 = .ok (.iastore, 1) := by decide +kernel
theorem dX7_leg_95 : decode cX7_leg 95 = .ok (.aload_n 0, 1) := by decide +kernel
theorem dX7_leg_96 : decode cX7_leg 96 = .ok (.getfield 16, 3) := by decide +kernel
theorem dX7_leg_99 : decode cX7_leg 99 = .ok (.iload_n 1, 1) := by decide +kernel
theorem dX7_leg_100 : decode cX7_leg 100 = .ok (.iload_n 2, 1) := by decide +kernel
theorem dX7_leg_101 : decode cX7_leg 101 = .ok (.iconst 1, 1) := by decide +kernel
theorem dX7_leg_102 : decode cX7_leg 102 = .ok (.if_icmp .ne 7, 3) := by decide +kernel
theorem dX7_leg_105 : decode cX7_leg 105 = .ok (.iload_n 3, 1) := by decide +kernel
theorem dX7_leg_106 : decode cX7_leg 106 = .ok (.goto 9, 3) := by decide +kernel
theorem dX7_leg_109 : decode cX7_leg 109 = .ok (.aload_n 0, 1) := by decide +kernel
theorem dX7_leg_110 : decode cX7_leg 110 = .ok (.getfield 16, 3) := by decide +kernel
theorem dX7_leg_113 : decode cX7_leg 113 = .ok (.iload_n 1, 1) := by decide +kernel
theorem dX7_leg_114 : decode cX7_leg 114 = .ok (.iaload, 1) := by decide +kernel
theorem dX7_leg_115 : decode cX7_leg 115 = .ok (.iastore, 1) := by decide +kernel
theorem dX7_leg_116 : decode cX7_leg 116 = .ok (.iload 4, 2) := by decide +kernel
theorem dX7_leg_118 : decode cX7_leg 118 = .ok (.ireturn, 1) := by decide +kernel
theorem dX7_anew_0 : decode cX7_anew 0 = .ok (.aload_n 0, 1) := by decide +kernel
theorem dX7_anew_1 : decode cX7_anew 1 = .ok (.getfield 76, 3) := by decide +kernel
theorem dX7_anew_4 : decode cX7_anew 4 = .ok (.istore_n 1, 1) := by decide +kernel
theorem dX7_anew_5 : decode cX7_anew 5 = .ok (.aload_n 0, 1) := by decide +kernel
theorem dX7_anew_6 : decode cX7_anew 6 = .ok (.invokevirtual 73, 3) := by decide +kernel
theorem dX7_anew_9 : decode cX7_anew 9 = .ok (.iload_n 1, 1) := by decide +kernel
theorem dX7_anew_10 : decode cX7_anew 10 = .ok (.ireturn, 1) := by decide +kernel
theorem dX7_draw_0 : decode cX7_draw 0 = .ok (.iload_n 1, 1) := by decide +kernel
theorem dX7_draw_1 : decode cX7_draw 1 = .ok (.iconst 0, 1) := by decide +kernel
theorem dX7_draw_2 : decode cX7_draw 2 = .ok (.ldc 102, 2) := by decide +kernel
theorem dX7_draw_4 : decode cX7_draw 4 = .ok (.invokestatic 86, 3) := by decide +kernel
theorem dX7_draw_7 : decode cX7_draw 7 = .ok (.ifCond .ne 8, 3) := by decide +kernel
theorem dX7_draw_10 : decode cX7_draw 10 = .ok (.aload_n 0, 1) := by decide +kernel
theorem dX7_draw_11 : decode cX7_draw 11 = .ok (.invokevirtual 94, 3) := by decide +kernel
theorem dX7_draw_14 : decode cX7_draw 14 = .ok (.ireturn, 1) := by decide +kernel
theorem dX7_draw_15 : decode cX7_draw 15 = .ok (.iload_n 1, 1) := by decide +kernel
theorem dX7_draw_16 : decode cX7_draw 16 = .ok (.i2l, 1) := by decide +kernel
theorem dX7_draw_17 : decode cX7_draw 17 = .ok (.lstore_n 2, 1) := by decide +kernel
theorem dX7_draw_18 : decode cX7_draw 18 = .ok (.iconst 0, 1) := by decide +kernel
theorem dX7_draw_19 : decode cX7_draw 19 = .ok (.istore 4, 2) := by decide +kernel
theorem dX7_draw_21 : decode cX7_draw 21 = .ok (.iload 4, 2) := by decide +kernel
theorem dX7_draw_23 : decode cX7_draw 23 = .ok (.iconst 3, 1) := by decide +kernel
theorem dX7_draw_24 : decode cX7_draw 24 = .ok (.if_icmp .ge 64, 3) := by decide +kernel
theorem dX7_draw_27 : decode cX7_draw 27 = .ok (.lload_n 2, 1) := by decide +kernel
theorem dX7_draw_28 : decode cX7_draw 28 = .ok (.ldc2_w 103, 3) := by decide +kernel
theorem dX7_draw_31 : decode cX7_draw 31 = .ok (.lmul, 1) := by decide +kernel
theorem dX7_draw_32 : decode cX7_draw 32 = .ok (.ldc2_w 105, 3) := by decide +kernel
theorem dX7_draw_35 : decode cX7_draw 35 = .ok (.ladd, 1) := by decide +kernel
theorem dX7_draw_36 : decode cX7_draw 36 = .ok (.ldc2_w 107, 3) := by decide +kernel
theorem dX7_draw_39 : decode cX7_draw 39 = .ok (.lrem, 1) := by decide +kernel
theorem dX7_draw_40 : decode cX7_draw 40 = .ok (.lstore_n 2, 1) := by decide +kernel
theorem dX7_draw_41 : decode cX7_draw 41 = .ok (.aload_n 0, 1) := by decide +kernel
theorem dX7_draw_42 : decode cX7_draw 42 = .ok (.getfield 19, 3) := by decide +kernel
theorem dX7_draw_45 : decode cX7_draw 45 = .ok (.iload 4, 2) := by decide +kernel
theorem dX7_draw_47 : decode cX7_draw 47 = .ok (.lload_n 2, 1) := by decide +kernel
theorem dX7_draw_48 : decode cX7_draw 48 = .ok (.ldc2_w 109, 3) := by decide +kernel
theorem dX7_draw_51 : decode cX7_draw 51 = .ok (.ldiv, 1) := by decide +kernel
theorem dX7_draw_52 : decode cX7_draw 52 = .ok (.ldc2_w 111, 3) := by decide +kernel
theorem dX7_draw_55 : decode cX7_draw 55 = .ok (.lrem, 1) := by decide +kernel
theorem dX7_draw_56 : decode cX7_draw 56 = .ok (.l2i, 1) := by decide +kernel
theorem dX7_draw_57 : decode cX7_draw 57 = .ok (.bipush 100, 2) := by decide +kernel
theorem dX7_draw_59 : decode cX7_draw 59 = .ok (.isub, 1) := by decide +kernel
theorem dX7_draw_60 : decode cX7_draw 60 = .ok (.iastore, 1) := by decide +kernel
theorem dX7_draw_61 : decode cX7_draw 61 = .ok (.aload_n 0, 1) := by decide +kernel
theorem dX7_draw_62 : decode cX7_draw 62 = .ok (.getfield 16, 3) := by decide +kernel
theorem dX7_draw_65 : decode cX7_draw 65 = .ok (.iload 4, 2) := by decide +kernel
theorem dX7_draw_67 : decode cX7_draw 67 = .ok (.lload_n 2, 1) := by decide +kernel
theorem dX7_draw_68 : decode cX7_draw 68 = .ok (.ldc2_w 113, 3) := by decide +kernel
theorem dX7_draw_71 : decode cX7_draw 71 = .ok (.ldiv, 1) := by decide +kernel
theorem dX7_draw_72 : decode cX7_draw 72 = .ok (.ldc2_w 115, 3) := by decide +kernel
theorem dX7_draw_75 : decode cX7_draw 75 = .ok (.lrem, 1) := by decide +kernel
theorem dX7_draw_76 : decode cX7_draw 76 = .ok (.l2i, 1) := by decide +kernel
theorem dX7_draw_77 : decode cX7_draw 77 = .ok (.sipush 200, 3) := by decide +kernel
theorem dX7_draw_80 : decode cX7_draw 80 = .ok (.isub, 1) := by decide +kernel
theorem dX7_draw_81 : decode cX7_draw 81 = .ok (.iastore, 1) := by decide +kernel
theorem dX7_draw_82 : decode cX7_draw 82 = .ok (.iinc 4 1, 3) := by decide +kernel
theorem dX7_draw_85 : decode cX7_draw 85 = .ok (.goto (-64), 3) := by decide +kernel
theorem dX7_draw_88 : decode cX7_draw 88 = .ok (.aload_n 0, 1) := by decide +kernel
theorem dX7_draw_89 : decode cX7_draw 89 = .ok (.invokevirtual 117, 3) := by decide +kernel
theorem dX7_draw_92 : decode cX7_draw 92 = .ok (.aload_n 0, 1) := by decide +kernel
theorem dX7_draw_93 : decode cX7_draw 93 = .ok (.getfield 120, 3) := by decide +kernel
theorem dX7_draw_96 : decode cX7_draw 96 = .ok (.ireturn, 1) := by decide +kernel
theorem dX7_greatest_0 : decode cX7_greatest 0 = .ok (.aload_n 0, 1) := by decide +kernel
theorem dX7_greatest_1 : decode cX7_greatest 1 = .ok (.iconst 0, 1) := by decide +kernel
theorem dX7_greatest_2 : decode cX7_greatest 2 = .ok (.iaload, 1) := by decide +kernel
theorem dX7_greatest_3 : decode cX7_greatest 3 = .ok (.aload_n 0, 1) := by decide +kernel
theorem dX7_greatest_4 : decode cX7_greatest 4 = .ok (.iconst 1, 1) := by decide +kernel
theorem dX7_greatest_5 : decode cX7_greatest 5 = .ok (.iaload, 1) := by decide +kernel
theorem dX7_greatest_6 : decode cX7_greatest 6 = .ok (.if_icmp .le 9, 3) := by decide +kernel
theorem dX7_greatest_9 : decode cX7_greatest 9 = .ok (.aload_n 0, 1) := by decide +kernel
theorem dX7_greatest_10 : decode cX7_greatest 10 = .ok (.iconst 0, 1) := by decide +kernel
theorem dX7_greatest_11 : decode cX7_greatest 11 = .ok (.iaload, 1) := by decide +kernel
theorem dX7_greatest_12 : decode cX7_greatest 12 = .ok (.goto 6, 3) := by decide +kernel
theorem dX7_greatest_15 : decode cX7_greatest 15 = .ok (.aload_n 0, 1) := by decide +kernel
theorem dX7_greatest_16 : decode cX7_greatest 16 = .ok (.iconst 1, 1) := by decide +kernel
theorem dX7_greatest_17 : decode cX7_greatest 17 = .ok (.iaload, 1) := by decide +kernel
theorem dX7_greatest_18 : decode cX7_greatest 18 = .ok (.istore_n 1, 1) := by decide +kernel
theorem dX7_greatest_19 : decode cX7_greatest 19 = .ok (.iload_n 1, 1) := by decide +kernel
theorem dX7_greatest_20 : decode cX7_greatest 20 = .ok (.aload_n 0, 1) := by decide +kernel
theorem dX7_greatest_21 : decode cX7_greatest 21 = .ok (.iconst 2, 1) := by decide +kernel
theorem dX7_greatest_22 : decode cX7_greatest 22 = .ok (.iaload, 1) := by decide +kernel
theorem dX7_greatest_23 : decode cX7_greatest 23 = .ok (.if_icmp .le 7, 3) := by decide +kernel
theorem dX7_greatest_26 : decode cX7_greatest 26 = .ok (.iload_n 1, 1) := by decide +kernel
theorem dX7_greatest_27 : decode cX7_greatest 27 = .ok (.goto 6, 3) := by decide +kernel
theorem dX7_greatest_30 : decode cX7_greatest 30 = .ok (.aload_n 0, 1) := by decide +kernel
theorem dX7_greatest_31 : decode cX7_greatest 31 = .ok (.iconst 2, 1) := by decide +kernel
theorem dX7_greatest_32 : decode cX7_greatest 32 = .ok (.iaload, 1) := by decide +kernel
theorem dX7_greatest_33 : decode cX7_greatest 33 = .ok (.ireturn, 1) := by decide +kernel
theorem dX7_least_0 : decode cX7_least 0 = .ok (.aload_n 0, 1) := by decide +kernel
theorem dX7_least_1 : decode cX7_least 1 = .ok (.iconst 0, 1) := by decide +kernel
theorem dX7_least_2 : decode cX7_least 2 = .ok (.iaload, 1) := by decide +kernel
end
section
theorem dX7_least_3 : decode cX7_least 3 = .ok (.aload_n 0, 1) := by decide +kernel
theorem dX7_least_4 : decode cX7_least 4 = .ok (.iconst 1, 1) := by decide +kernel
theorem dX7_least_5 : decode cX7_least 5 = .ok (.iaload, 1) := by decide +kernel
theorem dX7_least_6 : decode cX7_least 6 = .ok (.if_icmp .ge 9, 3) := by decide +kernel
theorem dX7_least_9 : decode cX7_least 9 = .ok (.aload_n 0, 1) := by decide +kernel
theorem dX7_least_10 : decode cX7_least 10 = .ok (.iconst 0, 1) := by decide +kernel
theorem dX7_least_11 : decode cX7_least 11 = .ok (.iaload, 1) := by decide +kernel
theorem dX7_least_12 : decode cX7_least 12 = .ok (.goto 6, 3) := by decide +kernel
theorem dX7_least_15 : decode cX7_least 15 = .ok (.aload_n 0, 1) := by decide +kernel
theorem dX7_least_16 : decode cX7_least 16 = .ok (.iconst 1, 1) := by decide +kernel
theorem dX7_least_17 : decode cX7_least 17 = .ok (.iaload, 1) := by decide +kernel
theorem dX7_least_18 : decode cX7_least 18 = .ok (.istore_n 1, 1) := by decide +kernel
theorem dX7_least_19 : decode cX7_least 19 = .ok (.iload_n 1, 1) := by decide +kernel
theorem dX7_least_20 : decode cX7_least 20 = .ok (.aload_n 0, 1) := by decide +kernel
theorem dX7_least_21 : decode cX7_least 21 = .ok (.iconst 2, 1) := by decide +kernel
theorem dX7_least_22 : decode cX7_least 22 = .ok (.iaload, 1) := by decide +kernel
theorem dX7_least_23 : decode cX7_least 23 = .ok (.if_icmp .ge 7, 3) := by decide +kernel
theorem dX7_least_26 : decode cX7_least 26 = .ok (.iload_n 1, 1) := by decide +kernel
theorem dX7_least_27 : decode cX7_least 27 = .ok (.goto 6, 3) := by decide +kernel
theorem dX7_least_30 : decode cX7_least 30 = .ok (.aload_n 0, 1) := by decide +kernel
theorem dX7_least_31 : decode cX7_least 31 = .ok (.iconst 2, 1) := by decide +kernel
theorem dX7_least_32 : decode cX7_least 32 = .ok (.iaload, 1) := by decide +kernel
theorem dX7_least_33 : decode cX7_least 33 = .ok (.ireturn, 1) := by decide +kernel
theorem dX7_setPlan_0 : decode cX7_setPlan 0 = .ok (.aload_n 0, 1) := by decide +kernel
theorem dX7_setPlan_1 : decode cX7_setPlan 1 = .ok (.getfield 13, 3) := by decide +kernel
theorem dX7_setPlan_4 : decode cX7_setPlan 4 = .ok (.iconst 0, 1) := by decide +kernel
theorem dX7_setPlan_5 : decode cX7_setPlan 5 = .ok (.iaload, 1) := by decide +kernel
theorem dX7_setPlan_6 : decode cX7_setPlan 6 = .ok (.istore_n 1, 1) := by decide +kernel
theorem dX7_setPlan_7 : decode cX7_setPlan 7 = .ok (.aload_n 0, 1) := by decide +kernel
theorem dX7_setPlan_8 : decode cX7_setPlan 8 = .ok (.aload_n 0, 1) := by decide +kernel
theorem dX7_setPlan_9 : decode cX7_setPlan 9 = .ok (.getfield 19, 3) := by decide +kernel
theorem dX7_setPlan_12 : decode cX7_setPlan 12 = .ok (.invokestatic 123, 3) := by decide +kernel
theorem dX7_setPlan_15 : decode cX7_setPlan 15 = .ok (.aload_n 0, 1) := by decide +kernel
theorem dX7_setPlan_16 : decode cX7_setPlan 16 = .ok (.getfield 19, 3) := by decide +kernel
theorem dX7_setPlan_19 : decode cX7_setPlan 19 = .ok (.invokestatic 127, 3) := by decide +kernel
theorem dX7_setPlan_22 : decode cX7_setPlan 22 = .ok (.isub, 1) := by decide +kernel
theorem dX7_setPlan_23 : decode cX7_setPlan 23 = .ok (.putfield 120, 3) := by decide +kernel
theorem dX7_setPlan_26 : decode cX7_setPlan 26 = .ok (.aload_n 0, 1) := by decide +kernel
theorem dX7_setPlan_27 : decode cX7_setPlan 27 = .ok (.aload_n 0, 1) := by decide +kernel
theorem dX7_setPlan_28 : decode cX7_setPlan 28 = .ok (.getfield 120, 3) := by decide +kernel
theorem dX7_setPlan_31 : decode cX7_setPlan 31 = .ok (.iload_n 1, 1) := by decide +kernel
theorem dX7_setPlan_32 : decode cX7_setPlan 32 = .ok (.if_icmp .le 7, 3) := by decide +kernel
theorem dX7_setPlan_35 : decode cX7_setPlan 35 = .ok (.iconst 1, 1) := by decide +kernel
theorem dX7_setPlan_36 : decode cX7_setPlan 36 = .ok (.goto 4, 3) := by decide +kernel
theorem dX7_setPlan_39 : decode cX7_setPlan 39 = .ok (.iconst 0, 1) := by decide +kernel
theorem dX7_setPlan_40 : decode cX7_setPlan 40 = .ok (.putfield 130, 3) := by decide +kernel
theorem dX7_setPlan_43 : decode cX7_setPlan 43 = .ok (.iconst 0, 1) := by decide +kernel
theorem dX7_setPlan_44 : decode cX7_setPlan 44 = .ok (.istore_n 2, 1) := by decide +kernel
theorem dX7_setPlan_45 : decode cX7_setPlan 45 = .ok (.iload_n 2, 1) := by decide +kernel
theorem dX7_setPlan_46 : decode cX7_setPlan 46 = .ok (.iconst 3, 1) := by decide +kernel
theorem dX7_setPlan_47 : decode cX7_setPlan 47 = .ok (.if_icmp .ge 44, 3) := by decide +kernel
theorem dX7_setPlan_50 : decode cX7_setPlan 50 = .ok (.aload_n 0, 1) := by decide +kernel
theorem dX7_setPlan_51 : decode cX7_setPlan 51 = .ok (.getfield 49, 3) := by decide +kernel
theorem dX7_setPlan_54 : decode cX7_setPlan 54 = .ok (.iload_n 2, 1) := by decide +kernel
theorem dX7_setPlan_55 : decode cX7_setPlan 55 = .ok (.aload_n 0, 1) := by decide +kernel
theorem dX7_setPlan_56 : decode cX7_setPlan 56 = .ok (.getfield 130, 3) := by decide +kernel
theorem dX7_setPlan_59 : decode cX7_setPlan 59 = .ok (.ifCond .eq 19, 3) := by decide +kernel
theorem dX7_setPlan_62 : decode cX7_setPlan 62 = .ok (.aload_n 0, 1) := by decide +kernel
theorem dX7_setPlan_63 : decode cX7_setPlan 63 = .ok (.getfield 19, 3) := by decide +kernel
theorem dX7_setPlan_66 : decode cX7_setPlan 66 = .ok (.iload_n 2, 1) := by decide +kernel
theorem dX7_setPlan_67 : decode cX7_setPlan 67 = .ok (.iaload, 1) := by decide +kernel
theorem dX7_setPlan_68 : decode cX7_setPlan 68 = .ok (.iload_n 1, 1) := by decide +kernel
theorem dX7_setPlan_69 : decode cX7_setPlan 69 = .ok (.imul, 1) := by decide +kernel
theorem dX7_setPlan_70 : decode cX7_setPlan 70 = .ok (.aload_n 0, 1) := by decide +kernel
theorem dX7_setPlan_71 : decode cX7_setPlan 71 = .ok (.getfield 120, 3) := by decide +kernel
theorem dX7_setPlan_74 : decode cX7_setPlan 74 = .ok (.idiv, 1) := by decide +kernel
theorem dX7_setPlan_75 : decode cX7_setPlan 75 = .ok (.goto 9, 3) := by decide +kernel
theorem dX7_setPlan_78 : decode cX7_setPlan 78 = .ok (.aload_n 0, 1) := by decide +kernel
theorem dX7_setPlan_79 : decode cX7_setPlan 79 = .ok (.getfield 19, 3) := by decide +kernel
theorem dX7_setPlan_82 : decode cX7_setPlan 82 = .ok (.iload_n 2, 1) := by decide +kernel
theorem dX7_setPlan_83 : decode cX7_setPlan 83 = .ok (.iaload, 1) := by decide +kernel
theorem dX7_setPlan_84 : decode cX7_setPlan 84 = .ok (.iastore, 1) := by decide +kernel
theorem dX7_setPlan_85 : decode cX7_setPlan 85 = .ok (.iinc 2 1, 3) := by decide +kernel
theorem dX7_setPlan_88 : decode cX7_setPlan 88 = .ok (.goto (-43), 3) := by decide +kernel
theorem dX7_setPlan_91 : decode cX7_setPlan 91 = .ok (.aload_n 0, 1) := by decide +kernel
theorem dX7_setPlan_92 : decode cX7_setPlan 92 = .ok (.getfield 49, 3) := by decide +kernel
theorem dX7_setPlan_95 : decode cX7_setPlan 95 = .ok (.invokestatic 123, 3) := by decide +kernel
theorem dX7_setPlan_98 : decode cX7_setPlan 98 = .ok (.aload_n 0, 1) := by decide +kernel
theorem dX7_setPlan_99 : decode cX7_setPlan 99 = .ok (.getfield 49, 3) := by decide +kernel
theorem dX7_setPlan_102 : decode cX7_setPlan 102 = .ok (.invokestatic 127, 3) := by decide +kernel
theorem dX7_setPlan_105 : decode cX7_setPlan 105 = .ok (.iadd, 1) := by decide +kernel
theorem dX7_setPlan_106 : decode cX7_setPlan 106 = .ok (.istore_n 2, 1) := by decide +kernel
theorem dX7_setPlan_107 : decode cX7_setPlan 107 = .ok (.iconst 0, 1) := by decide +kernel
theorem dX7_setPlan_108 : decode cX7_setPlan 108 = .ok (.istore_n 3, 1) := by decide +kernel
theorem dX7_setPlan_109 : decode cX7_setPlan 109 = .ok (.iload_n 3, 1) := by decide +kernel
theorem dX7_setPlan_110 : decode cX7_setPlan 110 = .ok (.iconst 3, 1) := by decide +kernel
theorem dX7_setPlan_111 : decode cX7_setPlan 111 = .ok (.if_icmp .ge 125, 3) := by decide +kernel
theorem dX7_setPlan_114 : decode cX7_setPlan 114 = .ok (.aload_n 0, 1) := by decide +kernel
theorem dX7_setPlan_115 : decode cX7_setPlan 115 = .ok (.getfield 40, 3) := by decide +kernel
theorem dX7_setPlan_118 : decode cX7_setPlan 118 = .ok (.iload_n 3, 1) := by decide +kernel
theorem dX7_setPlan_119 : decode cX7_setPlan 119 = .ok (.iload_n 1, 1) := by decide +kernel
theorem dX7_setPlan_120 : decode cX7_setPlan 120 = .ok (.iconst 2, 1) := by decide +kernel
theorem dX7_setPlan_121 : decode cX7_setPlan 121 = .ok (.aload_n 0, 1) := by decide +kernel
theorem dX7_setPlan_122 : decode cX7_setPlan 122 = .ok (.getfield 49, 3) := by decide +kernel
theorem dX7_setPlan_125 : decode cX7_setPlan 125 = .ok (.iload_n 3, 1) := by decide +kernel
theorem dX7_setPlan_126 : decode cX7_setPlan 126 = .ok (.iaload, 1) := by decide +kernel
theorem dX7_setPlan_127 : decode cX7_setPlan 127 = .ok (.imul, 1) := by decide +kernel
theorem dX7_setPlan_128 : decode cX7_setPlan 128 = .ok (.iadd, 1) := by decide +kernel
theorem dX7_setPlan_129 : decode cX7_setPlan 129 = .ok (.iload_n 2, 1) := by decide +kernel
theorem dX7_setPlan_130 : decode cX7_setPlan 130 = .ok (.isub, 1) := by decide +kernel
theorem dX7_setPlan_131 : decode cX7_setPlan 131 = .ok (.iconst 2, 1) := by decide +kernel
theorem dX7_setPlan_132 : decode cX7_setPlan 132 = .ok (.idiv, 1) := by decide +kernel
theorem dX7_setPlan_133 : decode cX7_setPlan 133 = .ok (.iload_n 1, 1) := by decide +kernel
theorem dX7_setPlan_134 : decode cX7_setPlan 134 = .ok (.invokestatic 134, 3) := by decide +kernel
theorem dX7_setPlan_137 : decode cX7_setPlan 137 = .ok (.iastore, 1) := by decide +kernel
theorem dX7_setPlan_138 : decode cX7_setPlan 138 = .ok (.aload_n 0, 1) := by decide +kernel
theorem dX7_setPlan_139 : decode cX7_setPlan 139 = .ok (.getfield 13, 3) := by decide +kernel
theorem dX7_setPlan_142 : decode cX7_setPlan 142 = .ok (.iconst 2, 1) := by decide +kernel
theorem dX7_setPlan_143 : decode cX7_setPlan 143 = .ok (.iaload, 1) := by decide +kernel
theorem dX7_setPlan_144 : decode cX7_setPlan 144 = .ok (.ifCond .eq 12, 3) := by decide +kernel
theorem dX7_setPlan_147 : decode cX7_setPlan 147 = .ok (.aload_n 0, 1) := by decide +kernel
theorem dX7_setPlan_148 : decode cX7_setPlan 148 = .ok (.getfield 16, 3) := by decide +kernel
theorem dX7_setPlan_151 : decode cX7_setPlan 151 = .ok (.iload_n 3, 1) := by decide +kernel
theorem dX7_setPlan_152 : decode cX7_setPlan 152 = .ok (.iaload, 1) := by decide +kernel
theorem dX7_setPlan_153 : decode cX7_setPlan 153 = .ok (.ifCond .ne 7, 3) := by decide +kernel
theorem dX7_setPlan_156 : decode cX7_setPlan 156 = .ok (.iconst 0, 1) := by decide +kernel
theorem dX7_setPlan_157 : decode cX7_setPlan 157 = .ok (.goto 28, 3) := by decide +kernel
theorem dX7_setPlan_160 : decode cX7_setPlan 160 = .ok (.aload_n 0, 1) := by decide +kernel
theorem dX7_setPlan_161 : decode cX7_setPlan 161 = .ok (.getfield 16, 3) := by decide +kernel
theorem dX7_setPlan_164 : decode cX7_setPlan 164 = .ok (.iload_n 3, 1) := by decide +kernel
theorem dX7_setPlan_165 : decode cX7_setPlan 165 = .ok (.iaload, 1) := by decide +kernel
theorem dX7_setPlan_166 : decode cX7_setPlan 166 = .ok (.ifCond .le 12, 3) := by decide +kernel
theorem dX7_setPlan_169 : decode cX7_setPlan 169 = .ok (.aload_n 0, 1) := by decide +kernel
theorem dX7_setPlan_170 : decode cX7_setPlan 170 = .ok (.getfield 13, 3) := by decide +kernel
theorem dX7_setPlan_173 : decode cX7_setPlan 173 = .ok (.iconst 1, 1) := by decide +kernel
theorem dX7_setPlan_174 : decode cX7_setPlan 174 = .ok (.iaload, 1) := by decide +kernel
theorem dX7_setPlan_175 : decode cX7_setPlan 175 = .ok (.goto 10, 3) := by decide +kernel
theorem dX7_setPlan_178 : decode cX7_setPlan 178 = .ok (.aload_n 0, 1) := by decide +kernel
theorem dX7_setPlan_179 : decode cX7_setPlan 179 = .ok (.getfield 13, 3) := by decide +kernel
theorem dX7_setPlan_182 : decode cX7_setPlan 182 = .ok (.iconst 1, 1) := by decide +kernel
theorem dX7_setPlan_183 : decode cX7_setPlan 183 = .ok (.iaload, 1) := by decide +kernel
theorem dX7_setPlan_184 : decode cX7_setPlan 184 = .ok (.ineg, 1) := by decide +kernel
theorem dX7_setPlan_185 : decode cX7_setPlan 185 = .ok (.istore 4, 2) := by decide +kernel
theorem dX7_setPlan_187 : decode cX7_setPlan 187 = .ok (.aload_n 0, 1) := by decide +kernel
theorem dX7_setPlan_188 : decode cX7_setPlan 188 = .ok (.getfield 43, 3) := by decide +kernel
theorem dX7_setPlan_191 : decode cX7_setPlan 191 = .ok (.iload_n 3, 1) := by decide +kernel
theorem dX7_setPlan_192 : decode cX7_setPlan 192 = .ok (.iload_n 1, 1) := by decide +kernel
theorem dX7_setPlan_193 : decode cX7_setPlan 193 = .ok (.iconst 2, 1) := by decide +kernel
theorem dX7_setPlan_194 : decode cX7_setPlan 194 = .ok (.aload_n 0, 1) := by decide +kernel
theorem dX7_setPlan_195 : decode cX7_setPlan 195 = .ok (.getfield 49, 3) := by decide +kernel
theorem dX7_setPlan_198 : decode cX7_setPlan 198 = .ok (.iload_n 3, 1) := by decide +kernel
theorem dX7_setPlan_199 : decode cX7_setPlan 199 = .ok (.iaload, 1) := by decide +kernel
theorem dX7_setPlan_200 : decode cX7_setPlan 200 = .ok (.imul, 1) := by decide +kernel
theorem dX7_setPlan_201 : decode cX7_setPlan 201 = .ok (.iadd, 1) := by decide +kernel
theorem dX7_setPlan_202 : decode cX7_setPlan 202 = .ok (.iload_n 2, 1) := by decide +kernel
theorem dX7_setPlan_203 : decode cX7_setPlan 203 = .ok (.isub, 1) := by decide +kernel
theorem dX7_setPlan_204 : decode cX7_setPlan 204 = .ok (.iconst 2, 1) := by decide +kernel
theorem dX7_setPlan_205 : decode cX7_setPlan 205 = .ok (.idiv, 1) := by decide +kernel
theorem dX7_setPlan_206 : decode cX7_setPlan 206 = .ok (.iload 4, 2) := by decide +kernel
theorem dX7_setPlan_208 : decode cX7_setPlan 208 = .ok (.iadd, 1) := by decide +kernel
theorem dX7_setPlan_209 : decode cX7_setPlan 209 = .ok (.iload_n 1, 1) := by decide +kernel
theorem dX7_setPlan_210 : decode cX7_setPlan 210 = .ok (.invokestatic 134, 3) := by decide +kernel
theorem dX7_setPlan_213 : decode cX7_setPlan 213 = .ok (.iastore, 1) := by decide +kernel
theorem dX7_setPlan_214 : decode cX7_setPlan 214 = .ok (.aload_n 0, 1) := by decide +kernel
theorem dX7_setPlan_215 : decode cX7_setPlan 215 = .ok (.getfield 46, 3) := by decide +kernel
theorem dX7_setPlan_218 : decode cX7_setPlan 218 = .ok (.iload_n 3, 1) := by decide +kernel
theorem dX7_setPlan_219 : decode cX7_setPlan 219 = .ok (.iload_n 1, 1) := by decide +kernel
theorem dX7_setPlan_220 : decode cX7_setPlan 220 = .ok (.aload_n 0, 1) := by decide +kernel
theorem dX7_setPlan_221 : decode cX7_setPlan 221 = .ok (.getfield 43, 3) := by decide +kernel
theorem dX7_setPlan_224 : decode cX7_setPlan 224 = .ok (.iload_n 3, 1) := by decide +kernel
theorem dX7_setPlan_225 : decode cX7_setPlan 225 = .ok (.iaload, 1) := by decide +kernel
theorem dX7_setPlan_226 : decode cX7_setPlan 226 = .ok (.isub, 1) := by decide +kernel
theorem dX7_setPlan_227 : decode cX7_setPlan 227 = .ok (.iconst 2, 1) := by decide +kernel
theorem dX7_setPlan_228 : decode cX7_setPlan 228 = .ok (.idiv, 1) := by decide +kernel
theorem dX7_setPlan_229 : decode cX7_setPlan 229 = .ok (.iastore, 1) := by decide +kernel
theorem dX7_setPlan_230 : decode cX7_setPlan 230 = .ok (.iinc 3 1, 3) := by decide +kernel
theorem dX7_setPlan_233 : decode cX7_setPlan 233 = .ok (.goto (-124), 3) := by decide +kernel
theorem dX7_setPlan_236 : decode cX7_setPlan 236 = .ok (.return_, 1) := by decide +kernel
theorem dX7_bound_0 : decode cX7_bound 0 = .ok (.iload_n 0, 1) := by decide +kernel
theorem dX7_bound_1 : decode cX7_bound 1 = .ok (.ifCond .ge 7, 3) := by decide +kernel
theorem dX7_bound_4 : decode cX7_bound 4 = .ok (.iconst 0, 1) := by decide +kernel
theorem dX7_bound_5 : decode cX7_bound 5 = .ok (.goto 13, 3) := by decide +kernel
theorem dX7_bound_8 : decode cX7_bound 8 = .ok (.iload_n 0, 1) := by decide +kernel
theorem dX7_bound_9 : decode cX7_bound 9 = .ok (.iload_n 1, 1) := by decide +kernel
theorem dX7_bound_10 : decode cX7_bound 10 = .ok (.if_icmp .le 7, 3) := by decide +kernel
theorem dX7_bound_13 : decode cX7_bound 13 = .ok (.iload_n 1, 1) := by decide +kernel
theorem dX7_bound_14 : decode cX7_bound 14 = .ok (.goto 4, 3) := by decide +kernel
theorem dX7_bound_17 : decode cX7_bound 17 = .ok (.iload_n 0, 1) := by decide +kernel
theorem dX7_bound_18 : decode cX7_bound 18 = .ok (.ireturn, 1) := by decide +kernel
theorem dX7_wanted_0 : decode cX7_wanted 0 = .ok (.iload_n 2, 1) := by decide +kernel
theorem dX7_wanted_1 : decode cX7_wanted 1 = .ok (.aload_n 0, 1) := by decide +kernel
theorem dX7_wanted_2 : decode cX7_wanted 2 = .ok (.getfield 46, 3) := by decide +kernel
theorem dX7_wanted_5 : decode cX7_wanted 5 = .ok (.iload_n 1, 1) := by decide +kernel
theorem dX7_wanted_6 : decode cX7_wanted 6 = .ok (.iaload, 1) := by decide +kernel
theorem dX7_wanted_7 : decode cX7_wanted 7 = .ok (.if_icmp .lt 24, 3) := by decide +kernel
theorem dX7_wanted_10 : decode cX7_wanted 10 = .ok (.iload_n 2, 1) := by decide +kernel
theorem dX7_wanted_11 : decode cX7_wanted 11 = .ok (.aload_n 0, 1) := by decide +kernel
theorem dX7_wanted_12 : decode cX7_wanted 12 = .ok (.getfield 46, 3) := by decide +kernel
theorem dX7_wanted_15 : decode cX7_wanted 15 = .ok (.iload_n 1, 1) := by decide +kernel
theorem dX7_wanted_16 : decode cX7_wanted 16 = .ok (.iaload, 1) := by decide +kernel
theorem dX7_wanted_17 : decode cX7_wanted 17 = .ok (.aload_n 0, 1) := by decide +kernel
theorem dX7_wanted_18 : decode cX7_wanted 18 = .ok (.getfield 43, 3) := by decide +kernel
theorem dX7_wanted_21 : decode cX7_wanted 21 = .ok (.iload_n 1, 1) := by decide +kernel
theorem dX7_wanted_22 : decode cX7_wanted 22 = .ok (.iaload, 1) := by decide +kernel
theorem dX7_wanted_23 : decode cX7_wanted 23 = .ok (.iadd, 1) := by decide +kernel
theorem dX7_wanted_24 : decode cX7_wanted 24 = .ok (.if_icmp .ge 7, 3) := by decide +kernel
theorem dX7_wanted_27 : decode cX7_wanted 27 = .ok (.iconst 1, 1) := by decide +kernel
theorem dX7_wanted_28 : decode cX7_wanted 28 = .ok (.goto 4, 3) := by decide +kernel
theorem dX7_wanted_31 : decode cX7_wanted 31 = .ok (.iconst 0, 1) := by decide +kernel
theorem dX7_wanted_32 : decode cX7_wanted 32 = .ok (.ireturn, 1) := by decide +kernel
theorem dX7_wantedAhead_0 : decode cX7_wantedAhead 0 = .ok (.iconst 0, 1) := by decide +kernel
theorem dX7_wantedAhead_1 : decode cX7_wantedAhead 1 = .ok (.istore_n 3, 1) := by decide +kernel
theorem dX7_wantedAhead_2 : decode cX7_wantedAhead 2 = .ok (.iconst 0, 1) := by decide +kernel
theorem dX7_wantedAhead_3 : decode cX7_wantedAhead 3 = .ok (.istore 4, 2) := by decide +kernel
theorem dX7_wantedAhead_5 : decode cX7_wantedAhead 5 = .ok (.iload 4, 2) := by decide +kernel
theorem dX7_wantedAhead_7 : decode cX7_wantedAhead 7 = .ok (.aload_n 0, 1) := by decide +kernel
theorem dX7_wantedAhead_8 : decode cX7_wantedAhead 8 = .ok (.getfield 13, 3) := by decide +kernel
theorem dX7_wantedAhead_11 : decode cX7_wantedAhead 11 = .ok (.iconst 1, 1) := by decide +kernel
theorem dX7_wantedAhead_12 : decode cX7_wantedAhead 12 = .ok (.iaload, 1) := by decide +kernel
theorem dX7_wantedAhead_13 : decode cX7_wantedAhead 13 = .ok (.if_icmp .gt 43, 3) := by decide +kernel
theorem dX7_wantedAhead_16 : decode cX7_wantedAhead 16 = .ok (.iload_n 3, 1) := by decide +kernel
theorem dX7_wantedAhead_17 : decode cX7_wantedAhead 17 = .ok (.aload_n 0, 1) := by decide +kernel
theorem dX7_wantedAhead_18 : decode cX7_wantedAhead 18 = .ok (.iload_n 1, 1) := by decide +kernel
theorem dX7_wantedAhead_19 : decode cX7_wantedAhead 19 = .ok (.iload_n 2, 1) := by decide +kernel
theorem dX7_wantedAhead_20 : decode cX7_wantedAhead 20 = .ok (.iload 4, 2) := by decide +kernel
theorem dX7_wantedAhead_22 : decode cX7_wantedAhead 22 = .ok (.isub, 1) := by decide +kernel
theorem dX7_wantedAhead_23 : decode cX7_wantedAhead 23 = .ok (.aload_n 0, 1) := by decide +kernel
theorem dX7_wantedAhead_24 : decode cX7_wantedAhead 24 = .ok (.getfield 13, 3) := by decide +kernel
theorem dX7_wantedAhead_27 : decode cX7_wantedAhead 27 = .ok (.iconst 0, 1) := by decide +kernel
theorem dX7_wantedAhead_28 : decode cX7_wantedAhead 28 = .ok (.iaload, 1) := by decide +kernel
theorem dX7_wantedAhead_29 : decode cX7_wantedAhead 29 = .ok (.iadd, 1) := by decide +kernel
theorem dX7_wantedAhead_30 : decode cX7_wantedAhead 30 = .ok (.aload_n 0, 1) := by decide +kernel
theorem dX7_wantedAhead_31 : decode cX7_wantedAhead 31 = .ok (.getfield 13, 3) := by decide +kernel
theorem dX7_wantedAhead_34 : decode cX7_wantedAhead 34 = .ok (.iconst 0, 1) := by decide +kernel
theorem dX7_wantedAhead_35 : decode cX7_wantedAhead 35 = .ok (.iaload, 1) := by decide +kernel
theorem dX7_wantedAhead_36 : decode cX7_wantedAhead 36 = .ok (.irem, 1) := by decide +kernel
theorem dX7_wantedAhead_37 : decode cX7_wantedAhead 37 = .ok (.invokevirtual 138, 3) := by decide +kernel
theorem dX7_wantedAhead_40 : decode cX7_wantedAhead 40 = .ok (.ifCond .eq 7, 3) := by decide +kernel
theorem dX7_wantedAhead_43 : decode cX7_wantedAhead 43 = .ok (.iconst 1, 1) := by decide +kernel
theorem dX7_wantedAhead_44 : decode cX7_wantedAhead 44 = .ok (.goto 4, 3) := by decide +kernel
theorem dX7_wantedAhead_47 : decode cX7_wantedAhead 47 = .ok (.iconst 0, 1) := by decide +kernel
theorem dX7_wantedAhead_48 : decode cX7_wantedAhead 48 = .ok (.iadd, 1) := by decide +kernel
theorem dX7_wantedAhead_49 : decode cX7_wantedAhead 49 = .ok (.istore_n 3, 1) := by decide +kernel
theorem dX7_wantedAhead_50 : decode cX7_wantedAhead 50 = .ok (.iinc 4 1, 3) := by decide +kernel
theorem dX7_wantedAhead_53 : decode cX7_wantedAhead 53 = .ok (.goto (-48), 3) := by decide +kernel
theorem dX7_wantedAhead_56 : decode cX7_wantedAhead 56 = .ok (.iload_n 3, 1) := by decide +kernel
theorem dX7_wantedAhead_57 : decode cX7_wantedAhead 57 = .ok (.ireturn, 1) := by decide +kernel
theorem dX7_upper_0 : decode cX7_upper 0 = .ok (.aload_n 0, 1) := by decide +kernel
theorem dX7_upper_1 : decode cX7_upper 1 = .ok (.iload_n 1, 1) := by decide +kernel
theorem dX7_upper_2 : decode cX7_upper 2 = .ok (.iload_n 2, 1) := by decide +kernel
theorem dX7_upper_3 : decode cX7_upper 3 = .ok (.invokevirtual 141, 3) := by decide +kernel
theorem dX7_upper_6 : decode cX7_upper 6 = .ok (.aload_n 0, 1) := by decide +kernel
theorem dX7_upper_7 : decode cX7_upper 7 = .ok (.getfield 13, 3) := by decide +kernel
theorem dX7_upper_10 : decode cX7_upper 10 = .ok (.iconst 1, 1) := by decide +kernel
theorem dX7_upper_11 : decode cX7_upper 11 = .ok (.iaload, 1) := by decide +kernel
theorem dX7_upper_12 : decode cX7_upper 12 = .ok (.iconst 1, 1) := by decide +kernel
theorem dX7_upper_13 : decode cX7_upper 13 = .ok (.iadd, 1) := by decide +kernel
theorem dX7_upper_14 : decode cX7_upper 14 = .ok (.if_icmp .ne 7, 3) := by decide +kernel
theorem dX7_upper_17 : decode cX7_upper 17 = .ok (.iconst 1, 1) := by decide +kernel
theorem dX7_upper_18 : decode cX7_upper 18 = .ok (.goto 4, 3) := by decide +kernel
theorem dX7_upper_21 : decode cX7_upper 21 = .ok (.iconst 0, 1) := by decide +kernel
theorem dX7_upper_22 : decode cX7_upper 22 = .ok (.ireturn, 1) := by decide +kernel
theorem dX7_lower_0 : decode cX7_lower 0 = .ok (.aload_n 0, 1) := by decide +kernel
theorem dX7_lower_1 : decode cX7_lower 1 = .ok (.iload_n 1, 1) := by decide +kernel
theorem dX7_lower_2 : decode cX7_lower 2 = .ok (.iload_n 2, 1) := by decide +kernel
theorem dX7_lower_3 : decode cX7_lower 3 = .ok (.invokevirtual 141, 3) := by decide +kernel
theorem dX7_lower_6 : decode cX7_lower 6 = .ok (.ifCond .ne 7, 3) := by decide +kernel
theorem dX7_lower_9 : decode cX7_lower 9 = .ok (.iconst 1, 1) := by decide +kernel
theorem dX7_lower_10 : decode cX7_lower 10 = .ok (.goto 4, 3) := by decide +kernel
theorem dX7_lower_13 : decode cX7_lower 13 = .ok (.iconst 0, 1) := by decide +kernel
theorem dX7_lower_14 : decode cX7_lower 14 = .ok (.ireturn, 1) := by decide +kernel
theorem dX7_gives_0 : decode cX7_gives 0 = .ok (.aload_n 0, 1) := by decide +kernel
theorem dX7_gives_1 : decode cX7_gives 1 = .ok (.iload_n 1, 1) := by decide +kernel
theorem dX7_gives_2 : decode cX7_gives 2 = .ok (.iload_n 2, 1) := by decide +kernel
theorem dX7_gives_3 : decode cX7_gives 3 = .ok (.invokevirtual 141, 3) := by decide +kernel
theorem dX7_gives_6 : decode cX7_gives 6 = .ok (.istore_n 3, 1) := by decide +kernel
theorem dX7_gives_7 : decode cX7_gives 7 = .ok (.iload_n 3, 1) := by decide +kernel
theorem dX7_gives_8 : decode cX7_gives 8 = .ok (.aload_n 0, 1) := by decide +kernel
theorem dX7_gives_9 : decode cX7_gives 9 = .ok (.getfield 13, 3) := by decide +kernel
theorem dX7_gives_12 : decode cX7_gives 12 = .ok (.iconst 1, 1) := by decide +kernel
theorem dX7_gives_13 : decode cX7_gives 13 = .ok (.iaload, 1) := by decide +kernel
theorem dX7_gives_14 : decode cX7_gives 14 = .ok (.iconst 1, 1) := by decide +kernel
theorem dX7_gives_15 : decode cX7_gives 15 = .ok (.iadd, 1) := by decide +kernel
theorem dX7_gives_16 : decode cX7_gives 16 = .ok (.if_icmp .ne 7, 3) := by decide +kernel
theorem dX7_gives_19 : decode cX7_gives 19 = .ok (.iconst 1, 1) := by decide +kernel
theorem dX7_gives_20 : decode cX7_gives 20 = .ok (.goto 25, 3) := by decide +kernel
theorem dX7_gives_23 : decode cX7_gives 23 = .ok (.iload_n 3, 1) := by decide +kernel
theorem dX7_gives_24 : decode cX7_gives 24 = .ok (.ifCond .ne 7, 3) := by decide +kernel
theorem dX7_gives_27 : decode cX7_gives 27 = .ok (.iconst 0, 1) := by decide +kernel
theorem dX7_gives_28 : decode cX7_gives 28 = .ok (.goto 17, 3) := by decide +kernel
theorem dX7_gives_31 : decode cX7_gives 31 = .ok (.aload_n 0, 1) := by decide +kernel
theorem dX7_gives_32 : decode cX7_gives 32 = .ok (.getfield 16, 3) := by decide +kernel
theorem dX7_gives_35 : decode cX7_gives 35 = .ok (.iload_n 1, 1) := by decide +kernel
theorem dX7_gives_36 : decode cX7_gives 36 = .ok (.iaload, 1) := by decide +kernel
theorem dX7_gives_37 : decode cX7_gives 37 = .ok (.ifCond .ge 7, 3) := by decide +kernel
theorem dX7_gives_40 : decode cX7_gives 40 = .ok (.iconst 1, 1) := by decide +kernel
theorem dX7_gives_41 : decode cX7_gives 41 = .ok (.goto 4, 3) := by decide +kernel
theorem dX7_gives_44 : decode cX7_gives 44 = .ok (.iconst 0, 1) := by decide +kernel
theorem dX7_gives_45 : decode cX7_gives 45 = .ok (.ireturn, 1) := by decide +kernel
theorem dX7_meanOf_0 : decode cX7_meanOf 0 = .ok (.iconst 0, 1) := by decide +kernel
theorem dX7_meanOf_1 : decode cX7_meanOf 1 = .ok (.istore_n 2, 1) := by decide +kernel
theorem dX7_meanOf_2 : decode cX7_meanOf 2 = .ok (.iconst 0, 1) := by decide +kernel
theorem dX7_meanOf_3 : decode cX7_meanOf 3 = .ok (.istore_n 3, 1) := by decide +kernel
theorem dX7_meanOf_4 : decode cX7_meanOf 4 = .ok (.iload_n 3, 1) := by decide +kernel
theorem dX7_meanOf_5 : decode cX7_meanOf 5 = .ok (.aload_n 0, 1) := by decide +kernel
theorem dX7_meanOf_6 : decode cX7_meanOf 6 = .ok (.getfield 13, 3) := by decide +kernel
theorem dX7_meanOf_9 : decode cX7_meanOf 9 = .ok (.iconst 0, 1) := by decide +kernel
theorem dX7_meanOf_10 : decode cX7_meanOf 10 = .ok (.iaload, 1) := by decide +kernel
theorem dX7_meanOf_11 : decode cX7_meanOf 11 = .ok (.if_icmp .ge 18, 3) := by decide +kernel
theorem dX7_meanOf_14 : decode cX7_meanOf 14 = .ok (.iload_n 2, 1) := by decide +kernel
theorem dX7_meanOf_15 : decode cX7_meanOf 15 = .ok (.aload_n 0, 1) := by decide +kernel
theorem dX7_meanOf_16 : decode cX7_meanOf 16 = .ok (.iload_n 1, 1) := by decide +kernel
theorem dX7_meanOf_17 : decode cX7_meanOf 17 = .ok (.iload_n 3, 1) := by decide +kernel
theorem dX7_meanOf_18 : decode cX7_meanOf 18 = .ok (.invokevirtual 144, 3) := by decide +kernel
theorem dX7_meanOf_21 : decode cX7_meanOf 21 = .ok (.iadd, 1) := by decide +kernel
theorem dX7_meanOf_22 : decode cX7_meanOf 22 = .ok (.istore_n 2, 1) := by decide +kernel
theorem dX7_meanOf_23 : decode cX7_meanOf 23 = .ok (.iinc 3 1, 3) := by decide +kernel
theorem dX7_meanOf_26 : decode cX7_meanOf 26 = .ok (.goto (-22), 3) := by decide +kernel
theorem dX7_meanOf_29 : decode cX7_meanOf 29 = .ok (.iload_n 2, 1) := by decide +kernel
theorem dX7_meanOf_30 : decode cX7_meanOf 30 = .ok (.ireturn, 1) := by decide +kernel
theorem dX7_patternAt_0 : decode cX7_patternAt 0 = .ok (.aload_n 0, 1) := by decide +kernel
theorem dX7_patternAt_1 : decode cX7_patternAt 1 = .ok (.iconst 0, 1) := by decide +kernel
theorem dX7_patternAt_2 : decode cX7_patternAt 2 = .ok (.iload_n 1, 1) := by decide +kernel
theorem dX7_patternAt_3 : decode cX7_patternAt 3 = .ok (.invokevirtual 138, 3) := by decide +kernel
theorem dX7_patternAt_6 : decode cX7_patternAt 6 = .ok (.ifCond .eq 7, 3) := by decide +kernel
theorem dX7_patternAt_9 : decode cX7_patternAt 9 = .ok (.iconst 1, 1) := by decide +kernel
theorem dX7_patternAt_10 : decode cX7_patternAt 10 = .ok (.goto 4, 3) := by decide +kernel
theorem dX7_patternAt_13 : decode cX7_patternAt 13 = .ok (.iconst 0, 1) := by decide +kernel
theorem dX7_patternAt_14 : decode cX7_patternAt 14 = .ok (.aload_n 0, 1) := by decide +kernel
theorem dX7_patternAt_15 : decode cX7_patternAt 15 = .ok (.iconst 1, 1) := by decide +kernel
theorem dX7_patternAt_16 : decode cX7_patternAt 16 = .ok (.iload_n 1, 1) := by decide +kernel
theorem dX7_patternAt_17 : decode cX7_patternAt 17 = .ok (.invokevirtual 138, 3) := by decide +kernel
theorem dX7_patternAt_20 : decode cX7_patternAt 20 = .ok (.ifCond .eq 7, 3) := by decide +kernel
theorem dX7_patternAt_23 : decode cX7_patternAt 23 = .ok (.iconst 2, 1) := by decide +kernel
theorem dX7_patternAt_24 : decode cX7_patternAt 24 = .ok (.goto 4, 3) := by decide +kernel
theorem dX7_patternAt_27 : decode cX7_patternAt 27 = .ok (.iconst 0, 1) := by decide +kernel
theorem dX7_patternAt_28 : decode cX7_patternAt 28 = .ok (.iadd, 1) := by decide +kernel
theorem dX7_patternAt_29 : decode cX7_patternAt 29 = .ok (.aload_n 0, 1) := by decide +kernel
theorem dX7_patternAt_30 : decode cX7_patternAt 30 = .ok (.iconst 2, 1) := by decide +kernel
theorem dX7_patternAt_31 : decode cX7_patternAt 31 = .ok (.iload_n 1, 1) := by decide +kernel
theorem dX7_patternAt_32 : decode cX7_patternAt 32 = .ok (.invokevirtual 138, 3) := by decide +kernel
theorem dX7_patternAt_35 : decode cX7_patternAt 35 = .ok (.ifCond .eq 7, 3) := by decide +kernel
theorem dX7_patternAt_38 : decode cX7_patternAt 38 = .ok (.iconst 4, 1) := by decide +kernel
theorem dX7_patternAt_39 : decode cX7_patternAt 39 = .ok (.goto 4, 3) := by decide +kernel
theorem dX7_patternAt_42 : decode cX7_patternAt 42 = .ok (.iconst 0, 1) := by decide +kernel
theorem dX7_patternAt_43 : decode cX7_patternAt 43 = .ok (.iadd, 1) := by decide +kernel
theorem dX7_patternAt_44 : decode cX7_patternAt 44 = .ok (.ireturn, 1) := by decide +kernel
theorem dX7_setRuns_0 : decode cX7_setRuns 0 = .ok (.aload_n 0, 1) := by decide +kernel
theorem dX7_setRuns_1 : decode cX7_setRuns 1 = .ok (.iconst 0, 1) := by decide +kernel
theorem dX7_setRuns_2 : decode cX7_setRuns 2 = .ok (.putfield 147, 3) := by decide +kernel
theorem dX7_setRuns_5 : decode cX7_setRuns 5 = .ok (.iconst 0, 1) := by decide +kernel
theorem dX7_setRuns_6 : decode cX7_setRuns 6 = .ok (.istore_n 1, 1) := by decide +kernel
theorem dX7_setRuns_7 : decode cX7_setRuns 7 = .ok (.iload_n 1, 1) := by decide +kernel
theorem dX7_setRuns_8 : decode cX7_setRuns 8 = .ok (.aload_n 0, 1) := by decide +kernel
theorem dX7_setRuns_9 : decode cX7_setRuns 9 = .ok (.getfield 13, 3) := by decide +kernel
theorem dX7_setRuns_12 : decode cX7_setRuns 12 = .ok (.iconst 0, 1) := by decide +kernel
theorem dX7_setRuns_13 : decode cX7_setRuns 13 = .ok (.iaload, 1) := by decide +kernel
theorem dX7_setRuns_14 : decode cX7_setRuns 14 = .ok (.if_icmp .ge 73, 3) := by decide +kernel
theorem dX7_setRuns_17 : decode cX7_setRuns 17 = .ok (.iload_n 1, 1) := by decide +kernel
theorem dX7_setRuns_18 : decode cX7_setRuns 18 = .ok (.ifCond .eq 18, 3) := by decide +kernel
theorem dX7_setRuns_21 : decode cX7_setRuns 21 = .ok (.aload_n 0, 1) := by decide +kernel
theorem dX7_setRuns_22 : decode cX7_setRuns 22 = .ok (.iload_n 1, 1) := by decide +kernel
theorem dX7_setRuns_23 : decode cX7_setRuns 23 = .ok (.invokevirtual 150, 3) := by decide +kernel
theorem dX7_setRuns_26 : decode cX7_setRuns 26 = .ok (.aload_n 0, 1) := by decide +kernel
theorem dX7_setRuns_27 : decode cX7_setRuns 27 = .ok (.iload_n 1, 1) := by decide +kernel
theorem dX7_setRuns_28 : decode cX7_setRuns 28 = .ok (.iconst 1, 1) := by decide +kernel
theorem dX7_setRuns_29 : decode cX7_setRuns 29 = .ok (.isub, 1) := by decide +kernel
theorem dX7_setRuns_30 : decode cX7_setRuns 30 = .ok (.invokevirtual 150, 3) := by decide +kernel
theorem dX7_setRuns_33 : decode cX7_setRuns 33 = .ok (.if_icmp .eq 33, 3) := by decide +kernel
theorem dX7_setRuns_36 : decode cX7_setRuns 36 = .ok (.aload_n 0, 1) := by decide +kernel
theorem dX7_setRuns_37 : decode cX7_setRuns 37 = .ok (.getfield 52, 3) := by decide +kernel
theorem dX7_setRuns_40 : decode cX7_setRuns 40 = .ok (.aload_n 0, 1) := by decide +kernel
theorem dX7_setRuns_41 : decode cX7_setRuns 41 = .ok (.getfield 147, 3) := by decide +kernel
theorem dX7_setRuns_44 : decode cX7_setRuns 44 = .ok (.iload_n 1, 1) := by decide +kernel
theorem dX7_setRuns_45 : decode cX7_setRuns 45 = .ok (.iastore, 1) := by decide +kernel
theorem dX7_setRuns_46 : decode cX7_setRuns 46 = .ok (.aload_n 0, 1) := by decide +kernel
theorem dX7_setRuns_47 : decode cX7_setRuns 47 = .ok (.getfield 55, 3) := by decide +kernel
theorem dX7_setRuns_50 : decode cX7_setRuns 50 = .ok (.aload_n 0, 1) := by decide +kernel
theorem dX7_setRuns_51 : decode cX7_setRuns 51 = .ok (.getfield 147, 3) := by decide +kernel
theorem dX7_setRuns_54 : decode cX7_setRuns 54 = .ok (.iconst 0, 1) := by decide +kernel
theorem dX7_setRuns_55 : decode cX7_setRuns 55 = .ok (.iastore, 1) := by decide +kernel
theorem dX7_setRuns_56 : decode cX7_setRuns 56 = .ok (.aload_n 0, 1) := by decide +kernel
theorem dX7_setRuns_57 : decode cX7_setRuns 57 = .ok (.dup, 1) := by decide +kernel
theorem dX7_setRuns_58 : decode cX7_setRuns 58 = .ok (.getfield 147, 3) := by decide +kernel
theorem dX7_setRuns_61 : decode cX7_setRuns 61 = .ok (.iconst 1, 1) := by decide +kernel
theorem dX7_setRuns_62 : decode cX7_setRuns 62 = .ok (.iadd, 1) := by decide +kernel
theorem dX7_setRuns_63 : decode cX7_setRuns 63 = .ok (.putfield 147, 3) := by decide +kernel
theorem dX7_setRuns_66 : decode cX7_setRuns 66 = .ok (.aload_n 0, 1) := by decide +kernel
theorem dX7_setRuns_67 : decode cX7_setRuns 67 = .ok (.getfield 55, 3) := by decide +kernel
theorem dX7_setRuns_70 : decode cX7_setRuns 70 = .ok (.aload_n 0, 1) := by decide +kernel
theorem dX7_setRuns_71 : decode cX7_setRuns 71 = .ok (.getfield 147, 3) := by decide +kernel
theorem dX7_setRuns_74 : decode cX7_setRuns 74 = .ok (.iconst 1, 1) := by decide +kernel
theorem dX7_setRuns_75 : decode cX7_setRuns 75 = .ok (.isub, 1) := by decide +kernel
theorem dX7_setRuns_76 : decode cX7_setRuns 76 = .ok (.dup2, 1) := by decide +kernel
theorem dX7_setRuns_77 : decode cX7_setRuns 77 = .ok (.iaload, 1) := by decide +kernel
theorem dX7_setRuns_78 : decode cX7_setRuns 78 = .ok (.iconst 1, 1) := by decide +kernel
theorem dX7_setRuns_79 : decode cX7_setRuns 79 = .ok (.iadd, 1) := by decide +kernel
theorem dX7_setRuns_80 : decode cX7_setRuns 80 = .ok (.iastore, 1) := by decide +kernel
theorem dX7_setRuns_81 : decode cX7_setRuns 81 = .ok (.iinc 1 1, 3) := by decide +kernel
theorem dX7_setRuns_84 : decode cX7_setRuns 84 = .ok (.goto (-77), 3) := by decide +kernel
theorem dX7_setRuns_87 : decode cX7_setRuns 87 = .ok (.return_, 1) := by decide +kernel
theorem dX7_tells_0 : decode cX7_tells 0 = .ok (.aload_n 0, 1) := by decide +kernel
theorem dX7_tells_1 : decode cX7_tells 1 = .ok (.aload_n 0, 1) := by decide +kernel
theorem dX7_tells_2 : decode cX7_tells 2 = .ok (.getfield 52, 3) := by decide +kernel
theorem dX7_tells_5 : decode cX7_tells 5 = .ok (.iload_n 1, 1) := by decide +kernel
theorem dX7_tells_6 : decode cX7_tells 6 = .ok (.iaload, 1) := by decide +kernel
theorem dX7_tells_7 : decode cX7_tells 7 = .ok (.invokevirtual 150, 3) := by decide +kernel
theorem dX7_tells_10 : decode cX7_tells 10 = .ok (.istore_n 2, 1) := by decide +kernel
theorem dX7_tells_11 : decode cX7_tells 11 = .ok (.aload_n 0, 1) := by decide +kernel
theorem dX7_tells_12 : decode cX7_tells 12 = .ok (.getfield 55, 3) := by decide +kernel
theorem dX7_tells_15 : decode cX7_tells 15 = .ok (.iload_n 1, 1) := by decide +kernel
theorem dX7_tells_16 : decode cX7_tells 16 = .ok (.iaload, 1) := by decide +kernel
theorem dX7_tells_17 : decode cX7_tells 17 = .ok (.aload_n 0, 1) := by decide +kernel
theorem dX7_tells_18 : decode cX7_tells 18 = .ok (.getfield 13, 3) := by decide +kernel
theorem dX7_tells_21 : decode cX7_tells 21 = .ok (.iconst 3, 1) := by decide +kernel
theorem dX7_tells_22 : decode cX7_tells 22 = .ok (.iaload, 1) := by decide +kernel
theorem dX7_tells_23 : decode cX7_tells 23 = .ok (.if_icmp .lt 13, 3) := by decide +kernel
theorem dX7_tells_26 : decode cX7_tells 26 = .ok (.iload_n 2, 1) := by decide +kernel
theorem dX7_tells_27 : decode cX7_tells 27 = .ok (.ifCond .eq 9, 3) := by decide +kernel
theorem dX7_tells_30 : decode cX7_tells 30 = .ok (.iload_n 2, 1) := by decide +kernel
theorem dX7_tells_31 : decode cX7_tells 31 = .ok (.bipush 7, 2) := by decide +kernel
theorem dX7_tells_33 : decode cX7_tells 33 = .ok (.if_icmp .ne 5, 3) := by decide +kernel
theorem dX7_tells_36 : decode cX7_tells 36 = .ok (.iconst (-1), 1) := by decide +kernel
theorem dX7_tells_37 : decode cX7_tells 37 = .ok (.ireturn, 1) := by decide +kernel
theorem dX7_tells_38 : decode cX7_tells 38 = .ok (.iload_n 2, 1) := by decide +kernel
theorem dX7_tells_39 : decode cX7_tells 39 = .ok (.iconst 1, 1) := by decide +kernel
theorem dX7_tells_40 : decode cX7_tells 40 = .ok (.if_icmp .eq 9, 3) := by decide +kernel
theorem dX7_tells_43 : decode cX7_tells 43 = .ok (.iload_n 2, 1) := by decide +kernel
theorem dX7_tells_44 : decode cX7_tells 44 = .ok (.bipush 6, 2) := by decide +kernel
theorem dX7_tells_46 : decode cX7_tells 46 = .ok (.if_icmp .ne 7, 3) := by decide +kernel
theorem dX7_tells_49 : decode cX7_tells 49 = .ok (.iconst 0, 1) := by decide +kernel
theorem dX7_tells_50 : decode cX7_tells 50 = .ok (.goto 18, 3) := by decide +kernel
theorem dX7_tells_53 : decode cX7_tells 53 = .ok (.iload_n 2, 1) := by decide +kernel
theorem dX7_tells_54 : decode cX7_tells 54 = .ok (.iconst 2, 1) := by decide +kernel
theorem dX7_tells_55 : decode cX7_tells 55 = .ok (.if_icmp .eq 8, 3) := by decide +kernel
theorem dX7_tells_58 : decode cX7_tells 58 = .ok (.iload_n 2, 1) := by decide +kernel
theorem dX7_tells_59 : decode cX7_tells 59 = .ok (.iconst 5, 1) := by decide +kernel
theorem dX7_tells_60 : decode cX7_tells 60 = .ok (.if_icmp .ne 7, 3) := by decide +kernel
theorem dX7_tells_63 : decode cX7_tells 63 = .ok (.iconst 1, 1) := by decide +kernel
theorem dX7_tells_64 : decode cX7_tells 64 = .ok (.goto 4, 3) := by decide +kernel
theorem dX7_tells_67 : decode cX7_tells 67 = .ok (.iconst 2, 1) := by decide +kernel
theorem dX7_tells_68 : decode cX7_tells 68 = .ok (.ireturn, 1) := by decide +kernel
theorem dX7_seenSet_0 : decode cX7_seenSet 0 = .ok (.aload_n 0, 1) := by decide +kernel
theorem dX7_seenSet_1 : decode cX7_seenSet 1 = .ok (.invokevirtual 154, 3) := by decide +kernel
theorem dX7_seenSet_4 : decode cX7_seenSet 4 = .ok (.iconst 0, 1) := by decide +kernel
theorem dX7_seenSet_5 : decode cX7_seenSet 5 = .ok (.istore_n 1, 1) := by decide +kernel
theorem dX7_seenSet_6 : decode cX7_seenSet 6 = .ok (.iconst 0, 1) := by decide +kernel
theorem dX7_seenSet_7 : decode cX7_seenSet 7 = .ok (.istore_n 2, 1) := by decide +kernel
theorem dX7_seenSet_8 : decode cX7_seenSet 8 = .ok (.iload_n 2, 1) := by decide +kernel
theorem dX7_seenSet_9 : decode cX7_seenSet 9 = .ok (.aload_n 0, 1) := by decide +kernel
theorem dX7_seenSet_10 : decode cX7_seenSet 10 = .ok (.getfield 147, 3) := by decide +kernel
theorem dX7_seenSet_13 : decode cX7_seenSet 13 = .ok (.if_icmp .ge 30, 3) := by decide +kernel
theorem dX7_seenSet_16 : decode cX7_seenSet 16 = .ok (.aload_n 0, 1) := by decide +kernel
theorem dX7_seenSet_17 : decode cX7_seenSet 17 = .ok (.iload_n 2, 1) := by decide +kernel
theorem dX7_seenSet_18 : decode cX7_seenSet 18 = .ok (.invokevirtual 157, 3) := by decide +kernel
theorem dX7_seenSet_21 : decode cX7_seenSet 21 = .ok (.istore_n 3, 1) := by decide +kernel
theorem dX7_seenSet_22 : decode cX7_seenSet 22 = .ok (.iload_n 1, 1) := by decide +kernel
theorem dX7_seenSet_23 : decode cX7_seenSet 23 = .ok (.iload_n 3, 1) := by decide +kernel
theorem dX7_seenSet_24 : decode cX7_seenSet 24 = .ok (.iconst (-1), 1) := by decide +kernel
theorem dX7_seenSet_25 : decode cX7_seenSet 25 = .ok (.if_icmp .ne 7, 3) := by decide +kernel
theorem dX7_seenSet_28 : decode cX7_seenSet 28 = .ok (.iconst 0, 1) := by decide +kernel
theorem dX7_seenSet_29 : decode cX7_seenSet 29 = .ok (.goto 6, 3) := by decide +kernel
theorem dX7_seenSet_32 : decode cX7_seenSet 32 = .ok (.iconst 1, 1) := by decide +kernel
theorem dX7_seenSet_33 : decode cX7_seenSet 33 = .ok (.iload_n 3, 1) := by decide +kernel
theorem dX7_seenSet_34 : decode cX7_seenSet 34 = .ok (.ishl, 1) := by decide +kernel
theorem dX7_seenSet_35 : decode cX7_seenSet 35 = .ok (.ior, 1) := by decide +kernel
theorem dX7_seenSet_36 : decode cX7_seenSet 36 = .ok (.istore_n 1, 1) := by decide +kernel
theorem dX7_seenSet_37 : decode cX7_seenSet 37 = .ok (.iinc 2 1, 3) := by decide +kernel
theorem dX7_seenSet_40 : decode cX7_seenSet 40 = .ok (.goto (-32), 3) := by decide +kernel
theorem dX7_seenSet_43 : decode cX7_seenSet 43 = .ok (.iload_n 1, 1) := by decide +kernel
theorem dX7_seenSet_44 : decode cX7_seenSet 44 = .ok (.ireturn, 1) := by decide +kernel
theorem dX7_bits_0 : decode cX7_bits 0 = .ok (.iload_n 0, 1) := by decide +kernel
theorem dX7_bits_1 : decode cX7_bits 1 = .ok (.iconst 1, 1) := by decide +kernel
theorem dX7_bits_2 : decode cX7_bits 2 = .ok (.iand, 1) := by decide +kernel
theorem dX7_bits_3 : decode cX7_bits 3 = .ok (.iload_n 0, 1) := by decide +kernel
theorem dX7_bits_4 : decode cX7_bits 4 = .ok (.iconst 1, 1) := by decide +kernel
theorem dX7_bits_5 : decode cX7_bits 5 = .ok (.ishr, 1) := by decide +kernel
theorem dX7_bits_6 : decode cX7_bits 6 = .ok (.iconst 1, 1) := by decide +kernel
theorem dX7_bits_7 : decode cX7_bits 7 = .ok (.iand, 1) := by decide +kernel
theorem dX7_bits_8 : decode cX7_bits 8 = .ok (.iadd, 1) := by decide +kernel
theorem dX7_bits_9 : decode cX7_bits 9 = .ok (.iload_n 0, 1) := by decide +kernel
theorem dX7_bits_10 : decode cX7_bits 10 = .ok (.iconst 2, 1) := by decide +kernel
theorem dX7_bits_11 : decode cX7_bits 11 = .ok (.ishr, 1) := by decide +kernel
theorem dX7_bits_12 : decode cX7_bits 12 = .ok (.iconst 1, 1) := by decide +kernel
theorem dX7_bits_13 : decode cX7_bits 13 = .ok (.iand, 1) := by decide +kernel
theorem dX7_bits_14 : decode cX7_bits 14 = .ok (.iadd, 1) := by decide +kernel
theorem dX7_bits_15 : decode cX7_bits 15 = .ok (.ireturn, 1) := by decide +kernel
theorem dX7_ticksOf_0 : decode cX7_ticksOf 0 = .ok (.iconst 0, 1) := by decide +kernel
theorem dX7_ticksOf_1 : decode cX7_ticksOf 1 = .ok (.istore_n 2, 1) := by decide +kernel
theorem dX7_ticksOf_2 : decode cX7_ticksOf 2 = .ok (.iconst 0, 1) := by decide +kernel
theorem dX7_ticksOf_3 : decode cX7_ticksOf 3 = .ok (.istore_n 3, 1) := by decide +kernel
theorem dX7_ticksOf_4 : decode cX7_ticksOf 4 = .ok (.iload_n 3, 1) := by decide +kernel
theorem dX7_ticksOf_5 : decode cX7_ticksOf 5 = .ok (.aload_n 0, 1) := by decide +kernel
theorem dX7_ticksOf_6 : decode cX7_ticksOf 6 = .ok (.getfield 13, 3) := by decide +kernel
theorem dX7_ticksOf_9 : decode cX7_ticksOf 9 = .ok (.iconst 0, 1) := by decide +kernel
theorem dX7_ticksOf_10 : decode cX7_ticksOf 10 = .ok (.iaload, 1) := by decide +kernel
theorem dX7_ticksOf_11 : decode cX7_ticksOf 11 = .ok (.if_icmp .ge 26, 3) := by decide +kernel
theorem dX7_ticksOf_14 : decode cX7_ticksOf 14 = .ok (.iload_n 2, 1) := by decide +kernel
theorem dX7_ticksOf_15 : decode cX7_ticksOf 15 = .ok (.aload_n 0, 1) := by decide +kernel
theorem dX7_ticksOf_16 : decode cX7_ticksOf 16 = .ok (.iload_n 3, 1) := by decide +kernel
theorem dX7_ticksOf_17 : decode cX7_ticksOf 17 = .ok (.invokevirtual 150, 3) := by decide +kernel
theorem dX7_ticksOf_20 : decode cX7_ticksOf 20 = .ok (.iload_n 1, 1) := by decide +kernel
theorem dX7_ticksOf_21 : decode cX7_ticksOf 21 = .ok (.if_icmp .ne 7, 3) := by decide +kernel
theorem dX7_ticksOf_24 : decode cX7_ticksOf 24 = .ok (.iconst 1, 1) := by decide +kernel
theorem dX7_ticksOf_25 : decode cX7_ticksOf 25 = .ok (.goto 4, 3) := by decide +kernel
theorem dX7_ticksOf_28 : decode cX7_ticksOf 28 = .ok (.iconst 0, 1) := by decide +kernel
theorem dX7_ticksOf_29 : decode cX7_ticksOf 29 = .ok (.iadd, 1) := by decide +kernel
theorem dX7_ticksOf_30 : decode cX7_ticksOf 30 = .ok (.istore_n 2, 1) := by decide +kernel
theorem dX7_ticksOf_31 : decode cX7_ticksOf 31 = .ok (.iinc 3 1, 3) := by decide +kernel
theorem dX7_ticksOf_34 : decode cX7_ticksOf 34 = .ok (.goto (-30), 3) := by decide +kernel
theorem dX7_ticksOf_37 : decode cX7_ticksOf 37 = .ok (.iload_n 2, 1) := by decide +kernel
theorem dX7_ticksOf_38 : decode cX7_ticksOf 38 = .ok (.ireturn, 1) := by decide +kernel
theorem dX7_plansBy_0 : decode cX7_plansBy 0 = .ok (.aload_n 0, 1) := by decide +kernel
theorem dX7_plansBy_1 : decode cX7_plansBy 1 = .ok (.invokevirtual 117, 3) := by decide +kernel
theorem dX7_plansBy_4 : decode cX7_plansBy 4 = .ok (.iload_n 1, 1) := by decide +kernel
theorem dX7_plansBy_5 : decode cX7_plansBy 5 = .ok (.tableswitch 62 0 3 #[31, 36, 49, 55], 31) := by decide +kernel
theorem dX7_plansBy_36 : decode cX7_plansBy 36 = .ok (.aload_n 0, 1) := by decide +kernel
theorem dX7_plansBy_37 : decode cX7_plansBy 37 = .ok (.getfield 120, 3) := by decide +kernel
theorem dX7_plansBy_40 : decode cX7_plansBy 40 = .ok (.ireturn, 1) := by decide +kernel
theorem dX7_plansBy_41 : decode cX7_plansBy 41 = .ok (.aload_n 0, 1) := by decide +kernel
theorem dX7_plansBy_42 : decode cX7_plansBy 42 = .ok (.getfield 130, 3) := by decide +kernel
theorem dX7_plansBy_45 : decode cX7_plansBy 45 = .ok (.ifCond .eq 7, 3) := by decide +kernel
theorem dX7_plansBy_48 : decode cX7_plansBy 48 = .ok (.iconst 1, 1) := by decide +kernel
theorem dX7_plansBy_49 : decode cX7_plansBy 49 = .ok (.goto 4, 3) := by decide +kernel
theorem dX7_plansBy_52 : decode cX7_plansBy 52 = .ok (.iconst 0, 1) := by decide +kernel
theorem dX7_plansBy_53 : decode cX7_plansBy 53 = .ok (.ireturn, 1) := by decide +kernel
theorem dX7_plansBy_54 : decode cX7_plansBy 54 = .ok (.aload_n 0, 1) := by decide +kernel
theorem dX7_plansBy_55 : decode cX7_plansBy 55 = .ok (.iconst 0, 1) := by decide +kernel
theorem dX7_plansBy_56 : decode cX7_plansBy 56 = .ok (.invokevirtual 160, 3) := by decide +kernel
theorem dX7_plansBy_59 : decode cX7_plansBy 59 = .ok (.ireturn, 1) := by decide +kernel
theorem dX7_plansBy_60 : decode cX7_plansBy 60 = .ok (.aload_n 0, 1) := by decide +kernel
theorem dX7_plansBy_61 : decode cX7_plansBy 61 = .ok (.bipush 7, 2) := by decide +kernel
theorem dX7_plansBy_63 : decode cX7_plansBy 63 = .ok (.invokevirtual 160, 3) := by decide +kernel
theorem dX7_plansBy_66 : decode cX7_plansBy 66 = .ok (.ireturn, 1) := by decide +kernel
theorem dX7_plansBy_67 : decode cX7_plansBy 67 = .ok (.aload_n 0, 1) := by decide +kernel
theorem dX7_plansBy_68 : decode cX7_plansBy 68 = .ok (.invokevirtual 154, 3) := by decide +kernel
theorem dX7_plansBy_71 : decode cX7_plansBy 71 = .ok (.aload_n 0, 1) := by decide +kernel
theorem dX7_plansBy_72 : decode cX7_plansBy 72 = .ok (.getfield 147, 3) := by decide +kernel
theorem dX7_plansBy_75 : decode cX7_plansBy 75 = .ok (.ireturn, 1) := by decide +kernel
theorem dX7_plan_0 : decode cX7_plan 0 = .ok (.iload_n 1, 1) := by decide +kernel
theorem dX7_plan_1 : decode cX7_plan 1 = .ok (.iconst 0, 1) := by decide +kernel
theorem dX7_plan_2 : decode cX7_plan 2 = .ok (.iconst 4, 1) := by decide +kernel
theorem dX7_plan_3 : decode cX7_plan 3 = .ok (.invokestatic 86, 3) := by decide +kernel
theorem dX7_plan_6 : decode cX7_plan 6 = .ok (.ifCond .eq 11, 3) := by decide +kernel
theorem dX7_plan_9 : decode cX7_plan 9 = .ok (.aload_n 0, 1) := by decide +kernel
theorem dX7_plan_10 : decode cX7_plan 10 = .ok (.iload_n 1, 1) := by decide +kernel
theorem dX7_plan_11 : decode cX7_plan 11 = .ok (.invokevirtual 163, 3) := by decide +kernel
theorem dX7_plan_14 : decode cX7_plan 14 = .ok (.goto 7, 3) := by decide +kernel
theorem dX7_plan_17 : decode cX7_plan 17 = .ok (.aload_n 0, 1) := by decide +kernel
theorem dX7_plan_18 : decode cX7_plan 18 = .ok (.invokevirtual 94, 3) := by decide +kernel
theorem dX7_plan_21 : decode cX7_plan 21 = .ok (.ireturn, 1) := by decide +kernel
theorem dX7_gateMany_0 : decode cX7_gateMany 0 = .ok (.iconst 0, 1) := by decide +kernel
theorem dX7_gateMany_1 : decode cX7_gateMany 1 = .ok (.istore_n 3, 1) := by decide +kernel
theorem dX7_gateMany_2 : decode cX7_gateMany 2 = .ok (.aload_n 0, 1) := by decide +kernel
theorem dX7_gateMany_3 : decode cX7_gateMany 3 = .ok (.getfield 13, 3) := by decide +kernel
theorem dX7_gateMany_6 : decode cX7_gateMany 6 = .ok (.iconst 0, 1) := by decide +kernel
theorem dX7_gateMany_7 : decode cX7_gateMany 7 = .ok (.iaload, 1) := by decide +kernel
theorem dX7_gateMany_8 : decode cX7_gateMany 8 = .ok (.istore 4, 2) := by decide +kernel
theorem dX7_gateMany_10 : decode cX7_gateMany 10 = .ok (.iconst 0, 1) := by decide +kernel
theorem dX7_gateMany_11 : decode cX7_gateMany 11 = .ok (.istore 5, 2) := by decide +kernel
theorem dX7_gateMany_13 : decode cX7_gateMany 13 = .ok (.iload 5, 2) := by decide +kernel
theorem dX7_gateMany_15 : decode cX7_gateMany 15 = .ok (.iload 4, 2) := by decide +kernel
theorem dX7_gateMany_17 : decode cX7_gateMany 17 = .ok (.if_icmp .ge 112, 3) := by decide +kernel
theorem dX7_gateMany_20 : decode cX7_gateMany 20 = .ok (.aload_n 0, 1) := by decide +kernel
theorem dX7_gateMany_21 : decode cX7_gateMany 21 = .ok (.iload_n 1, 1) := by decide +kernel
theorem dX7_gateMany_22 : decode cX7_gateMany 22 = .ok (.iload 5, 2) := by decide +kernel
theorem dX7_gateMany_24 : decode cX7_gateMany 24 = .ok (.invokevirtual 166, 3) := by decide +kernel
theorem dX7_gateMany_27 : decode cX7_gateMany 27 = .ok (.istore 6, 2) := by decide +kernel
theorem dX7_gateMany_29 : decode cX7_gateMany 29 = .ok (.aload_n 0, 1) := by decide +kernel
theorem dX7_gateMany_30 : decode cX7_gateMany 30 = .ok (.iload_n 1, 1) := by decide +kernel
theorem dX7_gateMany_31 : decode cX7_gateMany 31 = .ok (.iload 5, 2) := by decide +kernel
theorem dX7_gateMany_33 : decode cX7_gateMany 33 = .ok (.invokevirtual 169, 3) := by decide +kernel
theorem dX7_gateMany_36 : decode cX7_gateMany 36 = .ok (.istore 7, 2) := by decide +kernel
theorem dX7_gateMany_38 : decode cX7_gateMany 38 = .ok (.iload_n 2, 1) := by decide +kernel
theorem dX7_gateMany_39 : decode cX7_gateMany 39 = .ok (.ifCond .ne 8, 3) := by decide +kernel
theorem dX7_gateMany_42 : decode cX7_gateMany 42 = .ok (.iload 6, 2) := by decide +kernel
theorem dX7_gateMany_44 : decode cX7_gateMany 44 = .ok (.goto 64, 3) := by decide +kernel
theorem dX7_gateMany_47 : decode cX7_gateMany 47 = .ok (.iload_n 2, 1) := by decide +kernel
theorem dX7_gateMany_48 : decode cX7_gateMany 48 = .ok (.iconst 1, 1) := by decide +kernel
theorem dX7_gateMany_49 : decode cX7_gateMany 49 = .ok (.if_icmp .ne 8, 3) := by decide +kernel
theorem dX7_gateMany_52 : decode cX7_gateMany 52 = .ok (.iload 7, 2) := by decide +kernel
theorem dX7_gateMany_54 : decode cX7_gateMany 54 = .ok (.goto 54, 3) := by decide +kernel
theorem dX7_gateMany_57 : decode cX7_gateMany 57 = .ok (.iload_n 2, 1) := by decide +kernel
theorem dX7_gateMany_58 : decode cX7_gateMany 58 = .ok (.iconst 2, 1) := by decide +kernel
theorem dX7_gateMany_59 : decode cX7_gateMany 59 = .ok (.if_icmp .ne 21, 3) := by decide +kernel
theorem dX7_gateMany_62 : decode cX7_gateMany 62 = .ok (.iload 6, 2) := by decide +kernel
theorem dX7_gateMany_64 : decode cX7_gateMany 64 = .ok (.ifCond .ne 12, 3) := by decide +kernel
theorem dX7_gateMany_67 : decode cX7_gateMany 67 = .ok (.iload 7, 2) := by decide +kernel
theorem dX7_gateMany_69 : decode cX7_gateMany 69 = .ok (.ifCond .ne 7, 3) := by decide +kernel
theorem dX7_gateMany_72 : decode cX7_gateMany 72 = .ok (.iconst 1, 1) := by decide +kernel
theorem dX7_gateMany_73 : decode cX7_gateMany 73 = .ok (.goto 35, 3) := by decide +kernel
theorem dX7_gateMany_76 : decode cX7_gateMany 76 = .ok (.iconst 0, 1) := by decide +kernel
theorem dX7_gateMany_77 : decode cX7_gateMany 77 = .ok (.goto 31, 3) := by decide +kernel
theorem dX7_gateMany_80 : decode cX7_gateMany 80 = .ok (.iload 6, 2) := by decide +kernel
theorem dX7_gateMany_82 : decode cX7_gateMany 82 = .ok (.ifCond .eq 25, 3) := by decide +kernel
theorem dX7_gateMany_85 : decode cX7_gateMany 85 = .ok (.aload_n 0, 1) := by decide +kernel
theorem dX7_gateMany_86 : decode cX7_gateMany 86 = .ok (.iload_n 1, 1) := by decide +kernel
theorem dX7_gateMany_87 : decode cX7_gateMany 87 = .ok (.iload 5, 2) := by decide +kernel
theorem dX7_gateMany_89 : decode cX7_gateMany 89 = .ok (.iload 4, 2) := by decide +kernel
theorem dX7_gateMany_91 : decode cX7_gateMany 91 = .ok (.iadd, 1) := by decide +kernel
theorem dX7_gateMany_92 : decode cX7_gateMany 92 = .ok (.iconst 1, 1) := by decide +kernel
theorem dX7_gateMany_93 : decode cX7_gateMany 93 = .ok (.isub, 1) := by decide +kernel
theorem dX7_gateMany_94 : decode cX7_gateMany 94 = .ok (.iload 4, 2) := by decide +kernel
theorem dX7_gateMany_96 : decode cX7_gateMany 96 = .ok (.irem, 1) := by decide +kernel
theorem dX7_gateMany_97 : decode cX7_gateMany 97 = .ok (.invokevirtual 166, 3) := by decide +kernel
theorem dX7_gateMany_100 : decode cX7_gateMany 100 = .ok (.ifCond .ne 7, 3) := by decide +kernel
theorem dX7_gateMany_103 : decode cX7_gateMany 103 = .ok (.iconst 1, 1) := by decide +kernel
theorem dX7_gateMany_104 : decode cX7_gateMany 104 = .ok (.goto 4, 3) := by decide +kernel
theorem dX7_gateMany_107 : decode cX7_gateMany 107 = .ok (.iconst 0, 1) := by decide +kernel
theorem dX7_gateMany_108 : decode cX7_gateMany 108 = .ok (.istore 8, 2) := by decide +kernel
theorem dX7_gateMany_110 : decode cX7_gateMany 110 = .ok (.iload_n 3, 1) := by decide +kernel
theorem dX7_gateMany_111 : decode cX7_gateMany 111 = .ok (.iload 8, 2) := by decide +kernel
theorem dX7_gateMany_113 : decode cX7_gateMany 113 = .ok (.ifCond .eq 7, 3) := by decide +kernel
theorem dX7_gateMany_116 : decode cX7_gateMany 116 = .ok (.iconst 1, 1) := by decide +kernel
theorem dX7_gateMany_117 : decode cX7_gateMany 117 = .ok (.goto 4, 3) := by decide +kernel
theorem dX7_gateMany_120 : decode cX7_gateMany 120 = .ok (.iconst 0, 1) := by decide +kernel
theorem dX7_gateMany_121 : decode cX7_gateMany 121 = .ok (.iadd, 1) := by decide +kernel
theorem dX7_gateMany_122 : decode cX7_gateMany 122 = .ok (.istore_n 3, 1) := by decide +kernel
theorem dX7_gateMany_123 : decode cX7_gateMany 123 = .ok (.iinc 5 1, 3) := by decide +kernel
theorem dX7_gateMany_126 : decode cX7_gateMany 126 = .ok (.goto (-113), 3) := by decide +kernel
theorem dX7_gateMany_129 : decode cX7_gateMany 129 = .ok (.iload_n 3, 1) := by decide +kernel
theorem dX7_gateMany_130 : decode cX7_gateMany 130 = .ok (.ireturn, 1) := by decide +kernel
theorem dX7_ofBy_0 : decode cX7_ofBy 0 = .ok (.aload_n 0, 1) := by decide +kernel
theorem dX7_ofBy_1 : decode cX7_ofBy 1 = .ok (.invokevirtual 117, 3) := by decide +kernel
theorem dX7_ofBy_4 : decode cX7_ofBy 4 = .ok (.iload_n 2, 1) := by decide +kernel
theorem dX7_ofBy_5 : decode cX7_ofBy 5 = .ok (.ifCond .ne 12, 3) := by decide +kernel
theorem dX7_ofBy_8 : decode cX7_ofBy 8 = .ok (.aload_n 0, 1) := by decide +kernel
theorem dX7_ofBy_9 : decode cX7_ofBy 9 = .ok (.getfield 43, 3) := by decide +kernel
theorem dX7_ofBy_12 : decode cX7_ofBy 12 = .ok (.iload_n 1, 1) := by decide +kernel
theorem dX7_ofBy_13 : decode cX7_ofBy 13 = .ok (.iaload, 1) := by decide +kernel
theorem dX7_ofBy_14 : decode cX7_ofBy 14 = .ok (.goto 38, 3) := by decide +kernel
theorem dX7_ofBy_17 : decode cX7_ofBy 17 = .ok (.iload_n 2, 1) := by decide +kernel
theorem dX7_ofBy_18 : decode cX7_ofBy 18 = .ok (.iconst 1, 1) := by decide +kernel
theorem dX7_ofBy_19 : decode cX7_ofBy 19 = .ok (.if_icmp .ne 12, 3) := by decide +kernel
theorem dX7_ofBy_22 : decode cX7_ofBy 22 = .ok (.aload_n 0, 1) := by decide +kernel
theorem dX7_ofBy_23 : decode cX7_ofBy 23 = .ok (.getfield 46, 3) := by decide +kernel
theorem dX7_ofBy_26 : decode cX7_ofBy 26 = .ok (.iload_n 1, 1) := by decide +kernel
theorem dX7_ofBy_27 : decode cX7_ofBy 27 = .ok (.iaload, 1) := by decide +kernel
theorem dX7_ofBy_28 : decode cX7_ofBy 28 = .ok (.goto 24, 3) := by decide +kernel
theorem dX7_ofBy_31 : decode cX7_ofBy 31 = .ok (.iload_n 2, 1) := by decide +kernel
theorem dX7_ofBy_32 : decode cX7_ofBy 32 = .ok (.iconst 2, 1) := by decide +kernel
theorem dX7_ofBy_33 : decode cX7_ofBy 33 = .ok (.if_icmp .ne 11, 3) := by decide +kernel
theorem dX7_ofBy_36 : decode cX7_ofBy 36 = .ok (.aload_n 0, 1) := by decide +kernel
theorem dX7_ofBy_37 : decode cX7_ofBy 37 = .ok (.iload_n 1, 1) := by decide +kernel
theorem dX7_ofBy_38 : decode cX7_ofBy 38 = .ok (.invokevirtual 172, 3) := by decide +kernel
theorem dX7_ofBy_41 : decode cX7_ofBy 41 = .ok (.goto 11, 3) := by decide +kernel
theorem dX7_ofBy_44 : decode cX7_ofBy 44 = .ok (.aload_n 0, 1) := by decide +kernel
theorem dX7_ofBy_45 : decode cX7_ofBy 45 = .ok (.iload_n 1, 1) := by decide +kernel
theorem dX7_ofBy_46 : decode cX7_ofBy 46 = .ok (.iload_n 2, 1) := by decide +kernel
theorem dX7_ofBy_47 : decode cX7_ofBy 47 = .ok (.iconst 3, 1) := by decide +kernel
theorem dX7_ofBy_48 : decode cX7_ofBy 48 = .ok (.isub, 1) := by decide +kernel
theorem dX7_ofBy_49 : decode cX7_ofBy 49 = .ok (.invokevirtual 175, 3) := by decide +kernel
theorem dX7_ofBy_52 : decode cX7_ofBy 52 = .ok (.ireturn, 1) := by decide +kernel
theorem dX7_of_0 : decode cX7_of 0 = .ok (.iload_n 1, 1) := by decide +kernel
theorem dX7_of_1 : decode cX7_of 1 = .ok (.invokestatic 98, 3) := by decide +kernel
theorem dX7_of_4 : decode cX7_of 4 = .ok (.ifCond .eq 22, 3) := by decide +kernel
theorem dX7_of_7 : decode cX7_of 7 = .ok (.iload_n 2, 1) := by decide +kernel
theorem dX7_of_8 : decode cX7_of 8 = .ok (.iconst 0, 1) := by decide +kernel
theorem dX7_of_9 : decode cX7_of 9 = .ok (.bipush 6, 2) := by decide +kernel
theorem dX7_of_11 : decode cX7_of 11 = .ok (.invokestatic 86, 3) := by decide +kernel
theorem dX7_of_14 : decode cX7_of 14 = .ok (.ifCond .eq 12, 3) := by decide +kernel
theorem dX7_of_17 : decode cX7_of 17 = .ok (.aload_n 0, 1) := by decide +kernel
theorem dX7_of_18 : decode cX7_of 18 = .ok (.iload_n 1, 1) := by decide +kernel
theorem dX7_of_19 : decode cX7_of 19 = .ok (.iload_n 2, 1) := by decide +kernel
theorem dX7_of_20 : decode cX7_of 20 = .ok (.invokevirtual 178, 3) := by decide +kernel
theorem dX7_of_23 : decode cX7_of 23 = .ok (.goto 7, 3) := by decide +kernel
theorem dX7_of_26 : decode cX7_of 26 = .ok (.aload_n 0, 1) := by decide +kernel
theorem dX7_of_27 : decode cX7_of 27 = .ok (.invokevirtual 94, 3) := by decide +kernel
theorem dX7_of_30 : decode cX7_of 30 = .ok (.ireturn, 1) := by decide +kernel
theorem dX7_at_0 : decode cX7_at 0 = .ok (.iload_n 1, 1) := by decide +kernel
theorem dX7_at_1 : decode cX7_at 1 = .ok (.invokestatic 98, 3) := by decide +kernel
theorem dX7_at_4 : decode cX7_at 4 = .ok (.ifCond .eq 28, 3) := by decide +kernel
theorem dX7_at_7 : decode cX7_at 7 = .ok (.iload_n 2, 1) := by decide +kernel
theorem dX7_at_8 : decode cX7_at 8 = .ok (.iconst 0, 1) := by decide +kernel
theorem dX7_at_9 : decode cX7_at 9 = .ok (.aload_n 0, 1) := by decide +kernel
theorem dX7_at_10 : decode cX7_at 10 = .ok (.getfield 13, 3) := by decide +kernel
theorem dX7_at_13 : decode cX7_at 13 = .ok (.iconst 0, 1) := by decide +kernel
theorem dX7_at_14 : decode cX7_at 14 = .ok (.iaload, 1) := by decide +kernel
theorem dX7_at_15 : decode cX7_at 15 = .ok (.iconst 1, 1) := by decide +kernel
theorem dX7_at_16 : decode cX7_at 16 = .ok (.isub, 1) := by decide +kernel
theorem dX7_at_17 : decode cX7_at 17 = .ok (.invokestatic 86, 3) := by decide +kernel
theorem dX7_at_20 : decode cX7_at 20 = .ok (.ifCond .eq 12, 3) := by decide +kernel
theorem dX7_at_23 : decode cX7_at 23 = .ok (.iload_n 3, 1) := by decide +kernel
theorem dX7_at_24 : decode cX7_at 24 = .ok (.iconst 0, 1) := by decide +kernel
theorem dX7_at_25 : decode cX7_at 25 = .ok (.iconst 3, 1) := by decide +kernel
theorem dX7_at_26 : decode cX7_at 26 = .ok (.invokestatic 86, 3) := by decide +kernel
theorem dX7_at_29 : decode cX7_at 29 = .ok (.ifCond .ne 8, 3) := by decide +kernel
theorem dX7_at_32 : decode cX7_at 32 = .ok (.aload_n 0, 1) := by decide +kernel
theorem dX7_at_33 : decode cX7_at 33 = .ok (.invokevirtual 94, 3) := by decide +kernel
theorem dX7_at_36 : decode cX7_at 36 = .ok (.ireturn, 1) := by decide +kernel
theorem dX7_at_37 : decode cX7_at 37 = .ok (.aload_n 0, 1) := by decide +kernel
theorem dX7_at_38 : decode cX7_at 38 = .ok (.invokevirtual 117, 3) := by decide +kernel
theorem dX7_at_41 : decode cX7_at 41 = .ok (.iload_n 3, 1) := by decide +kernel
theorem dX7_at_42 : decode cX7_at 42 = .ok (.ifCond .ne 12, 3) := by decide +kernel
theorem dX7_at_45 : decode cX7_at 45 = .ok (.aload_n 0, 1) := by decide +kernel
theorem dX7_at_46 : decode cX7_at 46 = .ok (.iload_n 1, 1) := by decide +kernel
theorem dX7_at_47 : decode cX7_at 47 = .ok (.iload_n 2, 1) := by decide +kernel
theorem dX7_at_48 : decode cX7_at 48 = .ok (.invokevirtual 138, 3) := by decide +kernel
theorem dX7_at_51 : decode cX7_at 51 = .ok (.goto 46, 3) := by decide +kernel
theorem dX7_at_54 : decode cX7_at 54 = .ok (.iload_n 3, 1) := by decide +kernel
theorem dX7_at_55 : decode cX7_at 55 = .ok (.iconst 1, 1) := by decide +kernel
theorem dX7_at_56 : decode cX7_at 56 = .ok (.if_icmp .ne 12, 3) := by decide +kernel
theorem dX7_at_59 : decode cX7_at 59 = .ok (.aload_n 0, 1) := by decide +kernel
theorem dX7_at_60 : decode cX7_at 60 = .ok (.iload_n 1, 1) := by decide +kernel
theorem dX7_at_61 : decode cX7_at 61 = .ok (.iload_n 2, 1) := by decide +kernel
theorem dX7_at_62 : decode cX7_at 62 = .ok (.invokevirtual 166, 3) := by decide +kernel
theorem dX7_at_65 : decode cX7_at 65 = .ok (.goto 32, 3) := by decide +kernel
theorem dX7_at_68 : decode cX7_at 68 = .ok (.iload_n 3, 1) := by decide +kernel
theorem dX7_at_69 : decode cX7_at 69 = .ok (.iconst 2, 1) := by decide +kernel
theorem dX7_at_70 : decode cX7_at 70 = .ok (.if_icmp .ne 12, 3) := by decide +kernel
theorem dX7_at_73 : decode cX7_at 73 = .ok (.aload_n 0, 1) := by decide +kernel
theorem dX7_at_74 : decode cX7_at 74 = .ok (.iload_n 1, 1) := by decide +kernel
theorem dX7_at_75 : decode cX7_at 75 = .ok (.iload_n 2, 1) := by decide +kernel
theorem dX7_at_76 : decode cX7_at 76 = .ok (.invokevirtual 169, 3) := by decide +kernel
theorem dX7_at_79 : decode cX7_at 79 = .ok (.goto 18, 3) := by decide +kernel
theorem dX7_at_82 : decode cX7_at 82 = .ok (.aload_n 0, 1) := by decide +kernel
theorem dX7_at_83 : decode cX7_at 83 = .ok (.iload_n 1, 1) := by decide +kernel
theorem dX7_at_84 : decode cX7_at 84 = .ok (.iload_n 2, 1) := by decide +kernel
theorem dX7_at_85 : decode cX7_at 85 = .ok (.invokevirtual 144, 3) := by decide +kernel
theorem dX7_at_88 : decode cX7_at 88 = .ok (.iconst 1, 1) := by decide +kernel
theorem dX7_at_89 : decode cX7_at 89 = .ok (.if_icmp .ne 7, 3) := by decide +kernel
theorem dX7_at_92 : decode cX7_at 92 = .ok (.iconst 1, 1) := by decide +kernel
theorem dX7_at_93 : decode cX7_at 93 = .ok (.goto 4, 3) := by decide +kernel
theorem dX7_at_96 : decode cX7_at 96 = .ok (.iconst 0, 1) := by decide +kernel
theorem dX7_at_97 : decode cX7_at 97 = .ok (.istore 4, 2) := by decide +kernel
theorem dX7_at_99 : decode cX7_at 99 = .ok (.iload 4, 2) := by decide +kernel
theorem dX7_at_101 : decode cX7_at 101 = .ok (.ifCond .eq 7, 3) := by decide +kernel
theorem dX7_at_104 : decode cX7_at 104 = .ok (.iconst 1, 1) := by decide +kernel
theorem dX7_at_105 : decode cX7_at 105 = .ok (.goto 4, 3) := by decide +kernel
theorem dX7_at_108 : decode cX7_at 108 = .ok (.iconst 0, 1) := by decide +kernel
theorem dX7_at_109 : decode cX7_at 109 = .ok (.ireturn, 1) := by decide +kernel
theorem dX7_run_0 : decode cX7_run 0 = .ok (.iload_n 1, 1) := by decide +kernel
theorem dX7_run_1 : decode cX7_run 1 = .ok (.ifCond .lt 12, 3) := by decide +kernel
theorem dX7_run_4 : decode cX7_run 4 = .ok (.iload_n 2, 1) := by decide +kernel
theorem dX7_run_5 : decode cX7_run 5 = .ok (.iconst 0, 1) := by decide +kernel
theorem dX7_run_6 : decode cX7_run 6 = .ok (.iconst 3, 1) := by decide +kernel
theorem dX7_run_7 : decode cX7_run 7 = .ok (.invokestatic 86, 3) := by decide +kernel
theorem dX7_run_10 : decode cX7_run 10 = .ok (.ifCond .ne 8, 3) := by decide +kernel
theorem dX7_run_13 : decode cX7_run 13 = .ok (.aload_n 0, 1) := by decide +kernel
theorem dX7_run_14 : decode cX7_run 14 = .ok (.invokevirtual 94, 3) := by decide +kernel
theorem dX7_run_17 : decode cX7_run 17 = .ok (.ireturn, 1) := by decide +kernel
theorem dX7_run_18 : decode cX7_run 18 = .ok (.aload_n 0, 1) := by decide +kernel
theorem dX7_run_19 : decode cX7_run 19 = .ok (.invokevirtual 117, 3) := by decide +kernel
theorem dX7_run_22 : decode cX7_run 22 = .ok (.aload_n 0, 1) := by decide +kernel
theorem dX7_run_23 : decode cX7_run 23 = .ok (.invokevirtual 154, 3) := by decide +kernel
theorem dX7_run_26 : decode cX7_run 26 = .ok (.iload_n 1, 1) := by decide +kernel
theorem dX7_run_27 : decode cX7_run 27 = .ok (.aload_n 0, 1) := by decide +kernel
theorem dX7_run_28 : decode cX7_run 28 = .ok (.getfield 147, 3) := by decide +kernel
theorem dX7_run_31 : decode cX7_run 31 = .ok (.if_icmp .lt 5, 3) := by decide +kernel
theorem dX7_run_34 : decode cX7_run 34 = .ok (.iconst (-1), 1) := by decide +kernel
theorem dX7_run_35 : decode cX7_run 35 = .ok (.ireturn, 1) := by decide +kernel
theorem dX7_run_36 : decode cX7_run 36 = .ok (.iload_n 2, 1) := by decide +kernel
theorem dX7_run_37 : decode cX7_run 37 = .ok (.ifCond .ne 12, 3) := by decide +kernel
theorem dX7_run_40 : decode cX7_run 40 = .ok (.aload_n 0, 1) := by decide +kernel
theorem dX7_run_41 : decode cX7_run 41 = .ok (.getfield 52, 3) := by decide +kernel
theorem dX7_run_44 : decode cX7_run 44 = .ok (.iload_n 1, 1) := by decide +kernel
theorem dX7_run_45 : decode cX7_run 45 = .ok (.iaload, 1) := by decide +kernel
theorem dX7_run_46 : decode cX7_run 46 = .ok (.goto 40, 3) := by decide +kernel
theorem dX7_run_49 : decode cX7_run 49 = .ok (.iload_n 2, 1) := by decide +kernel
theorem dX7_run_50 : decode cX7_run 50 = .ok (.iconst 1, 1) := by decide +kernel
theorem dX7_run_51 : decode cX7_run 51 = .ok (.if_icmp .ne 12, 3) := by decide +kernel
theorem dX7_run_54 : decode cX7_run 54 = .ok (.aload_n 0, 1) := by decide +kernel
theorem dX7_run_55 : decode cX7_run 55 = .ok (.getfield 55, 3) := by decide +kernel
theorem dX7_run_58 : decode cX7_run 58 = .ok (.iload_n 1, 1) := by decide +kernel
theorem dX7_run_59 : decode cX7_run 59 = .ok (.iaload, 1) := by decide +kernel
theorem dX7_run_60 : decode cX7_run 60 = .ok (.goto 26, 3) := by decide +kernel
theorem dX7_run_63 : decode cX7_run 63 = .ok (.iload_n 2, 1) := by decide +kernel
theorem dX7_run_64 : decode cX7_run 64 = .ok (.iconst 2, 1) := by decide +kernel
theorem dX7_run_65 : decode cX7_run 65 = .ok (.if_icmp .ne 16, 3) := by decide +kernel
theorem dX7_run_68 : decode cX7_run 68 = .ok (.aload_n 0, 1) := by decide +kernel
theorem dX7_run_69 : decode cX7_run 69 = .ok (.aload_n 0, 1) := by decide +kernel
theorem dX7_run_70 : decode cX7_run 70 = .ok (.getfield 52, 3) := by decide +kernel
theorem dX7_run_73 : decode cX7_run 73 = .ok (.iload_n 1, 1) := by decide +kernel
theorem dX7_run_74 : decode cX7_run 74 = .ok (.iaload, 1) := by decide +kernel
theorem dX7_run_75 : decode cX7_run 75 = .ok (.invokevirtual 150, 3) := by decide +kernel
theorem dX7_run_78 : decode cX7_run 78 = .ok (.goto 8, 3) := by decide +kernel
theorem dX7_run_81 : decode cX7_run 81 = .ok (.aload_n 0, 1) := by decide +kernel
theorem dX7_run_82 : decode cX7_run 82 = .ok (.iload_n 1, 1) := by decide +kernel
theorem dX7_run_83 : decode cX7_run 83 = .ok (.invokevirtual 157, 3) := by decide +kernel
theorem dX7_run_86 : decode cX7_run 86 = .ok (.ireturn, 1) := by decide +kernel
theorem dX7_seen_0 : decode cX7_seen 0 = .ok (.iload_n 1, 1) := by decide +kernel
theorem dX7_seen_1 : decode cX7_seen 1 = .ok (.iconst 0, 1) := by decide +kernel
theorem dX7_seen_2 : decode cX7_seen 2 = .ok (.iconst 1, 1) := by decide +kernel
theorem dX7_seen_3 : decode cX7_seen 3 = .ok (.invokestatic 86, 3) := by decide +kernel
theorem dX7_seen_6 : decode cX7_seen 6 = .ok (.ifCond .ne 8, 3) := by decide +kernel
theorem dX7_seen_9 : decode cX7_seen 9 = .ok (.aload_n 0, 1) := by decide +kernel
theorem dX7_seen_10 : decode cX7_seen 10 = .ok (.invokevirtual 94, 3) := by decide +kernel
theorem dX7_seen_13 : decode cX7_seen 13 = .ok (.ireturn, 1) := by decide +kernel
theorem dX7_seen_14 : decode cX7_seen 14 = .ok (.aload_n 0, 1) := by decide +kernel
theorem dX7_seen_15 : decode cX7_seen 15 = .ok (.invokevirtual 117, 3) := by decide +kernel
theorem dX7_seen_18 : decode cX7_seen 18 = .ok (.aload_n 0, 1) := by decide +kernel
theorem dX7_seen_19 : decode cX7_seen 19 = .ok (.invokevirtual 181, 3) := by decide +kernel
theorem dX7_seen_22 : decode cX7_seen 22 = .ok (.istore_n 2, 1) := by decide +kernel
theorem dX7_seen_23 : decode cX7_seen 23 = .ok (.iload_n 1, 1) := by decide +kernel
theorem dX7_seen_24 : decode cX7_seen 24 = .ok (.ifCond .ne 7, 3) := by decide +kernel
theorem dX7_seen_27 : decode cX7_seen 27 = .ok (.iload_n 2, 1) := by decide +kernel
theorem dX7_seen_28 : decode cX7_seen 28 = .ok (.goto 7, 3) := by decide +kernel
theorem dX7_seen_31 : decode cX7_seen 31 = .ok (.iload_n 2, 1) := by decide +kernel
theorem dX7_seen_32 : decode cX7_seen 32 = .ok (.invokestatic 184, 3) := by decide +kernel
theorem dX7_seen_35 : decode cX7_seen 35 = .ok (.ireturn, 1) := by decide +kernel
theorem dX7_told_0 : decode cX7_told 0 = .ok (.iload_n 1, 1) := by decide +kernel
theorem dX7_told_1 : decode cX7_told 1 = .ok (.invokestatic 98, 3) := by decide +kernel
theorem dX7_told_4 : decode cX7_told 4 = .ok (.ifCond .ne 8, 3) := by decide +kernel
theorem dX7_told_7 : decode cX7_told 7 = .ok (.aload_n 0, 1) := by decide +kernel
theorem dX7_told_8 : decode cX7_told 8 = .ok (.invokevirtual 94, 3) := by decide +kernel
theorem dX7_told_11 : decode cX7_told 11 = .ok (.ireturn, 1) := by decide +kernel
theorem dX7_told_12 : decode cX7_told 12 = .ok (.aload_n 0, 1) := by decide +kernel
theorem dX7_told_13 : decode cX7_told 13 = .ok (.invokevirtual 117, 3) := by decide +kernel
theorem dX7_told_16 : decode cX7_told 16 = .ok (.aload_n 0, 1) := by decide +kernel
theorem dX7_told_17 : decode cX7_told 17 = .ok (.invokevirtual 181, 3) := by decide +kernel
theorem dX7_told_20 : decode cX7_told 20 = .ok (.istore_n 2, 1) := by decide +kernel
theorem dX7_told_21 : decode cX7_told 21 = .ok (.iload_n 2, 1) := by decide +kernel
theorem dX7_told_22 : decode cX7_told 22 = .ok (.iload_n 1, 1) := by decide +kernel
theorem dX7_told_23 : decode cX7_told 23 = .ok (.ishr, 1) := by decide +kernel
theorem dX7_told_24 : decode cX7_told 24 = .ok (.iconst 1, 1) := by decide +kernel
theorem dX7_told_25 : decode cX7_told 25 = .ok (.iand, 1) := by decide +kernel
theorem dX7_told_26 : decode cX7_told 26 = .ok (.iconst 1, 1) := by decide +kernel
theorem dX7_told_27 : decode cX7_told 27 = .ok (.if_icmp .ne 10, 3) := by decide +kernel
theorem dX7_told_30 : decode cX7_told 30 = .ok (.aload_n 0, 1) := by decide +kernel
theorem dX7_told_31 : decode cX7_told 31 = .ok (.getfield 16, 3) := by decide +kernel
theorem dX7_told_34 : decode cX7_told 34 = .ok (.iload_n 1, 1) := by decide +kernel
theorem dX7_told_35 : decode cX7_told 35 = .ok (.iaload, 1) := by decide +kernel
theorem dX7_told_36 : decode cX7_told 36 = .ok (.ireturn, 1) := by decide +kernel
theorem dX7_told_37 : decode cX7_told 37 = .ok (.iload_n 2, 1) := by decide +kernel
theorem dX7_told_38 : decode cX7_told 38 = .ok (.invokestatic 184, 3) := by decide +kernel
theorem dX7_told_41 : decode cX7_told 41 = .ok (.iconst 2, 1) := by decide +kernel
theorem dX7_told_42 : decode cX7_told 42 = .ok (.if_icmp .ne 28, 3) := by decide +kernel
theorem dX7_told_45 : decode cX7_told 45 = .ok (.aload_n 0, 1) := by decide +kernel
theorem dX7_told_46 : decode cX7_told 46 = .ok (.getfield 16, 3) := by decide +kernel
theorem dX7_told_49 : decode cX7_told 49 = .ok (.iload_n 1, 1) := by decide +kernel
theorem dX7_told_50 : decode cX7_told 50 = .ok (.iconst 1, 1) := by decide +kernel
theorem dX7_told_51 : decode cX7_told 51 = .ok (.iadd, 1) := by decide +kernel
theorem dX7_told_52 : decode cX7_told 52 = .ok (.iconst 3, 1) := by decide +kernel
theorem dX7_told_53 : decode cX7_told 53 = .ok (.irem, 1) := by decide +kernel
theorem dX7_told_54 : decode cX7_told 54 = .ok (.iaload, 1) := by decide +kernel
theorem dX7_told_55 : decode cX7_told 55 = .ok (.ineg, 1) := by decide +kernel
theorem dX7_told_56 : decode cX7_told 56 = .ok (.aload_n 0, 1) := by decide +kernel
theorem dX7_told_57 : decode cX7_told 57 = .ok (.getfield 16, 3) := by decide +kernel
theorem dX7_told_60 : decode cX7_told 60 = .ok (.iload_n 1, 1) := by decide +kernel
theorem dX7_told_61 : decode cX7_told 61 = .ok (.iconst 2, 1) := by decide +kernel
theorem dX7_told_62 : decode cX7_told 62 = .ok (.iadd, 1) := by decide +kernel
theorem dX7_told_63 : decode cX7_told 63 = .ok (.iconst 3, 1) := by decide +kernel
theorem dX7_told_64 : decode cX7_told 64 = .ok (.irem, 1) := by decide +kernel
theorem dX7_told_65 : decode cX7_told 65 = .ok (.iaload, 1) := by decide +kernel
theorem dX7_told_66 : decode cX7_told 66 = .ok (.isub, 1) := by decide +kernel
theorem dX7_told_67 : decode cX7_told 67 = .ok (.goto 6, 3) := by decide +kernel
theorem dX7_told_70 : decode cX7_told 70 = .ok (.sipush (-1000), 3) := by decide +kernel
theorem dX7_told_73 : decode cX7_told 73 = .ok (.ireturn, 1) := by decide +kernel
theorem dX7_both_0 : decode cX7_both 0 = .ok (.aload_n 0, 1) := by decide +kernel
theorem dX7_both_1 : decode cX7_both 1 = .ok (.invokevirtual 117, 3) := by decide +kernel
theorem dX7_both_4 : decode cX7_both 4 = .ok (.iconst 0, 1) := by decide +kernel
theorem dX7_both_5 : decode cX7_both 5 = .ok (.istore_n 1, 1) := by decide +kernel
theorem dX7_both_6 : decode cX7_both 6 = .ok (.iconst 0, 1) := by decide +kernel
theorem dX7_both_7 : decode cX7_both 7 = .ok (.istore_n 2, 1) := by decide +kernel
theorem dX7_both_8 : decode cX7_both 8 = .ok (.iload_n 2, 1) := by decide +kernel
theorem dX7_both_9 : decode cX7_both 9 = .ok (.iconst 3, 1) := by decide +kernel
theorem dX7_both_10 : decode cX7_both 10 = .ok (.if_icmp .ge 53, 3) := by decide +kernel
theorem dX7_both_13 : decode cX7_both 13 = .ok (.iconst 0, 1) := by decide +kernel
theorem dX7_both_14 : decode cX7_both 14 = .ok (.istore_n 3, 1) := by decide +kernel
theorem dX7_both_15 : decode cX7_both 15 = .ok (.iload_n 3, 1) := by decide +kernel
theorem dX7_both_16 : decode cX7_both 16 = .ok (.aload_n 0, 1) := by decide +kernel
theorem dX7_both_17 : decode cX7_both 17 = .ok (.getfield 13, 3) := by decide +kernel
theorem dX7_both_20 : decode cX7_both 20 = .ok (.iconst 0, 1) := by decide +kernel
theorem dX7_both_21 : decode cX7_both 21 = .ok (.iaload, 1) := by decide +kernel
theorem dX7_both_22 : decode cX7_both 22 = .ok (.if_icmp .ge 35, 3) := by decide +kernel
theorem dX7_both_25 : decode cX7_both 25 = .ok (.iload_n 1, 1) := by decide +kernel
theorem dX7_both_26 : decode cX7_both 26 = .ok (.aload_n 0, 1) := by decide +kernel
theorem dX7_both_27 : decode cX7_both 27 = .ok (.iload_n 2, 1) := by decide +kernel
theorem dX7_both_28 : decode cX7_both 28 = .ok (.iload_n 3, 1) := by decide +kernel
theorem dX7_both_29 : decode cX7_both 29 = .ok (.invokevirtual 166, 3) := by decide +kernel
theorem dX7_both_32 : decode cX7_both 32 = .ok (.ifCond .eq 16, 3) := by decide +kernel
theorem dX7_both_35 : decode cX7_both 35 = .ok (.aload_n 0, 1) := by decide +kernel
theorem dX7_both_36 : decode cX7_both 36 = .ok (.iload_n 2, 1) := by decide +kernel
theorem dX7_both_37 : decode cX7_both 37 = .ok (.iload_n 3, 1) := by decide +kernel
theorem dX7_both_38 : decode cX7_both 38 = .ok (.invokevirtual 169, 3) := by decide +kernel
theorem dX7_both_41 : decode cX7_both 41 = .ok (.ifCond .eq 7, 3) := by decide +kernel
theorem dX7_both_44 : decode cX7_both 44 = .ok (.iconst 1, 1) := by decide +kernel
theorem dX7_both_45 : decode cX7_both 45 = .ok (.goto 4, 3) := by decide +kernel
theorem dX7_both_48 : decode cX7_both 48 = .ok (.iconst 0, 1) := by decide +kernel
theorem dX7_both_49 : decode cX7_both 49 = .ok (.ior, 1) := by decide +kernel
theorem dX7_both_50 : decode cX7_both 50 = .ok (.istore_n 1, 1) := by decide +kernel
theorem dX7_both_51 : decode cX7_both 51 = .ok (.iinc 3 1, 3) := by decide +kernel
theorem dX7_both_54 : decode cX7_both 54 = .ok (.goto (-39), 3) := by decide +kernel
theorem dX7_both_57 : decode cX7_both 57 = .ok (.iinc 2 1, 3) := by decide +kernel
theorem dX7_both_60 : decode cX7_both 60 = .ok (.goto (-52), 3) := by decide +kernel
theorem dX7_both_63 : decode cX7_both 63 = .ok (.iload_n 1, 1) := by decide +kernel
theorem dX7_both_64 : decode cX7_both 64 = .ok (.ireturn, 1) := by decide +kernel
theorem dX7_off_0 : decode cX7_off 0 = .ok (.iload_n 1, 1) := by decide +kernel
theorem dX7_off_1 : decode cX7_off 1 = .ok (.invokestatic 98, 3) := by decide +kernel
theorem dX7_off_4 : decode cX7_off 4 = .ok (.ifCond .ne 8, 3) := by decide +kernel
theorem dX7_off_7 : decode cX7_off 7 = .ok (.aload_n 0, 1) := by decide +kernel
theorem dX7_off_8 : decode cX7_off 8 = .ok (.invokevirtual 94, 3) := by decide +kernel
theorem dX7_off_11 : decode cX7_off 11 = .ok (.ireturn, 1) := by decide +kernel
theorem dX7_off_12 : decode cX7_off 12 = .ok (.aload_n 0, 1) := by decide +kernel
theorem dX7_off_13 : decode cX7_off 13 = .ok (.invokevirtual 117, 3) := by decide +kernel
theorem dX7_off_16 : decode cX7_off 16 = .ok (.aload_n 0, 1) := by decide +kernel
theorem dX7_off_17 : decode cX7_off 17 = .ok (.iload_n 1, 1) := by decide +kernel
theorem dX7_off_18 : decode cX7_off 18 = .ok (.invokevirtual 172, 3) := by decide +kernel
theorem dX7_off_21 : decode cX7_off 21 = .ok (.aload_n 0, 1) := by decide +kernel
theorem dX7_off_22 : decode cX7_off 22 = .ok (.getfield 40, 3) := by decide +kernel
theorem dX7_off_25 : decode cX7_off 25 = .ok (.iload_n 1, 1) := by decide +kernel
theorem dX7_off_26 : decode cX7_off 26 = .ok (.iaload, 1) := by decide +kernel
theorem dX7_off_27 : decode cX7_off 27 = .ok (.isub, 1) := by decide +kernel
theorem dX7_off_28 : decode cX7_off 28 = .ok (.ireturn, 1) := by decide +kernel
theorem dX7_dies_0 : decode cX7_dies 0 = .ok (.iload_n 1, 1) := by decide +kernel
theorem dX7_dies_1 : decode cX7_dies 1 = .ok (.invokestatic 98, 3) := by decide +kernel
theorem dX7_dies_4 : decode cX7_dies 4 = .ok (.ifCond .ne 8, 3) := by decide +kernel
theorem dX7_dies_7 : decode cX7_dies 7 = .ok (.aload_n 0, 1) := by decide +kernel
theorem dX7_dies_8 : decode cX7_dies 8 = .ok (.invokevirtual 94, 3) := by decide +kernel
theorem dX7_dies_11 : decode cX7_dies 11 = .ok (.ireturn, 1) := by decide +kernel
theorem dX7_dies_12 : decode cX7_dies 12 = .ok (.aload_n 0, 1) := by decide +kernel
theorem dX7_dies_13 : decode cX7_dies 13 = .ok (.getfield 13, 3) := by decide +kernel
theorem dX7_dies_16 : decode cX7_dies 16 = .ok (.iconst 1, 1) := by decide +kernel
theorem dX7_dies_17 : decode cX7_dies 17 = .ok (.iaload, 1) := by decide +kernel
theorem dX7_dies_18 : decode cX7_dies 18 = .ok (.istore_n 2, 1) := by decide +kernel
theorem dX7_dies_19 : decode cX7_dies 19 = .ok (.iconst (-1), 1) := by decide +kernel
theorem dX7_dies_20 : decode cX7_dies 20 = .ok (.istore_n 3, 1) := by decide +kernel
theorem dX7_dies_21 : decode cX7_dies 21 = .ok (.iconst 5, 1) := by decide +kernel
theorem dX7_dies_22 : decode cX7_dies 22 = .ok (.istore 4, 2) := by decide +kernel
theorem dX7_dies_24 : decode cX7_dies 24 = .ok (.iload 4, 2) := by decide +kernel
theorem dX7_dies_26 : decode cX7_dies 26 = .ok (.ifCond .lt 63, 3) := by decide +kernel
theorem dX7_dies_29 : decode cX7_dies 29 = .ok (.aload_n 0, 1) := by decide +kernel
theorem dX7_dies_30 : decode cX7_dies 30 = .ok (.getfield 13, 3) := by decide +kernel
theorem dX7_dies_33 : decode cX7_dies 33 = .ok (.iconst 1, 1) := by decide +kernel
theorem dX7_dies_34 : decode cX7_dies 34 = .ok (.iload 4, 2) := by decide +kernel
theorem dX7_dies_36 : decode cX7_dies 36 = .ok (.iastore, 1) := by decide +kernel
theorem dX7_dies_37 : decode cX7_dies 37 = .ok (.aload_n 0, 1) := by decide +kernel
theorem dX7_dies_38 : decode cX7_dies 38 = .ok (.invokevirtual 117, 3) := by decide +kernel
theorem dX7_dies_41 : decode cX7_dies 41 = .ok (.aload_n 0, 1) := by decide +kernel
theorem dX7_dies_42 : decode cX7_dies 42 = .ok (.iload_n 1, 1) := by decide +kernel
theorem dX7_dies_43 : decode cX7_dies 43 = .ok (.iconst 0, 1) := by decide +kernel
theorem dX7_dies_44 : decode cX7_dies 44 = .ok (.invokevirtual 175, 3) := by decide +kernel
theorem dX7_dies_47 : decode cX7_dies 47 = .ok (.ifCond .ne 7, 3) := by decide +kernel
theorem dX7_dies_50 : decode cX7_dies 50 = .ok (.iconst 1, 1) := by decide +kernel
theorem dX7_dies_51 : decode cX7_dies 51 = .ok (.goto 4, 3) := by decide +kernel
theorem dX7_dies_54 : decode cX7_dies 54 = .ok (.iconst 0, 1) := by decide +kernel
theorem dX7_dies_55 : decode cX7_dies 55 = .ok (.istore 5, 2) := by decide +kernel
theorem dX7_dies_57 : decode cX7_dies 57 = .ok (.iload 5, 2) := by decide +kernel
theorem dX7_dies_59 : decode cX7_dies 59 = .ok (.ifCond .eq 22, 3) := by decide +kernel
theorem dX7_dies_62 : decode cX7_dies 62 = .ok (.iload 4, 2) := by decide +kernel
theorem dX7_dies_64 : decode cX7_dies 64 = .ok (.iconst 5, 1) := by decide +kernel
theorem dX7_dies_65 : decode cX7_dies 65 = .ok (.if_icmp .eq 11, 3) := by decide +kernel
theorem dX7_dies_68 : decode cX7_dies 68 = .ok (.iload_n 3, 1) := by decide +kernel
theorem dX7_dies_69 : decode cX7_dies 69 = .ok (.iload 4, 2) := by decide +kernel
theorem dX7_dies_71 : decode cX7_dies 71 = .ok (.iconst 1, 1) := by decide +kernel
theorem dX7_dies_72 : decode cX7_dies 72 = .ok (.iadd, 1) := by decide +kernel
theorem dX7_dies_73 : decode cX7_dies 73 = .ok (.if_icmp .ne 8, 3) := by decide +kernel
theorem dX7_dies_76 : decode cX7_dies 76 = .ok (.iload 4, 2) := by decide +kernel
theorem dX7_dies_78 : decode cX7_dies 78 = .ok (.goto 4, 3) := by decide +kernel
theorem dX7_dies_81 : decode cX7_dies 81 = .ok (.iload_n 3, 1) := by decide +kernel
theorem dX7_dies_82 : decode cX7_dies 82 = .ok (.istore_n 3, 1) := by decide +kernel
theorem dX7_dies_83 : decode cX7_dies 83 = .ok (.iinc 4 (-1), 3) := by decide +kernel
theorem dX7_dies_86 : decode cX7_dies 86 = .ok (.goto (-62), 3) := by decide +kernel
theorem dX7_dies_89 : decode cX7_dies 89 = .ok (.aload_n 0, 1) := by decide +kernel
theorem dX7_dies_90 : decode cX7_dies 90 = .ok (.getfield 13, 3) := by decide +kernel
theorem dX7_dies_93 : decode cX7_dies 93 = .ok (.iconst 1, 1) := by decide +kernel
theorem dX7_dies_94 : decode cX7_dies 94 = .ok (.iload_n 2, 1) := by decide +kernel
theorem dX7_dies_95 : decode cX7_dies 95 = .ok (.iastore, 1) := by decide +kernel
theorem dX7_dies_96 : decode cX7_dies 96 = .ok (.iload_n 3, 1) := by decide +kernel
theorem dX7_dies_97 : decode cX7_dies 97 = .ok (.ireturn, 1) := by decide +kernel
theorem dX7_comesEvent_0 : decode cX7_comesEvent 0 = .ok (.iload 5, 2) := by decide +kernel
theorem dX7_comesEvent_2 : decode cX7_comesEvent 2 = .ok (.iload 6, 2) := by decide +kernel
theorem dX7_comesEvent_4 : decode cX7_comesEvent 4 = .ok (.if_icmp .eq 51, 3) := by decide +kernel
theorem dX7_comesEvent_7 : decode cX7_comesEvent 7 = .ok (.aload_n 0, 1) := by decide +kernel
theorem dX7_comesEvent_8 : decode cX7_comesEvent 8 = .ok (.getfield 187, 3) := by decide +kernel
theorem dX7_comesEvent_11 : decode cX7_comesEvent 11 = .ok (.iload_n 1, 1) := by decide +kernel
theorem dX7_comesEvent_12 : decode cX7_comesEvent 12 = .ok (.if_icmp .ne 33, 3) := by decide +kernel
theorem dX7_comesEvent_15 : decode cX7_comesEvent 15 = .ok (.aload_n 0, 1) := by decide +kernel
theorem dX7_comesEvent_16 : decode cX7_comesEvent 16 = .ok (.iload_n 2, 1) := by decide +kernel
theorem dX7_comesEvent_17 : decode cX7_comesEvent 17 = .ok (.putfield 190, 3) := by decide +kernel
theorem dX7_comesEvent_20 : decode cX7_comesEvent 20 = .ok (.aload_n 0, 1) := by decide +kernel
theorem dX7_comesEvent_21 : decode cX7_comesEvent 21 = .ok (.iload_n 3, 1) := by decide +kernel
theorem dX7_comesEvent_22 : decode cX7_comesEvent 22 = .ok (.putfield 193, 3) := by decide +kernel
theorem dX7_comesEvent_25 : decode cX7_comesEvent 25 = .ok (.aload_n 0, 1) := by decide +kernel
theorem dX7_comesEvent_26 : decode cX7_comesEvent 26 = .ok (.iload 4, 2) := by decide +kernel
theorem dX7_comesEvent_28 : decode cX7_comesEvent 28 = .ok (.putfield 196, 3) := by decide +kernel
theorem dX7_comesEvent_31 : decode cX7_comesEvent 31 = .ok (.aload_n 0, 1) := by decide +kernel
theorem dX7_comesEvent_32 : decode cX7_comesEvent 32 = .ok (.iload 5, 2) := by decide +kernel
theorem dX7_comesEvent_34 : decode cX7_comesEvent 34 = .ok (.ifCond .eq 7, 3) := by decide +kernel
theorem dX7_comesEvent_37 : decode cX7_comesEvent 37 = .ok (.iconst 1, 1) := by decide +kernel
theorem dX7_comesEvent_38 : decode cX7_comesEvent 38 = .ok (.goto 4, 3) := by decide +kernel
theorem dX7_comesEvent_41 : decode cX7_comesEvent 41 = .ok (.iconst 0, 1) := by decide +kernel
theorem dX7_comesEvent_42 : decode cX7_comesEvent 42 = .ok (.putfield 199, 3) := by decide +kernel
theorem dX7_comesEvent_45 : decode cX7_comesEvent 45 = .ok (.aload_n 0, 1) := by decide +kernel
theorem dX7_comesEvent_46 : decode cX7_comesEvent 46 = .ok (.dup, 1) := by decide +kernel
theorem dX7_comesEvent_47 : decode cX7_comesEvent 47 = .ok (.getfield 187, 3) := by decide +kernel
theorem dX7_comesEvent_50 : decode cX7_comesEvent 50 = .ok (.iconst 1, 1) := by decide +kernel
theorem dX7_comesEvent_51 : decode cX7_comesEvent 51 = .ok (.iadd, 1) := by decide +kernel
theorem dX7_comesEvent_52 : decode cX7_comesEvent 52 = .ok (.putfield 187, 3) := by decide +kernel
theorem dX7_comesEvent_55 : decode cX7_comesEvent 55 = .ok (.return_, 1) := by decide +kernel
theorem dX7_setEvents_0 : decode cX7_setEvents 0 = .ok (.aload_n 0, 1) := by decide +kernel
theorem dX7_setEvents_1 : decode cX7_setEvents 1 = .ok (.invokevirtual 117, 3) := by decide +kernel
theorem dX7_setEvents_4 : decode cX7_setEvents 4 = .ok (.aload_n 0, 1) := by decide +kernel
theorem dX7_setEvents_5 : decode cX7_setEvents 5 = .ok (.iconst 0, 1) := by decide +kernel
theorem dX7_setEvents_6 : decode cX7_setEvents 6 = .ok (.putfield 187, 3) := by decide +kernel
theorem dX7_setEvents_9 : decode cX7_setEvents 9 = .ok (.iconst 0, 1) := by decide +kernel
theorem dX7_setEvents_10 : decode cX7_setEvents 10 = .ok (.istore_n 2, 1) := by decide +kernel
theorem dX7_setEvents_11 : decode cX7_setEvents 11 = .ok (.iload_n 2, 1) := by decide +kernel
theorem dX7_setEvents_12 : decode cX7_setEvents 12 = .ok (.aload_n 0, 1) := by decide +kernel
theorem dX7_setEvents_13 : decode cX7_setEvents 13 = .ok (.getfield 13, 3) := by decide +kernel
theorem dX7_setEvents_16 : decode cX7_setEvents 16 = .ok (.iconst 0, 1) := by decide +kernel
theorem dX7_setEvents_17 : decode cX7_setEvents 17 = .ok (.iaload, 1) := by decide +kernel
theorem dX7_setEvents_18 : decode cX7_setEvents 18 = .ok (.if_icmp .ge 88, 3) := by decide +kernel
theorem dX7_setEvents_21 : decode cX7_setEvents 21 = .ok (.iload_n 2, 1) := by decide +kernel
theorem dX7_setEvents_22 : decode cX7_setEvents 22 = .ok (.aload_n 0, 1) := by decide +kernel
theorem dX7_setEvents_23 : decode cX7_setEvents 23 = .ok (.getfield 13, 3) := by decide +kernel
theorem dX7_setEvents_26 : decode cX7_setEvents 26 = .ok (.iconst 0, 1) := by decide +kernel
theorem dX7_setEvents_27 : decode cX7_setEvents 27 = .ok (.iaload, 1) := by decide +kernel
theorem dX7_setEvents_28 : decode cX7_setEvents 28 = .ok (.iadd, 1) := by decide +kernel
theorem dX7_setEvents_29 : decode cX7_setEvents 29 = .ok (.iconst 1, 1) := by decide +kernel
theorem dX7_setEvents_30 : decode cX7_setEvents 30 = .ok (.isub, 1) := by decide +kernel
theorem dX7_setEvents_31 : decode cX7_setEvents 31 = .ok (.aload_n 0, 1) := by decide +kernel
theorem dX7_setEvents_32 : decode cX7_setEvents 32 = .ok (.getfield 13, 3) := by decide +kernel
theorem dX7_setEvents_35 : decode cX7_setEvents 35 = .ok (.iconst 0, 1) := by decide +kernel
theorem dX7_setEvents_36 : decode cX7_setEvents 36 = .ok (.iaload, 1) := by decide +kernel
theorem dX7_setEvents_37 : decode cX7_setEvents 37 = .ok (.irem, 1) := by decide +kernel
theorem dX7_setEvents_38 : decode cX7_setEvents 38 = .ok (.istore_n 3, 1) := by decide +kernel
theorem dX7_setEvents_39 : decode cX7_setEvents 39 = .ok (.iconst 0, 1) := by decide +kernel
theorem dX7_setEvents_40 : decode cX7_setEvents 40 = .ok (.istore 4, 2) := by decide +kernel
theorem dX7_setEvents_42 : decode cX7_setEvents 42 = .ok (.iload 4, 2) := by decide +kernel
theorem dX7_setEvents_44 : decode cX7_setEvents 44 = .ok (.iconst 3, 1) := by decide +kernel
theorem dX7_setEvents_45 : decode cX7_setEvents 45 = .ok (.if_icmp .ge 55, 3) := by decide +kernel
theorem dX7_setEvents_48 : decode cX7_setEvents 48 = .ok (.aload_n 0, 1) := by decide +kernel
theorem dX7_setEvents_49 : decode cX7_setEvents 49 = .ok (.iload_n 1, 1) := by decide +kernel
theorem dX7_setEvents_50 : decode cX7_setEvents 50 = .ok (.iload_n 2, 1) := by decide +kernel
theorem dX7_setEvents_51 : decode cX7_setEvents 51 = .ok (.iload 4, 2) := by decide +kernel
theorem dX7_setEvents_53 : decode cX7_setEvents 53 = .ok (.iconst 0, 1) := by decide +kernel
theorem dX7_setEvents_54 : decode cX7_setEvents 54 = .ok (.aload_n 0, 1) := by decide +kernel
theorem dX7_setEvents_55 : decode cX7_setEvents 55 = .ok (.iload 4, 2) := by decide +kernel
theorem dX7_setEvents_57 : decode cX7_setEvents 57 = .ok (.iload_n 2, 1) := by decide +kernel
theorem dX7_setEvents_58 : decode cX7_setEvents 58 = .ok (.invokevirtual 166, 3) := by decide +kernel
theorem dX7_setEvents_61 : decode cX7_setEvents 61 = .ok (.aload_n 0, 1) := by decide +kernel
theorem dX7_setEvents_62 : decode cX7_setEvents 62 = .ok (.iload 4, 2) := by decide +kernel
theorem dX7_setEvents_64 : decode cX7_setEvents 64 = .ok (.iload_n 3, 1) := by decide +kernel
theorem dX7_setEvents_65 : decode cX7_setEvents 65 = .ok (.invokevirtual 166, 3) := by decide +kernel
theorem dX7_setEvents_68 : decode cX7_setEvents 68 = .ok (.invokevirtual 202, 3) := by decide +kernel
theorem dX7_setEvents_71 : decode cX7_setEvents 71 = .ok (.aload_n 0, 1) := by decide +kernel
theorem dX7_setEvents_72 : decode cX7_setEvents 72 = .ok (.iload_n 1, 1) := by decide +kernel
theorem dX7_setEvents_73 : decode cX7_setEvents 73 = .ok (.iload_n 2, 1) := by decide +kernel
theorem dX7_setEvents_74 : decode cX7_setEvents 74 = .ok (.iload 4, 2) := by decide +kernel
theorem dX7_setEvents_76 : decode cX7_setEvents 76 = .ok (.iconst 1, 1) := by decide +kernel
theorem dX7_setEvents_77 : decode cX7_setEvents 77 = .ok (.aload_n 0, 1) := by decide +kernel
theorem dX7_setEvents_78 : decode cX7_setEvents 78 = .ok (.iload 4, 2) := by decide +kernel
theorem dX7_setEvents_80 : decode cX7_setEvents 80 = .ok (.iload_n 2, 1) := by decide +kernel
theorem dX7_setEvents_81 : decode cX7_setEvents 81 = .ok (.invokevirtual 169, 3) := by decide +kernel
theorem dX7_setEvents_84 : decode cX7_setEvents 84 = .ok (.aload_n 0, 1) := by decide +kernel
theorem dX7_setEvents_85 : decode cX7_setEvents 85 = .ok (.iload 4, 2) := by decide +kernel
theorem dX7_setEvents_87 : decode cX7_setEvents 87 = .ok (.iload_n 3, 1) := by decide +kernel
theorem dX7_setEvents_88 : decode cX7_setEvents 88 = .ok (.invokevirtual 169, 3) := by decide +kernel
theorem dX7_setEvents_91 : decode cX7_setEvents 91 = .ok (.invokevirtual 202, 3) := by decide +kernel
theorem dX7_setEvents_94 : decode cX7_setEvents 94 = .ok (.iinc 4 1, 3) := by decide +kernel
theorem dX7_setEvents_97 : decode cX7_setEvents 97 = .ok (.goto (-55), 3) := by decide +kernel
theorem dX7_setEvents_100 : decode cX7_setEvents 100 = .ok (.iinc 2 1, 3) := by decide +kernel
theorem dX7_setEvents_103 : decode cX7_setEvents 103 = .ok (.goto (-92), 3) := by decide +kernel
theorem dX7_setEvents_106 : decode cX7_setEvents 106 = .ok (.return_, 1) := by decide +kernel
theorem dX7_event_0 : decode cX7_event 0 = .ok (.iload_n 1, 1) := by decide +kernel
theorem dX7_event_1 : decode cX7_event 1 = .ok (.ifCond .lt 12, 3) := by decide +kernel
theorem dX7_event_4 : decode cX7_event 4 = .ok (.iload_n 2, 1) := by decide +kernel
theorem dX7_event_5 : decode cX7_event 5 = .ok (.iconst 0, 1) := by decide +kernel
theorem dX7_event_6 : decode cX7_event 6 = .ok (.iconst 3, 1) := by decide +kernel
theorem dX7_event_7 : decode cX7_event 7 = .ok (.invokestatic 86, 3) := by decide +kernel
theorem dX7_event_10 : decode cX7_event 10 = .ok (.ifCond .ne 8, 3) := by decide +kernel
theorem dX7_event_13 : decode cX7_event 13 = .ok (.aload_n 0, 1) := by decide +kernel
theorem dX7_event_14 : decode cX7_event 14 = .ok (.invokevirtual 94, 3) := by decide +kernel
theorem dX7_event_17 : decode cX7_event 17 = .ok (.ireturn, 1) := by decide +kernel
theorem dX7_event_18 : decode cX7_event 18 = .ok (.aload_n 0, 1) := by decide +kernel
theorem dX7_event_19 : decode cX7_event 19 = .ok (.iload_n 1, 1) := by decide +kernel
theorem dX7_event_20 : decode cX7_event 20 = .ok (.invokevirtual 206, 3) := by decide +kernel
theorem dX7_event_23 : decode cX7_event 23 = .ok (.iload_n 1, 1) := by decide +kernel
theorem dX7_event_24 : decode cX7_event 24 = .ok (.aload_n 0, 1) := by decide +kernel
theorem dX7_event_25 : decode cX7_event 25 = .ok (.getfield 187, 3) := by decide +kernel
theorem dX7_event_28 : decode cX7_event 28 = .ok (.if_icmp .lt 5, 3) := by decide +kernel
theorem dX7_event_31 : decode cX7_event 31 = .ok (.iconst (-1), 1) := by decide +kernel
theorem dX7_event_32 : decode cX7_event 32 = .ok (.ireturn, 1) := by decide +kernel
theorem dX7_event_33 : decode cX7_event 33 = .ok (.iload_n 2, 1) := by decide +kernel
theorem dX7_event_34 : decode cX7_event 34 = .ok (.ifCond .ne 10, 3) := by decide +kernel
theorem dX7_event_37 : decode cX7_event 37 = .ok (.aload_n 0, 1) := by decide +kernel
theorem dX7_event_38 : decode cX7_event 38 = .ok (.getfield 190, 3) := by decide +kernel
theorem dX7_event_41 : decode cX7_event 41 = .ok (.goto 31, 3) := by decide +kernel
theorem dX7_event_44 : decode cX7_event 44 = .ok (.iload_n 2, 1) := by decide +kernel
theorem dX7_event_45 : decode cX7_event 45 = .ok (.iconst 1, 1) := by decide +kernel
theorem dX7_event_46 : decode cX7_event 46 = .ok (.if_icmp .ne 10, 3) := by decide +kernel
theorem dX7_event_49 : decode cX7_event 49 = .ok (.aload_n 0, 1) := by decide +kernel
theorem dX7_event_50 : decode cX7_event 50 = .ok (.getfield 193, 3) := by decide +kernel
theorem dX7_event_53 : decode cX7_event 53 = .ok (.goto 19, 3) := by decide +kernel
theorem dX7_event_56 : decode cX7_event 56 = .ok (.iload_n 2, 1) := by decide +kernel
theorem dX7_event_57 : decode cX7_event 57 = .ok (.iconst 2, 1) := by decide +kernel
theorem dX7_event_58 : decode cX7_event 58 = .ok (.if_icmp .ne 10, 3) := by decide +kernel
theorem dX7_event_61 : decode cX7_event 61 = .ok (.aload_n 0, 1) := by decide +kernel
theorem dX7_event_62 : decode cX7_event 62 = .ok (.getfield 196, 3) := by decide +kernel
theorem dX7_event_65 : decode cX7_event 65 = .ok (.goto 7, 3) := by decide +kernel
theorem dX7_event_68 : decode cX7_event 68 = .ok (.aload_n 0, 1) := by decide +kernel
theorem dX7_event_69 : decode cX7_event 69 = .ok (.getfield 199, 3) := by decide +kernel
theorem dX7_event_72 : decode cX7_event 72 = .ok (.ireturn, 1) := by decide +kernel
theorem dX7_events_0 : decode cX7_events 0 = .ok (.aload_n 0, 1) := by decide +kernel
theorem dX7_events_1 : decode cX7_events 1 = .ok (.iconst (-1), 1) := by decide +kernel
theorem dX7_events_2 : decode cX7_events 2 = .ok (.invokevirtual 206, 3) := by decide +kernel
theorem dX7_events_5 : decode cX7_events 5 = .ok (.aload_n 0, 1) := by decide +kernel
theorem dX7_events_6 : decode cX7_events 6 = .ok (.getfield 187, 3) := by decide +kernel
theorem dX7_events_9 : decode cX7_events 9 = .ok (.ireturn, 1) := by decide +kernel
theorem dX7_mayShift_0 : decode cX7_mayShift 0 = .ok (.aload_n 0, 1) := by decide +kernel
theorem dX7_mayShift_1 : decode cX7_mayShift 1 = .ok (.getfield 43, 3) := by decide +kernel
theorem dX7_mayShift_4 : decode cX7_mayShift 4 = .ok (.iload_n 1, 1) := by decide +kernel
theorem dX7_mayShift_5 : decode cX7_mayShift 5 = .ok (.iaload, 1) := by decide +kernel
theorem dX7_mayShift_6 : decode cX7_mayShift 6 = .ok (.ifCond .ne 15, 3) := by decide +kernel
theorem dX7_mayShift_9 : decode cX7_mayShift 9 = .ok (.iload_n 2, 1) := by decide +kernel
theorem dX7_mayShift_10 : decode cX7_mayShift 10 = .ok (.ifCond .ne 7, 3) := by decide +kernel
theorem dX7_mayShift_13 : decode cX7_mayShift 13 = .ok (.iconst 1, 1) := by decide +kernel
theorem dX7_mayShift_14 : decode cX7_mayShift 14 = .ok (.goto 47, 3) := by decide +kernel
theorem dX7_mayShift_17 : decode cX7_mayShift 17 = .ok (.iconst 0, 1) := by decide +kernel
theorem dX7_mayShift_18 : decode cX7_mayShift 18 = .ok (.goto 43, 3) := by decide +kernel
theorem dX7_mayShift_21 : decode cX7_mayShift 21 = .ok (.aload_n 0, 1) := by decide +kernel
theorem dX7_mayShift_22 : decode cX7_mayShift 22 = .ok (.getfield 61, 3) := by decide +kernel
theorem dX7_mayShift_25 : decode cX7_mayShift 25 = .ok (.iload_n 1, 1) := by decide +kernel
theorem dX7_mayShift_26 : decode cX7_mayShift 26 = .ok (.iaload, 1) := by decide +kernel
theorem dX7_mayShift_27 : decode cX7_mayShift 27 = .ok (.iload_n 2, 1) := by decide +kernel
theorem dX7_mayShift_28 : decode cX7_mayShift 28 = .ok (.iadd, 1) := by decide +kernel
theorem dX7_mayShift_29 : decode cX7_mayShift 29 = .ok (.ifCond .lt 31, 3) := by decide +kernel
theorem dX7_mayShift_32 : decode cX7_mayShift 32 = .ok (.aload_n 0, 1) := by decide +kernel
theorem dX7_mayShift_33 : decode cX7_mayShift 33 = .ok (.getfield 61, 3) := by decide +kernel
theorem dX7_mayShift_36 : decode cX7_mayShift 36 = .ok (.iload_n 1, 1) := by decide +kernel
theorem dX7_mayShift_37 : decode cX7_mayShift 37 = .ok (.iaload, 1) := by decide +kernel
theorem dX7_mayShift_38 : decode cX7_mayShift 38 = .ok (.iload_n 2, 1) := by decide +kernel
theorem dX7_mayShift_39 : decode cX7_mayShift 39 = .ok (.iadd, 1) := by decide +kernel
theorem dX7_mayShift_40 : decode cX7_mayShift 40 = .ok (.aload_n 0, 1) := by decide +kernel
theorem dX7_mayShift_41 : decode cX7_mayShift 41 = .ok (.getfield 43, 3) := by decide +kernel
theorem dX7_mayShift_44 : decode cX7_mayShift 44 = .ok (.iload_n 1, 1) := by decide +kernel
theorem dX7_mayShift_45 : decode cX7_mayShift 45 = .ok (.iaload, 1) := by decide +kernel
theorem dX7_mayShift_46 : decode cX7_mayShift 46 = .ok (.iadd, 1) := by decide +kernel
theorem dX7_mayShift_47 : decode cX7_mayShift 47 = .ok (.aload_n 0, 1) := by decide +kernel
theorem dX7_mayShift_48 : decode cX7_mayShift 48 = .ok (.getfield 13, 3) := by decide +kernel
theorem dX7_mayShift_51 : decode cX7_mayShift 51 = .ok (.iconst 0, 1) := by decide +kernel
theorem dX7_mayShift_52 : decode cX7_mayShift 52 = .ok (.iaload, 1) := by decide +kernel
theorem dX7_mayShift_53 : decode cX7_mayShift 53 = .ok (.if_icmp .gt 7, 3) := by decide +kernel
theorem dX7_mayShift_56 : decode cX7_mayShift 56 = .ok (.iconst 1, 1) := by decide +kernel
theorem dX7_mayShift_57 : decode cX7_mayShift 57 = .ok (.goto 4, 3) := by decide +kernel
theorem dX7_mayShift_60 : decode cX7_mayShift 60 = .ok (.iconst 0, 1) := by decide +kernel
theorem dX7_mayShift_61 : decode cX7_mayShift 61 = .ok (.ireturn, 1) := by decide +kernel
theorem dX7_tries_0 : decode cX7_tries 0 = .ok (.aload_n 0, 1) := by decide +kernel
theorem dX7_tries_1 : decode cX7_tries 1 = .ok (.iconst 0, 1) := by decide +kernel
theorem dX7_tries_2 : decode cX7_tries 2 = .ok (.iload_n 1, 1) := by decide +kernel
theorem dX7_tries_3 : decode cX7_tries 3 = .ok (.invokevirtual 210, 3) := by decide +kernel
theorem dX7_tries_6 : decode cX7_tries 6 = .ok (.ifCond .eq 21, 3) := by decide +kernel
theorem dX7_tries_9 : decode cX7_tries 9 = .ok (.aload_n 0, 1) := by decide +kernel
theorem dX7_tries_10 : decode cX7_tries 10 = .ok (.iconst 1, 1) := by decide +kernel
theorem dX7_tries_11 : decode cX7_tries 11 = .ok (.iload_n 2, 1) := by decide +kernel
theorem dX7_tries_12 : decode cX7_tries 12 = .ok (.invokevirtual 210, 3) := by decide +kernel
theorem dX7_tries_15 : decode cX7_tries 15 = .ok (.ifCond .eq 12, 3) := by decide +kernel
theorem dX7_tries_18 : decode cX7_tries 18 = .ok (.aload_n 0, 1) := by decide +kernel
theorem dX7_tries_19 : decode cX7_tries 19 = .ok (.iconst 2, 1) := by decide +kernel
theorem dX7_tries_20 : decode cX7_tries 20 = .ok (.iload_n 3, 1) := by decide +kernel
theorem dX7_tries_21 : decode cX7_tries 21 = .ok (.invokevirtual 210, 3) := by decide +kernel
theorem dX7_tries_24 : decode cX7_tries 24 = .ok (.ifCond .ne 4, 3) := by decide +kernel
theorem dX7_tries_27 : decode cX7_tries 27 = .ok (.return_, 1) := by decide +kernel
theorem dX7_tries_28 : decode cX7_tries 28 = .ok (.aload_n 0, 1) := by decide +kernel
theorem dX7_tries_29 : decode cX7_tries 29 = .ok (.getfield 46, 3) := by decide +kernel
theorem dX7_tries_32 : decode cX7_tries 32 = .ok (.iconst 0, 1) := by decide +kernel
theorem dX7_tries_33 : decode cX7_tries 33 = .ok (.aload_n 0, 1) := by decide +kernel
theorem dX7_tries_34 : decode cX7_tries 34 = .ok (.getfield 61, 3) := by decide +kernel
theorem dX7_tries_37 : decode cX7_tries 37 = .ok (.iconst 0, 1) := by decide +kernel
end
section
theorem dX7_tries_38 : decode cX7_tries 38 = .ok (.iaload, 1) := by decide +kernel
theorem dX7_tries_39 : decode cX7_tries 39 = .ok (.iload_n 1, 1) := by decide +kernel
theorem dX7_tries_40 : decode cX7_tries 40 = .ok (.iadd, 1) := by decide +kernel
theorem dX7_tries_41 : decode cX7_tries 41 = .ok (.iastore, 1) := by decide +kernel
theorem dX7_tries_42 : decode cX7_tries 42 = .ok (.aload_n 0, 1) := by decide +kernel
theorem dX7_tries_43 : decode cX7_tries 43 = .ok (.getfield 46, 3) := by decide +kernel
theorem dX7_tries_46 : decode cX7_tries 46 = .ok (.iconst 1, 1) := by decide +kernel
theorem dX7_tries_47 : decode cX7_tries 47 = .ok (.aload_n 0, 1) := by decide +kernel
theorem dX7_tries_48 : decode cX7_tries 48 = .ok (.getfield 61, 3) := by decide +kernel
theorem dX7_tries_51 : decode cX7_tries 51 = .ok (.iconst 1, 1) := by decide +kernel
theorem dX7_tries_52 : decode cX7_tries 52 = .ok (.iaload, 1) := by decide +kernel
theorem dX7_tries_53 : decode cX7_tries 53 = .ok (.iload_n 2, 1) := by decide +kernel
theorem dX7_tries_54 : decode cX7_tries 54 = .ok (.iadd, 1) := by decide +kernel
theorem dX7_tries_55 : decode cX7_tries 55 = .ok (.iastore, 1) := by decide +kernel
theorem dX7_tries_56 : decode cX7_tries 56 = .ok (.aload_n 0, 1) := by decide +kernel
theorem dX7_tries_57 : decode cX7_tries 57 = .ok (.getfield 46, 3) := by decide +kernel
theorem dX7_tries_60 : decode cX7_tries 60 = .ok (.iconst 2, 1) := by decide +kernel
theorem dX7_tries_61 : decode cX7_tries 61 = .ok (.aload_n 0, 1) := by decide +kernel
theorem dX7_tries_62 : decode cX7_tries 62 = .ok (.getfield 61, 3) := by decide +kernel
theorem dX7_tries_65 : decode cX7_tries 65 = .ok (.iconst 2, 1) := by decide +kernel
theorem dX7_tries_66 : decode cX7_tries 66 = .ok (.iaload, 1) := by decide +kernel
theorem dX7_tries_67 : decode cX7_tries 67 = .ok (.iload_n 3, 1) := by decide +kernel
theorem dX7_tries_68 : decode cX7_tries 68 = .ok (.iadd, 1) := by decide +kernel
theorem dX7_tries_69 : decode cX7_tries 69 = .ok (.iastore, 1) := by decide +kernel
theorem dX7_tries_70 : decode cX7_tries 70 = .ok (.iload_n 1, 1) := by decide +kernel
theorem dX7_tries_71 : decode cX7_tries 71 = .ok (.invokestatic 213, 3) := by decide +kernel
theorem dX7_tries_74 : decode cX7_tries 74 = .ok (.iload_n 2, 1) := by decide +kernel
theorem dX7_tries_75 : decode cX7_tries 75 = .ok (.invokestatic 213, 3) := by decide +kernel
theorem dX7_tries_78 : decode cX7_tries 78 = .ok (.iadd, 1) := by decide +kernel
theorem dX7_tries_79 : decode cX7_tries 79 = .ok (.iload_n 3, 1) := by decide +kernel
theorem dX7_tries_80 : decode cX7_tries 80 = .ok (.invokestatic 213, 3) := by decide +kernel
theorem dX7_tries_83 : decode cX7_tries 83 = .ok (.iadd, 1) := by decide +kernel
theorem dX7_tries_84 : decode cX7_tries 84 = .ok (.istore 4, 2) := by decide +kernel
theorem dX7_tries_86 : decode cX7_tries 86 = .ok (.iload 4, 2) := by decide +kernel
theorem dX7_tries_88 : decode cX7_tries 88 = .ok (.aload_n 0, 1) := by decide +kernel
theorem dX7_tries_89 : decode cX7_tries 89 = .ok (.getfield 58, 3) := by decide +kernel
theorem dX7_tries_92 : decode cX7_tries 92 = .ok (.iconst 3, 1) := by decide +kernel
theorem dX7_tries_93 : decode cX7_tries 93 = .ok (.iaload, 1) := by decide +kernel
theorem dX7_tries_94 : decode cX7_tries 94 = .ok (.if_icmp .gt 14, 3) := by decide +kernel
theorem dX7_tries_97 : decode cX7_tries 97 = .ok (.aload_n 0, 1) := by decide +kernel
theorem dX7_tries_98 : decode cX7_tries 98 = .ok (.invokevirtual 181, 3) := by decide +kernel
theorem dX7_tries_101 : decode cX7_tries 101 = .ok (.invokestatic 184, 3) := by decide +kernel
theorem dX7_tries_104 : decode cX7_tries 104 = .ok (.iconst 2, 1) := by decide +kernel
theorem dX7_tries_105 : decode cX7_tries 105 = .ok (.if_icmp .ge 4, 3) := by decide +kernel
theorem dX7_tries_108 : decode cX7_tries 108 = .ok (.return_, 1) := by decide +kernel
theorem dX7_tries_109 : decode cX7_tries 109 = .ok (.iload 4, 2) := by decide +kernel
theorem dX7_tries_111 : decode cX7_tries 111 = .ok (.aload_n 0, 1) := by decide +kernel
theorem dX7_tries_112 : decode cX7_tries 112 = .ok (.getfield 58, 3) := by decide +kernel
theorem dX7_tries_115 : decode cX7_tries 115 = .ok (.iconst 3, 1) := by decide +kernel
theorem dX7_tries_116 : decode cX7_tries 116 = .ok (.iaload, 1) := by decide +kernel
theorem dX7_tries_117 : decode cX7_tries 117 = .ok (.if_icmp .ge 39, 3) := by decide +kernel
theorem dX7_tries_120 : decode cX7_tries 120 = .ok (.aload_n 0, 1) := by decide +kernel
theorem dX7_tries_121 : decode cX7_tries 121 = .ok (.getfield 58, 3) := by decide +kernel
theorem dX7_tries_124 : decode cX7_tries 124 = .ok (.iconst 0, 1) := by decide +kernel
theorem dX7_tries_125 : decode cX7_tries 125 = .ok (.iload_n 1, 1) := by decide +kernel
theorem dX7_tries_126 : decode cX7_tries 126 = .ok (.iastore, 1) := by decide +kernel
theorem dX7_tries_127 : decode cX7_tries 127 = .ok (.aload_n 0, 1) := by decide +kernel
theorem dX7_tries_128 : decode cX7_tries 128 = .ok (.getfield 58, 3) := by decide +kernel
theorem dX7_tries_131 : decode cX7_tries 131 = .ok (.iconst 1, 1) := by decide +kernel
theorem dX7_tries_132 : decode cX7_tries 132 = .ok (.iload_n 2, 1) := by decide +kernel
theorem dX7_tries_133 : decode cX7_tries 133 = .ok (.iastore, 1) := by decide +kernel
theorem dX7_tries_134 : decode cX7_tries 134 = .ok (.aload_n 0, 1) := by decide +kernel
theorem dX7_tries_135 : decode cX7_tries 135 = .ok (.getfield 58, 3) := by decide +kernel
theorem dX7_tries_138 : decode cX7_tries 138 = .ok (.iconst 2, 1) := by decide +kernel
theorem dX7_tries_139 : decode cX7_tries 139 = .ok (.iload_n 3, 1) := by decide +kernel
theorem dX7_tries_140 : decode cX7_tries 140 = .ok (.iastore, 1) := by decide +kernel
theorem dX7_tries_141 : decode cX7_tries 141 = .ok (.aload_n 0, 1) := by decide +kernel
theorem dX7_tries_142 : decode cX7_tries 142 = .ok (.getfield 58, 3) := by decide +kernel
theorem dX7_tries_145 : decode cX7_tries 145 = .ok (.iconst 3, 1) := by decide +kernel
theorem dX7_tries_146 : decode cX7_tries 146 = .ok (.iload 4, 2) := by decide +kernel
theorem dX7_tries_148 : decode cX7_tries 148 = .ok (.iastore, 1) := by decide +kernel
theorem dX7_tries_149 : decode cX7_tries 149 = .ok (.aload_n 0, 1) := by decide +kernel
theorem dX7_tries_150 : decode cX7_tries 150 = .ok (.getfield 58, 3) := by decide +kernel
theorem dX7_tries_153 : decode cX7_tries 153 = .ok (.iconst 4, 1) := by decide +kernel
theorem dX7_tries_154 : decode cX7_tries 154 = .ok (.iconst 0, 1) := by decide +kernel
theorem dX7_tries_155 : decode cX7_tries 155 = .ok (.iastore, 1) := by decide +kernel
theorem dX7_tries_156 : decode cX7_tries 156 = .ok (.aload_n 0, 1) := by decide +kernel
theorem dX7_tries_157 : decode cX7_tries 157 = .ok (.getfield 58, 3) := by decide +kernel
theorem dX7_tries_160 : decode cX7_tries 160 = .ok (.iconst 4, 1) := by decide +kernel
theorem dX7_tries_161 : decode cX7_tries 161 = .ok (.dup2, 1) := by decide +kernel
theorem dX7_tries_162 : decode cX7_tries 162 = .ok (.iaload, 1) := by decide +kernel
theorem dX7_tries_163 : decode cX7_tries 163 = .ok (.iconst 1, 1) := by decide +kernel
theorem dX7_tries_164 : decode cX7_tries 164 = .ok (.iadd, 1) := by decide +kernel
theorem dX7_tries_165 : decode cX7_tries 165 = .ok (.iastore, 1) := by decide +kernel
theorem dX7_tries_166 : decode cX7_tries 166 = .ok (.return_, 1) := by decide +kernel
theorem dX7_shift_0 : decode cX7_shift 0 = .ok (.iload_n 1, 1) := by decide +kernel
theorem dX7_shift_1 : decode cX7_shift 1 = .ok (.iconst 0, 1) := by decide +kernel
theorem dX7_shift_2 : decode cX7_shift 2 = .ok (.iconst 4, 1) := by decide +kernel
theorem dX7_shift_3 : decode cX7_shift 3 = .ok (.invokestatic 86, 3) := by decide +kernel
theorem dX7_shift_6 : decode cX7_shift 6 = .ok (.ifCond .ne 8, 3) := by decide +kernel
theorem dX7_shift_9 : decode cX7_shift 9 = .ok (.aload_n 0, 1) := by decide +kernel
theorem dX7_shift_10 : decode cX7_shift 10 = .ok (.invokevirtual 94, 3) := by decide +kernel
theorem dX7_shift_13 : decode cX7_shift 13 = .ok (.ireturn, 1) := by decide +kernel
theorem dX7_shift_14 : decode cX7_shift 14 = .ok (.aload_n 0, 1) := by decide +kernel
theorem dX7_shift_15 : decode cX7_shift 15 = .ok (.invokevirtual 117, 3) := by decide +kernel
theorem dX7_shift_18 : decode cX7_shift 18 = .ok (.iconst 0, 1) := by decide +kernel
theorem dX7_shift_19 : decode cX7_shift 19 = .ok (.istore_n 2, 1) := by decide +kernel
theorem dX7_shift_20 : decode cX7_shift 20 = .ok (.iload_n 2, 1) := by decide +kernel
theorem dX7_shift_21 : decode cX7_shift 21 = .ok (.iconst 3, 1) := by decide +kernel
theorem dX7_shift_22 : decode cX7_shift 22 = .ok (.if_icmp .ge 21, 3) := by decide +kernel
theorem dX7_shift_25 : decode cX7_shift 25 = .ok (.aload_n 0, 1) := by decide +kernel
theorem dX7_shift_26 : decode cX7_shift 26 = .ok (.getfield 61, 3) := by decide +kernel
theorem dX7_shift_29 : decode cX7_shift 29 = .ok (.iload_n 2, 1) := by decide +kernel
theorem dX7_shift_30 : decode cX7_shift 30 = .ok (.aload_n 0, 1) := by decide +kernel
theorem dX7_shift_31 : decode cX7_shift 31 = .ok (.getfield 46, 3) := by decide +kernel
theorem dX7_shift_34 : decode cX7_shift 34 = .ok (.iload_n 2, 1) := by decide +kernel
theorem dX7_shift_35 : decode cX7_shift 35 = .ok (.iaload, 1) := by decide +kernel
theorem dX7_shift_36 : decode cX7_shift 36 = .ok (.iastore, 1) := by decide +kernel
theorem dX7_shift_37 : decode cX7_shift 37 = .ok (.iinc 2 1, 3) := by decide +kernel
theorem dX7_shift_40 : decode cX7_shift 40 = .ok (.goto (-20), 3) := by decide +kernel
theorem dX7_shift_43 : decode cX7_shift 43 = .ok (.aload_n 0, 1) := by decide +kernel
theorem dX7_shift_44 : decode cX7_shift 44 = .ok (.getfield 58, 3) := by decide +kernel
theorem dX7_shift_47 : decode cX7_shift 47 = .ok (.iconst 3, 1) := by decide +kernel
theorem dX7_shift_48 : decode cX7_shift 48 = .ok (.ldc 216, 2) := by decide +kernel
theorem dX7_shift_50 : decode cX7_shift 50 = .ok (.iastore, 1) := by decide +kernel
theorem dX7_shift_51 : decode cX7_shift 51 = .ok (.bipush (-6), 2) := by decide +kernel
theorem dX7_shift_53 : decode cX7_shift 53 = .ok (.istore_n 2, 1) := by decide +kernel
theorem dX7_shift_54 : decode cX7_shift 54 = .ok (.iload_n 2, 1) := by decide +kernel
theorem dX7_shift_55 : decode cX7_shift 55 = .ok (.bipush 6, 2) := by decide +kernel
theorem dX7_shift_57 : decode cX7_shift 57 = .ok (.if_icmp .gt 49, 3) := by decide +kernel
theorem dX7_shift_60 : decode cX7_shift 60 = .ok (.bipush (-6), 2) := by decide +kernel
theorem dX7_shift_62 : decode cX7_shift 62 = .ok (.istore_n 3, 1) := by decide +kernel
theorem dX7_shift_63 : decode cX7_shift 63 = .ok (.iload_n 3, 1) := by decide +kernel
theorem dX7_shift_64 : decode cX7_shift 64 = .ok (.bipush 6, 2) := by decide +kernel
theorem dX7_shift_66 : decode cX7_shift 66 = .ok (.if_icmp .gt 34, 3) := by decide +kernel
theorem dX7_shift_69 : decode cX7_shift 69 = .ok (.bipush (-6), 2) := by decide +kernel
theorem dX7_shift_71 : decode cX7_shift 71 = .ok (.istore 4, 2) := by decide +kernel
theorem dX7_shift_73 : decode cX7_shift 73 = .ok (.iload 4, 2) := by decide +kernel
theorem dX7_shift_75 : decode cX7_shift 75 = .ok (.bipush 6, 2) := by decide +kernel
theorem dX7_shift_77 : decode cX7_shift 77 = .ok (.if_icmp .gt 17, 3) := by decide +kernel
theorem dX7_shift_80 : decode cX7_shift 80 = .ok (.aload_n 0, 1) := by decide +kernel
theorem dX7_shift_81 : decode cX7_shift 81 = .ok (.iload_n 2, 1) := by decide +kernel
theorem dX7_shift_82 : decode cX7_shift 82 = .ok (.iload_n 3, 1) := by decide +kernel
theorem dX7_shift_83 : decode cX7_shift 83 = .ok (.iload 4, 2) := by decide +kernel
theorem dX7_shift_85 : decode cX7_shift 85 = .ok (.invokevirtual 217, 3) := by decide +kernel
theorem dX7_shift_88 : decode cX7_shift 88 = .ok (.iinc 4 1, 3) := by decide +kernel
theorem dX7_shift_91 : decode cX7_shift 91 = .ok (.goto (-18), 3) := by decide +kernel
theorem dX7_shift_94 : decode cX7_shift 94 = .ok (.iinc 3 1, 3) := by decide +kernel
theorem dX7_shift_97 : decode cX7_shift 97 = .ok (.goto (-34), 3) := by decide +kernel
theorem dX7_shift_100 : decode cX7_shift 100 = .ok (.iinc 2 1, 3) := by decide +kernel
theorem dX7_shift_103 : decode cX7_shift 103 = .ok (.goto (-49), 3) := by decide +kernel
theorem dX7_shift_106 : decode cX7_shift 106 = .ok (.aload_n 0, 1) := by decide +kernel
theorem dX7_shift_107 : decode cX7_shift 107 = .ok (.getfield 58, 3) := by decide +kernel
theorem dX7_shift_110 : decode cX7_shift 110 = .ok (.iconst 3, 1) := by decide +kernel
theorem dX7_shift_111 : decode cX7_shift 111 = .ok (.iaload, 1) := by decide +kernel
theorem dX7_shift_112 : decode cX7_shift 112 = .ok (.ldc 216, 2) := by decide +kernel
theorem dX7_shift_114 : decode cX7_shift 114 = .ok (.if_icmp .ne 9, 3) := by decide +kernel
theorem dX7_shift_117 : decode cX7_shift 117 = .ok (.sipush (-1000), 3) := by decide +kernel
theorem dX7_shift_120 : decode cX7_shift 120 = .ok (.goto 9, 3) := by decide +kernel
theorem dX7_shift_123 : decode cX7_shift 123 = .ok (.aload_n 0, 1) := by decide +kernel
theorem dX7_shift_124 : decode cX7_shift 124 = .ok (.getfield 58, 3) := by decide +kernel
theorem dX7_shift_127 : decode cX7_shift 127 = .ok (.iload_n 1, 1) := by decide +kernel
theorem dX7_shift_128 : decode cX7_shift 128 = .ok (.iaload, 1) := by decide +kernel
theorem dX7_shift_129 : decode cX7_shift 129 = .ok (.ireturn, 1) := by decide +kernel
theorem dX7_comesWish_0 : decode cX7_comesWish 0 = .ok (.aload_n 0, 1) := by decide +kernel
theorem dX7_comesWish_1 : decode cX7_comesWish 1 = .ok (.getfield 28, 3) := by decide +kernel
theorem dX7_comesWish_4 : decode cX7_comesWish 4 = .ok (.aload_n 0, 1) := by decide +kernel
theorem dX7_comesWish_5 : decode cX7_comesWish 5 = .ok (.getfield 80, 3) := by decide +kernel
theorem dX7_comesWish_8 : decode cX7_comesWish 8 = .ok (.iload_n 1, 1) := by decide +kernel
theorem dX7_comesWish_9 : decode cX7_comesWish 9 = .ok (.iastore, 1) := by decide +kernel
theorem dX7_comesWish_10 : decode cX7_comesWish 10 = .ok (.aload_n 0, 1) := by decide +kernel
theorem dX7_comesWish_11 : decode cX7_comesWish 11 = .ok (.getfield 31, 3) := by decide +kernel
theorem dX7_comesWish_14 : decode cX7_comesWish 14 = .ok (.aload_n 0, 1) := by decide +kernel
theorem dX7_comesWish_15 : decode cX7_comesWish 15 = .ok (.getfield 80, 3) := by decide +kernel
theorem dX7_comesWish_18 : decode cX7_comesWish 18 = .ok (.iload_n 2, 1) := by decide +kernel
theorem dX7_comesWish_19 : decode cX7_comesWish 19 = .ok (.iastore, 1) := by decide +kernel
theorem dX7_comesWish_20 : decode cX7_comesWish 20 = .ok (.aload_n 0, 1) := by decide +kernel
theorem dX7_comesWish_21 : decode cX7_comesWish 21 = .ok (.getfield 34, 3) := by decide +kernel
theorem dX7_comesWish_24 : decode cX7_comesWish 24 = .ok (.aload_n 0, 1) := by decide +kernel
theorem dX7_comesWish_25 : decode cX7_comesWish 25 = .ok (.getfield 80, 3) := by decide +kernel
theorem dX7_comesWish_28 : decode cX7_comesWish 28 = .ok (.iload_n 3, 1) := by decide +kernel
theorem dX7_comesWish_29 : decode cX7_comesWish 29 = .ok (.iastore, 1) := by decide +kernel
theorem dX7_comesWish_30 : decode cX7_comesWish 30 = .ok (.aload_n 0, 1) := by decide +kernel
theorem dX7_comesWish_31 : decode cX7_comesWish 31 = .ok (.dup, 1) := by decide +kernel
theorem dX7_comesWish_32 : decode cX7_comesWish 32 = .ok (.getfield 80, 3) := by decide +kernel
theorem dX7_comesWish_35 : decode cX7_comesWish 35 = .ok (.iconst 1, 1) := by decide +kernel
theorem dX7_comesWish_36 : decode cX7_comesWish 36 = .ok (.iadd, 1) := by decide +kernel
theorem dX7_comesWish_37 : decode cX7_comesWish 37 = .ok (.putfield 80, 3) := by decide +kernel
theorem dX7_comesWish_40 : decode cX7_comesWish 40 = .ok (.return_, 1) := by decide +kernel
theorem dX7_goesWish_0 : decode cX7_goesWish 0 = .ok (.aload_n 0, 1) := by decide +kernel
theorem dX7_goesWish_1 : decode cX7_goesWish 1 = .ok (.dup, 1) := by decide +kernel
theorem dX7_goesWish_2 : decode cX7_goesWish 2 = .ok (.getfield 80, 3) := by decide +kernel
theorem dX7_goesWish_5 : decode cX7_goesWish 5 = .ok (.iconst 1, 1) := by decide +kernel
theorem dX7_goesWish_6 : decode cX7_goesWish 6 = .ok (.isub, 1) := by decide +kernel
theorem dX7_goesWish_7 : decode cX7_goesWish 7 = .ok (.putfield 80, 3) := by decide +kernel
theorem dX7_goesWish_10 : decode cX7_goesWish 10 = .ok (.iload_n 1, 1) := by decide +kernel
theorem dX7_goesWish_11 : decode cX7_goesWish 11 = .ok (.istore_n 2, 1) := by decide +kernel
theorem dX7_goesWish_12 : decode cX7_goesWish 12 = .ok (.iload_n 2, 1) := by decide +kernel
theorem dX7_goesWish_13 : decode cX7_goesWish 13 = .ok (.aload_n 0, 1) := by decide +kernel
theorem dX7_goesWish_14 : decode cX7_goesWish 14 = .ok (.getfield 80, 3) := by decide +kernel
theorem dX7_goesWish_17 : decode cX7_goesWish 17 = .ok (.if_icmp .ge 51, 3) := by decide +kernel
theorem dX7_goesWish_20 : decode cX7_goesWish 20 = .ok (.aload_n 0, 1) := by decide +kernel
theorem dX7_goesWish_21 : decode cX7_goesWish 21 = .ok (.getfield 28, 3) := by decide +kernel
theorem dX7_goesWish_24 : decode cX7_goesWish 24 = .ok (.iload_n 2, 1) := by decide +kernel
theorem dX7_goesWish_25 : decode cX7_goesWish 25 = .ok (.aload_n 0, 1) := by decide +kernel
theorem dX7_goesWish_26 : decode cX7_goesWish 26 = .ok (.getfield 28, 3) := by decide +kernel
theorem dX7_goesWish_29 : decode cX7_goesWish 29 = .ok (.iload_n 2, 1) := by decide +kernel
theorem dX7_goesWish_30 : decode cX7_goesWish 30 = .ok (.iconst 1, 1) := by decide +kernel
theorem dX7_goesWish_31 : decode cX7_goesWish 31 = .ok (.iadd, 1) := by decide +kernel
theorem dX7_goesWish_32 : decode cX7_goesWish 32 = .ok (.iaload, 1) := by decide +kernel
theorem dX7_goesWish_33 : decode cX7_goesWish 33 = .ok (.iastore, 1) := by decide +kernel
theorem dX7_goesWish_34 : decode cX7_goesWish 34 = .ok (.aload_n 0, 1) := by decide +kernel
theorem dX7_goesWish_35 : decode cX7_goesWish 35 = .ok (.getfield 31, 3) := by decide +kernel
theorem dX7_goesWish_38 : decode cX7_goesWish 38 = .ok (.iload_n 2, 1) := by decide +kernel
theorem dX7_goesWish_39 : decode cX7_goesWish 39 = .ok (.aload_n 0, 1) := by decide +kernel
theorem dX7_goesWish_40 : decode cX7_goesWish 40 = .ok (.getfield 31, 3) := by decide +kernel
theorem dX7_goesWish_43 : decode cX7_goesWish 43 = .ok (.iload_n 2, 1) := by decide +kernel
theorem dX7_goesWish_44 : decode cX7_goesWish 44 = .ok (.iconst 1, 1) := by decide +kernel
theorem dX7_goesWish_45 : decode cX7_goesWish 45 = .ok (.iadd, 1) := by decide +kernel
theorem dX7_goesWish_46 : decode cX7_goesWish 46 = .ok (.iaload, 1) := by decide +kernel
theorem dX7_goesWish_47 : decode cX7_goesWish 47 = .ok (.iastore, 1) := by decide +kernel
theorem dX7_goesWish_48 : decode cX7_goesWish 48 = .ok (.aload_n 0, 1) := by decide +kernel
theorem dX7_goesWish_49 : decode cX7_goesWish 49 = .ok (.getfield 34, 3) := by decide +kernel
theorem dX7_goesWish_52 : decode cX7_goesWish 52 = .ok (.iload_n 2, 1) := by decide +kernel
theorem dX7_goesWish_53 : decode cX7_goesWish 53 = .ok (.aload_n 0, 1) := by decide +kernel
theorem dX7_goesWish_54 : decode cX7_goesWish 54 = .ok (.getfield 34, 3) := by decide +kernel
theorem dX7_goesWish_57 : decode cX7_goesWish 57 = .ok (.iload_n 2, 1) := by decide +kernel
theorem dX7_goesWish_58 : decode cX7_goesWish 58 = .ok (.iconst 1, 1) := by decide +kernel
theorem dX7_goesWish_59 : decode cX7_goesWish 59 = .ok (.iadd, 1) := by decide +kernel
theorem dX7_goesWish_60 : decode cX7_goesWish 60 = .ok (.iaload, 1) := by decide +kernel
theorem dX7_goesWish_61 : decode cX7_goesWish 61 = .ok (.iastore, 1) := by decide +kernel
theorem dX7_goesWish_62 : decode cX7_goesWish 62 = .ok (.iinc 2 1, 3) := by decide +kernel
theorem dX7_goesWish_65 : decode cX7_goesWish 65 = .ok (.goto (-53), 3) := by decide +kernel
theorem dX7_goesWish_68 : decode cX7_goesWish 68 = .ok (.return_, 1) := by decide +kernel
theorem dX7_wish_0 : decode cX7_wish 0 = .ok (.iload_n 1, 1) := by decide +kernel
theorem dX7_wish_1 : decode cX7_wish 1 = .ok (.invokestatic 98, 3) := by decide +kernel
theorem dX7_wish_4 : decode cX7_wish 4 = .ok (.ifCond .eq 27, 3) := by decide +kernel
theorem dX7_wish_7 : decode cX7_wish 7 = .ok (.iload_n 2, 1) := by decide +kernel
theorem dX7_wish_8 : decode cX7_wish 8 = .ok (.iconst 0, 1) := by decide +kernel
theorem dX7_wish_9 : decode cX7_wish 9 = .ok (.sipush 999, 3) := by decide +kernel
theorem dX7_wish_12 : decode cX7_wish 12 = .ok (.invokestatic 86, 3) := by decide +kernel
theorem dX7_wish_15 : decode cX7_wish 15 = .ok (.ifCond .eq 16, 3) := by decide +kernel
theorem dX7_wish_18 : decode cX7_wish 18 = .ok (.iload_n 3, 1) := by decide +kernel
theorem dX7_wish_19 : decode cX7_wish 19 = .ok (.sipush (-500), 3) := by decide +kernel
theorem dX7_wish_22 : decode cX7_wish 22 = .ok (.sipush 500, 3) := by decide +kernel
theorem dX7_wish_25 : decode cX7_wish 25 = .ok (.invokestatic 86, 3) := by decide +kernel
theorem dX7_wish_28 : decode cX7_wish 28 = .ok (.ifCond .ne 8, 3) := by decide +kernel
theorem dX7_wish_31 : decode cX7_wish 31 = .ok (.aload_n 0, 1) := by decide +kernel
theorem dX7_wish_32 : decode cX7_wish 32 = .ok (.invokevirtual 94, 3) := by decide +kernel
theorem dX7_wish_35 : decode cX7_wish 35 = .ok (.ireturn, 1) := by decide +kernel
theorem dX7_wish_36 : decode cX7_wish 36 = .ok (.aload_n 0, 1) := by decide +kernel
theorem dX7_wish_37 : decode cX7_wish 37 = .ok (.getfield 80, 3) := by decide +kernel
theorem dX7_wish_40 : decode cX7_wish 40 = .ok (.bipush 12, 2) := by decide +kernel
theorem dX7_wish_42 : decode cX7_wish 42 = .ok (.if_icmp .ne 8, 3) := by decide +kernel
theorem dX7_wish_45 : decode cX7_wish 45 = .ok (.aload_n 0, 1) := by decide +kernel
theorem dX7_wish_46 : decode cX7_wish 46 = .ok (.invokevirtual 221, 3) := by decide +kernel
theorem dX7_wish_49 : decode cX7_wish 49 = .ok (.ireturn, 1) := by decide +kernel
theorem dX7_wish_50 : decode cX7_wish 50 = .ok (.aload_n 0, 1) := by decide +kernel
theorem dX7_wish_51 : decode cX7_wish 51 = .ok (.iload_n 1, 1) := by decide +kernel
theorem dX7_wish_52 : decode cX7_wish 52 = .ok (.iload_n 2, 1) := by decide +kernel
theorem dX7_wish_53 : decode cX7_wish 53 = .ok (.iload_n 3, 1) := by decide +kernel
theorem dX7_wish_54 : decode cX7_wish 54 = .ok (.invokevirtual 224, 3) := by decide +kernel
theorem dX7_wish_57 : decode cX7_wish 57 = .ok (.aload_n 0, 1) := by decide +kernel
theorem dX7_wish_58 : decode cX7_wish 58 = .ok (.getfield 80, 3) := by decide +kernel
theorem dX7_wish_61 : decode cX7_wish 61 = .ok (.ireturn, 1) := by decide +kernel
theorem dX7_unwish_0 : decode cX7_unwish 0 = .ok (.iload_n 1, 1) := by decide +kernel
theorem dX7_unwish_1 : decode cX7_unwish 1 = .ok (.invokestatic 98, 3) := by decide +kernel
theorem dX7_unwish_4 : decode cX7_unwish 4 = .ok (.ifCond .ne 8, 3) := by decide +kernel
theorem dX7_unwish_7 : decode cX7_unwish 7 = .ok (.aload_n 0, 1) := by decide +kernel
theorem dX7_unwish_8 : decode cX7_unwish 8 = .ok (.invokevirtual 94, 3) := by decide +kernel
theorem dX7_unwish_11 : decode cX7_unwish 11 = .ok (.ireturn, 1) := by decide +kernel
theorem dX7_unwish_12 : decode cX7_unwish 12 = .ok (.iconst 0, 1) := by decide +kernel
theorem dX7_unwish_13 : decode cX7_unwish 13 = .ok (.istore_n 2, 1) := by decide +kernel
theorem dX7_unwish_14 : decode cX7_unwish 14 = .ok (.aload_n 0, 1) := by decide +kernel
theorem dX7_unwish_15 : decode cX7_unwish 15 = .ok (.getfield 80, 3) := by decide +kernel
theorem dX7_unwish_18 : decode cX7_unwish 18 = .ok (.iconst 1, 1) := by decide +kernel
theorem dX7_unwish_19 : decode cX7_unwish 19 = .ok (.isub, 1) := by decide +kernel
theorem dX7_unwish_20 : decode cX7_unwish 20 = .ok (.istore_n 3, 1) := by decide +kernel
theorem dX7_unwish_21 : decode cX7_unwish 21 = .ok (.iload_n 3, 1) := by decide +kernel
theorem dX7_unwish_22 : decode cX7_unwish 22 = .ok (.ifCond .lt 27, 3) := by decide +kernel
theorem dX7_unwish_25 : decode cX7_unwish 25 = .ok (.aload_n 0, 1) := by decide +kernel
theorem dX7_unwish_26 : decode cX7_unwish 26 = .ok (.getfield 28, 3) := by decide +kernel
theorem dX7_unwish_29 : decode cX7_unwish 29 = .ok (.iload_n 3, 1) := by decide +kernel
theorem dX7_unwish_30 : decode cX7_unwish 30 = .ok (.iaload, 1) := by decide +kernel
theorem dX7_unwish_31 : decode cX7_unwish 31 = .ok (.iload_n 1, 1) := by decide +kernel
theorem dX7_unwish_32 : decode cX7_unwish 32 = .ok (.if_icmp .ne 11, 3) := by decide +kernel
theorem dX7_unwish_35 : decode cX7_unwish 35 = .ok (.aload_n 0, 1) := by decide +kernel
theorem dX7_unwish_36 : decode cX7_unwish 36 = .ok (.iload_n 3, 1) := by decide +kernel
theorem dX7_unwish_37 : decode cX7_unwish 37 = .ok (.invokevirtual 227, 3) := by decide +kernel
theorem dX7_unwish_40 : decode cX7_unwish 40 = .ok (.iinc 2 1, 3) := by decide +kernel
theorem dX7_unwish_43 : decode cX7_unwish 43 = .ok (.iinc 3 (-1), 3) := by decide +kernel
theorem dX7_unwish_46 : decode cX7_unwish 46 = .ok (.goto (-25), 3) := by decide +kernel
theorem dX7_unwish_49 : decode cX7_unwish 49 = .ok (.iload_n 2, 1) := by decide +kernel
theorem dX7_unwish_50 : decode cX7_unwish 50 = .ok (.ireturn, 1) := by decide +kernel
theorem dX7_wished_0 : decode cX7_wished 0 = .ok (.iload_n 1, 1) := by decide +kernel
theorem dX7_wished_1 : decode cX7_wished 1 = .ok (.ifCond .lt 12, 3) := by decide +kernel
theorem dX7_wished_4 : decode cX7_wished 4 = .ok (.iload_n 2, 1) := by decide +kernel
theorem dX7_wished_5 : decode cX7_wished 5 = .ok (.iconst 0, 1) := by decide +kernel
theorem dX7_wished_6 : decode cX7_wished 6 = .ok (.iconst 2, 1) := by decide +kernel
theorem dX7_wished_7 : decode cX7_wished 7 = .ok (.invokestatic 86, 3) := by decide +kernel
theorem dX7_wished_10 : decode cX7_wished 10 = .ok (.ifCond .ne 8, 3) := by decide +kernel
theorem dX7_wished_13 : decode cX7_wished 13 = .ok (.aload_n 0, 1) := by decide +kernel
theorem dX7_wished_14 : decode cX7_wished 14 = .ok (.invokevirtual 94, 3) := by decide +kernel
theorem dX7_wished_17 : decode cX7_wished 17 = .ok (.ireturn, 1) := by decide +kernel
theorem dX7_wished_18 : decode cX7_wished 18 = .ok (.iload_n 1, 1) := by decide +kernel
theorem dX7_wished_19 : decode cX7_wished 19 = .ok (.aload_n 0, 1) := by decide +kernel
theorem dX7_wished_20 : decode cX7_wished 20 = .ok (.getfield 80, 3) := by decide +kernel
theorem dX7_wished_23 : decode cX7_wished 23 = .ok (.if_icmp .lt 5, 3) := by decide +kernel
theorem dX7_wished_26 : decode cX7_wished 26 = .ok (.iconst (-1), 1) := by decide +kernel
theorem dX7_wished_27 : decode cX7_wished 27 = .ok (.ireturn, 1) := by decide +kernel
theorem dX7_wished_28 : decode cX7_wished 28 = .ok (.iload_n 2, 1) := by decide +kernel
theorem dX7_wished_29 : decode cX7_wished 29 = .ok (.ifCond .ne 12, 3) := by decide +kernel
theorem dX7_wished_32 : decode cX7_wished 32 = .ok (.aload_n 0, 1) := by decide +kernel
theorem dX7_wished_33 : decode cX7_wished 33 = .ok (.getfield 28, 3) := by decide +kernel
theorem dX7_wished_36 : decode cX7_wished 36 = .ok (.iload_n 1, 1) := by decide +kernel
theorem dX7_wished_37 : decode cX7_wished 37 = .ok (.iaload, 1) := by decide +kernel
theorem dX7_wished_38 : decode cX7_wished 38 = .ok (.goto 23, 3) := by decide +kernel
theorem dX7_wished_41 : decode cX7_wished 41 = .ok (.iload_n 2, 1) := by decide +kernel
theorem dX7_wished_42 : decode cX7_wished 42 = .ok (.iconst 1, 1) := by decide +kernel
theorem dX7_wished_43 : decode cX7_wished 43 = .ok (.if_icmp .ne 12, 3) := by decide +kernel
theorem dX7_wished_46 : decode cX7_wished 46 = .ok (.aload_n 0, 1) := by decide +kernel
theorem dX7_wished_47 : decode cX7_wished 47 = .ok (.getfield 31, 3) := by decide +kernel
theorem dX7_wished_50 : decode cX7_wished 50 = .ok (.iload_n 1, 1) := by decide +kernel
theorem dX7_wished_51 : decode cX7_wished 51 = .ok (.iaload, 1) := by decide +kernel
theorem dX7_wished_52 : decode cX7_wished 52 = .ok (.goto 9, 3) := by decide +kernel
theorem dX7_wished_55 : decode cX7_wished 55 = .ok (.aload_n 0, 1) := by decide +kernel
theorem dX7_wished_56 : decode cX7_wished 56 = .ok (.getfield 34, 3) := by decide +kernel
theorem dX7_wished_59 : decode cX7_wished 59 = .ok (.iload_n 1, 1) := by decide +kernel
theorem dX7_wished_60 : decode cX7_wished 60 = .ok (.iaload, 1) := by decide +kernel
theorem dX7_wished_61 : decode cX7_wished 61 = .ok (.ireturn, 1) := by decide +kernel
theorem dX7_comesTrue_0 : decode cX7_comesTrue 0 = .ok (.iconst 0, 1) := by decide +kernel
theorem dX7_comesTrue_1 : decode cX7_comesTrue 1 = .ok (.istore_n 1, 1) := by decide +kernel
theorem dX7_comesTrue_2 : decode cX7_comesTrue 2 = .ok (.iload_n 1, 1) := by decide +kernel
theorem dX7_comesTrue_3 : decode cX7_comesTrue 3 = .ok (.aload_n 0, 1) := by decide +kernel
theorem dX7_comesTrue_4 : decode cX7_comesTrue 4 = .ok (.getfield 80, 3) := by decide +kernel
theorem dX7_comesTrue_7 : decode cX7_comesTrue 7 = .ok (.if_icmp .ge 47, 3) := by decide +kernel
theorem dX7_comesTrue_10 : decode cX7_comesTrue 10 = .ok (.aload_n 0, 1) := by decide +kernel
theorem dX7_comesTrue_11 : decode cX7_comesTrue 11 = .ok (.getfield 31, 3) := by decide +kernel
theorem dX7_comesTrue_14 : decode cX7_comesTrue 14 = .ok (.iload_n 1, 1) := by decide +kernel
theorem dX7_comesTrue_15 : decode cX7_comesTrue 15 = .ok (.iaload, 1) := by decide +kernel
theorem dX7_comesTrue_16 : decode cX7_comesTrue 16 = .ok (.aload_n 0, 1) := by decide +kernel
theorem dX7_comesTrue_17 : decode cX7_comesTrue 17 = .ok (.getfield 76, 3) := by decide +kernel
theorem dX7_comesTrue_20 : decode cX7_comesTrue 20 = .ok (.if_icmp .gt 28, 3) := by decide +kernel
theorem dX7_comesTrue_23 : decode cX7_comesTrue 23 = .ok (.aload_n 0, 1) := by decide +kernel
theorem dX7_comesTrue_24 : decode cX7_comesTrue 24 = .ok (.getfield 22, 3) := by decide +kernel
theorem dX7_comesTrue_27 : decode cX7_comesTrue 27 = .ok (.aload_n 0, 1) := by decide +kernel
theorem dX7_comesTrue_28 : decode cX7_comesTrue 28 = .ok (.getfield 28, 3) := by decide +kernel
theorem dX7_comesTrue_31 : decode cX7_comesTrue 31 = .ok (.iload_n 1, 1) := by decide +kernel
theorem dX7_comesTrue_32 : decode cX7_comesTrue 32 = .ok (.iaload, 1) := by decide +kernel
theorem dX7_comesTrue_33 : decode cX7_comesTrue 33 = .ok (.aload_n 0, 1) := by decide +kernel
theorem dX7_comesTrue_34 : decode cX7_comesTrue 34 = .ok (.getfield 34, 3) := by decide +kernel
theorem dX7_comesTrue_37 : decode cX7_comesTrue 37 = .ok (.iload_n 1, 1) := by decide +kernel
theorem dX7_comesTrue_38 : decode cX7_comesTrue 38 = .ok (.iaload, 1) := by decide +kernel
theorem dX7_comesTrue_39 : decode cX7_comesTrue 39 = .ok (.iastore, 1) := by decide +kernel
theorem dX7_comesTrue_40 : decode cX7_comesTrue 40 = .ok (.aload_n 0, 1) := by decide +kernel
theorem dX7_comesTrue_41 : decode cX7_comesTrue 41 = .ok (.iload_n 1, 1) := by decide +kernel
theorem dX7_comesTrue_42 : decode cX7_comesTrue 42 = .ok (.invokevirtual 227, 3) := by decide +kernel
theorem dX7_comesTrue_45 : decode cX7_comesTrue 45 = .ok (.goto (-43), 3) := by decide +kernel
theorem dX7_comesTrue_48 : decode cX7_comesTrue 48 = .ok (.iinc 1 1, 3) := by decide +kernel
theorem dX7_comesTrue_51 : decode cX7_comesTrue 51 = .ok (.goto (-49), 3) := by decide +kernel
theorem dX7_comesTrue_54 : decode cX7_comesTrue 54 = .ok (.return_, 1) := by decide +kernel
theorem dX7_steers_0 : decode cX7_steers 0 = .ok (.aload_n 0, 1) := by decide +kernel
theorem dX7_steers_1 : decode cX7_steers 1 = .ok (.invokevirtual 117, 3) := by decide +kernel
theorem dX7_steers_4 : decode cX7_steers 4 = .ok (.aload_n 0, 1) := by decide +kernel
theorem dX7_steers_5 : decode cX7_steers 5 = .ok (.getfield 130, 3) := by decide +kernel
theorem dX7_steers_8 : decode cX7_steers 8 = .ok (.istore_n 1, 1) := by decide +kernel
theorem dX7_steers_9 : decode cX7_steers 9 = .ok (.iconst 0, 1) := by decide +kernel
theorem dX7_steers_10 : decode cX7_steers 10 = .ok (.istore_n 2, 1) := by decide +kernel
theorem dX7_steers_11 : decode cX7_steers 11 = .ok (.iload_n 2, 1) := by decide +kernel
theorem dX7_steers_12 : decode cX7_steers 12 = .ok (.iconst 3, 1) := by decide +kernel
theorem dX7_steers_13 : decode cX7_steers 13 = .ok (.if_icmp .ge 134, 3) := by decide +kernel
theorem dX7_steers_16 : decode cX7_steers 16 = .ok (.aload_n 0, 1) := by decide +kernel
theorem dX7_steers_17 : decode cX7_steers 17 = .ok (.getfield 22, 3) := by decide +kernel
theorem dX7_steers_20 : decode cX7_steers 20 = .ok (.iload_n 2, 1) := by decide +kernel
theorem dX7_steers_21 : decode cX7_steers 21 = .ok (.iaload, 1) := by decide +kernel
theorem dX7_steers_22 : decode cX7_steers 22 = .ok (.aload_n 0, 1) := by decide +kernel
theorem dX7_steers_23 : decode cX7_steers 23 = .ok (.getfield 16, 3) := by decide +kernel
theorem dX7_steers_26 : decode cX7_steers 26 = .ok (.iload_n 2, 1) := by decide +kernel
theorem dX7_steers_27 : decode cX7_steers 27 = .ok (.iaload, 1) := by decide +kernel
theorem dX7_steers_28 : decode cX7_steers 28 = .ok (.isub, 1) := by decide +kernel
theorem dX7_steers_29 : decode cX7_steers 29 = .ok (.istore_n 3, 1) := by decide +kernel
theorem dX7_steers_30 : decode cX7_steers 30 = .ok (.iload_n 3, 1) := by decide +kernel
theorem dX7_steers_31 : decode cX7_steers 31 = .ok (.ifCond .le 12, 3) := by decide +kernel
theorem dX7_steers_34 : decode cX7_steers 34 = .ok (.aload_n 0, 1) := by decide +kernel
theorem dX7_steers_35 : decode cX7_steers 35 = .ok (.getfield 25, 3) := by decide +kernel
theorem dX7_steers_38 : decode cX7_steers 38 = .ok (.iload_n 2, 1) := by decide +kernel
theorem dX7_steers_39 : decode cX7_steers 39 = .ok (.iaload, 1) := by decide +kernel
theorem dX7_steers_40 : decode cX7_steers 40 = .ok (.ifCond .gt 16, 3) := by decide +kernel
theorem dX7_steers_43 : decode cX7_steers 43 = .ok (.iload_n 3, 1) := by decide +kernel
theorem dX7_steers_44 : decode cX7_steers 44 = .ok (.ifCond .ge 16, 3) := by decide +kernel
theorem dX7_steers_47 : decode cX7_steers 47 = .ok (.aload_n 0, 1) := by decide +kernel
theorem dX7_steers_48 : decode cX7_steers 48 = .ok (.getfield 25, 3) := by decide +kernel
theorem dX7_steers_51 : decode cX7_steers 51 = .ok (.iload_n 2, 1) := by decide +kernel
theorem dX7_steers_52 : decode cX7_steers 52 = .ok (.iaload, 1) := by decide +kernel
theorem dX7_steers_53 : decode cX7_steers 53 = .ok (.ifCond .ge 7, 3) := by decide +kernel
theorem dX7_steers_56 : decode cX7_steers 56 = .ok (.iconst 1, 1) := by decide +kernel
theorem dX7_steers_57 : decode cX7_steers 57 = .ok (.goto 4, 3) := by decide +kernel
theorem dX7_steers_60 : decode cX7_steers 60 = .ok (.iconst 0, 1) := by decide +kernel
theorem dX7_steers_61 : decode cX7_steers 61 = .ok (.istore 4, 2) := by decide +kernel
theorem dX7_steers_63 : decode cX7_steers 63 = .ok (.aload_n 0, 1) := by decide +kernel
theorem dX7_steers_64 : decode cX7_steers 64 = .ok (.getfield 25, 3) := by decide +kernel
theorem dX7_steers_67 : decode cX7_steers 67 = .ok (.iload_n 2, 1) := by decide +kernel
theorem dX7_steers_68 : decode cX7_steers 68 = .ok (.iload_n 1, 1) := by decide +kernel
theorem dX7_steers_69 : decode cX7_steers 69 = .ok (.ifCond .eq 17, 3) := by decide +kernel
theorem dX7_steers_72 : decode cX7_steers 72 = .ok (.iload 4, 2) := by decide +kernel
theorem dX7_steers_74 : decode cX7_steers 74 = .ok (.ifCond .eq 12, 3) := by decide +kernel
theorem dX7_steers_77 : decode cX7_steers 77 = .ok (.aload_n 0, 1) := by decide +kernel
theorem dX7_steers_78 : decode cX7_steers 78 = .ok (.getfield 25, 3) := by decide +kernel
theorem dX7_steers_81 : decode cX7_steers 81 = .ok (.iload_n 2, 1) := by decide +kernel
theorem dX7_steers_82 : decode cX7_steers 82 = .ok (.iaload, 1) := by decide +kernel
theorem dX7_steers_83 : decode cX7_steers 83 = .ok (.goto 17, 3) := by decide +kernel
theorem dX7_steers_86 : decode cX7_steers 86 = .ok (.aload_n 0, 1) := by decide +kernel
theorem dX7_steers_87 : decode cX7_steers 87 = .ok (.getfield 25, 3) := by decide +kernel
theorem dX7_steers_90 : decode cX7_steers 90 = .ok (.iload_n 2, 1) := by decide +kernel
theorem dX7_steers_91 : decode cX7_steers 91 = .ok (.iaload, 1) := by decide +kernel
theorem dX7_steers_92 : decode cX7_steers 92 = .ok (.iload_n 3, 1) := by decide +kernel
theorem dX7_steers_93 : decode cX7_steers 93 = .ok (.iadd, 1) := by decide +kernel
theorem dX7_steers_94 : decode cX7_steers 94 = .ok (.sipush 5000, 3) := by decide +kernel
theorem dX7_steers_97 : decode cX7_steers 97 = .ok (.invokestatic 230, 3) := by decide +kernel
theorem dX7_steers_100 : decode cX7_steers 100 = .ok (.iastore, 1) := by decide +kernel
theorem dX7_steers_101 : decode cX7_steers 101 = .ok (.aload_n 0, 1) := by decide +kernel
theorem dX7_steers_102 : decode cX7_steers 102 = .ok (.getfield 19, 3) := by decide +kernel
theorem dX7_steers_105 : decode cX7_steers 105 = .ok (.iload_n 2, 1) := by decide +kernel
theorem dX7_steers_106 : decode cX7_steers 106 = .ok (.iload_n 3, 1) := by decide +kernel
theorem dX7_steers_107 : decode cX7_steers 107 = .ok (.aload_n 0, 1) := by decide +kernel
theorem dX7_steers_108 : decode cX7_steers 108 = .ok (.getfield 13, 3) := by decide +kernel
theorem dX7_steers_111 : decode cX7_steers 111 = .ok (.iconst 4, 1) := by decide +kernel
theorem dX7_steers_112 : decode cX7_steers 112 = .ok (.iaload, 1) := by decide +kernel
theorem dX7_steers_113 : decode cX7_steers 113 = .ok (.imul, 1) := by decide +kernel
theorem dX7_steers_114 : decode cX7_steers 114 = .ok (.bipush 16, 2) := by decide +kernel
theorem dX7_steers_116 : decode cX7_steers 116 = .ok (.idiv, 1) := by decide +kernel
theorem dX7_steers_117 : decode cX7_steers 117 = .ok (.aload_n 0, 1) := by decide +kernel
theorem dX7_steers_118 : decode cX7_steers 118 = .ok (.getfield 25, 3) := by decide +kernel
theorem dX7_steers_121 : decode cX7_steers 121 = .ok (.iload_n 2, 1) := by decide +kernel
theorem dX7_steers_122 : decode cX7_steers 122 = .ok (.iaload, 1) := by decide +kernel
theorem dX7_steers_123 : decode cX7_steers 123 = .ok (.aload_n 0, 1) := by decide +kernel
theorem dX7_steers_124 : decode cX7_steers 124 = .ok (.getfield 13, 3) := by decide +kernel
theorem dX7_steers_127 : decode cX7_steers 127 = .ok (.iconst 5, 1) := by decide +kernel
theorem dX7_steers_128 : decode cX7_steers 128 = .ok (.iaload, 1) := by decide +kernel
theorem dX7_steers_129 : decode cX7_steers 129 = .ok (.imul, 1) := by decide +kernel
theorem dX7_steers_130 : decode cX7_steers 130 = .ok (.bipush 64, 2) := by decide +kernel
theorem dX7_steers_132 : decode cX7_steers 132 = .ok (.idiv, 1) := by decide +kernel
theorem dX7_steers_133 : decode cX7_steers 133 = .ok (.iadd, 1) := by decide +kernel
theorem dX7_steers_134 : decode cX7_steers 134 = .ok (.sipush 200, 3) := by decide +kernel
theorem dX7_steers_137 : decode cX7_steers 137 = .ok (.invokestatic 230, 3) := by decide +kernel
theorem dX7_steers_140 : decode cX7_steers 140 = .ok (.iastore, 1) := by decide +kernel
theorem dX7_steers_141 : decode cX7_steers 141 = .ok (.iinc 2 1, 3) := by decide +kernel
theorem dX7_steers_144 : decode cX7_steers 144 = .ok (.goto (-133), 3) := by decide +kernel
theorem dX7_steers_147 : decode cX7_steers 147 = .ok (.return_, 1) := by decide +kernel
theorem dX7_goes_0 : decode cX7_goes 0 = .ok (.aload_n 0, 1) := by decide +kernel
theorem dX7_goes_1 : decode cX7_goes 1 = .ok (.invokevirtual 233, 3) := by decide +kernel
theorem dX7_goes_4 : decode cX7_goes 4 = .ok (.aload_n 0, 1) := by decide +kernel
theorem dX7_goes_5 : decode cX7_goes 5 = .ok (.getfield 13, 3) := by decide +kernel
theorem dX7_goes_8 : decode cX7_goes 8 = .ok (.bipush 6, 2) := by decide +kernel
theorem dX7_goes_10 : decode cX7_goes 10 = .ok (.iaload, 1) := by decide +kernel
theorem dX7_goes_11 : decode cX7_goes 11 = .ok (.iconst 1, 1) := by decide +kernel
theorem dX7_goes_12 : decode cX7_goes 12 = .ok (.if_icmp .ne 7, 3) := by decide +kernel
theorem dX7_goes_15 : decode cX7_goes 15 = .ok (.aload_n 0, 1) := by decide +kernel
theorem dX7_goes_16 : decode cX7_goes 16 = .ok (.invokevirtual 236, 3) := by decide +kernel
theorem dX7_goes_19 : decode cX7_goes 19 = .ok (.aload_n 0, 1) := by decide +kernel
theorem dX7_goes_20 : decode cX7_goes 20 = .ok (.invokevirtual 117, 3) := by decide +kernel
theorem dX7_goes_23 : decode cX7_goes 23 = .ok (.iconst 0, 1) := by decide +kernel
theorem dX7_goes_24 : decode cX7_goes 24 = .ok (.istore_n 1, 1) := by decide +kernel
theorem dX7_goes_25 : decode cX7_goes 25 = .ok (.iload_n 1, 1) := by decide +kernel
theorem dX7_goes_26 : decode cX7_goes 26 = .ok (.iconst 3, 1) := by decide +kernel
theorem dX7_goes_27 : decode cX7_goes 27 = .ok (.if_icmp .ge 20, 3) := by decide +kernel
theorem dX7_goes_30 : decode cX7_goes 30 = .ok (.aload_n 0, 1) := by decide +kernel
theorem dX7_goes_31 : decode cX7_goes 31 = .ok (.getfield 64, 3) := by decide +kernel
theorem dX7_goes_34 : decode cX7_goes 34 = .ok (.iload_n 1, 1) := by decide +kernel
theorem dX7_goes_35 : decode cX7_goes 35 = .ok (.aload_n 0, 1) := by decide +kernel
theorem dX7_goes_36 : decode cX7_goes 36 = .ok (.iload_n 1, 1) := by decide +kernel
theorem dX7_goes_37 : decode cX7_goes 37 = .ok (.invokevirtual 172, 3) := by decide +kernel
theorem dX7_goes_40 : decode cX7_goes 40 = .ok (.iastore, 1) := by decide +kernel
theorem dX7_goes_41 : decode cX7_goes 41 = .ok (.iinc 1 1, 3) := by decide +kernel
theorem dX7_goes_44 : decode cX7_goes 44 = .ok (.goto (-19), 3) := by decide +kernel
theorem dX7_goes_47 : decode cX7_goes 47 = .ok (.aload_n 0, 1) := by decide +kernel
theorem dX7_goes_48 : decode cX7_goes 48 = .ok (.getfield 64, 3) := by decide +kernel
theorem dX7_goes_51 : decode cX7_goes 51 = .ok (.iconst 0, 1) := by decide +kernel
theorem dX7_goes_52 : decode cX7_goes 52 = .ok (.iaload, 1) := by decide +kernel
theorem dX7_goes_53 : decode cX7_goes 53 = .ok (.aload_n 0, 1) := by decide +kernel
theorem dX7_goes_54 : decode cX7_goes 54 = .ok (.getfield 64, 3) := by decide +kernel
theorem dX7_goes_57 : decode cX7_goes 57 = .ok (.iconst 1, 1) := by decide +kernel
theorem dX7_goes_58 : decode cX7_goes 58 = .ok (.iaload, 1) := by decide +kernel
theorem dX7_goes_59 : decode cX7_goes 59 = .ok (.iadd, 1) := by decide +kernel
theorem dX7_goes_60 : decode cX7_goes 60 = .ok (.aload_n 0, 1) := by decide +kernel
theorem dX7_goes_61 : decode cX7_goes 61 = .ok (.getfield 64, 3) := by decide +kernel
theorem dX7_goes_64 : decode cX7_goes 64 = .ok (.iconst 2, 1) := by decide +kernel
theorem dX7_goes_65 : decode cX7_goes 65 = .ok (.iaload, 1) := by decide +kernel
theorem dX7_goes_66 : decode cX7_goes 66 = .ok (.iadd, 1) := by decide +kernel
theorem dX7_goes_67 : decode cX7_goes 67 = .ok (.istore_n 1, 1) := by decide +kernel
theorem dX7_goes_68 : decode cX7_goes 68 = .ok (.iconst 0, 1) := by decide +kernel
theorem dX7_goes_69 : decode cX7_goes 69 = .ok (.istore_n 2, 1) := by decide +kernel
theorem dX7_goes_70 : decode cX7_goes 70 = .ok (.iload_n 2, 1) := by decide +kernel
theorem dX7_goes_71 : decode cX7_goes 71 = .ok (.iconst 3, 1) := by decide +kernel
theorem dX7_goes_72 : decode cX7_goes 72 = .ok (.if_icmp .ge 48, 3) := by decide +kernel
theorem dX7_goes_75 : decode cX7_goes 75 = .ok (.aload_n 0, 1) := by decide +kernel
theorem dX7_goes_76 : decode cX7_goes 76 = .ok (.getfield 16, 3) := by decide +kernel
theorem dX7_goes_79 : decode cX7_goes 79 = .ok (.iload_n 2, 1) := by decide +kernel
theorem dX7_goes_80 : decode cX7_goes 80 = .ok (.iaload, 1) := by decide +kernel
theorem dX7_goes_81 : decode cX7_goes 81 = .ok (.iconst 3, 1) := by decide +kernel
theorem dX7_goes_82 : decode cX7_goes 82 = .ok (.aload_n 0, 1) := by decide +kernel
theorem dX7_goes_83 : decode cX7_goes 83 = .ok (.getfield 64, 3) := by decide +kernel
theorem dX7_goes_86 : decode cX7_goes 86 = .ok (.iload_n 2, 1) := by decide +kernel
theorem dX7_goes_87 : decode cX7_goes 87 = .ok (.iaload, 1) := by decide +kernel
theorem dX7_goes_88 : decode cX7_goes 88 = .ok (.imul, 1) := by decide +kernel
theorem dX7_goes_89 : decode cX7_goes 89 = .ok (.iload_n 1, 1) := by decide +kernel
theorem dX7_goes_90 : decode cX7_goes 90 = .ok (.isub, 1) := by decide +kernel
theorem dX7_goes_91 : decode cX7_goes 91 = .ok (.bipush 6, 2) := by decide +kernel
theorem dX7_goes_93 : decode cX7_goes 93 = .ok (.idiv, 1) := by decide +kernel
theorem dX7_goes_94 : decode cX7_goes 94 = .ok (.iadd, 1) := by decide +kernel
theorem dX7_goes_95 : decode cX7_goes 95 = .ok (.istore_n 3, 1) := by decide +kernel
theorem dX7_goes_96 : decode cX7_goes 96 = .ok (.aload_n 0, 1) := by decide +kernel
theorem dX7_goes_97 : decode cX7_goes 97 = .ok (.getfield 16, 3) := by decide +kernel
theorem dX7_goes_100 : decode cX7_goes 100 = .ok (.iload_n 2, 1) := by decide +kernel
theorem dX7_goes_101 : decode cX7_goes 101 = .ok (.iload_n 3, 1) := by decide +kernel
theorem dX7_goes_102 : decode cX7_goes 102 = .ok (.iload_n 3, 1) := by decide +kernel
theorem dX7_goes_103 : decode cX7_goes 103 = .ok (.bipush 8, 2) := by decide +kernel
theorem dX7_goes_105 : decode cX7_goes 105 = .ok (.idiv, 1) := by decide +kernel
theorem dX7_goes_106 : decode cX7_goes 106 = .ok (.isub, 1) := by decide +kernel
theorem dX7_goes_107 : decode cX7_goes 107 = .ok (.sipush 999, 3) := by decide +kernel
theorem dX7_goes_110 : decode cX7_goes 110 = .ok (.invokestatic 230, 3) := by decide +kernel
theorem dX7_goes_113 : decode cX7_goes 113 = .ok (.iastore, 1) := by decide +kernel
theorem dX7_goes_114 : decode cX7_goes 114 = .ok (.iinc 2 1, 3) := by decide +kernel
theorem dX7_goes_117 : decode cX7_goes 117 = .ok (.goto (-47), 3) := by decide +kernel
theorem dX7_goes_120 : decode cX7_goes 120 = .ok (.aload_n 0, 1) := by decide +kernel
theorem dX7_goes_121 : decode cX7_goes 121 = .ok (.dup, 1) := by decide +kernel
theorem dX7_goes_122 : decode cX7_goes 122 = .ok (.getfield 76, 3) := by decide +kernel
theorem dX7_goes_125 : decode cX7_goes 125 = .ok (.iconst 1, 1) := by decide +kernel
theorem dX7_goes_126 : decode cX7_goes 126 = .ok (.iadd, 1) := by decide +kernel
theorem dX7_goes_127 : decode cX7_goes 127 = .ok (.putfield 76, 3) := by decide +kernel
theorem dX7_goes_130 : decode cX7_goes 130 = .ok (.aload_n 0, 1) := by decide +kernel
theorem dX7_goes_131 : decode cX7_goes 131 = .ok (.getfield 130, 3) := by decide +kernel
theorem dX7_goes_134 : decode cX7_goes 134 = .ok (.ireturn, 1) := by decide +kernel
theorem dX7_remembers_0 : decode cX7_remembers 0 = .ok (.bipush 39, 2) := by decide +kernel
theorem dX7_remembers_2 : decode cX7_remembers 2 = .ok (.istore_n 2, 1) := by decide +kernel
theorem dX7_remembers_3 : decode cX7_remembers 3 = .ok (.iload_n 2, 1) := by decide +kernel
theorem dX7_remembers_4 : decode cX7_remembers 4 = .ok (.iconst 4, 1) := by decide +kernel
theorem dX7_remembers_5 : decode cX7_remembers 5 = .ok (.if_icmp .lt 23, 3) := by decide +kernel
theorem dX7_remembers_8 : decode cX7_remembers 8 = .ok (.aload_n 0, 1) := by decide +kernel
theorem dX7_remembers_9 : decode cX7_remembers 9 = .ok (.getfield 37, 3) := by decide +kernel
theorem dX7_remembers_12 : decode cX7_remembers 12 = .ok (.iload_n 2, 1) := by decide +kernel
theorem dX7_remembers_13 : decode cX7_remembers 13 = .ok (.aload_n 0, 1) := by decide +kernel
theorem dX7_remembers_14 : decode cX7_remembers 14 = .ok (.getfield 37, 3) := by decide +kernel
theorem dX7_remembers_17 : decode cX7_remembers 17 = .ok (.iload_n 2, 1) := by decide +kernel
theorem dX7_remembers_18 : decode cX7_remembers 18 = .ok (.iconst 4, 1) := by decide +kernel
theorem dX7_remembers_19 : decode cX7_remembers 19 = .ok (.isub, 1) := by decide +kernel
theorem dX7_remembers_20 : decode cX7_remembers 20 = .ok (.iaload, 1) := by decide +kernel
theorem dX7_remembers_21 : decode cX7_remembers 21 = .ok (.iastore, 1) := by decide +kernel
theorem dX7_remembers_22 : decode cX7_remembers 22 = .ok (.iinc 2 (-1), 3) := by decide +kernel
theorem dX7_remembers_25 : decode cX7_remembers 25 = .ok (.goto (-22), 3) := by decide +kernel
theorem dX7_remembers_28 : decode cX7_remembers 28 = .ok (.aload_n 0, 1) := by decide +kernel
theorem dX7_remembers_29 : decode cX7_remembers 29 = .ok (.getfield 37, 3) := by decide +kernel
theorem dX7_remembers_32 : decode cX7_remembers 32 = .ok (.iconst 0, 1) := by decide +kernel
theorem dX7_remembers_33 : decode cX7_remembers 33 = .ok (.aload_n 0, 1) := by decide +kernel
theorem dX7_remembers_34 : decode cX7_remembers 34 = .ok (.getfield 16, 3) := by decide +kernel
theorem dX7_remembers_37 : decode cX7_remembers 37 = .ok (.iconst 0, 1) := by decide +kernel
theorem dX7_remembers_38 : decode cX7_remembers 38 = .ok (.iaload, 1) := by decide +kernel
theorem dX7_remembers_39 : decode cX7_remembers 39 = .ok (.iastore, 1) := by decide +kernel
theorem dX7_remembers_40 : decode cX7_remembers 40 = .ok (.aload_n 0, 1) := by decide +kernel
theorem dX7_remembers_41 : decode cX7_remembers 41 = .ok (.getfield 37, 3) := by decide +kernel
theorem dX7_remembers_44 : decode cX7_remembers 44 = .ok (.iconst 1, 1) := by decide +kernel
theorem dX7_remembers_45 : decode cX7_remembers 45 = .ok (.aload_n 0, 1) := by decide +kernel
theorem dX7_remembers_46 : decode cX7_remembers 46 = .ok (.getfield 16, 3) := by decide +kernel
theorem dX7_remembers_49 : decode cX7_remembers 49 = .ok (.iconst 1, 1) := by decide +kernel
theorem dX7_remembers_50 : decode cX7_remembers 50 = .ok (.iaload, 1) := by decide +kernel
theorem dX7_remembers_51 : decode cX7_remembers 51 = .ok (.iastore, 1) := by decide +kernel
theorem dX7_remembers_52 : decode cX7_remembers 52 = .ok (.aload_n 0, 1) := by decide +kernel
theorem dX7_remembers_53 : decode cX7_remembers 53 = .ok (.getfield 37, 3) := by decide +kernel
theorem dX7_remembers_56 : decode cX7_remembers 56 = .ok (.iconst 2, 1) := by decide +kernel
theorem dX7_remembers_57 : decode cX7_remembers 57 = .ok (.aload_n 0, 1) := by decide +kernel
theorem dX7_remembers_58 : decode cX7_remembers 58 = .ok (.getfield 16, 3) := by decide +kernel
theorem dX7_remembers_61 : decode cX7_remembers 61 = .ok (.iconst 2, 1) := by decide +kernel
theorem dX7_remembers_62 : decode cX7_remembers 62 = .ok (.iaload, 1) := by decide +kernel
theorem dX7_remembers_63 : decode cX7_remembers 63 = .ok (.iastore, 1) := by decide +kernel
theorem dX7_remembers_64 : decode cX7_remembers 64 = .ok (.aload_n 0, 1) := by decide +kernel
theorem dX7_remembers_65 : decode cX7_remembers 65 = .ok (.getfield 37, 3) := by decide +kernel
theorem dX7_remembers_68 : decode cX7_remembers 68 = .ok (.iconst 3, 1) := by decide +kernel
theorem dX7_remembers_69 : decode cX7_remembers 69 = .ok (.iload_n 1, 1) := by decide +kernel
theorem dX7_remembers_70 : decode cX7_remembers 70 = .ok (.ifCond .eq 7, 3) := by decide +kernel
theorem dX7_remembers_73 : decode cX7_remembers 73 = .ok (.iconst 1, 1) := by decide +kernel
theorem dX7_remembers_74 : decode cX7_remembers 74 = .ok (.goto 4, 3) := by decide +kernel
theorem dX7_remembers_77 : decode cX7_remembers 77 = .ok (.iconst 0, 1) := by decide +kernel
theorem dX7_remembers_78 : decode cX7_remembers 78 = .ok (.iastore, 1) := by decide +kernel
theorem dX7_remembers_79 : decode cX7_remembers 79 = .ok (.aload_n 0, 1) := by decide +kernel
theorem dX7_remembers_80 : decode cX7_remembers 80 = .ok (.dup, 1) := by decide +kernel
theorem dX7_remembers_81 : decode cX7_remembers 81 = .ok (.getfield 83, 3) := by decide +kernel
theorem dX7_remembers_84 : decode cX7_remembers 84 = .ok (.aload_n 0, 1) := by decide +kernel
theorem dX7_remembers_85 : decode cX7_remembers 85 = .ok (.getfield 83, 3) := by decide +kernel
theorem dX7_remembers_88 : decode cX7_remembers 88 = .ok (.bipush 10, 2) := by decide +kernel
theorem dX7_remembers_90 : decode cX7_remembers 90 = .ok (.if_icmp .ge 7, 3) := by decide +kernel
theorem dX7_remembers_93 : decode cX7_remembers 93 = .ok (.iconst 1, 1) := by decide +kernel
theorem dX7_remembers_94 : decode cX7_remembers 94 = .ok (.goto 4, 3) := by decide +kernel
theorem dX7_remembers_97 : decode cX7_remembers 97 = .ok (.iconst 0, 1) := by decide +kernel
theorem dX7_remembers_98 : decode cX7_remembers 98 = .ok (.iadd, 1) := by decide +kernel
theorem dX7_remembers_99 : decode cX7_remembers 99 = .ok (.putfield 83, 3) := by decide +kernel
theorem dX7_remembers_102 : decode cX7_remembers 102 = .ok (.return_, 1) := by decide +kernel
theorem dX7_steps_0 : decode cX7_steps 0 = .ok (.iload_n 1, 1) := by decide +kernel
theorem dX7_steps_1 : decode cX7_steps 1 = .ok (.iconst 1, 1) := by decide +kernel
theorem dX7_steps_2 : decode cX7_steps 2 = .ok (.bipush 50, 2) := by decide +kernel
theorem dX7_steps_4 : decode cX7_steps 4 = .ok (.invokestatic 86, 3) := by decide +kernel
theorem dX7_steps_7 : decode cX7_steps 7 = .ok (.ifCond .ne 8, 3) := by decide +kernel
theorem dX7_steps_10 : decode cX7_steps 10 = .ok (.aload_n 0, 1) := by decide +kernel
theorem dX7_steps_11 : decode cX7_steps 11 = .ok (.invokevirtual 94, 3) := by decide +kernel
theorem dX7_steps_14 : decode cX7_steps 14 = .ok (.ireturn, 1) := by decide +kernel
theorem dX7_steps_15 : decode cX7_steps 15 = .ok (.iconst 0, 1) := by decide +kernel
theorem dX7_steps_16 : decode cX7_steps 16 = .ok (.istore_n 2, 1) := by decide +kernel
theorem dX7_steps_17 : decode cX7_steps 17 = .ok (.iconst 0, 1) := by decide +kernel
theorem dX7_steps_18 : decode cX7_steps 18 = .ok (.istore_n 3, 1) := by decide +kernel
theorem dX7_steps_19 : decode cX7_steps 19 = .ok (.iload_n 3, 1) := by decide +kernel
theorem dX7_steps_20 : decode cX7_steps 20 = .ok (.iload_n 1, 1) := by decide +kernel
theorem dX7_steps_21 : decode cX7_steps 21 = .ok (.if_icmp .ge 34, 3) := by decide +kernel
theorem dX7_steps_24 : decode cX7_steps 24 = .ok (.aload_n 0, 1) := by decide +kernel
theorem dX7_steps_25 : decode cX7_steps 25 = .ok (.invokevirtual 239, 3) := by decide +kernel
theorem dX7_steps_28 : decode cX7_steps 28 = .ok (.istore 4, 2) := by decide +kernel
theorem dX7_steps_30 : decode cX7_steps 30 = .ok (.aload_n 0, 1) := by decide +kernel
theorem dX7_steps_31 : decode cX7_steps 31 = .ok (.iload 4, 2) := by decide +kernel
theorem dX7_steps_33 : decode cX7_steps 33 = .ok (.invokevirtual 243, 3) := by decide +kernel
theorem dX7_steps_36 : decode cX7_steps 36 = .ok (.iload_n 2, 1) := by decide +kernel
theorem dX7_steps_37 : decode cX7_steps 37 = .ok (.iload 4, 2) := by decide +kernel
theorem dX7_steps_39 : decode cX7_steps 39 = .ok (.ifCond .eq 7, 3) := by decide +kernel
theorem dX7_steps_42 : decode cX7_steps 42 = .ok (.iconst 1, 1) := by decide +kernel
theorem dX7_steps_43 : decode cX7_steps 43 = .ok (.goto 4, 3) := by decide +kernel
theorem dX7_steps_46 : decode cX7_steps 46 = .ok (.iconst 0, 1) := by decide +kernel
theorem dX7_steps_47 : decode cX7_steps 47 = .ok (.iadd, 1) := by decide +kernel
theorem dX7_steps_48 : decode cX7_steps 48 = .ok (.istore_n 2, 1) := by decide +kernel
theorem dX7_steps_49 : decode cX7_steps 49 = .ok (.iinc 3 1, 3) := by decide +kernel
theorem dX7_steps_52 : decode cX7_steps 52 = .ok (.goto (-33), 3) := by decide +kernel
theorem dX7_steps_55 : decode cX7_steps 55 = .ok (.iload_n 2, 1) := by decide +kernel
theorem dX7_steps_56 : decode cX7_steps 56 = .ok (.ireturn, 1) := by decide +kernel
theorem dX7_lays_0 : decode cX7_lays 0 = .ok (.iconst 0, 1) := by decide +kernel
theorem dX7_lays_1 : decode cX7_lays 1 = .ok (.istore_n 1, 1) := by decide +kernel
theorem dX7_lays_2 : decode cX7_lays 2 = .ok (.iload_n 1, 1) := by decide +kernel
theorem dX7_lays_3 : decode cX7_lays 3 = .ok (.iconst 3, 1) := by decide +kernel
theorem dX7_lays_4 : decode cX7_lays 4 = .ok (.if_icmp .ge 65, 3) := by decide +kernel
theorem dX7_lays_7 : decode cX7_lays 7 = .ok (.aload_n 0, 1) := by decide +kernel
theorem dX7_lays_8 : decode cX7_lays 8 = .ok (.getfield 67, 3) := by decide +kernel
theorem dX7_lays_11 : decode cX7_lays 11 = .ok (.iload_n 1, 1) := by decide +kernel
theorem dX7_lays_12 : decode cX7_lays 12 = .ok (.aload_n 0, 1) := by decide +kernel
theorem dX7_lays_13 : decode cX7_lays 13 = .ok (.getfield 16, 3) := by decide +kernel
theorem dX7_lays_16 : decode cX7_lays 16 = .ok (.iload_n 1, 1) := by decide +kernel
theorem dX7_lays_17 : decode cX7_lays 17 = .ok (.iaload, 1) := by decide +kernel
theorem dX7_lays_18 : decode cX7_lays 18 = .ok (.iastore, 1) := by decide +kernel
theorem dX7_lays_19 : decode cX7_lays 19 = .ok (.aload_n 0, 1) := by decide +kernel
theorem dX7_lays_20 : decode cX7_lays 20 = .ok (.getfield 67, 3) := by decide +kernel
theorem dX7_lays_23 : decode cX7_lays 23 = .ok (.iconst 3, 1) := by decide +kernel
theorem dX7_lays_24 : decode cX7_lays 24 = .ok (.iload_n 1, 1) := by decide +kernel
theorem dX7_lays_25 : decode cX7_lays 25 = .ok (.iadd, 1) := by decide +kernel
theorem dX7_lays_26 : decode cX7_lays 26 = .ok (.aload_n 0, 1) := by decide +kernel
theorem dX7_lays_27 : decode cX7_lays 27 = .ok (.getfield 19, 3) := by decide +kernel
theorem dX7_lays_30 : decode cX7_lays 30 = .ok (.iload_n 1, 1) := by decide +kernel
theorem dX7_lays_31 : decode cX7_lays 31 = .ok (.iaload, 1) := by decide +kernel
theorem dX7_lays_32 : decode cX7_lays 32 = .ok (.iastore, 1) := by decide +kernel
theorem dX7_lays_33 : decode cX7_lays 33 = .ok (.aload_n 0, 1) := by decide +kernel
theorem dX7_lays_34 : decode cX7_lays 34 = .ok (.getfield 67, 3) := by decide +kernel
theorem dX7_lays_37 : decode cX7_lays 37 = .ok (.bipush 6, 2) := by decide +kernel
theorem dX7_lays_39 : decode cX7_lays 39 = .ok (.iload_n 1, 1) := by decide +kernel
theorem dX7_lays_40 : decode cX7_lays 40 = .ok (.iadd, 1) := by decide +kernel
theorem dX7_lays_41 : decode cX7_lays 41 = .ok (.aload_n 0, 1) := by decide +kernel
theorem dX7_lays_42 : decode cX7_lays 42 = .ok (.getfield 22, 3) := by decide +kernel
theorem dX7_lays_45 : decode cX7_lays 45 = .ok (.iload_n 1, 1) := by decide +kernel
theorem dX7_lays_46 : decode cX7_lays 46 = .ok (.iaload, 1) := by decide +kernel
theorem dX7_lays_47 : decode cX7_lays 47 = .ok (.iastore, 1) := by decide +kernel
theorem dX7_lays_48 : decode cX7_lays 48 = .ok (.aload_n 0, 1) := by decide +kernel
theorem dX7_lays_49 : decode cX7_lays 49 = .ok (.getfield 67, 3) := by decide +kernel
theorem dX7_lays_52 : decode cX7_lays 52 = .ok (.bipush 9, 2) := by decide +kernel
theorem dX7_lays_54 : decode cX7_lays 54 = .ok (.iload_n 1, 1) := by decide +kernel
theorem dX7_lays_55 : decode cX7_lays 55 = .ok (.iadd, 1) := by decide +kernel
theorem dX7_lays_56 : decode cX7_lays 56 = .ok (.aload_n 0, 1) := by decide +kernel
theorem dX7_lays_57 : decode cX7_lays 57 = .ok (.getfield 25, 3) := by decide +kernel
theorem dX7_lays_60 : decode cX7_lays 60 = .ok (.iload_n 1, 1) := by decide +kernel
theorem dX7_lays_61 : decode cX7_lays 61 = .ok (.iaload, 1) := by decide +kernel
theorem dX7_lays_62 : decode cX7_lays 62 = .ok (.iastore, 1) := by decide +kernel
theorem dX7_lays_63 : decode cX7_lays 63 = .ok (.iinc 1 1, 3) := by decide +kernel
theorem dX7_lays_66 : decode cX7_lays 66 = .ok (.goto (-64), 3) := by decide +kernel
theorem dX7_lays_69 : decode cX7_lays 69 = .ok (.aload_n 0, 1) := by decide +kernel
theorem dX7_lays_70 : decode cX7_lays 70 = .ok (.getfield 67, 3) := by decide +kernel
theorem dX7_lays_73 : decode cX7_lays 73 = .ok (.bipush 12, 2) := by decide +kernel
theorem dX7_lays_75 : decode cX7_lays 75 = .ok (.aload_n 0, 1) := by decide +kernel
theorem dX7_lays_76 : decode cX7_lays 76 = .ok (.getfield 76, 3) := by decide +kernel
theorem dX7_lays_79 : decode cX7_lays 79 = .ok (.iastore, 1) := by decide +kernel
theorem dX7_lays_80 : decode cX7_lays 80 = .ok (.aload_n 0, 1) := by decide +kernel
theorem dX7_lays_81 : decode cX7_lays 81 = .ok (.getfield 67, 3) := by decide +kernel
theorem dX7_lays_84 : decode cX7_lays 84 = .ok (.bipush 13, 2) := by decide +kernel
theorem dX7_lays_86 : decode cX7_lays 86 = .ok (.aload_n 0, 1) := by decide +kernel
theorem dX7_lays_87 : decode cX7_lays 87 = .ok (.getfield 80, 3) := by decide +kernel
theorem dX7_lays_90 : decode cX7_lays 90 = .ok (.iastore, 1) := by decide +kernel
theorem dX7_lays_91 : decode cX7_lays 91 = .ok (.iconst 0, 1) := by decide +kernel
theorem dX7_lays_92 : decode cX7_lays 92 = .ok (.istore_n 1, 1) := by decide +kernel
theorem dX7_lays_93 : decode cX7_lays 93 = .ok (.iload_n 1, 1) := by decide +kernel
theorem dX7_lays_94 : decode cX7_lays 94 = .ok (.bipush 12, 2) := by decide +kernel
theorem dX7_lays_96 : decode cX7_lays 96 = .ok (.if_icmp .ge 54, 3) := by decide +kernel
theorem dX7_lays_99 : decode cX7_lays 99 = .ok (.aload_n 0, 1) := by decide +kernel
theorem dX7_lays_100 : decode cX7_lays 100 = .ok (.getfield 67, 3) := by decide +kernel
theorem dX7_lays_103 : decode cX7_lays 103 = .ok (.bipush 14, 2) := by decide +kernel
theorem dX7_lays_105 : decode cX7_lays 105 = .ok (.iload_n 1, 1) := by decide +kernel
theorem dX7_lays_106 : decode cX7_lays 106 = .ok (.iadd, 1) := by decide +kernel
theorem dX7_lays_107 : decode cX7_lays 107 = .ok (.aload_n 0, 1) := by decide +kernel
theorem dX7_lays_108 : decode cX7_lays 108 = .ok (.getfield 28, 3) := by decide +kernel
theorem dX7_lays_111 : decode cX7_lays 111 = .ok (.iload_n 1, 1) := by decide +kernel
theorem dX7_lays_112 : decode cX7_lays 112 = .ok (.iaload, 1) := by decide +kernel
theorem dX7_lays_113 : decode cX7_lays 113 = .ok (.iastore, 1) := by decide +kernel
theorem dX7_lays_114 : decode cX7_lays 114 = .ok (.aload_n 0, 1) := by decide +kernel
theorem dX7_lays_115 : decode cX7_lays 115 = .ok (.getfield 67, 3) := by decide +kernel
theorem dX7_lays_118 : decode cX7_lays 118 = .ok (.bipush 26, 2) := by decide +kernel
theorem dX7_lays_120 : decode cX7_lays 120 = .ok (.iload_n 1, 1) := by decide +kernel
theorem dX7_lays_121 : decode cX7_lays 121 = .ok (.iadd, 1) := by decide +kernel
theorem dX7_lays_122 : decode cX7_lays 122 = .ok (.aload_n 0, 1) := by decide +kernel
theorem dX7_lays_123 : decode cX7_lays 123 = .ok (.getfield 31, 3) := by decide +kernel
theorem dX7_lays_126 : decode cX7_lays 126 = .ok (.iload_n 1, 1) := by decide +kernel
theorem dX7_lays_127 : decode cX7_lays 127 = .ok (.iaload, 1) := by decide +kernel
theorem dX7_lays_128 : decode cX7_lays 128 = .ok (.iastore, 1) := by decide +kernel
theorem dX7_lays_129 : decode cX7_lays 129 = .ok (.aload_n 0, 1) := by decide +kernel
theorem dX7_lays_130 : decode cX7_lays 130 = .ok (.getfield 67, 3) := by decide +kernel
theorem dX7_lays_133 : decode cX7_lays 133 = .ok (.bipush 38, 2) := by decide +kernel
theorem dX7_lays_135 : decode cX7_lays 135 = .ok (.iload_n 1, 1) := by decide +kernel
theorem dX7_lays_136 : decode cX7_lays 136 = .ok (.iadd, 1) := by decide +kernel
theorem dX7_lays_137 : decode cX7_lays 137 = .ok (.aload_n 0, 1) := by decide +kernel
theorem dX7_lays_138 : decode cX7_lays 138 = .ok (.getfield 34, 3) := by decide +kernel
theorem dX7_lays_141 : decode cX7_lays 141 = .ok (.iload_n 1, 1) := by decide +kernel
theorem dX7_lays_142 : decode cX7_lays 142 = .ok (.iaload, 1) := by decide +kernel
theorem dX7_lays_143 : decode cX7_lays 143 = .ok (.iastore, 1) := by decide +kernel
theorem dX7_lays_144 : decode cX7_lays 144 = .ok (.iinc 1 1, 3) := by decide +kernel
theorem dX7_lays_147 : decode cX7_lays 147 = .ok (.goto (-54), 3) := by decide +kernel
theorem dX7_lays_150 : decode cX7_lays 150 = .ok (.return_, 1) := by decide +kernel
theorem dX7_takes_0 : decode cX7_takes 0 = .ok (.iconst 0, 1) := by decide +kernel
theorem dX7_takes_1 : decode cX7_takes 1 = .ok (.istore_n 1, 1) := by decide +kernel
theorem dX7_takes_2 : decode cX7_takes 2 = .ok (.iload_n 1, 1) := by decide +kernel
theorem dX7_takes_3 : decode cX7_takes 3 = .ok (.iconst 3, 1) := by decide +kernel
theorem dX7_takes_4 : decode cX7_takes 4 = .ok (.if_icmp .ge 65, 3) := by decide +kernel
theorem dX7_takes_7 : decode cX7_takes 7 = .ok (.aload_n 0, 1) := by decide +kernel
theorem dX7_takes_8 : decode cX7_takes 8 = .ok (.getfield 16, 3) := by decide +kernel
theorem dX7_takes_11 : decode cX7_takes 11 = .ok (.iload_n 1, 1) := by decide +kernel
theorem dX7_takes_12 : decode cX7_takes 12 = .ok (.aload_n 0, 1) := by decide +kernel
theorem dX7_takes_13 : decode cX7_takes 13 = .ok (.getfield 67, 3) := by decide +kernel
theorem dX7_takes_16 : decode cX7_takes 16 = .ok (.iload_n 1, 1) := by decide +kernel
theorem dX7_takes_17 : decode cX7_takes 17 = .ok (.iaload, 1) := by decide +kernel
theorem dX7_takes_18 : decode cX7_takes 18 = .ok (.iastore, 1) := by decide +kernel
theorem dX7_takes_19 : decode cX7_takes 19 = .ok (.aload_n 0, 1) := by decide +kernel
theorem dX7_takes_20 : decode cX7_takes 20 = .ok (.getfield 19, 3) := by decide +kernel
theorem dX7_takes_23 : decode cX7_takes 23 = .ok (.iload_n 1, 1) := by decide +kernel
theorem dX7_takes_24 : decode cX7_takes 24 = .ok (.aload_n 0, 1) := by decide +kernel
theorem dX7_takes_25 : decode cX7_takes 25 = .ok (.getfield 67, 3) := by decide +kernel
theorem dX7_takes_28 : decode cX7_takes 28 = .ok (.iconst 3, 1) := by decide +kernel
theorem dX7_takes_29 : decode cX7_takes 29 = .ok (.iload_n 1, 1) := by decide +kernel
theorem dX7_takes_30 : decode cX7_takes 30 = .ok (.iadd, 1) := by decide +kernel
theorem dX7_takes_31 : decode cX7_takes 31 = .ok (.iaload, 1) := by decide +kernel
theorem dX7_takes_32 : decode cX7_takes 32 = .ok (.iastore, 1) := by decide +kernel
theorem dX7_takes_33 : decode cX7_takes 33 = .ok (.aload_n 0, 1) := by decide +kernel
theorem dX7_takes_34 : decode cX7_takes 34 = .ok (.getfield 22, 3) := by decide +kernel
theorem dX7_takes_37 : decode cX7_takes 37 = .ok (.iload_n 1, 1) := by decide +kernel
theorem dX7_takes_38 : decode cX7_takes 38 = .ok (.aload_n 0, 1) := by decide +kernel
theorem dX7_takes_39 : decode cX7_takes 39 = .ok (.getfield 67, 3) := by decide +kernel
theorem dX7_takes_42 : decode cX7_takes 42 = .ok (.bipush 6, 2) := by decide +kernel
theorem dX7_takes_44 : decode cX7_takes 44 = .ok (.iload_n 1, 1) := by decide +kernel
theorem dX7_takes_45 : decode cX7_takes 45 = .ok (.iadd, 1) := by decide +kernel
theorem dX7_takes_46 : decode cX7_takes 46 = .ok (.iaload, 1) := by decide +kernel
theorem dX7_takes_47 : decode cX7_takes 47 = .ok (.iastore, 1) := by decide +kernel
theorem dX7_takes_48 : decode cX7_takes 48 = .ok (.aload_n 0, 1) := by decide +kernel
theorem dX7_takes_49 : decode cX7_takes 49 = .ok (.getfield 25, 3) := by decide +kernel
theorem dX7_takes_52 : decode cX7_takes 52 = .ok (.iload_n 1, 1) := by decide +kernel
theorem dX7_takes_53 : decode cX7_takes 53 = .ok (.aload_n 0, 1) := by decide +kernel
theorem dX7_takes_54 : decode cX7_takes 54 = .ok (.getfield 67, 3) := by decide +kernel
theorem dX7_takes_57 : decode cX7_takes 57 = .ok (.bipush 9, 2) := by decide +kernel
theorem dX7_takes_59 : decode cX7_takes 59 = .ok (.iload_n 1, 1) := by decide +kernel
theorem dX7_takes_60 : decode cX7_takes 60 = .ok (.iadd, 1) := by decide +kernel
theorem dX7_takes_61 : decode cX7_takes 61 = .ok (.iaload, 1) := by decide +kernel
theorem dX7_takes_62 : decode cX7_takes 62 = .ok (.iastore, 1) := by decide +kernel
theorem dX7_takes_63 : decode cX7_takes 63 = .ok (.iinc 1 1, 3) := by decide +kernel
theorem dX7_takes_66 : decode cX7_takes 66 = .ok (.goto (-64), 3) := by decide +kernel
theorem dX7_takes_69 : decode cX7_takes 69 = .ok (.aload_n 0, 1) := by decide +kernel
theorem dX7_takes_70 : decode cX7_takes 70 = .ok (.aload_n 0, 1) := by decide +kernel
theorem dX7_takes_71 : decode cX7_takes 71 = .ok (.getfield 67, 3) := by decide +kernel
theorem dX7_takes_74 : decode cX7_takes 74 = .ok (.bipush 12, 2) := by decide +kernel
theorem dX7_takes_76 : decode cX7_takes 76 = .ok (.iaload, 1) := by decide +kernel
theorem dX7_takes_77 : decode cX7_takes 77 = .ok (.putfield 76, 3) := by decide +kernel
theorem dX7_takes_80 : decode cX7_takes 80 = .ok (.aload_n 0, 1) := by decide +kernel
theorem dX7_takes_81 : decode cX7_takes 81 = .ok (.aload_n 0, 1) := by decide +kernel
theorem dX7_takes_82 : decode cX7_takes 82 = .ok (.getfield 67, 3) := by decide +kernel
theorem dX7_takes_85 : decode cX7_takes 85 = .ok (.bipush 13, 2) := by decide +kernel
theorem dX7_takes_87 : decode cX7_takes 87 = .ok (.iaload, 1) := by decide +kernel
theorem dX7_takes_88 : decode cX7_takes 88 = .ok (.putfield 80, 3) := by decide +kernel
theorem dX7_takes_91 : decode cX7_takes 91 = .ok (.iconst 0, 1) := by decide +kernel
theorem dX7_takes_92 : decode cX7_takes 92 = .ok (.istore_n 1, 1) := by decide +kernel
theorem dX7_takes_93 : decode cX7_takes 93 = .ok (.iload_n 1, 1) := by decide +kernel
theorem dX7_takes_94 : decode cX7_takes 94 = .ok (.bipush 12, 2) := by decide +kernel
theorem dX7_takes_96 : decode cX7_takes 96 = .ok (.if_icmp .ge 54, 3) := by decide +kernel
theorem dX7_takes_99 : decode cX7_takes 99 = .ok (.aload_n 0, 1) := by decide +kernel
theorem dX7_takes_100 : decode cX7_takes 100 = .ok (.getfield 28, 3) := by decide +kernel
theorem dX7_takes_103 : decode cX7_takes 103 = .ok (.iload_n 1, 1) := by decide +kernel
theorem dX7_takes_104 : decode cX7_takes 104 = .ok (.aload_n 0, 1) := by decide +kernel
theorem dX7_takes_105 : decode cX7_takes 105 = .ok (.getfield 67, 3) := by decide +kernel
theorem dX7_takes_108 : decode cX7_takes 108 = .ok (.bipush 14, 2) := by decide +kernel
theorem dX7_takes_110 : decode cX7_takes 110 = .ok (.iload_n 1, 1) := by decide +kernel
theorem dX7_takes_111 : decode cX7_takes 111 = .ok (.iadd, 1) := by decide +kernel
theorem dX7_takes_112 : decode cX7_takes 112 = .ok (.iaload, 1) := by decide +kernel
theorem dX7_takes_113 : decode cX7_takes 113 = .ok (.iastore, 1) := by decide +kernel
theorem dX7_takes_114 : decode cX7_takes 114 = .ok (.aload_n 0, 1) := by decide +kernel
theorem dX7_takes_115 : decode cX7_takes 115 = .ok (.getfield 31, 3) := by decide +kernel
theorem dX7_takes_118 : decode cX7_takes 118 = .ok (.iload_n 1, 1) := by decide +kernel
theorem dX7_takes_119 : decode cX7_takes 119 = .ok (.aload_n 0, 1) := by decide +kernel
theorem dX7_takes_120 : decode cX7_takes 120 = .ok (.getfield 67, 3) := by decide +kernel
theorem dX7_takes_123 : decode cX7_takes 123 = .ok (.bipush 26, 2) := by decide +kernel
theorem dX7_takes_125 : decode cX7_takes 125 = .ok (.iload_n 1, 1) := by decide +kernel
theorem dX7_takes_126 : decode cX7_takes 126 = .ok (.iadd, 1) := by decide +kernel
theorem dX7_takes_127 : decode cX7_takes 127 = .ok (.iaload, 1) := by decide +kernel
theorem dX7_takes_128 : decode cX7_takes 128 = .ok (.iastore, 1) := by decide +kernel
theorem dX7_takes_129 : decode cX7_takes 129 = .ok (.aload_n 0, 1) := by decide +kernel
theorem dX7_takes_130 : decode cX7_takes 130 = .ok (.getfield 34, 3) := by decide +kernel
theorem dX7_takes_133 : decode cX7_takes 133 = .ok (.iload_n 1, 1) := by decide +kernel
theorem dX7_takes_134 : decode cX7_takes 134 = .ok (.aload_n 0, 1) := by decide +kernel
theorem dX7_takes_135 : decode cX7_takes 135 = .ok (.getfield 67, 3) := by decide +kernel
theorem dX7_takes_138 : decode cX7_takes 138 = .ok (.bipush 38, 2) := by decide +kernel
theorem dX7_takes_140 : decode cX7_takes 140 = .ok (.iload_n 1, 1) := by decide +kernel
theorem dX7_takes_141 : decode cX7_takes 141 = .ok (.iadd, 1) := by decide +kernel
theorem dX7_takes_142 : decode cX7_takes 142 = .ok (.iaload, 1) := by decide +kernel
theorem dX7_takes_143 : decode cX7_takes 143 = .ok (.iastore, 1) := by decide +kernel
theorem dX7_takes_144 : decode cX7_takes 144 = .ok (.iinc 1 1, 3) := by decide +kernel
theorem dX7_takes_147 : decode cX7_takes 147 = .ok (.goto (-54), 3) := by decide +kernel
theorem dX7_takes_150 : decode cX7_takes 150 = .ok (.return_, 1) := by decide +kernel
theorem dX7_isNear_0 : decode cX7_isNear 0 = .ok (.aload_n 0, 1) := by decide +kernel
theorem dX7_isNear_1 : decode cX7_isNear 1 = .ok (.getfield 80, 3) := by decide +kernel
theorem dX7_isNear_4 : decode cX7_isNear 4 = .ok (.ifCond .ne 7, 3) := by decide +kernel
theorem dX7_isNear_7 : decode cX7_isNear 7 = .ok (.iconst 1, 1) := by decide +kernel
theorem dX7_isNear_8 : decode cX7_isNear 8 = .ok (.goto 4, 3) := by decide +kernel
theorem dX7_isNear_11 : decode cX7_isNear 11 = .ok (.iconst 0, 1) := by decide +kernel
theorem dX7_isNear_12 : decode cX7_isNear 12 = .ok (.istore_n 2, 1) := by decide +kernel
theorem dX7_isNear_13 : decode cX7_isNear 13 = .ok (.iconst 0, 1) := by decide +kernel
theorem dX7_isNear_14 : decode cX7_isNear 14 = .ok (.istore_n 3, 1) := by decide +kernel
theorem dX7_isNear_15 : decode cX7_isNear 15 = .ok (.iload_n 3, 1) := by decide +kernel
theorem dX7_isNear_16 : decode cX7_isNear 16 = .ok (.iconst 3, 1) := by decide +kernel
theorem dX7_isNear_17 : decode cX7_isNear 17 = .ok (.if_icmp .ge 39, 3) := by decide +kernel
theorem dX7_isNear_20 : decode cX7_isNear 20 = .ok (.iload_n 2, 1) := by decide +kernel
theorem dX7_isNear_21 : decode cX7_isNear 21 = .ok (.ifCond .eq 27, 3) := by decide +kernel
theorem dX7_isNear_24 : decode cX7_isNear 24 = .ok (.aload_n 0, 1) := by decide +kernel
theorem dX7_isNear_25 : decode cX7_isNear 25 = .ok (.getfield 16, 3) := by decide +kernel
theorem dX7_isNear_28 : decode cX7_isNear 28 = .ok (.iload_n 3, 1) := by decide +kernel
theorem dX7_isNear_29 : decode cX7_isNear 29 = .ok (.iaload, 1) := by decide +kernel
theorem dX7_isNear_30 : decode cX7_isNear 30 = .ok (.aload_n 0, 1) := by decide +kernel
theorem dX7_isNear_31 : decode cX7_isNear 31 = .ok (.getfield 22, 3) := by decide +kernel
theorem dX7_isNear_34 : decode cX7_isNear 34 = .ok (.iload_n 3, 1) := by decide +kernel
theorem dX7_isNear_35 : decode cX7_isNear 35 = .ok (.iaload, 1) := by decide +kernel
theorem dX7_isNear_36 : decode cX7_isNear 36 = .ok (.isub, 1) := by decide +kernel
theorem dX7_isNear_37 : decode cX7_isNear 37 = .ok (.invokestatic 213, 3) := by decide +kernel
theorem dX7_isNear_40 : decode cX7_isNear 40 = .ok (.iload_n 1, 1) := by decide +kernel
theorem dX7_isNear_41 : decode cX7_isNear 41 = .ok (.if_icmp .gt 7, 3) := by decide +kernel
theorem dX7_isNear_44 : decode cX7_isNear 44 = .ok (.iconst 1, 1) := by decide +kernel
theorem dX7_isNear_45 : decode cX7_isNear 45 = .ok (.goto 4, 3) := by decide +kernel
theorem dX7_isNear_48 : decode cX7_isNear 48 = .ok (.iconst 0, 1) := by decide +kernel
theorem dX7_isNear_49 : decode cX7_isNear 49 = .ok (.istore_n 2, 1) := by decide +kernel
theorem dX7_isNear_50 : decode cX7_isNear 50 = .ok (.iinc 3 1, 3) := by decide +kernel
theorem dX7_isNear_53 : decode cX7_isNear 53 = .ok (.goto (-38), 3) := by decide +kernel
theorem dX7_isNear_56 : decode cX7_isNear 56 = .ok (.iload_n 2, 1) := by decide +kernel
theorem dX7_isNear_57 : decode cX7_isNear 57 = .ok (.ireturn, 1) := by decide +kernel
theorem dX7_settlesIn_0 : decode cX7_settlesIn 0 = .ok (.aload_n 0, 1) := by decide +kernel
theorem dX7_settlesIn_1 : decode cX7_settlesIn 1 = .ok (.invokevirtual 247, 3) := by decide +kernel
theorem dX7_settlesIn_4 : decode cX7_settlesIn 4 = .ok (.iconst 0, 1) := by decide +kernel
theorem dX7_settlesIn_5 : decode cX7_settlesIn 5 = .ok (.istore_n 2, 1) := by decide +kernel
theorem dX7_settlesIn_6 : decode cX7_settlesIn 6 = .ok (.iload_n 2, 1) := by decide +kernel
theorem dX7_settlesIn_7 : decode cX7_settlesIn 7 = .ok (.bipush 60, 2) := by decide +kernel
theorem dX7_settlesIn_9 : decode cX7_settlesIn 9 = .ok (.if_icmp .gt 22, 3) := by decide +kernel
theorem dX7_settlesIn_12 : decode cX7_settlesIn 12 = .ok (.aload_n 0, 1) := by decide +kernel
theorem dX7_settlesIn_13 : decode cX7_settlesIn 13 = .ok (.iload_n 1, 1) := by decide +kernel
theorem dX7_settlesIn_14 : decode cX7_settlesIn 14 = .ok (.invokevirtual 250, 3) := by decide +kernel
theorem dX7_settlesIn_17 : decode cX7_settlesIn 17 = .ok (.ifCond .ne 14, 3) := by decide +kernel
theorem dX7_settlesIn_20 : decode cX7_settlesIn 20 = .ok (.aload_n 0, 1) := by decide +kernel
theorem dX7_settlesIn_21 : decode cX7_settlesIn 21 = .ok (.invokevirtual 239, 3) := by decide +kernel
theorem dX7_settlesIn_24 : decode cX7_settlesIn 24 = .ok (.pop, 1) := by decide +kernel
theorem dX7_settlesIn_25 : decode cX7_settlesIn 25 = .ok (.iinc 2 1, 3) := by decide +kernel
theorem dX7_settlesIn_28 : decode cX7_settlesIn 28 = .ok (.goto (-22), 3) := by decide +kernel
theorem dX7_settlesIn_31 : decode cX7_settlesIn 31 = .ok (.aload_n 0, 1) := by decide +kernel
theorem dX7_settlesIn_32 : decode cX7_settlesIn 32 = .ok (.invokevirtual 253, 3) := by decide +kernel
theorem dX7_settlesIn_35 : decode cX7_settlesIn 35 = .ok (.iload_n 2, 1) := by decide +kernel
theorem dX7_settlesIn_36 : decode cX7_settlesIn 36 = .ok (.bipush 60, 2) := by decide +kernel
theorem dX7_settlesIn_38 : decode cX7_settlesIn 38 = .ok (.if_icmp .gt 7, 3) := by decide +kernel
theorem dX7_settlesIn_41 : decode cX7_settlesIn 41 = .ok (.iload_n 2, 1) := by decide +kernel
theorem dX7_settlesIn_42 : decode cX7_settlesIn 42 = .ok (.goto 4, 3) := by decide +kernel
theorem dX7_settlesIn_45 : decode cX7_settlesIn 45 = .ok (.iconst (-1), 1) := by decide +kernel
theorem dX7_settlesIn_46 : decode cX7_settlesIn 46 = .ok (.ireturn, 1) := by decide +kernel
theorem dX7_settles_0 : decode cX7_settles 0 = .ok (.iload_n 1, 1) := by decide +kernel
theorem dX7_settles_1 : decode cX7_settles 1 = .ok (.iconst 0, 1) := by decide +kernel
theorem dX7_settles_2 : decode cX7_settles 2 = .ok (.sipush 500, 3) := by decide +kernel
theorem dX7_settles_5 : decode cX7_settles 5 = .ok (.invokestatic 86, 3) := by decide +kernel
theorem dX7_settles_8 : decode cX7_settles 8 = .ok (.ifCond .eq 11, 3) := by decide +kernel
theorem dX7_settles_11 : decode cX7_settles 11 = .ok (.aload_n 0, 1) := by decide +kernel
theorem dX7_settles_12 : decode cX7_settles 12 = .ok (.iload_n 1, 1) := by decide +kernel
theorem dX7_settles_13 : decode cX7_settles 13 = .ok (.invokevirtual 256, 3) := by decide +kernel
theorem dX7_settles_16 : decode cX7_settles 16 = .ok (.goto 7, 3) := by decide +kernel
theorem dX7_settles_19 : decode cX7_settles 19 = .ok (.aload_n 0, 1) := by decide +kernel
theorem dX7_settles_20 : decode cX7_settles 20 = .ok (.invokevirtual 94, 3) := by decide +kernel
theorem dX7_settles_23 : decode cX7_settles 23 = .ok (.ireturn, 1) := by decide +kernel
theorem dX7_tunes_0 : decode cX7_tunes 0 = .ok (.iload_n 1, 1) := by decide +kernel
theorem dX7_tunes_1 : decode cX7_tunes 1 = .ok (.iconst 0, 1) := by decide +kernel
theorem dX7_tunes_2 : decode cX7_tunes 2 = .ok (.sipush 500, 3) := by decide +kernel
theorem dX7_tunes_5 : decode cX7_tunes 5 = .ok (.invokestatic 86, 3) := by decide +kernel
theorem dX7_tunes_8 : decode cX7_tunes 8 = .ok (.ifCond .ne 8, 3) := by decide +kernel
theorem dX7_tunes_11 : decode cX7_tunes 11 = .ok (.aload_n 0, 1) := by decide +kernel
theorem dX7_tunes_12 : decode cX7_tunes 12 = .ok (.invokevirtual 94, 3) := by decide +kernel
theorem dX7_tunes_15 : decode cX7_tunes 15 = .ok (.ireturn, 1) := by decide +kernel
theorem dX7_tunes_16 : decode cX7_tunes 16 = .ok (.aload_n 0, 1) := by decide +kernel
theorem dX7_tunes_17 : decode cX7_tunes 17 = .ok (.getfield 13, 3) := by decide +kernel
theorem dX7_tunes_20 : decode cX7_tunes 20 = .ok (.iconst 4, 1) := by decide +kernel
theorem dX7_tunes_21 : decode cX7_tunes 21 = .ok (.iaload, 1) := by decide +kernel
theorem dX7_tunes_22 : decode cX7_tunes 22 = .ok (.istore_n 2, 1) := by decide +kernel
theorem dX7_tunes_23 : decode cX7_tunes 23 = .ok (.iconst (-1), 1) := by decide +kernel
theorem dX7_tunes_24 : decode cX7_tunes 24 = .ok (.istore_n 3, 1) := by decide +kernel
theorem dX7_tunes_25 : decode cX7_tunes 25 = .ok (.ldc 216, 2) := by decide +kernel
theorem dX7_tunes_27 : decode cX7_tunes 27 = .ok (.istore 4, 2) := by decide +kernel
theorem dX7_tunes_29 : decode cX7_tunes 29 = .ok (.iconst 0, 1) := by decide +kernel
theorem dX7_tunes_30 : decode cX7_tunes 30 = .ok (.istore 5, 2) := by decide +kernel
theorem dX7_tunes_32 : decode cX7_tunes 32 = .ok (.iload 5, 2) := by decide +kernel
theorem dX7_tunes_34 : decode cX7_tunes 34 = .ok (.bipush 20, 2) := by decide +kernel
theorem dX7_tunes_36 : decode cX7_tunes 36 = .ok (.if_icmp .gt 44, 3) := by decide +kernel
theorem dX7_tunes_39 : decode cX7_tunes 39 = .ok (.aload_n 0, 1) := by decide +kernel
theorem dX7_tunes_40 : decode cX7_tunes 40 = .ok (.getfield 13, 3) := by decide +kernel
theorem dX7_tunes_43 : decode cX7_tunes 43 = .ok (.iconst 4, 1) := by decide +kernel
theorem dX7_tunes_44 : decode cX7_tunes 44 = .ok (.iload 5, 2) := by decide +kernel
theorem dX7_tunes_46 : decode cX7_tunes 46 = .ok (.iastore, 1) := by decide +kernel
theorem dX7_tunes_47 : decode cX7_tunes 47 = .ok (.aload_n 0, 1) := by decide +kernel
theorem dX7_tunes_48 : decode cX7_tunes 48 = .ok (.iload_n 1, 1) := by decide +kernel
theorem dX7_tunes_49 : decode cX7_tunes 49 = .ok (.invokevirtual 256, 3) := by decide +kernel
theorem dX7_tunes_52 : decode cX7_tunes 52 = .ok (.istore 6, 2) := by decide +kernel
theorem dX7_tunes_54 : decode cX7_tunes 54 = .ok (.iload 6, 2) := by decide +kernel
theorem dX7_tunes_56 : decode cX7_tunes 56 = .ok (.iconst (-1), 1) := by decide +kernel
theorem dX7_tunes_57 : decode cX7_tunes 57 = .ok (.if_icmp .eq 17, 3) := by decide +kernel
theorem dX7_tunes_60 : decode cX7_tunes 60 = .ok (.iload 6, 2) := by decide +kernel
theorem dX7_tunes_62 : decode cX7_tunes 62 = .ok (.iload 4, 2) := by decide +kernel
theorem dX7_tunes_64 : decode cX7_tunes 64 = .ok (.if_icmp .ge 10, 3) := by decide +kernel
theorem dX7_tunes_67 : decode cX7_tunes 67 = .ok (.iload 6, 2) := by decide +kernel
theorem dX7_tunes_69 : decode cX7_tunes 69 = .ok (.istore 4, 2) := by decide +kernel
theorem dX7_tunes_71 : decode cX7_tunes 71 = .ok (.iload 5, 2) := by decide +kernel
theorem dX7_tunes_73 : decode cX7_tunes 73 = .ok (.istore_n 3, 1) := by decide +kernel
theorem dX7_tunes_74 : decode cX7_tunes 74 = .ok (.iinc 5 1, 3) := by decide +kernel
theorem dX7_tunes_77 : decode cX7_tunes 77 = .ok (.goto (-45), 3) := by decide +kernel
theorem dX7_tunes_80 : decode cX7_tunes 80 = .ok (.aload_n 0, 1) := by decide +kernel
theorem dX7_tunes_81 : decode cX7_tunes 81 = .ok (.getfield 13, 3) := by decide +kernel
theorem dX7_tunes_84 : decode cX7_tunes 84 = .ok (.iconst 4, 1) := by decide +kernel
theorem dX7_tunes_85 : decode cX7_tunes 85 = .ok (.iload_n 2, 1) := by decide +kernel
theorem dX7_tunes_86 : decode cX7_tunes 86 = .ok (.iastore, 1) := by decide +kernel
theorem dX7_tunes_87 : decode cX7_tunes 87 = .ok (.iload_n 3, 1) := by decide +kernel
theorem dX7_tunes_88 : decode cX7_tunes 88 = .ok (.ireturn, 1) := by decide +kernel
theorem dX7_stateBy_0 : decode cX7_stateBy 0 = .ok (.iload_n 2, 1) := by decide +kernel
theorem dX7_stateBy_1 : decode cX7_stateBy 1 = .ok (.ifCond .ne 12, 3) := by decide +kernel
theorem dX7_stateBy_4 : decode cX7_stateBy 4 = .ok (.aload_n 0, 1) := by decide +kernel
theorem dX7_stateBy_5 : decode cX7_stateBy 5 = .ok (.getfield 16, 3) := by decide +kernel
theorem dX7_stateBy_8 : decode cX7_stateBy 8 = .ok (.iload_n 1, 1) := by decide +kernel
theorem dX7_stateBy_9 : decode cX7_stateBy 9 = .ok (.iaload, 1) := by decide +kernel
theorem dX7_stateBy_10 : decode cX7_stateBy 10 = .ok (.goto 37, 3) := by decide +kernel
theorem dX7_stateBy_13 : decode cX7_stateBy 13 = .ok (.iload_n 2, 1) := by decide +kernel
theorem dX7_stateBy_14 : decode cX7_stateBy 14 = .ok (.iconst 1, 1) := by decide +kernel
theorem dX7_stateBy_15 : decode cX7_stateBy 15 = .ok (.if_icmp .ne 12, 3) := by decide +kernel
theorem dX7_stateBy_18 : decode cX7_stateBy 18 = .ok (.aload_n 0, 1) := by decide +kernel
theorem dX7_stateBy_19 : decode cX7_stateBy 19 = .ok (.getfield 19, 3) := by decide +kernel
theorem dX7_stateBy_22 : decode cX7_stateBy 22 = .ok (.iload_n 1, 1) := by decide +kernel
theorem dX7_stateBy_23 : decode cX7_stateBy 23 = .ok (.iaload, 1) := by decide +kernel
theorem dX7_stateBy_24 : decode cX7_stateBy 24 = .ok (.goto 23, 3) := by decide +kernel
theorem dX7_stateBy_27 : decode cX7_stateBy 27 = .ok (.iload_n 2, 1) := by decide +kernel
theorem dX7_stateBy_28 : decode cX7_stateBy 28 = .ok (.iconst 2, 1) := by decide +kernel
theorem dX7_stateBy_29 : decode cX7_stateBy 29 = .ok (.if_icmp .ne 12, 3) := by decide +kernel
theorem dX7_stateBy_32 : decode cX7_stateBy 32 = .ok (.aload_n 0, 1) := by decide +kernel
theorem dX7_stateBy_33 : decode cX7_stateBy 33 = .ok (.getfield 22, 3) := by decide +kernel
theorem dX7_stateBy_36 : decode cX7_stateBy 36 = .ok (.iload_n 1, 1) := by decide +kernel
theorem dX7_stateBy_37 : decode cX7_stateBy 37 = .ok (.iaload, 1) := by decide +kernel
theorem dX7_stateBy_38 : decode cX7_stateBy 38 = .ok (.goto 9, 3) := by decide +kernel
theorem dX7_stateBy_41 : decode cX7_stateBy 41 = .ok (.aload_n 0, 1) := by decide +kernel
theorem dX7_stateBy_42 : decode cX7_stateBy 42 = .ok (.getfield 25, 3) := by decide +kernel
theorem dX7_stateBy_45 : decode cX7_stateBy 45 = .ok (.iload_n 1, 1) := by decide +kernel
theorem dX7_stateBy_46 : decode cX7_stateBy 46 = .ok (.iaload, 1) := by decide +kernel
theorem dX7_stateBy_47 : decode cX7_stateBy 47 = .ok (.ireturn, 1) := by decide +kernel
theorem dX7_state_0 : decode cX7_state 0 = .ok (.iload_n 1, 1) := by decide +kernel
theorem dX7_state_1 : decode cX7_state 1 = .ok (.invokestatic 98, 3) := by decide +kernel
theorem dX7_state_4 : decode cX7_state 4 = .ok (.ifCond .eq 21, 3) := by decide +kernel
theorem dX7_state_7 : decode cX7_state 7 = .ok (.iload_n 2, 1) := by decide +kernel
theorem dX7_state_8 : decode cX7_state 8 = .ok (.iconst 0, 1) := by decide +kernel
theorem dX7_state_9 : decode cX7_state 9 = .ok (.iconst 3, 1) := by decide +kernel
theorem dX7_state_10 : decode cX7_state 10 = .ok (.invokestatic 86, 3) := by decide +kernel
theorem dX7_state_13 : decode cX7_state 13 = .ok (.ifCond .eq 12, 3) := by decide +kernel
theorem dX7_state_16 : decode cX7_state 16 = .ok (.aload_n 0, 1) := by decide +kernel
theorem dX7_state_17 : decode cX7_state 17 = .ok (.iload_n 1, 1) := by decide +kernel
theorem dX7_state_18 : decode cX7_state 18 = .ok (.iload_n 2, 1) := by decide +kernel
theorem dX7_state_19 : decode cX7_state 19 = .ok (.invokevirtual 259, 3) := by decide +kernel
theorem dX7_state_22 : decode cX7_state 22 = .ok (.goto 7, 3) := by decide +kernel
theorem dX7_state_25 : decode cX7_state 25 = .ok (.aload_n 0, 1) := by decide +kernel
theorem dX7_state_26 : decode cX7_state 26 = .ok (.invokevirtual 94, 3) := by decide +kernel
theorem dX7_state_29 : decode cX7_state 29 = .ok (.ireturn, 1) := by decide +kernel
theorem dX7_memory_0 : decode cX7_memory 0 = .ok (.iload_n 1, 1) := by decide +kernel
theorem dX7_memory_1 : decode cX7_memory 1 = .ok (.ifCond .lt 12, 3) := by decide +kernel
theorem dX7_memory_4 : decode cX7_memory 4 = .ok (.iload_n 2, 1) := by decide +kernel
theorem dX7_memory_5 : decode cX7_memory 5 = .ok (.iconst 0, 1) := by decide +kernel
theorem dX7_memory_6 : decode cX7_memory 6 = .ok (.iconst 3, 1) := by decide +kernel
theorem dX7_memory_7 : decode cX7_memory 7 = .ok (.invokestatic 86, 3) := by decide +kernel
theorem dX7_memory_10 : decode cX7_memory 10 = .ok (.ifCond .ne 8, 3) := by decide +kernel
theorem dX7_memory_13 : decode cX7_memory 13 = .ok (.aload_n 0, 1) := by decide +kernel
theorem dX7_memory_14 : decode cX7_memory 14 = .ok (.invokevirtual 94, 3) := by decide +kernel
theorem dX7_memory_17 : decode cX7_memory 17 = .ok (.ireturn, 1) := by decide +kernel
theorem dX7_memory_18 : decode cX7_memory 18 = .ok (.iload_n 1, 1) := by decide +kernel
theorem dX7_memory_19 : decode cX7_memory 19 = .ok (.aload_n 0, 1) := by decide +kernel
theorem dX7_memory_20 : decode cX7_memory 20 = .ok (.getfield 83, 3) := by decide +kernel
theorem dX7_memory_23 : decode cX7_memory 23 = .ok (.if_icmp .ge 16, 3) := by decide +kernel
theorem dX7_memory_26 : decode cX7_memory 26 = .ok (.aload_n 0, 1) := by decide +kernel
theorem dX7_memory_27 : decode cX7_memory 27 = .ok (.getfield 37, 3) := by decide +kernel
theorem dX7_memory_30 : decode cX7_memory 30 = .ok (.iconst 4, 1) := by decide +kernel
theorem dX7_memory_31 : decode cX7_memory 31 = .ok (.iload_n 1, 1) := by decide +kernel
theorem dX7_memory_32 : decode cX7_memory 32 = .ok (.imul, 1) := by decide +kernel
theorem dX7_memory_33 : decode cX7_memory 33 = .ok (.iload_n 2, 1) := by decide +kernel
theorem dX7_memory_34 : decode cX7_memory 34 = .ok (.iadd, 1) := by decide +kernel
theorem dX7_memory_35 : decode cX7_memory 35 = .ok (.iaload, 1) := by decide +kernel
theorem dX7_memory_36 : decode cX7_memory 36 = .ok (.goto 6, 3) := by decide +kernel
theorem dX7_memory_39 : decode cX7_memory 39 = .ok (.sipush (-1000), 3) := by decide +kernel
theorem dX7_memory_42 : decode cX7_memory 42 = .ok (.ireturn, 1) := by decide +kernel
theorem dX7_over_0 : decode cX7_over 0 = .ok (.iload_n 1, 1) := by decide +kernel
theorem dX7_over_1 : decode cX7_over 1 = .ok (.invokestatic 98, 3) := by decide +kernel
theorem dX7_over_4 : decode cX7_over 4 = .ok (.ifCond .eq 12, 3) := by decide +kernel
theorem dX7_over_7 : decode cX7_over 7 = .ok (.iload_n 2, 1) := by decide +kernel
theorem dX7_over_8 : decode cX7_over 8 = .ok (.iconst 0, 1) := by decide +kernel
theorem dX7_over_9 : decode cX7_over 9 = .ok (.iconst 2, 1) := by decide +kernel
theorem dX7_over_10 : decode cX7_over 10 = .ok (.invokestatic 86, 3) := by decide +kernel
theorem dX7_over_13 : decode cX7_over 13 = .ok (.ifCond .ne 8, 3) := by decide +kernel
theorem dX7_over_16 : decode cX7_over 16 = .ok (.aload_n 0, 1) := by decide +kernel
theorem dX7_over_17 : decode cX7_over 17 = .ok (.invokevirtual 94, 3) := by decide +kernel
theorem dX7_over_20 : decode cX7_over 20 = .ok (.ireturn, 1) := by decide +kernel
theorem dX7_over_21 : decode cX7_over 21 = .ok (.aload_n 0, 1) := by decide +kernel
theorem dX7_over_22 : decode cX7_over 22 = .ok (.getfield 83, 3) := by decide +kernel
theorem dX7_over_25 : decode cX7_over 25 = .ok (.ifCond .ne 7, 3) := by decide +kernel
theorem dX7_over_28 : decode cX7_over 28 = .ok (.sipush (-1000), 3) := by decide +kernel
theorem dX7_over_31 : decode cX7_over 31 = .ok (.ireturn, 1) := by decide +kernel
theorem dX7_over_32 : decode cX7_over 32 = .ok (.iload_n 2, 1) := by decide +kernel
theorem dX7_over_33 : decode cX7_over 33 = .ok (.iconst 2, 1) := by decide +kernel
theorem dX7_over_34 : decode cX7_over 34 = .ok (.if_icmp .ne 7, 3) := by decide +kernel
theorem dX7_over_37 : decode cX7_over 37 = .ok (.iconst 0, 1) := by decide +kernel
theorem dX7_over_38 : decode cX7_over 38 = .ok (.goto 9, 3) := by decide +kernel
theorem dX7_over_41 : decode cX7_over 41 = .ok (.aload_n 0, 1) := by decide +kernel
theorem dX7_over_42 : decode cX7_over 42 = .ok (.getfield 37, 3) := by decide +kernel
theorem dX7_over_45 : decode cX7_over 45 = .ok (.iload_n 1, 1) := by decide +kernel
theorem dX7_over_46 : decode cX7_over 46 = .ok (.iaload, 1) := by decide +kernel
theorem dX7_over_47 : decode cX7_over 47 = .ok (.istore_n 3, 1) := by decide +kernel
theorem dX7_over_48 : decode cX7_over 48 = .ok (.iconst 0, 1) := by decide +kernel
theorem dX7_over_49 : decode cX7_over 49 = .ok (.istore 4, 2) := by decide +kernel
theorem dX7_over_51 : decode cX7_over 51 = .ok (.iload 4, 2) := by decide +kernel
theorem dX7_over_53 : decode cX7_over 53 = .ok (.aload_n 0, 1) := by decide +kernel
theorem dX7_over_54 : decode cX7_over 54 = .ok (.getfield 83, 3) := by decide +kernel
theorem dX7_over_57 : decode cX7_over 57 = .ok (.if_icmp .ge 75, 3) := by decide +kernel
theorem dX7_over_60 : decode cX7_over 60 = .ok (.aload_n 0, 1) := by decide +kernel
theorem dX7_over_61 : decode cX7_over 61 = .ok (.getfield 37, 3) := by decide +kernel
theorem dX7_over_64 : decode cX7_over 64 = .ok (.iconst 4, 1) := by decide +kernel
theorem dX7_over_65 : decode cX7_over 65 = .ok (.iload 4, 2) := by decide +kernel
theorem dX7_over_67 : decode cX7_over 67 = .ok (.imul, 1) := by decide +kernel
theorem dX7_over_68 : decode cX7_over 68 = .ok (.iload_n 1, 1) := by decide +kernel
theorem dX7_over_69 : decode cX7_over 69 = .ok (.iadd, 1) := by decide +kernel
theorem dX7_over_70 : decode cX7_over 70 = .ok (.iaload, 1) := by decide +kernel
theorem dX7_over_71 : decode cX7_over 71 = .ok (.istore 5, 2) := by decide +kernel
theorem dX7_over_73 : decode cX7_over 73 = .ok (.iload_n 2, 1) := by decide +kernel
theorem dX7_over_74 : decode cX7_over 74 = .ok (.ifCond .ne 18, 3) := by decide +kernel
theorem dX7_over_77 : decode cX7_over 77 = .ok (.iload 5, 2) := by decide +kernel
theorem dX7_over_79 : decode cX7_over 79 = .ok (.iload_n 3, 1) := by decide +kernel
theorem dX7_over_80 : decode cX7_over 80 = .ok (.if_icmp .le 8, 3) := by decide +kernel
theorem dX7_over_83 : decode cX7_over 83 = .ok (.iload 5, 2) := by decide +kernel
theorem dX7_over_85 : decode cX7_over 85 = .ok (.goto 40, 3) := by decide +kernel
theorem dX7_over_88 : decode cX7_over 88 = .ok (.iload_n 3, 1) := by decide +kernel
theorem dX7_over_89 : decode cX7_over 89 = .ok (.goto 36, 3) := by decide +kernel
theorem dX7_over_92 : decode cX7_over 92 = .ok (.iload_n 2, 1) := by decide +kernel
theorem dX7_over_93 : decode cX7_over 93 = .ok (.iconst 1, 1) := by decide +kernel
theorem dX7_over_94 : decode cX7_over 94 = .ok (.if_icmp .ne 18, 3) := by decide +kernel
theorem dX7_over_97 : decode cX7_over 97 = .ok (.iload 5, 2) := by decide +kernel
theorem dX7_over_99 : decode cX7_over 99 = .ok (.iload_n 3, 1) := by decide +kernel
theorem dX7_over_100 : decode cX7_over 100 = .ok (.if_icmp .ge 8, 3) := by decide +kernel
theorem dX7_over_103 : decode cX7_over 103 = .ok (.iload 5, 2) := by decide +kernel
theorem dX7_over_105 : decode cX7_over 105 = .ok (.goto 20, 3) := by decide +kernel
theorem dX7_over_108 : decode cX7_over 108 = .ok (.iload_n 3, 1) := by decide +kernel
theorem dX7_over_109 : decode cX7_over 109 = .ok (.goto 16, 3) := by decide +kernel
theorem dX7_over_112 : decode cX7_over 112 = .ok (.iload_n 3, 1) := by decide +kernel
theorem dX7_over_113 : decode cX7_over 113 = .ok (.aload_n 0, 1) := by decide +kernel
theorem dX7_over_114 : decode cX7_over 114 = .ok (.getfield 37, 3) := by decide +kernel
theorem dX7_over_117 : decode cX7_over 117 = .ok (.iconst 4, 1) := by decide +kernel
theorem dX7_over_118 : decode cX7_over 118 = .ok (.iload 4, 2) := by decide +kernel
theorem dX7_over_120 : decode cX7_over 120 = .ok (.imul, 1) := by decide +kernel
theorem dX7_over_121 : decode cX7_over 121 = .ok (.iconst 3, 1) := by decide +kernel
theorem dX7_over_122 : decode cX7_over 122 = .ok (.iadd, 1) := by decide +kernel
theorem dX7_over_123 : decode cX7_over 123 = .ok (.iaload, 1) := by decide +kernel
theorem dX7_over_124 : decode cX7_over 124 = .ok (.iadd, 1) := by decide +kernel
theorem dX7_over_125 : decode cX7_over 125 = .ok (.istore_n 3, 1) := by decide +kernel
theorem dX7_over_126 : decode cX7_over 126 = .ok (.iinc 4 1, 3) := by decide +kernel
theorem dX7_over_129 : decode cX7_over 129 = .ok (.goto (-78), 3) := by decide +kernel
theorem dX7_over_132 : decode cX7_over 132 = .ok (.iload_n 3, 1) := by decide +kernel
theorem dX7_over_133 : decode cX7_over 133 = .ok (.ireturn, 1) := by decide +kernel
theorem dX7_type_0 : decode cX7_type 0 = .ok (.iload_n 1, 1) := by decide +kernel
theorem dX7_type_1 : decode cX7_type 1 = .ok (.iconst 0, 1) := by decide +kernel
theorem dX7_type_2 : decode cX7_type 2 = .ok (.bipush 127, 2) := by decide +kernel
theorem dX7_type_4 : decode cX7_type 4 = .ok (.invokestatic 86, 3) := by decide +kernel
theorem dX7_type_7 : decode cX7_type 7 = .ok (.ifCond .ne 8, 3) := by decide +kernel
theorem dX7_type_10 : decode cX7_type 10 = .ok (.aload_n 0, 1) := by decide +kernel
theorem dX7_type_11 : decode cX7_type 11 = .ok (.invokevirtual 94, 3) := by decide +kernel
theorem dX7_type_14 : decode cX7_type 14 = .ok (.ireturn, 1) := by decide +kernel
theorem dX7_type_15 : decode cX7_type 15 = .ok (.aload_n 0, 1) := by decide +kernel
theorem dX7_type_16 : decode cX7_type 16 = .ok (.getfield 262, 3) := by decide +kernel
theorem dX7_type_19 : decode cX7_type 19 = .ok (.bipush 120, 2) := by decide +kernel
theorem dX7_type_21 : decode cX7_type 21 = .ok (.if_icmp .ne 8, 3) := by decide +kernel
theorem dX7_type_24 : decode cX7_type 24 = .ok (.aload_n 0, 1) := by decide +kernel
theorem dX7_type_25 : decode cX7_type 25 = .ok (.invokevirtual 221, 3) := by decide +kernel
theorem dX7_type_28 : decode cX7_type 28 = .ok (.ireturn, 1) := by decide +kernel
theorem dX7_type_29 : decode cX7_type 29 = .ok (.aload_n 0, 1) := by decide +kernel
theorem dX7_type_30 : decode cX7_type 30 = .ok (.getfield 70, 3) := by decide +kernel
theorem dX7_type_33 : decode cX7_type 33 = .ok (.aload_n 0, 1) := by decide +kernel
theorem dX7_type_34 : decode cX7_type 34 = .ok (.getfield 262, 3) := by decide +kernel
theorem dX7_type_37 : decode cX7_type 37 = .ok (.iload_n 1, 1) := by decide +kernel
theorem dX7_type_38 : decode cX7_type 38 = .ok (.iastore, 1) := by decide +kernel
theorem dX7_type_39 : decode cX7_type 39 = .ok (.aload_n 0, 1) := by decide +kernel
theorem dX7_type_40 : decode cX7_type 40 = .ok (.dup, 1) := by decide +kernel
theorem dX7_type_41 : decode cX7_type 41 = .ok (.getfield 262, 3) := by decide +kernel
theorem dX7_type_44 : decode cX7_type 44 = .ok (.iconst 1, 1) := by decide +kernel
theorem dX7_type_45 : decode cX7_type 45 = .ok (.iadd, 1) := by decide +kernel
theorem dX7_type_46 : decode cX7_type 46 = .ok (.putfield 262, 3) := by decide +kernel
theorem dX7_type_49 : decode cX7_type 49 = .ok (.aload_n 0, 1) := by decide +kernel
theorem dX7_type_50 : decode cX7_type 50 = .ok (.getfield 262, 3) := by decide +kernel
theorem dX7_type_53 : decode cX7_type 53 = .ok (.ireturn, 1) := by decide +kernel
theorem dX7_clear_0 : decode cX7_clear 0 = .ok (.aload_n 0, 1) := by decide +kernel
theorem dX7_clear_1 : decode cX7_clear 1 = .ok (.getfield 262, 3) := by decide +kernel
theorem dX7_clear_4 : decode cX7_clear 4 = .ok (.istore_n 1, 1) := by decide +kernel
theorem dX7_clear_5 : decode cX7_clear 5 = .ok (.aload_n 0, 1) := by decide +kernel
theorem dX7_clear_6 : decode cX7_clear 6 = .ok (.iconst 0, 1) := by decide +kernel
theorem dX7_clear_7 : decode cX7_clear 7 = .ok (.putfield 262, 3) := by decide +kernel
theorem dX7_clear_10 : decode cX7_clear 10 = .ok (.iload_n 1, 1) := by decide +kernel
theorem dX7_clear_11 : decode cX7_clear 11 = .ok (.ireturn, 1) := by decide +kernel
theorem dX7_here_0 : decode cX7_here 0 = .ok (.aload_n 0, 1) := by decide +kernel
theorem dX7_here_1 : decode cX7_here 1 = .ok (.getfield 265, 3) := by decide +kernel
theorem dX7_here_4 : decode cX7_here 4 = .ok (.aload_n 0, 1) := by decide +kernel
theorem dX7_here_5 : decode cX7_here 5 = .ok (.getfield 262, 3) := by decide +kernel
theorem dX7_here_8 : decode cX7_here 8 = .ok (.if_icmp .ge 15, 3) := by decide +kernel
theorem dX7_here_11 : decode cX7_here 11 = .ok (.aload_n 0, 1) := by decide +kernel
theorem dX7_here_12 : decode cX7_here 12 = .ok (.getfield 70, 3) := by decide +kernel
theorem dX7_here_15 : decode cX7_here 15 = .ok (.aload_n 0, 1) := by decide +kernel
theorem dX7_here_16 : decode cX7_here 16 = .ok (.getfield 265, 3) := by decide +kernel
theorem dX7_here_19 : decode cX7_here 19 = .ok (.iaload, 1) := by decide +kernel
theorem dX7_here_20 : decode cX7_here 20 = .ok (.goto 4, 3) := by decide +kernel
theorem dX7_here_23 : decode cX7_here 23 = .ok (.iconst (-1), 1) := by decide +kernel
theorem dX7_here_24 : decode cX7_here 24 = .ok (.ireturn, 1) := by decide +kernel
theorem dX7_skips_0 : decode cX7_skips 0 = .ok (.aload_n 0, 1) := by decide +kernel
theorem dX7_skips_1 : decode cX7_skips 1 = .ok (.invokevirtual 268, 3) := by decide +kernel
theorem dX7_skips_4 : decode cX7_skips 4 = .ok (.bipush 32, 2) := by decide +kernel
theorem dX7_skips_6 : decode cX7_skips 6 = .ok (.if_icmp .ne 16, 3) := by decide +kernel
theorem dX7_skips_9 : decode cX7_skips 9 = .ok (.aload_n 0, 1) := by decide +kernel
theorem dX7_skips_10 : decode cX7_skips 10 = .ok (.dup, 1) := by decide +kernel
theorem dX7_skips_11 : decode cX7_skips 11 = .ok (.getfield 265, 3) := by decide +kernel
theorem dX7_skips_14 : decode cX7_skips 14 = .ok (.iconst 1, 1) := by decide +kernel
theorem dX7_skips_15 : decode cX7_skips 15 = .ok (.iadd, 1) := by decide +kernel
theorem dX7_skips_16 : decode cX7_skips 16 = .ok (.putfield 265, 3) := by decide +kernel
theorem dX7_skips_19 : decode cX7_skips 19 = .ok (.goto (-19), 3) := by decide +kernel
theorem dX7_skips_22 : decode cX7_skips 22 = .ok (.aload_n 0, 1) := by decide +kernel
theorem dX7_skips_23 : decode cX7_skips 23 = .ok (.aload_n 0, 1) := by decide +kernel
theorem dX7_skips_24 : decode cX7_skips 24 = .ok (.getfield 265, 3) := by decide +kernel
theorem dX7_skips_27 : decode cX7_skips 27 = .ok (.putfield 271, 3) := by decide +kernel
theorem dX7_skips_30 : decode cX7_skips 30 = .ok (.return_, 1) := by decide +kernel
theorem dX7_number_0 : decode cX7_number 0 = .ok (.aload_n 0, 1) := by decide +kernel
theorem dX7_number_1 : decode cX7_number 1 = .ok (.invokevirtual 274, 3) := by decide +kernel
theorem dX7_number_4 : decode cX7_number 4 = .ok (.iconst 0, 1) := by decide +kernel
theorem dX7_number_5 : decode cX7_number 5 = .ok (.istore_n 2, 1) := by decide +kernel
theorem dX7_number_6 : decode cX7_number 6 = .ok (.iconst 0, 1) := by decide +kernel
theorem dX7_number_7 : decode cX7_number 7 = .ok (.istore_n 3, 1) := by decide +kernel
theorem dX7_number_8 : decode cX7_number 8 = .ok (.aload_n 0, 1) := by decide +kernel
theorem dX7_number_9 : decode cX7_number 9 = .ok (.invokevirtual 268, 3) := by decide +kernel
theorem dX7_number_12 : decode cX7_number 12 = .ok (.bipush 48, 2) := by decide +kernel
end
section
theorem dX7_number_14 : decode cX7_number 14 = .ok (.bipush 57, 2) := by decide +kernel
theorem dX7_number_16 : decode cX7_number 16 = .ok (.invokestatic 86, 3) := by decide +kernel
theorem dX7_number_19 : decode cX7_number 19 = .ok (.ifCond .eq 41, 3) := by decide +kernel
theorem dX7_number_22 : decode cX7_number 22 = .ok (.iload_n 2, 1) := by decide +kernel
theorem dX7_number_23 : decode cX7_number 23 = .ok (.iconst 3, 1) := by decide +kernel
theorem dX7_number_24 : decode cX7_number 24 = .ok (.if_icmp .ge 18, 3) := by decide +kernel
theorem dX7_number_27 : decode cX7_number 27 = .ok (.bipush 10, 2) := by decide +kernel
theorem dX7_number_29 : decode cX7_number 29 = .ok (.iload_n 3, 1) := by decide +kernel
theorem dX7_number_30 : decode cX7_number 30 = .ok (.imul, 1) := by decide +kernel
theorem dX7_number_31 : decode cX7_number 31 = .ok (.aload_n 0, 1) := by decide +kernel
theorem dX7_number_32 : decode cX7_number 32 = .ok (.invokevirtual 268, 3) := by decide +kernel
theorem dX7_number_35 : decode cX7_number 35 = .ok (.iadd, 1) := by decide +kernel
theorem dX7_number_36 : decode cX7_number 36 = .ok (.bipush 48, 2) := by decide +kernel
theorem dX7_number_38 : decode cX7_number 38 = .ok (.isub, 1) := by decide +kernel
theorem dX7_number_39 : decode cX7_number 39 = .ok (.goto 4, 3) := by decide +kernel
theorem dX7_number_42 : decode cX7_number 42 = .ok (.iload_n 3, 1) := by decide +kernel
theorem dX7_number_43 : decode cX7_number 43 = .ok (.istore_n 3, 1) := by decide +kernel
theorem dX7_number_44 : decode cX7_number 44 = .ok (.iinc 2 1, 3) := by decide +kernel
theorem dX7_number_47 : decode cX7_number 47 = .ok (.aload_n 0, 1) := by decide +kernel
theorem dX7_number_48 : decode cX7_number 48 = .ok (.dup, 1) := by decide +kernel
theorem dX7_number_49 : decode cX7_number 49 = .ok (.getfield 265, 3) := by decide +kernel
theorem dX7_number_52 : decode cX7_number 52 = .ok (.iconst 1, 1) := by decide +kernel
theorem dX7_number_53 : decode cX7_number 53 = .ok (.iadd, 1) := by decide +kernel
theorem dX7_number_54 : decode cX7_number 54 = .ok (.putfield 265, 3) := by decide +kernel
theorem dX7_number_57 : decode cX7_number 57 = .ok (.goto (-49), 3) := by decide +kernel
theorem dX7_number_60 : decode cX7_number 60 = .ok (.aload_n 0, 1) := by decide +kernel
theorem dX7_number_61 : decode cX7_number 61 = .ok (.iload_n 3, 1) := by decide +kernel
theorem dX7_number_62 : decode cX7_number 62 = .ok (.putfield 277, 3) := by decide +kernel
theorem dX7_number_65 : decode cX7_number 65 = .ok (.iload_n 2, 1) := by decide +kernel
theorem dX7_number_66 : decode cX7_number 66 = .ok (.iconst 1, 1) := by decide +kernel
theorem dX7_number_67 : decode cX7_number 67 = .ok (.iconst 3, 1) := by decide +kernel
theorem dX7_number_68 : decode cX7_number 68 = .ok (.invokestatic 86, 3) := by decide +kernel
theorem dX7_number_71 : decode cX7_number 71 = .ok (.ifCond .eq 12, 3) := by decide +kernel
theorem dX7_number_74 : decode cX7_number 74 = .ok (.iload_n 3, 1) := by decide +kernel
theorem dX7_number_75 : decode cX7_number 75 = .ok (.iload_n 1, 1) := by decide +kernel
theorem dX7_number_76 : decode cX7_number 76 = .ok (.if_icmp .gt 7, 3) := by decide +kernel
theorem dX7_number_79 : decode cX7_number 79 = .ok (.iconst 1, 1) := by decide +kernel
theorem dX7_number_80 : decode cX7_number 80 = .ok (.goto 4, 3) := by decide +kernel
theorem dX7_number_83 : decode cX7_number 83 = .ok (.iconst 0, 1) := by decide +kernel
theorem dX7_number_84 : decode cX7_number 84 = .ok (.ireturn, 1) := by decide +kernel
theorem dX7_readsWish_0 : decode cX7_readsWish 0 = .ok (.aload_n 0, 1) := by decide +kernel
theorem dX7_readsWish_1 : decode cX7_readsWish 1 = .ok (.invokevirtual 274, 3) := by decide +kernel
theorem dX7_readsWish_4 : decode cX7_readsWish 4 = .ok (.aload_n 0, 1) := by decide +kernel
theorem dX7_readsWish_5 : decode cX7_readsWish 5 = .ok (.invokevirtual 268, 3) := by decide +kernel
theorem dX7_readsWish_8 : decode cX7_readsWish 8 = .ok (.istore_n 2, 1) := by decide +kernel
theorem dX7_readsWish_9 : decode cX7_readsWish 9 = .ok (.iload_n 2, 1) := by decide +kernel
theorem dX7_readsWish_10 : decode cX7_readsWish 10 = .ok (.bipush 117, 2) := by decide +kernel
theorem dX7_readsWish_12 : decode cX7_readsWish 12 = .ok (.bipush 119, 2) := by decide +kernel
theorem dX7_readsWish_14 : decode cX7_readsWish 14 = .ok (.invokestatic 86, 3) := by decide +kernel
theorem dX7_readsWish_17 : decode cX7_readsWish 17 = .ok (.ifCond .eq 12, 3) := by decide +kernel
theorem dX7_readsWish_20 : decode cX7_readsWish 20 = .ok (.aload_n 0, 1) := by decide +kernel
theorem dX7_readsWish_21 : decode cX7_readsWish 21 = .ok (.getfield 280, 3) := by decide +kernel
theorem dX7_readsWish_24 : decode cX7_readsWish 24 = .ok (.bipush 12, 2) := by decide +kernel
theorem dX7_readsWish_26 : decode cX7_readsWish 26 = .ok (.if_icmp .ne 5, 3) := by decide +kernel
theorem dX7_readsWish_29 : decode cX7_readsWish 29 = .ok (.iconst 0, 1) := by decide +kernel
theorem dX7_readsWish_30 : decode cX7_readsWish 30 = .ok (.ireturn, 1) := by decide +kernel
theorem dX7_readsWish_31 : decode cX7_readsWish 31 = .ok (.aload_n 0, 1) := by decide +kernel
theorem dX7_readsWish_32 : decode cX7_readsWish 32 = .ok (.dup, 1) := by decide +kernel
theorem dX7_readsWish_33 : decode cX7_readsWish 33 = .ok (.getfield 265, 3) := by decide +kernel
theorem dX7_readsWish_36 : decode cX7_readsWish 36 = .ok (.iconst 1, 1) := by decide +kernel
theorem dX7_readsWish_37 : decode cX7_readsWish 37 = .ok (.iadd, 1) := by decide +kernel
theorem dX7_readsWish_38 : decode cX7_readsWish 38 = .ok (.putfield 265, 3) := by decide +kernel
theorem dX7_readsWish_41 : decode cX7_readsWish 41 = .ok (.iconst 0, 1) := by decide +kernel
theorem dX7_readsWish_42 : decode cX7_readsWish 42 = .ok (.istore_n 3, 1) := by decide +kernel
theorem dX7_readsWish_43 : decode cX7_readsWish 43 = .ok (.aload_n 0, 1) := by decide +kernel
theorem dX7_readsWish_44 : decode cX7_readsWish 44 = .ok (.getfield 76, 3) := by decide +kernel
theorem dX7_readsWish_47 : decode cX7_readsWish 47 = .ok (.sipush 999, 3) := by decide +kernel
theorem dX7_readsWish_50 : decode cX7_readsWish 50 = .ok (.if_icmp .ge 10, 3) := by decide +kernel
theorem dX7_readsWish_53 : decode cX7_readsWish 53 = .ok (.aload_n 0, 1) := by decide +kernel
theorem dX7_readsWish_54 : decode cX7_readsWish 54 = .ok (.getfield 76, 3) := by decide +kernel
theorem dX7_readsWish_57 : decode cX7_readsWish 57 = .ok (.goto 6, 3) := by decide +kernel
theorem dX7_readsWish_60 : decode cX7_readsWish 60 = .ok (.sipush 999, 3) := by decide +kernel
theorem dX7_readsWish_63 : decode cX7_readsWish 63 = .ok (.istore 4, 2) := by decide +kernel
theorem dX7_readsWish_65 : decode cX7_readsWish 65 = .ok (.aload_n 0, 1) := by decide +kernel
theorem dX7_readsWish_66 : decode cX7_readsWish 66 = .ok (.invokevirtual 274, 3) := by decide +kernel
theorem dX7_readsWish_69 : decode cX7_readsWish 69 = .ok (.aload_n 0, 1) := by decide +kernel
theorem dX7_readsWish_70 : decode cX7_readsWish 70 = .ok (.invokevirtual 268, 3) := by decide +kernel
theorem dX7_readsWish_73 : decode cX7_readsWish 73 = .ok (.istore 5, 2) := by decide +kernel
theorem dX7_readsWish_75 : decode cX7_readsWish 75 = .ok (.iload 5, 2) := by decide +kernel
theorem dX7_readsWish_77 : decode cX7_readsWish 77 = .ok (.bipush 43, 2) := by decide +kernel
theorem dX7_readsWish_79 : decode cX7_readsWish 79 = .ok (.if_icmp .eq 10, 3) := by decide +kernel
theorem dX7_readsWish_82 : decode cX7_readsWish 82 = .ok (.iload 5, 2) := by decide +kernel
theorem dX7_readsWish_84 : decode cX7_readsWish 84 = .ok (.bipush 45, 2) := by decide +kernel
theorem dX7_readsWish_86 : decode cX7_readsWish 86 = .ok (.if_icmp .ne 49, 3) := by decide +kernel
theorem dX7_readsWish_89 : decode cX7_readsWish 89 = .ok (.aload_n 0, 1) := by decide +kernel
theorem dX7_readsWish_90 : decode cX7_readsWish 90 = .ok (.dup, 1) := by decide +kernel
theorem dX7_readsWish_91 : decode cX7_readsWish 91 = .ok (.getfield 265, 3) := by decide +kernel
theorem dX7_readsWish_94 : decode cX7_readsWish 94 = .ok (.iconst 1, 1) := by decide +kernel
theorem dX7_readsWish_95 : decode cX7_readsWish 95 = .ok (.iadd, 1) := by decide +kernel
theorem dX7_readsWish_96 : decode cX7_readsWish 96 = .ok (.putfield 265, 3) := by decide +kernel
theorem dX7_readsWish_99 : decode cX7_readsWish 99 = .ok (.aload_n 0, 1) := by decide +kernel
theorem dX7_readsWish_100 : decode cX7_readsWish 100 = .ok (.sipush 500, 3) := by decide +kernel
theorem dX7_readsWish_103 : decode cX7_readsWish 103 = .ok (.invokevirtual 283, 3) := by decide +kernel
theorem dX7_readsWish_106 : decode cX7_readsWish 106 = .ok (.ifCond .ne 5, 3) := by decide +kernel
theorem dX7_readsWish_109 : decode cX7_readsWish 109 = .ok (.iconst 0, 1) := by decide +kernel
theorem dX7_readsWish_110 : decode cX7_readsWish 110 = .ok (.ireturn, 1) := by decide +kernel
theorem dX7_readsWish_111 : decode cX7_readsWish 111 = .ok (.iload 5, 2) := by decide +kernel
theorem dX7_readsWish_113 : decode cX7_readsWish 113 = .ok (.bipush 45, 2) := by decide +kernel
theorem dX7_readsWish_115 : decode cX7_readsWish 115 = .ok (.if_icmp .ne 11, 3) := by decide +kernel
theorem dX7_readsWish_118 : decode cX7_readsWish 118 = .ok (.aload_n 0, 1) := by decide +kernel
theorem dX7_readsWish_119 : decode cX7_readsWish 119 = .ok (.getfield 277, 3) := by decide +kernel
theorem dX7_readsWish_122 : decode cX7_readsWish 122 = .ok (.ineg, 1) := by decide +kernel
theorem dX7_readsWish_123 : decode cX7_readsWish 123 = .ok (.goto 7, 3) := by decide +kernel
theorem dX7_readsWish_126 : decode cX7_readsWish 126 = .ok (.aload_n 0, 1) := by decide +kernel
theorem dX7_readsWish_127 : decode cX7_readsWish 127 = .ok (.getfield 277, 3) := by decide +kernel
theorem dX7_readsWish_130 : decode cX7_readsWish 130 = .ok (.istore_n 3, 1) := by decide +kernel
theorem dX7_readsWish_131 : decode cX7_readsWish 131 = .ok (.aload_n 0, 1) := by decide +kernel
theorem dX7_readsWish_132 : decode cX7_readsWish 132 = .ok (.invokevirtual 274, 3) := by decide +kernel
theorem dX7_readsWish_135 : decode cX7_readsWish 135 = .ok (.aload_n 0, 1) := by decide +kernel
theorem dX7_readsWish_136 : decode cX7_readsWish 136 = .ok (.invokevirtual 268, 3) := by decide +kernel
theorem dX7_readsWish_139 : decode cX7_readsWish 139 = .ok (.bipush 64, 2) := by decide +kernel
theorem dX7_readsWish_141 : decode cX7_readsWish 141 = .ok (.if_icmp .ne 35, 3) := by decide +kernel
theorem dX7_readsWish_144 : decode cX7_readsWish 144 = .ok (.aload_n 0, 1) := by decide +kernel
theorem dX7_readsWish_145 : decode cX7_readsWish 145 = .ok (.dup, 1) := by decide +kernel
theorem dX7_readsWish_146 : decode cX7_readsWish 146 = .ok (.getfield 265, 3) := by decide +kernel
theorem dX7_readsWish_149 : decode cX7_readsWish 149 = .ok (.iconst 1, 1) := by decide +kernel
theorem dX7_readsWish_150 : decode cX7_readsWish 150 = .ok (.iadd, 1) := by decide +kernel
theorem dX7_readsWish_151 : decode cX7_readsWish 151 = .ok (.putfield 265, 3) := by decide +kernel
theorem dX7_readsWish_154 : decode cX7_readsWish 154 = .ok (.aload_n 0, 1) := by decide +kernel
theorem dX7_readsWish_155 : decode cX7_readsWish 155 = .ok (.sipush 999, 3) := by decide +kernel
theorem dX7_readsWish_158 : decode cX7_readsWish 158 = .ok (.invokevirtual 283, 3) := by decide +kernel
theorem dX7_readsWish_161 : decode cX7_readsWish 161 = .ok (.ifCond .ne 5, 3) := by decide +kernel
theorem dX7_readsWish_164 : decode cX7_readsWish 164 = .ok (.iconst 0, 1) := by decide +kernel
theorem dX7_readsWish_165 : decode cX7_readsWish 165 = .ok (.ireturn, 1) := by decide +kernel
theorem dX7_readsWish_166 : decode cX7_readsWish 166 = .ok (.aload_n 0, 1) := by decide +kernel
theorem dX7_readsWish_167 : decode cX7_readsWish 167 = .ok (.getfield 277, 3) := by decide +kernel
theorem dX7_readsWish_170 : decode cX7_readsWish 170 = .ok (.istore 4, 2) := by decide +kernel
theorem dX7_readsWish_172 : decode cX7_readsWish 172 = .ok (.aload_n 0, 1) := by decide +kernel
theorem dX7_readsWish_173 : decode cX7_readsWish 173 = .ok (.invokevirtual 274, 3) := by decide +kernel
theorem dX7_readsWish_176 : decode cX7_readsWish 176 = .ok (.aload_n 0, 1) := by decide +kernel
theorem dX7_readsWish_177 : decode cX7_readsWish 177 = .ok (.invokevirtual 268, 3) := by decide +kernel
theorem dX7_readsWish_180 : decode cX7_readsWish 180 = .ok (.bipush 59, 2) := by decide +kernel
theorem dX7_readsWish_182 : decode cX7_readsWish 182 = .ok (.if_icmp .eq 5, 3) := by decide +kernel
theorem dX7_readsWish_185 : decode cX7_readsWish 185 = .ok (.iconst 0, 1) := by decide +kernel
theorem dX7_readsWish_186 : decode cX7_readsWish 186 = .ok (.ireturn, 1) := by decide +kernel
theorem dX7_readsWish_187 : decode cX7_readsWish 187 = .ok (.aload_n 0, 1) := by decide +kernel
theorem dX7_readsWish_188 : decode cX7_readsWish 188 = .ok (.dup, 1) := by decide +kernel
theorem dX7_readsWish_189 : decode cX7_readsWish 189 = .ok (.getfield 265, 3) := by decide +kernel
theorem dX7_readsWish_192 : decode cX7_readsWish 192 = .ok (.iconst 1, 1) := by decide +kernel
theorem dX7_readsWish_193 : decode cX7_readsWish 193 = .ok (.iadd, 1) := by decide +kernel
theorem dX7_readsWish_194 : decode cX7_readsWish 194 = .ok (.putfield 265, 3) := by decide +kernel
theorem dX7_readsWish_197 : decode cX7_readsWish 197 = .ok (.aload_n 0, 1) := by decide +kernel
theorem dX7_readsWish_198 : decode cX7_readsWish 198 = .ok (.dup, 1) := by decide +kernel
theorem dX7_readsWish_199 : decode cX7_readsWish 199 = .ok (.getfield 280, 3) := by decide +kernel
theorem dX7_readsWish_202 : decode cX7_readsWish 202 = .ok (.iconst 1, 1) := by decide +kernel
theorem dX7_readsWish_203 : decode cX7_readsWish 203 = .ok (.iadd, 1) := by decide +kernel
theorem dX7_readsWish_204 : decode cX7_readsWish 204 = .ok (.putfield 280, 3) := by decide +kernel
theorem dX7_readsWish_207 : decode cX7_readsWish 207 = .ok (.iload_n 1, 1) := by decide +kernel
theorem dX7_readsWish_208 : decode cX7_readsWish 208 = .ok (.ifCond .eq 14, 3) := by decide +kernel
theorem dX7_readsWish_211 : decode cX7_readsWish 211 = .ok (.aload_n 0, 1) := by decide +kernel
theorem dX7_readsWish_212 : decode cX7_readsWish 212 = .ok (.iload_n 2, 1) := by decide +kernel
theorem dX7_readsWish_213 : decode cX7_readsWish 213 = .ok (.bipush 117, 2) := by decide +kernel
theorem dX7_readsWish_215 : decode cX7_readsWish 215 = .ok (.isub, 1) := by decide +kernel
theorem dX7_readsWish_216 : decode cX7_readsWish 216 = .ok (.iload 4, 2) := by decide +kernel
theorem dX7_readsWish_218 : decode cX7_readsWish 218 = .ok (.iload_n 3, 1) := by decide +kernel
theorem dX7_readsWish_219 : decode cX7_readsWish 219 = .ok (.invokevirtual 224, 3) := by decide +kernel
theorem dX7_readsWish_222 : decode cX7_readsWish 222 = .ok (.iconst 1, 1) := by decide +kernel
theorem dX7_readsWish_223 : decode cX7_readsWish 223 = .ok (.ireturn, 1) := by decide +kernel
theorem dX7_goesThrough_0 : decode cX7_goesThrough 0 = .ok (.aload_n 0, 1) := by decide +kernel
theorem dX7_goesThrough_1 : decode cX7_goesThrough 1 = .ok (.iconst 0, 1) := by decide +kernel
theorem dX7_goesThrough_2 : decode cX7_goesThrough 2 = .ok (.putfield 265, 3) := by decide +kernel
theorem dX7_goesThrough_5 : decode cX7_goesThrough 5 = .ok (.aload_n 0, 1) := by decide +kernel
theorem dX7_goesThrough_6 : decode cX7_goesThrough 6 = .ok (.aload_n 0, 1) := by decide +kernel
theorem dX7_goesThrough_7 : decode cX7_goesThrough 7 = .ok (.getfield 80, 3) := by decide +kernel
theorem dX7_goesThrough_10 : decode cX7_goesThrough 10 = .ok (.putfield 280, 3) := by decide +kernel
theorem dX7_goesThrough_13 : decode cX7_goesThrough 13 = .ok (.iconst 0, 1) := by decide +kernel
theorem dX7_goesThrough_14 : decode cX7_goesThrough 14 = .ok (.istore_n 2, 1) := by decide +kernel
theorem dX7_goesThrough_15 : decode cX7_goesThrough 15 = .ok (.aload_n 0, 1) := by decide +kernel
theorem dX7_goesThrough_16 : decode cX7_goesThrough 16 = .ok (.invokevirtual 274, 3) := by decide +kernel
theorem dX7_goesThrough_19 : decode cX7_goesThrough 19 = .ok (.aload_n 0, 1) := by decide +kernel
theorem dX7_goesThrough_20 : decode cX7_goesThrough 20 = .ok (.getfield 265, 3) := by decide +kernel
theorem dX7_goesThrough_23 : decode cX7_goesThrough 23 = .ok (.aload_n 0, 1) := by decide +kernel
theorem dX7_goesThrough_24 : decode cX7_goesThrough 24 = .ok (.getfield 262, 3) := by decide +kernel
theorem dX7_goesThrough_27 : decode cX7_goesThrough 27 = .ok (.if_icmp .ne 11, 3) := by decide +kernel
theorem dX7_goesThrough_30 : decode cX7_goesThrough 30 = .ok (.bipush (-10), 2) := by decide +kernel
theorem dX7_goesThrough_32 : decode cX7_goesThrough 32 = .ok (.aload_n 0, 1) := by decide +kernel
theorem dX7_goesThrough_33 : decode cX7_goesThrough 33 = .ok (.getfield 262, 3) := by decide +kernel
theorem dX7_goesThrough_36 : decode cX7_goesThrough 36 = .ok (.isub, 1) := by decide +kernel
theorem dX7_goesThrough_37 : decode cX7_goesThrough 37 = .ok (.ireturn, 1) := by decide +kernel
theorem dX7_goesThrough_38 : decode cX7_goesThrough 38 = .ok (.aload_n 0, 1) := by decide +kernel
theorem dX7_goesThrough_39 : decode cX7_goesThrough 39 = .ok (.getfield 265, 3) := by decide +kernel
theorem dX7_goesThrough_42 : decode cX7_goesThrough 42 = .ok (.aload_n 0, 1) := by decide +kernel
theorem dX7_goesThrough_43 : decode cX7_goesThrough 43 = .ok (.getfield 262, 3) := by decide +kernel
theorem dX7_goesThrough_46 : decode cX7_goesThrough 46 = .ok (.if_icmp .ge 29, 3) := by decide +kernel
theorem dX7_goesThrough_49 : decode cX7_goesThrough 49 = .ok (.aload_n 0, 1) := by decide +kernel
theorem dX7_goesThrough_50 : decode cX7_goesThrough 50 = .ok (.iload_n 1, 1) := by decide +kernel
theorem dX7_goesThrough_51 : decode cX7_goesThrough 51 = .ok (.invokevirtual 286, 3) := by decide +kernel
theorem dX7_goesThrough_54 : decode cX7_goesThrough 54 = .ok (.ifCond .ne 11, 3) := by decide +kernel
theorem dX7_goesThrough_57 : decode cX7_goesThrough 57 = .ok (.bipush (-10), 2) := by decide +kernel
theorem dX7_goesThrough_59 : decode cX7_goesThrough 59 = .ok (.aload_n 0, 1) := by decide +kernel
theorem dX7_goesThrough_60 : decode cX7_goesThrough 60 = .ok (.getfield 271, 3) := by decide +kernel
theorem dX7_goesThrough_63 : decode cX7_goesThrough 63 = .ok (.isub, 1) := by decide +kernel
theorem dX7_goesThrough_64 : decode cX7_goesThrough 64 = .ok (.ireturn, 1) := by decide +kernel
theorem dX7_goesThrough_65 : decode cX7_goesThrough 65 = .ok (.iinc 2 1, 3) := by decide +kernel
theorem dX7_goesThrough_68 : decode cX7_goesThrough 68 = .ok (.aload_n 0, 1) := by decide +kernel
theorem dX7_goesThrough_69 : decode cX7_goesThrough 69 = .ok (.invokevirtual 274, 3) := by decide +kernel
theorem dX7_goesThrough_72 : decode cX7_goesThrough 72 = .ok (.goto (-34), 3) := by decide +kernel
theorem dX7_goesThrough_75 : decode cX7_goesThrough 75 = .ok (.iload_n 2, 1) := by decide +kernel
theorem dX7_goesThrough_76 : decode cX7_goesThrough 76 = .ok (.ireturn, 1) := by decide +kernel
theorem dX7_reads_0 : decode cX7_reads 0 = .ok (.aload_n 0, 1) := by decide +kernel
theorem dX7_reads_1 : decode cX7_reads 1 = .ok (.iconst 0, 1) := by decide +kernel
theorem dX7_reads_2 : decode cX7_reads 2 = .ok (.invokevirtual 290, 3) := by decide +kernel
theorem dX7_reads_5 : decode cX7_reads 5 = .ok (.istore_n 1, 1) := by decide +kernel
theorem dX7_reads_6 : decode cX7_reads 6 = .ok (.iload_n 1, 1) := by decide +kernel
theorem dX7_reads_7 : decode cX7_reads 7 = .ok (.ifCond .ge 7, 3) := by decide +kernel
theorem dX7_reads_10 : decode cX7_reads 10 = .ok (.iload_n 1, 1) := by decide +kernel
theorem dX7_reads_11 : decode cX7_reads 11 = .ok (.goto 8, 3) := by decide +kernel
theorem dX7_reads_14 : decode cX7_reads 14 = .ok (.aload_n 0, 1) := by decide +kernel
theorem dX7_reads_15 : decode cX7_reads 15 = .ok (.iconst 1, 1) := by decide +kernel
theorem dX7_reads_16 : decode cX7_reads 16 = .ok (.invokevirtual 290, 3) := by decide +kernel
theorem dX7_reads_19 : decode cX7_reads 19 = .ok (.ireturn, 1) := by decide +kernel
theorem dX7_countBy_0 : decode cX7_countBy 0 = .ok (.iload_n 1, 1) := by decide +kernel
theorem dX7_countBy_1 : decode cX7_countBy 1 = .ok (.iconst 3, 1) := by decide +kernel
theorem dX7_countBy_2 : decode cX7_countBy 2 = .ok (.if_icmp .ge 12, 3) := by decide +kernel
theorem dX7_countBy_5 : decode cX7_countBy 5 = .ok (.aload_n 0, 1) := by decide +kernel
theorem dX7_countBy_6 : decode cX7_countBy 6 = .ok (.getfield 1, 3) := by decide +kernel
theorem dX7_countBy_9 : decode cX7_countBy 9 = .ok (.iload_n 1, 1) := by decide +kernel
theorem dX7_countBy_10 : decode cX7_countBy 10 = .ok (.iaload, 1) := by decide +kernel
theorem dX7_countBy_11 : decode cX7_countBy 11 = .ok (.goto 48, 3) := by decide +kernel
theorem dX7_countBy_14 : decode cX7_countBy 14 = .ok (.iload_n 1, 1) := by decide +kernel
theorem dX7_countBy_15 : decode cX7_countBy 15 = .ok (.iconst 3, 1) := by decide +kernel
theorem dX7_countBy_16 : decode cX7_countBy 16 = .ok (.if_icmp .ne 10, 3) := by decide +kernel
theorem dX7_countBy_19 : decode cX7_countBy 19 = .ok (.aload_n 0, 1) := by decide +kernel
theorem dX7_countBy_20 : decode cX7_countBy 20 = .ok (.getfield 76, 3) := by decide +kernel
theorem dX7_countBy_23 : decode cX7_countBy 23 = .ok (.goto 36, 3) := by decide +kernel
theorem dX7_countBy_26 : decode cX7_countBy 26 = .ok (.iload_n 1, 1) := by decide +kernel
theorem dX7_countBy_27 : decode cX7_countBy 27 = .ok (.iconst 4, 1) := by decide +kernel
theorem dX7_countBy_28 : decode cX7_countBy 28 = .ok (.if_icmp .ne 10, 3) := by decide +kernel
theorem dX7_countBy_31 : decode cX7_countBy 31 = .ok (.aload_n 0, 1) := by decide +kernel
theorem dX7_countBy_32 : decode cX7_countBy 32 = .ok (.getfield 80, 3) := by decide +kernel
theorem dX7_countBy_35 : decode cX7_countBy 35 = .ok (.goto 24, 3) := by decide +kernel
theorem dX7_countBy_38 : decode cX7_countBy 38 = .ok (.iload_n 1, 1) := by decide +kernel
theorem dX7_countBy_39 : decode cX7_countBy 39 = .ok (.bipush 12, 2) := by decide +kernel
theorem dX7_countBy_41 : decode cX7_countBy 41 = .ok (.if_icmp .ne 10, 3) := by decide +kernel
theorem dX7_countBy_44 : decode cX7_countBy 44 = .ok (.aload_n 0, 1) := by decide +kernel
theorem dX7_countBy_45 : decode cX7_countBy 45 = .ok (.getfield 262, 3) := by decide +kernel
theorem dX7_countBy_48 : decode cX7_countBy 48 = .ok (.goto 11, 3) := by decide +kernel
theorem dX7_countBy_51 : decode cX7_countBy 51 = .ok (.aload_n 0, 1) := by decide +kernel
theorem dX7_countBy_52 : decode cX7_countBy 52 = .ok (.getfield 13, 3) := by decide +kernel
theorem dX7_countBy_55 : decode cX7_countBy 55 = .ok (.iload_n 1, 1) := by decide +kernel
theorem dX7_countBy_56 : decode cX7_countBy 56 = .ok (.iconst 5, 1) := by decide +kernel
theorem dX7_countBy_57 : decode cX7_countBy 57 = .ok (.isub, 1) := by decide +kernel
theorem dX7_countBy_58 : decode cX7_countBy 58 = .ok (.iaload, 1) := by decide +kernel
theorem dX7_countBy_59 : decode cX7_countBy 59 = .ok (.ireturn, 1) := by decide +kernel
theorem dX7_count_0 : decode cX7_count 0 = .ok (.iload_n 1, 1) := by decide +kernel
theorem dX7_count_1 : decode cX7_count 1 = .ok (.iconst 0, 1) := by decide +kernel
theorem dX7_count_2 : decode cX7_count 2 = .ok (.bipush 12, 2) := by decide +kernel
theorem dX7_count_4 : decode cX7_count 4 = .ok (.invokestatic 86, 3) := by decide +kernel
theorem dX7_count_7 : decode cX7_count 7 = .ok (.ifCond .eq 11, 3) := by decide +kernel
theorem dX7_count_10 : decode cX7_count 10 = .ok (.aload_n 0, 1) := by decide +kernel
theorem dX7_count_11 : decode cX7_count 11 = .ok (.iload_n 1, 1) := by decide +kernel
theorem dX7_count_12 : decode cX7_count 12 = .ok (.invokevirtual 294, 3) := by decide +kernel
theorem dX7_count_15 : decode cX7_count 15 = .ok (.goto 7, 3) := by decide +kernel
theorem dX7_count_18 : decode cX7_count 18 = .ok (.aload_n 0, 1) := by decide +kernel
theorem dX7_count_19 : decode cX7_count 19 = .ok (.invokevirtual 94, 3) := by decide +kernel
theorem dX7_count_22 : decode cX7_count 22 = .ok (.ireturn, 1) := by decide +kernel
theorem dX7_digest_0 : decode cX7_digest 0 = .ok (.ldc2_w 297, 3) := by decide +kernel
theorem dX7_digest_3 : decode cX7_digest 3 = .ok (.lstore_n 1, 1) := by decide +kernel
theorem dX7_digest_4 : decode cX7_digest 4 = .ok (.iconst 0, 1) := by decide +kernel
theorem dX7_digest_5 : decode cX7_digest 5 = .ok (.istore_n 3, 1) := by decide +kernel
theorem dX7_digest_6 : decode cX7_digest 6 = .ok (.iload_n 3, 1) := by decide +kernel
theorem dX7_digest_7 : decode cX7_digest 7 = .ok (.bipush 13, 2) := by decide +kernel
theorem dX7_digest_9 : decode cX7_digest 9 = .ok (.if_icmp .ge 22, 3) := by decide +kernel
theorem dX7_digest_12 : decode cX7_digest 12 = .ok (.ldc2_w 299, 3) := by decide +kernel
theorem dX7_digest_15 : decode cX7_digest 15 = .ok (.lload_n 1, 1) := by decide +kernel
theorem dX7_digest_16 : decode cX7_digest 16 = .ok (.lmul, 1) := by decide +kernel
theorem dX7_digest_17 : decode cX7_digest 17 = .ok (.aload_n 0, 1) := by decide +kernel
theorem dX7_digest_18 : decode cX7_digest 18 = .ok (.iload_n 3, 1) := by decide +kernel
theorem dX7_digest_19 : decode cX7_digest 19 = .ok (.invokevirtual 294, 3) := by decide +kernel
theorem dX7_digest_22 : decode cX7_digest 22 = .ok (.i2l, 1) := by decide +kernel
theorem dX7_digest_23 : decode cX7_digest 23 = .ok (.ladd, 1) := by decide +kernel
theorem dX7_digest_24 : decode cX7_digest 24 = .ok (.lstore_n 1, 1) := by decide +kernel
theorem dX7_digest_25 : decode cX7_digest 25 = .ok (.iinc 3 1, 3) := by decide +kernel
theorem dX7_digest_28 : decode cX7_digest 28 = .ok (.goto (-22), 3) := by decide +kernel
theorem dX7_digest_31 : decode cX7_digest 31 = .ok (.iconst 0, 1) := by decide +kernel
theorem dX7_digest_32 : decode cX7_digest 32 = .ok (.istore_n 3, 1) := by decide +kernel
theorem dX7_digest_33 : decode cX7_digest 33 = .ok (.iload_n 3, 1) := by decide +kernel
theorem dX7_digest_34 : decode cX7_digest 34 = .ok (.iconst 3, 1) := by decide +kernel
theorem dX7_digest_35 : decode cX7_digest 35 = .ok (.if_icmp .ge 67, 3) := by decide +kernel
theorem dX7_digest_38 : decode cX7_digest 38 = .ok (.iconst 0, 1) := by decide +kernel
theorem dX7_digest_39 : decode cX7_digest 39 = .ok (.istore 4, 2) := by decide +kernel
theorem dX7_digest_41 : decode cX7_digest 41 = .ok (.iload 4, 2) := by decide +kernel
theorem dX7_digest_43 : decode cX7_digest 43 = .ok (.iconst 4, 1) := by decide +kernel
theorem dX7_digest_44 : decode cX7_digest 44 = .ok (.if_icmp .ge 24, 3) := by decide +kernel
theorem dX7_digest_47 : decode cX7_digest 47 = .ok (.ldc2_w 299, 3) := by decide +kernel
theorem dX7_digest_50 : decode cX7_digest 50 = .ok (.lload_n 1, 1) := by decide +kernel
theorem dX7_digest_51 : decode cX7_digest 51 = .ok (.lmul, 1) := by decide +kernel
theorem dX7_digest_52 : decode cX7_digest 52 = .ok (.aload_n 0, 1) := by decide +kernel
theorem dX7_digest_53 : decode cX7_digest 53 = .ok (.iload_n 3, 1) := by decide +kernel
theorem dX7_digest_54 : decode cX7_digest 54 = .ok (.iload 4, 2) := by decide +kernel
theorem dX7_digest_56 : decode cX7_digest 56 = .ok (.invokevirtual 259, 3) := by decide +kernel
theorem dX7_digest_59 : decode cX7_digest 59 = .ok (.i2l, 1) := by decide +kernel
theorem dX7_digest_60 : decode cX7_digest 60 = .ok (.ladd, 1) := by decide +kernel
theorem dX7_digest_61 : decode cX7_digest 61 = .ok (.lstore_n 1, 1) := by decide +kernel
theorem dX7_digest_62 : decode cX7_digest 62 = .ok (.iinc 4 1, 3) := by decide +kernel
theorem dX7_digest_65 : decode cX7_digest 65 = .ok (.goto (-24), 3) := by decide +kernel
theorem dX7_digest_68 : decode cX7_digest 68 = .ok (.ldc2_w 299, 3) := by decide +kernel
theorem dX7_digest_71 : decode cX7_digest 71 = .ok (.lload_n 1, 1) := by decide +kernel
theorem dX7_digest_72 : decode cX7_digest 72 = .ok (.lmul, 1) := by decide +kernel
theorem dX7_digest_73 : decode cX7_digest 73 = .ok (.aload_n 0, 1) := by decide +kernel
theorem dX7_digest_74 : decode cX7_digest 74 = .ok (.iload_n 3, 1) := by decide +kernel
theorem dX7_digest_75 : decode cX7_digest 75 = .ok (.iconst 0, 1) := by decide +kernel
theorem dX7_digest_76 : decode cX7_digest 76 = .ok (.invokevirtual 178, 3) := by decide +kernel
theorem dX7_digest_79 : decode cX7_digest 79 = .ok (.i2l, 1) := by decide +kernel
theorem dX7_digest_80 : decode cX7_digest 80 = .ok (.ladd, 1) := by decide +kernel
theorem dX7_digest_81 : decode cX7_digest 81 = .ok (.lstore_n 1, 1) := by decide +kernel
theorem dX7_digest_82 : decode cX7_digest 82 = .ok (.ldc2_w 299, 3) := by decide +kernel
theorem dX7_digest_85 : decode cX7_digest 85 = .ok (.lload_n 1, 1) := by decide +kernel
theorem dX7_digest_86 : decode cX7_digest 86 = .ok (.lmul, 1) := by decide +kernel
theorem dX7_digest_87 : decode cX7_digest 87 = .ok (.aload_n 0, 1) := by decide +kernel
theorem dX7_digest_88 : decode cX7_digest 88 = .ok (.iload_n 3, 1) := by decide +kernel
theorem dX7_digest_89 : decode cX7_digest 89 = .ok (.iconst 2, 1) := by decide +kernel
theorem dX7_digest_90 : decode cX7_digest 90 = .ok (.invokevirtual 178, 3) := by decide +kernel
theorem dX7_digest_93 : decode cX7_digest 93 = .ok (.i2l, 1) := by decide +kernel
theorem dX7_digest_94 : decode cX7_digest 94 = .ok (.ladd, 1) := by decide +kernel
theorem dX7_digest_95 : decode cX7_digest 95 = .ok (.lstore_n 1, 1) := by decide +kernel
theorem dX7_digest_96 : decode cX7_digest 96 = .ok (.iinc 3 1, 3) := by decide +kernel
theorem dX7_digest_99 : decode cX7_digest 99 = .ok (.goto (-66), 3) := by decide +kernel
theorem dX7_digest_102 : decode cX7_digest 102 = .ok (.iconst 0, 1) := by decide +kernel
theorem dX7_digest_103 : decode cX7_digest 103 = .ok (.istore_n 3, 1) := by decide +kernel
theorem dX7_digest_104 : decode cX7_digest 104 = .ok (.iload_n 3, 1) := by decide +kernel
theorem dX7_digest_105 : decode cX7_digest 105 = .ok (.aload_n 0, 1) := by decide +kernel
theorem dX7_digest_106 : decode cX7_digest 106 = .ok (.getfield 80, 3) := by decide +kernel
theorem dX7_digest_109 : decode cX7_digest 109 = .ok (.if_icmp .ge 51, 3) := by decide +kernel
theorem dX7_digest_112 : decode cX7_digest 112 = .ok (.ldc2_w 299, 3) := by decide +kernel
theorem dX7_digest_115 : decode cX7_digest 115 = .ok (.lload_n 1, 1) := by decide +kernel
theorem dX7_digest_116 : decode cX7_digest 116 = .ok (.lmul, 1) := by decide +kernel
theorem dX7_digest_117 : decode cX7_digest 117 = .ok (.aload_n 0, 1) := by decide +kernel
theorem dX7_digest_118 : decode cX7_digest 118 = .ok (.getfield 28, 3) := by decide +kernel
theorem dX7_digest_121 : decode cX7_digest 121 = .ok (.iload_n 3, 1) := by decide +kernel
theorem dX7_digest_122 : decode cX7_digest 122 = .ok (.iaload, 1) := by decide +kernel
theorem dX7_digest_123 : decode cX7_digest 123 = .ok (.i2l, 1) := by decide +kernel
theorem dX7_digest_124 : decode cX7_digest 124 = .ok (.ladd, 1) := by decide +kernel
theorem dX7_digest_125 : decode cX7_digest 125 = .ok (.lstore_n 1, 1) := by decide +kernel
theorem dX7_digest_126 : decode cX7_digest 126 = .ok (.ldc2_w 299, 3) := by decide +kernel
theorem dX7_digest_129 : decode cX7_digest 129 = .ok (.lload_n 1, 1) := by decide +kernel
theorem dX7_digest_130 : decode cX7_digest 130 = .ok (.lmul, 1) := by decide +kernel
theorem dX7_digest_131 : decode cX7_digest 131 = .ok (.aload_n 0, 1) := by decide +kernel
theorem dX7_digest_132 : decode cX7_digest 132 = .ok (.getfield 31, 3) := by decide +kernel
theorem dX7_digest_135 : decode cX7_digest 135 = .ok (.iload_n 3, 1) := by decide +kernel
theorem dX7_digest_136 : decode cX7_digest 136 = .ok (.iaload, 1) := by decide +kernel
theorem dX7_digest_137 : decode cX7_digest 137 = .ok (.i2l, 1) := by decide +kernel
theorem dX7_digest_138 : decode cX7_digest 138 = .ok (.ladd, 1) := by decide +kernel
theorem dX7_digest_139 : decode cX7_digest 139 = .ok (.lstore_n 1, 1) := by decide +kernel
theorem dX7_digest_140 : decode cX7_digest 140 = .ok (.ldc2_w 299, 3) := by decide +kernel
theorem dX7_digest_143 : decode cX7_digest 143 = .ok (.lload_n 1, 1) := by decide +kernel
theorem dX7_digest_144 : decode cX7_digest 144 = .ok (.lmul, 1) := by decide +kernel
theorem dX7_digest_145 : decode cX7_digest 145 = .ok (.aload_n 0, 1) := by decide +kernel
theorem dX7_digest_146 : decode cX7_digest 146 = .ok (.getfield 34, 3) := by decide +kernel
theorem dX7_digest_149 : decode cX7_digest 149 = .ok (.iload_n 3, 1) := by decide +kernel
theorem dX7_digest_150 : decode cX7_digest 150 = .ok (.iaload, 1) := by decide +kernel
theorem dX7_digest_151 : decode cX7_digest 151 = .ok (.i2l, 1) := by decide +kernel
theorem dX7_digest_152 : decode cX7_digest 152 = .ok (.ladd, 1) := by decide +kernel
theorem dX7_digest_153 : decode cX7_digest 153 = .ok (.lstore_n 1, 1) := by decide +kernel
theorem dX7_digest_154 : decode cX7_digest 154 = .ok (.iinc 3 1, 3) := by decide +kernel
theorem dX7_digest_157 : decode cX7_digest 157 = .ok (.goto (-53), 3) := by decide +kernel
theorem dX7_digest_160 : decode cX7_digest 160 = .ok (.ldc2_w 299, 3) := by decide +kernel
theorem dX7_digest_163 : decode cX7_digest 163 = .ok (.lload_n 1, 1) := by decide +kernel
theorem dX7_digest_164 : decode cX7_digest 164 = .ok (.lmul, 1) := by decide +kernel
theorem dX7_digest_165 : decode cX7_digest 165 = .ok (.aload_n 0, 1) := by decide +kernel
theorem dX7_digest_166 : decode cX7_digest 166 = .ok (.iconst 0, 1) := by decide +kernel
theorem dX7_digest_167 : decode cX7_digest 167 = .ok (.invokevirtual 163, 3) := by decide +kernel
theorem dX7_digest_170 : decode cX7_digest 170 = .ok (.i2l, 1) := by decide +kernel
theorem dX7_digest_171 : decode cX7_digest 171 = .ok (.ladd, 1) := by decide +kernel
theorem dX7_digest_172 : decode cX7_digest 172 = .ok (.lstore_n 1, 1) := by decide +kernel
theorem dX7_digest_173 : decode cX7_digest 173 = .ok (.ldc2_w 299, 3) := by decide +kernel
theorem dX7_digest_176 : decode cX7_digest 176 = .ok (.lload_n 1, 1) := by decide +kernel
theorem dX7_digest_177 : decode cX7_digest 177 = .ok (.lmul, 1) := by decide +kernel
theorem dX7_digest_178 : decode cX7_digest 178 = .ok (.aload_n 0, 1) := by decide +kernel
theorem dX7_digest_179 : decode cX7_digest 179 = .ok (.iconst 4, 1) := by decide +kernel
theorem dX7_digest_180 : decode cX7_digest 180 = .ok (.invokevirtual 163, 3) := by decide +kernel
theorem dX7_digest_183 : decode cX7_digest 183 = .ok (.i2l, 1) := by decide +kernel
theorem dX7_digest_184 : decode cX7_digest 184 = .ok (.ladd, 1) := by decide +kernel
theorem dX7_digest_185 : decode cX7_digest 185 = .ok (.lreturn, 1) := by decide +kernel
theorem dJ6_bitCount_0f7a4_0 : decode cJ6_bitCount_0f7a4 0 = .ok (.iload_n 0, 1) := by decide +kernel
theorem dJ6_bitCount_0f7a4_1 : decode cJ6_bitCount_0f7a4 1 = .ok (.iload_n 0, 1) := by decide +kernel
theorem dJ6_bitCount_0f7a4_2 : decode cJ6_bitCount_0f7a4 2 = .ok (.iconst 1, 1) := by decide +kernel
theorem dJ6_bitCount_0f7a4_3 : decode cJ6_bitCount_0f7a4 3 = .ok (.iushr, 1) := by decide +kernel
theorem dJ6_bitCount_0f7a4_4 : decode cJ6_bitCount_0f7a4 4 = .ok (.ldc_w 265, 3) := by decide +kernel
theorem dJ6_bitCount_0f7a4_7 : decode cJ6_bitCount_0f7a4 7 = .ok (.iand, 1) := by decide +kernel
theorem dJ6_bitCount_0f7a4_8 : decode cJ6_bitCount_0f7a4 8 = .ok (.isub, 1) := by decide +kernel
theorem dJ6_bitCount_0f7a4_9 : decode cJ6_bitCount_0f7a4 9 = .ok (.istore_n 0, 1) := by decide +kernel
theorem dJ6_bitCount_0f7a4_10 : decode cJ6_bitCount_0f7a4 10 = .ok (.iload_n 0, 1) := by decide +kernel
theorem dJ6_bitCount_0f7a4_11 : decode cJ6_bitCount_0f7a4 11 = .ok (.ldc_w 266, 3) := by decide +kernel
theorem dJ6_bitCount_0f7a4_14 : decode cJ6_bitCount_0f7a4 14 = .ok (.iand, 1) := by decide +kernel
theorem dJ6_bitCount_0f7a4_15 : decode cJ6_bitCount_0f7a4 15 = .ok (.iload_n 0, 1) := by decide +kernel
theorem dJ6_bitCount_0f7a4_16 : decode cJ6_bitCount_0f7a4 16 = .ok (.iconst 2, 1) := by decide +kernel
theorem dJ6_bitCount_0f7a4_17 : decode cJ6_bitCount_0f7a4 17 = .ok (.iushr, 1) := by decide +kernel
theorem dJ6_bitCount_0f7a4_18 : decode cJ6_bitCount_0f7a4 18 = .ok (.ldc_w 266, 3) := by decide +kernel
theorem dJ6_bitCount_0f7a4_21 : decode cJ6_bitCount_0f7a4 21 = .ok (.iand, 1) := by decide +kernel
theorem dJ6_bitCount_0f7a4_22 : decode cJ6_bitCount_0f7a4 22 = .ok (.iadd, 1) := by decide +kernel
theorem dJ6_bitCount_0f7a4_23 : decode cJ6_bitCount_0f7a4 23 = .ok (.istore_n 0, 1) := by decide +kernel
theorem dJ6_bitCount_0f7a4_24 : decode cJ6_bitCount_0f7a4 24 = .ok (.iload_n 0, 1) := by decide +kernel
theorem dJ6_bitCount_0f7a4_25 : decode cJ6_bitCount_0f7a4 25 = .ok (.iload_n 0, 1) := by decide +kernel
theorem dJ6_bitCount_0f7a4_26 : decode cJ6_bitCount_0f7a4 26 = .ok (.iconst 4, 1) := by decide +kernel
theorem dJ6_bitCount_0f7a4_27 : decode cJ6_bitCount_0f7a4 27 = .ok (.iushr, 1) := by decide +kernel
theorem dJ6_bitCount_0f7a4_28 : decode cJ6_bitCount_0f7a4 28 = .ok (.iadd, 1) := by decide +kernel
theorem dJ6_bitCount_0f7a4_29 : decode cJ6_bitCount_0f7a4 29 = .ok (.ldc_w 267, 3) := by decide +kernel
theorem dJ6_bitCount_0f7a4_32 : decode cJ6_bitCount_0f7a4 32 = .ok (.iand, 1) := by decide +kernel
theorem dJ6_bitCount_0f7a4_33 : decode cJ6_bitCount_0f7a4 33 = .ok (.istore_n 0, 1) := by decide +kernel
theorem dJ6_bitCount_0f7a4_34 : decode cJ6_bitCount_0f7a4 34 = .ok (.iload_n 0, 1) := by decide +kernel
theorem dJ6_bitCount_0f7a4_35 : decode cJ6_bitCount_0f7a4 35 = .ok (.iload_n 0, 1) := by decide +kernel
theorem dJ6_bitCount_0f7a4_36 : decode cJ6_bitCount_0f7a4 36 = .ok (.bipush 8, 2) := by decide +kernel
theorem dJ6_bitCount_0f7a4_38 : decode cJ6_bitCount_0f7a4 38 = .ok (.iushr, 1) := by decide +kernel
theorem dJ6_bitCount_0f7a4_39 : decode cJ6_bitCount_0f7a4 39 = .ok (.iadd, 1) := by decide +kernel
theorem dJ6_bitCount_0f7a4_40 : decode cJ6_bitCount_0f7a4 40 = .ok (.istore_n 0, 1) := by decide +kernel
theorem dJ6_bitCount_0f7a4_41 : decode cJ6_bitCount_0f7a4 41 = .ok (.iload_n 0, 1) := by decide +kernel
theorem dJ6_bitCount_0f7a4_42 : decode cJ6_bitCount_0f7a4 42 = .ok (.iload_n 0, 1) := by decide +kernel
theorem dJ6_bitCount_0f7a4_43 : decode cJ6_bitCount_0f7a4 43 = .ok (.bipush 16, 2) := by decide +kernel
theorem dJ6_bitCount_0f7a4_45 : decode cJ6_bitCount_0f7a4 45 = .ok (.iushr, 1) := by decide +kernel
theorem dJ6_bitCount_0f7a4_46 : decode cJ6_bitCount_0f7a4 46 = .ok (.iadd, 1) := by decide +kernel
theorem dJ6_bitCount_0f7a4_47 : decode cJ6_bitCount_0f7a4 47 = .ok (.istore_n 0, 1) := by decide +kernel
theorem dJ6_bitCount_0f7a4_48 : decode cJ6_bitCount_0f7a4 48 = .ok (.iload_n 0, 1) := by decide +kernel
theorem dJ6_bitCount_0f7a4_49 : decode cJ6_bitCount_0f7a4 49 = .ok (.bipush 63, 2) := by decide +kernel
theorem dJ6_bitCount_0f7a4_51 : decode cJ6_bitCount_0f7a4 51 = .ok (.iand, 1) := by decide +kernel
theorem dJ6_bitCount_0f7a4_52 : decode cJ6_bitCount_0f7a4 52 = .ok (.ireturn, 1) := by decide +kernel
theorem dJ9_abs_0f7a4_0 : decode cJ9_abs_0f7a4 0 = .ok (.iload_n 0, 1) := by decide +kernel
theorem dJ9_abs_0f7a4_1 : decode cJ9_abs_0f7a4 1 = .ok (.ifCond .ge 8, 3) := by decide +kernel
theorem dJ9_abs_0f7a4_4 : decode cJ9_abs_0f7a4 4 = .ok (.iload_n 0, 1) := by decide +kernel
theorem dJ9_abs_0f7a4_5 : decode cJ9_abs_0f7a4 5 = .ok (.ineg, 1) := by decide +kernel
theorem dJ9_abs_0f7a4_6 : decode cJ9_abs_0f7a4 6 = .ok (.goto 4, 3) := by decide +kernel
theorem dJ9_abs_0f7a4_9 : decode cJ9_abs_0f7a4 9 = .ok (.iload_n 0, 1) := by decide +kernel
theorem dJ9_abs_0f7a4_10 : decode cJ9_abs_0f7a4 10 = .ok (.ireturn, 1) := by decide +kernel
theorem dJ9_max_7cf53_0 : decode cJ9_max_7cf53 0 = .ok (.iload_n 0, 1) := by decide +kernel
theorem dJ9_max_7cf53_1 : decode cJ9_max_7cf53 1 = .ok (.iload_n 1, 1) := by decide +kernel
theorem dJ9_max_7cf53_2 : decode cJ9_max_7cf53 2 = .ok (.if_icmp .lt 7, 3) := by decide +kernel
theorem dJ9_max_7cf53_5 : decode cJ9_max_7cf53 5 = .ok (.iload_n 0, 1) := by decide +kernel
theorem dJ9_max_7cf53_6 : decode cJ9_max_7cf53 6 = .ok (.goto 4, 3) := by decide +kernel
theorem dJ9_max_7cf53_9 : decode cJ9_max_7cf53 9 = .ok (.iload_n 1, 1) := by decide +kernel
theorem dJ9_max_7cf53_10 : decode cJ9_max_7cf53 10 = .ok (.ireturn, 1) := by decide +kernel
theorem dJ9_min_7cf53_0 : decode cJ9_min_7cf53 0 = .ok (.iload_n 0, 1) := by decide +kernel
theorem dJ9_min_7cf53_1 : decode cJ9_min_7cf53 1 = .ok (.iload_n 1, 1) := by decide +kernel
theorem dJ9_min_7cf53_2 : decode cJ9_min_7cf53 2 = .ok (.if_icmp .gt 7, 3) := by decide +kernel
theorem dJ9_min_7cf53_5 : decode cJ9_min_7cf53 5 = .ok (.iload_n 0, 1) := by decide +kernel
theorem dJ9_min_7cf53_6 : decode cJ9_min_7cf53 6 = .ok (.goto 4, 3) := by decide +kernel
theorem dJ9_min_7cf53_9 : decode cJ9_min_7cf53 9 = .ok (.iload_n 1, 1) := by decide +kernel
theorem dJ9_min_7cf53_10 : decode cJ9_min_7cf53 10 = .ok (.ireturn, 1) := by decide +kernel
theorem dL_law_0 : decode cL_law 0 = .ok (.new 7, 3) := by decide +kernel
theorem dL_law_3 : decode cL_law 3 = .ok (.dup, 1) := by decide +kernel
theorem dL_law_4 : decode cL_law 4 = .ok (.invokespecial 9, 3) := by decide +kernel
theorem dL_law_7 : decode cL_law 7 = .ok (.astore_n 1, 1) := by decide +kernel
theorem dL_law_8 : decode cL_law 8 = .ok (.new 10, 3) := by decide +kernel
theorem dL_law_11 : decode cL_law 11 = .ok (.dup, 1) := by decide +kernel
theorem dL_law_12 : decode cL_law 12 = .ok (.invokespecial 12, 3) := by decide +kernel
theorem dL_law_15 : decode cL_law 15 = .ok (.astore_n 2, 1) := by decide +kernel
theorem dL_law_16 : decode cL_law 16 = .ok (.iconst 0, 1) := by decide +kernel
theorem dL_law_17 : decode cL_law 17 = .ok (.istore_n 3, 1) := by decide +kernel
theorem dL_law_18 : decode cL_law 18 = .ok (.iload_n 3, 1) := by decide +kernel
theorem dL_law_19 : decode cL_law 19 = .ok (.aload_n 0, 1) := by decide +kernel
theorem dL_law_20 : decode cL_law 20 = .ok (.arraylength, 1) := by decide +kernel
theorem dL_law_21 : decode cL_law 21 = .ok (.iconst 4, 1) := by decide +kernel
theorem dL_law_22 : decode cL_law 22 = .ok (.isub, 1) := by decide +kernel
theorem dL_law_23 : decode cL_law 23 = .ok (.if_icmp .gt 922, 3) := by decide +kernel
theorem dL_law_26 : decode cL_law 26 = .ok (.aload_n 0, 1) := by decide +kernel
theorem dL_law_27 : decode cL_law 27 = .ok (.iload_n 3, 1) := by decide +kernel
theorem dL_law_28 : decode cL_law 28 = .ok (.iaload, 1) := by decide +kernel
theorem dL_law_29 : decode cL_law 29 = .ok (.bipush 31, 2) := by decide +kernel
theorem dL_law_31 : decode cL_law 31 = .ok (.iand, 1) := by decide +kernel
theorem dL_law_32 : decode cL_law 32 = .ok (.tableswitch 907 0 29 #[136, 169, 212, 225, 248, 271, 304, 347, 380, 403, 426, 439, 462, 485, 518, 531, 554, 597, 620, 653, 676, 699, 722, 755, 788, 821, 844, 857, 870, 893], 136) := by decide +kernel
theorem dL_law_168 : decode cL_law 168 = .ok (.aload_n 1, 1) := by decide +kernel
theorem dL_law_169 : decode cL_law 169 = .ok (.aload_n 0, 1) := by decide +kernel
theorem dL_law_170 : decode cL_law 170 = .ok (.iload_n 3, 1) := by decide +kernel
theorem dL_law_171 : decode cL_law 171 = .ok (.iconst 1, 1) := by decide +kernel
theorem dL_law_172 : decode cL_law 172 = .ok (.iadd, 1) := by decide +kernel
theorem dL_law_173 : decode cL_law 173 = .ok (.iaload, 1) := by decide +kernel
theorem dL_law_174 : decode cL_law 174 = .ok (.aload_n 0, 1) := by decide +kernel
theorem dL_law_175 : decode cL_law 175 = .ok (.iload_n 3, 1) := by decide +kernel
theorem dL_law_176 : decode cL_law 176 = .ok (.iconst 2, 1) := by decide +kernel
theorem dL_law_177 : decode cL_law 177 = .ok (.iadd, 1) := by decide +kernel
theorem dL_law_178 : decode cL_law 178 = .ok (.iaload, 1) := by decide +kernel
theorem dL_law_179 : decode cL_law 179 = .ok (.invokevirtual 13, 3) := by decide +kernel
theorem dL_law_182 : decode cL_law 182 = .ok (.aload_n 2, 1) := by decide +kernel
theorem dL_law_183 : decode cL_law 183 = .ok (.aload_n 0, 1) := by decide +kernel
theorem dL_law_184 : decode cL_law 184 = .ok (.iload_n 3, 1) := by decide +kernel
theorem dL_law_185 : decode cL_law 185 = .ok (.iconst 1, 1) := by decide +kernel
theorem dL_law_186 : decode cL_law 186 = .ok (.iadd, 1) := by decide +kernel
theorem dL_law_187 : decode cL_law 187 = .ok (.iaload, 1) := by decide +kernel
theorem dL_law_188 : decode cL_law 188 = .ok (.aload_n 0, 1) := by decide +kernel
theorem dL_law_189 : decode cL_law 189 = .ok (.iload_n 3, 1) := by decide +kernel
theorem dL_law_190 : decode cL_law 190 = .ok (.iconst 2, 1) := by decide +kernel
theorem dL_law_191 : decode cL_law 191 = .ok (.iadd, 1) := by decide +kernel
theorem dL_law_192 : decode cL_law 192 = .ok (.iaload, 1) := by decide +kernel
theorem dL_law_193 : decode cL_law 193 = .ok (.invokevirtual 17, 3) := by decide +kernel
theorem dL_law_196 : decode cL_law 196 = .ok (.if_icmp .eq 743, 3) := by decide +kernel
theorem dL_law_199 : decode cL_law 199 = .ok (.iconst 0, 1) := by decide +kernel
theorem dL_law_200 : decode cL_law 200 = .ok (.ireturn, 1) := by decide +kernel
theorem dL_law_201 : decode cL_law 201 = .ok (.aload_n 1, 1) := by decide +kernel
theorem dL_law_202 : decode cL_law 202 = .ok (.aload_n 0, 1) := by decide +kernel
theorem dL_law_203 : decode cL_law 203 = .ok (.iload_n 3, 1) := by decide +kernel
theorem dL_law_204 : decode cL_law 204 = .ok (.iconst 1, 1) := by decide +kernel
theorem dL_law_205 : decode cL_law 205 = .ok (.iadd, 1) := by decide +kernel
theorem dL_law_206 : decode cL_law 206 = .ok (.iaload, 1) := by decide +kernel
theorem dL_law_207 : decode cL_law 207 = .ok (.aload_n 0, 1) := by decide +kernel
theorem dL_law_208 : decode cL_law 208 = .ok (.iload_n 3, 1) := by decide +kernel
theorem dL_law_209 : decode cL_law 209 = .ok (.iconst 2, 1) := by decide +kernel
theorem dL_law_210 : decode cL_law 210 = .ok (.iadd, 1) := by decide +kernel
theorem dL_law_211 : decode cL_law 211 = .ok (.iaload, 1) := by decide +kernel
theorem dL_law_212 : decode cL_law 212 = .ok (.aload_n 0, 1) := by decide +kernel
theorem dL_law_213 : decode cL_law 213 = .ok (.iload_n 3, 1) := by decide +kernel
theorem dL_law_214 : decode cL_law 214 = .ok (.iconst 3, 1) := by decide +kernel
theorem dL_law_215 : decode cL_law 215 = .ok (.iadd, 1) := by decide +kernel
theorem dL_law_216 : decode cL_law 216 = .ok (.iaload, 1) := by decide +kernel
theorem dL_law_217 : decode cL_law 217 = .ok (.invokevirtual 18, 3) := by decide +kernel
theorem dL_law_220 : decode cL_law 220 = .ok (.aload_n 2, 1) := by decide +kernel
theorem dL_law_221 : decode cL_law 221 = .ok (.aload_n 0, 1) := by decide +kernel
theorem dL_law_222 : decode cL_law 222 = .ok (.iload_n 3, 1) := by decide +kernel
theorem dL_law_223 : decode cL_law 223 = .ok (.iconst 1, 1) := by decide +kernel
theorem dL_law_224 : decode cL_law 224 = .ok (.iadd, 1) := by decide +kernel
theorem dL_law_225 : decode cL_law 225 = .ok (.iaload, 1) := by decide +kernel
theorem dL_law_226 : decode cL_law 226 = .ok (.aload_n 0, 1) := by decide +kernel
theorem dL_law_227 : decode cL_law 227 = .ok (.iload_n 3, 1) := by decide +kernel
theorem dL_law_228 : decode cL_law 228 = .ok (.iconst 2, 1) := by decide +kernel
theorem dL_law_229 : decode cL_law 229 = .ok (.iadd, 1) := by decide +kernel
theorem dL_law_230 : decode cL_law 230 = .ok (.iaload, 1) := by decide +kernel
theorem dL_law_231 : decode cL_law 231 = .ok (.aload_n 0, 1) := by decide +kernel
theorem dL_law_232 : decode cL_law 232 = .ok (.iload_n 3, 1) := by decide +kernel
theorem dL_law_233 : decode cL_law 233 = .ok (.iconst 3, 1) := by decide +kernel
theorem dL_law_234 : decode cL_law 234 = .ok (.iadd, 1) := by decide +kernel
theorem dL_law_235 : decode cL_law 235 = .ok (.iaload, 1) := by decide +kernel
theorem dL_law_236 : decode cL_law 236 = .ok (.invokevirtual 22, 3) := by decide +kernel
theorem dL_law_239 : decode cL_law 239 = .ok (.if_icmp .eq 700, 3) := by decide +kernel
theorem dL_law_242 : decode cL_law 242 = .ok (.iconst 0, 1) := by decide +kernel
theorem dL_law_243 : decode cL_law 243 = .ok (.ireturn, 1) := by decide +kernel
theorem dL_law_244 : decode cL_law 244 = .ok (.aload_n 1, 1) := by decide +kernel
theorem dL_law_245 : decode cL_law 245 = .ok (.invokevirtual 23, 3) := by decide +kernel
theorem dL_law_248 : decode cL_law 248 = .ok (.aload_n 2, 1) := by decide +kernel
theorem dL_law_249 : decode cL_law 249 = .ok (.invokevirtual 27, 3) := by decide +kernel
theorem dL_law_252 : decode cL_law 252 = .ok (.if_icmp .eq 687, 3) := by decide +kernel
theorem dL_law_255 : decode cL_law 255 = .ok (.iconst 0, 1) := by decide +kernel
theorem dL_law_256 : decode cL_law 256 = .ok (.ireturn, 1) := by decide +kernel
theorem dL_law_257 : decode cL_law 257 = .ok (.aload_n 1, 1) := by decide +kernel
theorem dL_law_258 : decode cL_law 258 = .ok (.aload_n 0, 1) := by decide +kernel
theorem dL_law_259 : decode cL_law 259 = .ok (.iload_n 3, 1) := by decide +kernel
theorem dL_law_260 : decode cL_law 260 = .ok (.iconst 1, 1) := by decide +kernel
theorem dL_law_261 : decode cL_law 261 = .ok (.iadd, 1) := by decide +kernel
theorem dL_law_262 : decode cL_law 262 = .ok (.iaload, 1) := by decide +kernel
theorem dL_law_263 : decode cL_law 263 = .ok (.invokevirtual 28, 3) := by decide +kernel
theorem dL_law_266 : decode cL_law 266 = .ok (.aload_n 2, 1) := by decide +kernel
theorem dL_law_267 : decode cL_law 267 = .ok (.aload_n 0, 1) := by decide +kernel
theorem dL_law_268 : decode cL_law 268 = .ok (.iload_n 3, 1) := by decide +kernel
theorem dL_law_269 : decode cL_law 269 = .ok (.iconst 1, 1) := by decide +kernel
theorem dL_law_270 : decode cL_law 270 = .ok (.iadd, 1) := by decide +kernel
theorem dL_law_271 : decode cL_law 271 = .ok (.iaload, 1) := by decide +kernel
theorem dL_law_272 : decode cL_law 272 = .ok (.invokevirtual 32, 3) := by decide +kernel
theorem dL_law_275 : decode cL_law 275 = .ok (.if_icmp .eq 664, 3) := by decide +kernel
theorem dL_law_278 : decode cL_law 278 = .ok (.iconst 0, 1) := by decide +kernel
theorem dL_law_279 : decode cL_law 279 = .ok (.ireturn, 1) := by decide +kernel
theorem dL_law_280 : decode cL_law 280 = .ok (.aload_n 1, 1) := by decide +kernel
theorem dL_law_281 : decode cL_law 281 = .ok (.aload_n 0, 1) := by decide +kernel
theorem dL_law_282 : decode cL_law 282 = .ok (.iload_n 3, 1) := by decide +kernel
theorem dL_law_283 : decode cL_law 283 = .ok (.iconst 1, 1) := by decide +kernel
theorem dL_law_284 : decode cL_law 284 = .ok (.iadd, 1) := by decide +kernel
theorem dL_law_285 : decode cL_law 285 = .ok (.iaload, 1) := by decide +kernel
theorem dL_law_286 : decode cL_law 286 = .ok (.invokevirtual 33, 3) := by decide +kernel
theorem dL_law_289 : decode cL_law 289 = .ok (.aload_n 2, 1) := by decide +kernel
theorem dL_law_290 : decode cL_law 290 = .ok (.aload_n 0, 1) := by decide +kernel
theorem dL_law_291 : decode cL_law 291 = .ok (.iload_n 3, 1) := by decide +kernel
theorem dL_law_292 : decode cL_law 292 = .ok (.iconst 1, 1) := by decide +kernel
theorem dL_law_293 : decode cL_law 293 = .ok (.iadd, 1) := by decide +kernel
theorem dL_law_294 : decode cL_law 294 = .ok (.iaload, 1) := by decide +kernel
theorem dL_law_295 : decode cL_law 295 = .ok (.invokevirtual 36, 3) := by decide +kernel
theorem dL_law_298 : decode cL_law 298 = .ok (.if_icmp .eq 641, 3) := by decide +kernel
theorem dL_law_301 : decode cL_law 301 = .ok (.iconst 0, 1) := by decide +kernel
theorem dL_law_302 : decode cL_law 302 = .ok (.ireturn, 1) := by decide +kernel
theorem dL_law_303 : decode cL_law 303 = .ok (.aload_n 1, 1) := by decide +kernel
theorem dL_law_304 : decode cL_law 304 = .ok (.aload_n 0, 1) := by decide +kernel
theorem dL_law_305 : decode cL_law 305 = .ok (.iload_n 3, 1) := by decide +kernel
theorem dL_law_306 : decode cL_law 306 = .ok (.iconst 1, 1) := by decide +kernel
theorem dL_law_307 : decode cL_law 307 = .ok (.iadd, 1) := by decide +kernel
theorem dL_law_308 : decode cL_law 308 = .ok (.iaload, 1) := by decide +kernel
theorem dL_law_309 : decode cL_law 309 = .ok (.aload_n 0, 1) := by decide +kernel
theorem dL_law_310 : decode cL_law 310 = .ok (.iload_n 3, 1) := by decide +kernel
theorem dL_law_311 : decode cL_law 311 = .ok (.iconst 2, 1) := by decide +kernel
theorem dL_law_312 : decode cL_law 312 = .ok (.iadd, 1) := by decide +kernel
theorem dL_law_313 : decode cL_law 313 = .ok (.iaload, 1) := by decide +kernel
theorem dL_law_314 : decode cL_law 314 = .ok (.invokevirtual 37, 3) := by decide +kernel
theorem dL_law_317 : decode cL_law 317 = .ok (.aload_n 2, 1) := by decide +kernel
theorem dL_law_318 : decode cL_law 318 = .ok (.aload_n 0, 1) := by decide +kernel
theorem dL_law_319 : decode cL_law 319 = .ok (.iload_n 3, 1) := by decide +kernel
theorem dL_law_320 : decode cL_law 320 = .ok (.iconst 1, 1) := by decide +kernel
theorem dL_law_321 : decode cL_law 321 = .ok (.iadd, 1) := by decide +kernel
theorem dL_law_322 : decode cL_law 322 = .ok (.iaload, 1) := by decide +kernel
theorem dL_law_323 : decode cL_law 323 = .ok (.aload_n 0, 1) := by decide +kernel
theorem dL_law_324 : decode cL_law 324 = .ok (.iload_n 3, 1) := by decide +kernel
theorem dL_law_325 : decode cL_law 325 = .ok (.iconst 2, 1) := by decide +kernel
theorem dL_law_326 : decode cL_law 326 = .ok (.iadd, 1) := by decide +kernel
theorem dL_law_327 : decode cL_law 327 = .ok (.iaload, 1) := by decide +kernel
theorem dL_law_328 : decode cL_law 328 = .ok (.invokevirtual 40, 3) := by decide +kernel
theorem dL_law_331 : decode cL_law 331 = .ok (.if_icmp .eq 608, 3) := by decide +kernel
theorem dL_law_334 : decode cL_law 334 = .ok (.iconst 0, 1) := by decide +kernel
theorem dL_law_335 : decode cL_law 335 = .ok (.ireturn, 1) := by decide +kernel
theorem dL_law_336 : decode cL_law 336 = .ok (.aload_n 1, 1) := by decide +kernel
theorem dL_law_337 : decode cL_law 337 = .ok (.aload_n 0, 1) := by decide +kernel
theorem dL_law_338 : decode cL_law 338 = .ok (.iload_n 3, 1) := by decide +kernel
theorem dL_law_339 : decode cL_law 339 = .ok (.iconst 1, 1) := by decide +kernel
theorem dL_law_340 : decode cL_law 340 = .ok (.iadd, 1) := by decide +kernel
theorem dL_law_341 : decode cL_law 341 = .ok (.iaload, 1) := by decide +kernel
theorem dL_law_342 : decode cL_law 342 = .ok (.aload_n 0, 1) := by decide +kernel
theorem dL_law_343 : decode cL_law 343 = .ok (.iload_n 3, 1) := by decide +kernel
theorem dL_law_344 : decode cL_law 344 = .ok (.iconst 2, 1) := by decide +kernel
theorem dL_law_345 : decode cL_law 345 = .ok (.iadd, 1) := by decide +kernel
theorem dL_law_346 : decode cL_law 346 = .ok (.iaload, 1) := by decide +kernel
theorem dL_law_347 : decode cL_law 347 = .ok (.aload_n 0, 1) := by decide +kernel
theorem dL_law_348 : decode cL_law 348 = .ok (.iload_n 3, 1) := by decide +kernel
theorem dL_law_349 : decode cL_law 349 = .ok (.iconst 3, 1) := by decide +kernel
theorem dL_law_350 : decode cL_law 350 = .ok (.iadd, 1) := by decide +kernel
theorem dL_law_351 : decode cL_law 351 = .ok (.iaload, 1) := by decide +kernel
theorem dL_law_352 : decode cL_law 352 = .ok (.invokevirtual 41, 3) := by decide +kernel
theorem dL_law_355 : decode cL_law 355 = .ok (.aload_n 2, 1) := by decide +kernel
theorem dL_law_356 : decode cL_law 356 = .ok (.aload_n 0, 1) := by decide +kernel
theorem dL_law_357 : decode cL_law 357 = .ok (.iload_n 3, 1) := by decide +kernel
theorem dL_law_358 : decode cL_law 358 = .ok (.iconst 1, 1) := by decide +kernel
theorem dL_law_359 : decode cL_law 359 = .ok (.iadd, 1) := by decide +kernel
theorem dL_law_360 : decode cL_law 360 = .ok (.iaload, 1) := by decide +kernel
theorem dL_law_361 : decode cL_law 361 = .ok (.aload_n 0, 1) := by decide +kernel
theorem dL_law_362 : decode cL_law 362 = .ok (.iload_n 3, 1) := by decide +kernel
theorem dL_law_363 : decode cL_law 363 = .ok (.iconst 2, 1) := by decide +kernel
theorem dL_law_364 : decode cL_law 364 = .ok (.iadd, 1) := by decide +kernel
theorem dL_law_365 : decode cL_law 365 = .ok (.iaload, 1) := by decide +kernel
theorem dL_law_366 : decode cL_law 366 = .ok (.aload_n 0, 1) := by decide +kernel
theorem dL_law_367 : decode cL_law 367 = .ok (.iload_n 3, 1) := by decide +kernel
theorem dL_law_368 : decode cL_law 368 = .ok (.iconst 3, 1) := by decide +kernel
theorem dL_law_369 : decode cL_law 369 = .ok (.iadd, 1) := by decide +kernel
theorem dL_law_370 : decode cL_law 370 = .ok (.iaload, 1) := by decide +kernel
theorem dL_law_371 : decode cL_law 371 = .ok (.invokevirtual 44, 3) := by decide +kernel
theorem dL_law_374 : decode cL_law 374 = .ok (.if_icmp .eq 565, 3) := by decide +kernel
theorem dL_law_377 : decode cL_law 377 = .ok (.iconst 0, 1) := by decide +kernel
theorem dL_law_378 : decode cL_law 378 = .ok (.ireturn, 1) := by decide +kernel
theorem dL_law_379 : decode cL_law 379 = .ok (.aload_n 1, 1) := by decide +kernel
theorem dL_law_380 : decode cL_law 380 = .ok (.aload_n 0, 1) := by decide +kernel
theorem dL_law_381 : decode cL_law 381 = .ok (.iload_n 3, 1) := by decide +kernel
theorem dL_law_382 : decode cL_law 382 = .ok (.iconst 1, 1) := by decide +kernel
theorem dL_law_383 : decode cL_law 383 = .ok (.iadd, 1) := by decide +kernel
theorem dL_law_384 : decode cL_law 384 = .ok (.iaload, 1) := by decide +kernel
theorem dL_law_385 : decode cL_law 385 = .ok (.aload_n 0, 1) := by decide +kernel
theorem dL_law_386 : decode cL_law 386 = .ok (.iload_n 3, 1) := by decide +kernel
theorem dL_law_387 : decode cL_law 387 = .ok (.iconst 2, 1) := by decide +kernel
theorem dL_law_388 : decode cL_law 388 = .ok (.iadd, 1) := by decide +kernel
theorem dL_law_389 : decode cL_law 389 = .ok (.iaload, 1) := by decide +kernel
theorem dL_law_390 : decode cL_law 390 = .ok (.invokevirtual 45, 3) := by decide +kernel
theorem dL_law_393 : decode cL_law 393 = .ok (.aload_n 2, 1) := by decide +kernel
theorem dL_law_394 : decode cL_law 394 = .ok (.aload_n 0, 1) := by decide +kernel
theorem dL_law_395 : decode cL_law 395 = .ok (.iload_n 3, 1) := by decide +kernel
theorem dL_law_396 : decode cL_law 396 = .ok (.iconst 1, 1) := by decide +kernel
theorem dL_law_397 : decode cL_law 397 = .ok (.iadd, 1) := by decide +kernel
theorem dL_law_398 : decode cL_law 398 = .ok (.iaload, 1) := by decide +kernel
theorem dL_law_399 : decode cL_law 399 = .ok (.aload_n 0, 1) := by decide +kernel
theorem dL_law_400 : decode cL_law 400 = .ok (.iload_n 3, 1) := by decide +kernel
theorem dL_law_401 : decode cL_law 401 = .ok (.iconst 2, 1) := by decide +kernel
theorem dL_law_402 : decode cL_law 402 = .ok (.iadd, 1) := by decide +kernel
theorem dL_law_403 : decode cL_law 403 = .ok (.iaload, 1) := by decide +kernel
theorem dL_law_404 : decode cL_law 404 = .ok (.invokevirtual 48, 3) := by decide +kernel
theorem dL_law_407 : decode cL_law 407 = .ok (.if_icmp .eq 532, 3) := by decide +kernel
theorem dL_law_410 : decode cL_law 410 = .ok (.iconst 0, 1) := by decide +kernel
theorem dL_law_411 : decode cL_law 411 = .ok (.ireturn, 1) := by decide +kernel
theorem dL_law_412 : decode cL_law 412 = .ok (.aload_n 1, 1) := by decide +kernel
theorem dL_law_413 : decode cL_law 413 = .ok (.aload_n 0, 1) := by decide +kernel
theorem dL_law_414 : decode cL_law 414 = .ok (.iload_n 3, 1) := by decide +kernel
theorem dL_law_415 : decode cL_law 415 = .ok (.iconst 1, 1) := by decide +kernel
theorem dL_law_416 : decode cL_law 416 = .ok (.iadd, 1) := by decide +kernel
theorem dL_law_417 : decode cL_law 417 = .ok (.iaload, 1) := by decide +kernel
theorem dL_law_418 : decode cL_law 418 = .ok (.invokevirtual 49, 3) := by decide +kernel
theorem dL_law_421 : decode cL_law 421 = .ok (.aload_n 2, 1) := by decide +kernel
theorem dL_law_422 : decode cL_law 422 = .ok (.aload_n 0, 1) := by decide +kernel
theorem dL_law_423 : decode cL_law 423 = .ok (.iload_n 3, 1) := by decide +kernel
theorem dL_law_424 : decode cL_law 424 = .ok (.iconst 1, 1) := by decide +kernel
theorem dL_law_425 : decode cL_law 425 = .ok (.iadd, 1) := by decide +kernel
theorem dL_law_426 : decode cL_law 426 = .ok (.iaload, 1) := by decide +kernel
theorem dL_law_427 : decode cL_law 427 = .ok (.invokevirtual 52, 3) := by decide +kernel
theorem dL_law_430 : decode cL_law 430 = .ok (.if_icmp .eq 509, 3) := by decide +kernel
theorem dL_law_433 : decode cL_law 433 = .ok (.iconst 0, 1) := by decide +kernel
theorem dL_law_434 : decode cL_law 434 = .ok (.ireturn, 1) := by decide +kernel
theorem dL_law_435 : decode cL_law 435 = .ok (.aload_n 1, 1) := by decide +kernel
theorem dL_law_436 : decode cL_law 436 = .ok (.aload_n 0, 1) := by decide +kernel
theorem dL_law_437 : decode cL_law 437 = .ok (.iload_n 3, 1) := by decide +kernel
theorem dL_law_438 : decode cL_law 438 = .ok (.iconst 1, 1) := by decide +kernel
theorem dL_law_439 : decode cL_law 439 = .ok (.iadd, 1) := by decide +kernel
theorem dL_law_440 : decode cL_law 440 = .ok (.iaload, 1) := by decide +kernel
theorem dL_law_441 : decode cL_law 441 = .ok (.invokevirtual 53, 3) := by decide +kernel
theorem dL_law_444 : decode cL_law 444 = .ok (.aload_n 2, 1) := by decide +kernel
theorem dL_law_445 : decode cL_law 445 = .ok (.aload_n 0, 1) := by decide +kernel
theorem dL_law_446 : decode cL_law 446 = .ok (.iload_n 3, 1) := by decide +kernel
theorem dL_law_447 : decode cL_law 447 = .ok (.iconst 1, 1) := by decide +kernel
theorem dL_law_448 : decode cL_law 448 = .ok (.iadd, 1) := by decide +kernel
theorem dL_law_449 : decode cL_law 449 = .ok (.iaload, 1) := by decide +kernel
theorem dL_law_450 : decode cL_law 450 = .ok (.invokevirtual 56, 3) := by decide +kernel
theorem dL_law_453 : decode cL_law 453 = .ok (.if_icmp .eq 486, 3) := by decide +kernel
theorem dL_law_456 : decode cL_law 456 = .ok (.iconst 0, 1) := by decide +kernel
theorem dL_law_457 : decode cL_law 457 = .ok (.ireturn, 1) := by decide +kernel
theorem dL_law_458 : decode cL_law 458 = .ok (.aload_n 1, 1) := by decide +kernel
theorem dL_law_459 : decode cL_law 459 = .ok (.invokevirtual 57, 3) := by decide +kernel
theorem dL_law_462 : decode cL_law 462 = .ok (.aload_n 2, 1) := by decide +kernel
theorem dL_law_463 : decode cL_law 463 = .ok (.invokevirtual 60, 3) := by decide +kernel
theorem dL_law_466 : decode cL_law 466 = .ok (.if_icmp .eq 473, 3) := by decide +kernel
theorem dL_law_469 : decode cL_law 469 = .ok (.iconst 0, 1) := by decide +kernel
theorem dL_law_470 : decode cL_law 470 = .ok (.ireturn, 1) := by decide +kernel
theorem dL_law_471 : decode cL_law 471 = .ok (.aload_n 1, 1) := by decide +kernel
theorem dL_law_472 : decode cL_law 472 = .ok (.aload_n 0, 1) := by decide +kernel
theorem dL_law_473 : decode cL_law 473 = .ok (.iload_n 3, 1) := by decide +kernel
theorem dL_law_474 : decode cL_law 474 = .ok (.iconst 1, 1) := by decide +kernel
theorem dL_law_475 : decode cL_law 475 = .ok (.iadd, 1) := by decide +kernel
theorem dL_law_476 : decode cL_law 476 = .ok (.iaload, 1) := by decide +kernel
theorem dL_law_477 : decode cL_law 477 = .ok (.invokevirtual 61, 3) := by decide +kernel
theorem dL_law_480 : decode cL_law 480 = .ok (.aload_n 2, 1) := by decide +kernel
theorem dL_law_481 : decode cL_law 481 = .ok (.aload_n 0, 1) := by decide +kernel
theorem dL_law_482 : decode cL_law 482 = .ok (.iload_n 3, 1) := by decide +kernel
theorem dL_law_483 : decode cL_law 483 = .ok (.iconst 1, 1) := by decide +kernel
theorem dL_law_484 : decode cL_law 484 = .ok (.iadd, 1) := by decide +kernel
theorem dL_law_485 : decode cL_law 485 = .ok (.iaload, 1) := by decide +kernel
theorem dL_law_486 : decode cL_law 486 = .ok (.invokevirtual 64, 3) := by decide +kernel
theorem dL_law_489 : decode cL_law 489 = .ok (.if_icmp .eq 450, 3) := by decide +kernel
theorem dL_law_492 : decode cL_law 492 = .ok (.iconst 0, 1) := by decide +kernel
theorem dL_law_493 : decode cL_law 493 = .ok (.ireturn, 1) := by decide +kernel
theorem dL_law_494 : decode cL_law 494 = .ok (.aload_n 1, 1) := by decide +kernel
theorem dL_law_495 : decode cL_law 495 = .ok (.aload_n 0, 1) := by decide +kernel
theorem dL_law_496 : decode cL_law 496 = .ok (.iload_n 3, 1) := by decide +kernel
theorem dL_law_497 : decode cL_law 497 = .ok (.iconst 1, 1) := by decide +kernel
theorem dL_law_498 : decode cL_law 498 = .ok (.iadd, 1) := by decide +kernel
theorem dL_law_499 : decode cL_law 499 = .ok (.iaload, 1) := by decide +kernel
theorem dL_law_500 : decode cL_law 500 = .ok (.invokevirtual 65, 3) := by decide +kernel
theorem dL_law_503 : decode cL_law 503 = .ok (.aload_n 2, 1) := by decide +kernel
theorem dL_law_504 : decode cL_law 504 = .ok (.aload_n 0, 1) := by decide +kernel
theorem dL_law_505 : decode cL_law 505 = .ok (.iload_n 3, 1) := by decide +kernel
theorem dL_law_506 : decode cL_law 506 = .ok (.iconst 1, 1) := by decide +kernel
theorem dL_law_507 : decode cL_law 507 = .ok (.iadd, 1) := by decide +kernel
theorem dL_law_508 : decode cL_law 508 = .ok (.iaload, 1) := by decide +kernel
theorem dL_law_509 : decode cL_law 509 = .ok (.invokevirtual 68, 3) := by decide +kernel
theorem dL_law_512 : decode cL_law 512 = .ok (.if_icmp .eq 427, 3) := by decide +kernel
theorem dL_law_515 : decode cL_law 515 = .ok (.iconst 0, 1) := by decide +kernel
theorem dL_law_516 : decode cL_law 516 = .ok (.ireturn, 1) := by decide +kernel
theorem dL_law_517 : decode cL_law 517 = .ok (.aload_n 1, 1) := by decide +kernel
theorem dL_law_518 : decode cL_law 518 = .ok (.aload_n 0, 1) := by decide +kernel
theorem dL_law_519 : decode cL_law 519 = .ok (.iload_n 3, 1) := by decide +kernel
theorem dL_law_520 : decode cL_law 520 = .ok (.iconst 1, 1) := by decide +kernel
theorem dL_law_521 : decode cL_law 521 = .ok (.iadd, 1) := by decide +kernel
theorem dL_law_522 : decode cL_law 522 = .ok (.iaload, 1) := by decide +kernel
theorem dL_law_523 : decode cL_law 523 = .ok (.aload_n 0, 1) := by decide +kernel
theorem dL_law_524 : decode cL_law 524 = .ok (.iload_n 3, 1) := by decide +kernel
theorem dL_law_525 : decode cL_law 525 = .ok (.iconst 2, 1) := by decide +kernel
theorem dL_law_526 : decode cL_law 526 = .ok (.iadd, 1) := by decide +kernel
theorem dL_law_527 : decode cL_law 527 = .ok (.iaload, 1) := by decide +kernel
theorem dL_law_528 : decode cL_law 528 = .ok (.invokevirtual 69, 3) := by decide +kernel
theorem dL_law_531 : decode cL_law 531 = .ok (.aload_n 2, 1) := by decide +kernel
theorem dL_law_532 : decode cL_law 532 = .ok (.aload_n 0, 1) := by decide +kernel
theorem dL_law_533 : decode cL_law 533 = .ok (.iload_n 3, 1) := by decide +kernel
theorem dL_law_534 : decode cL_law 534 = .ok (.iconst 1, 1) := by decide +kernel
theorem dL_law_535 : decode cL_law 535 = .ok (.iadd, 1) := by decide +kernel
theorem dL_law_536 : decode cL_law 536 = .ok (.iaload, 1) := by decide +kernel
theorem dL_law_537 : decode cL_law 537 = .ok (.aload_n 0, 1) := by decide +kernel
theorem dL_law_538 : decode cL_law 538 = .ok (.iload_n 3, 1) := by decide +kernel
theorem dL_law_539 : decode cL_law 539 = .ok (.iconst 2, 1) := by decide +kernel
theorem dL_law_540 : decode cL_law 540 = .ok (.iadd, 1) := by decide +kernel
theorem dL_law_541 : decode cL_law 541 = .ok (.iaload, 1) := by decide +kernel
theorem dL_law_542 : decode cL_law 542 = .ok (.invokevirtual 72, 3) := by decide +kernel
theorem dL_law_545 : decode cL_law 545 = .ok (.if_icmp .eq 394, 3) := by decide +kernel
theorem dL_law_548 : decode cL_law 548 = .ok (.iconst 0, 1) := by decide +kernel
theorem dL_law_549 : decode cL_law 549 = .ok (.ireturn, 1) := by decide +kernel
theorem dL_law_550 : decode cL_law 550 = .ok (.aload_n 1, 1) := by decide +kernel
theorem dL_law_551 : decode cL_law 551 = .ok (.invokevirtual 73, 3) := by decide +kernel
theorem dL_law_554 : decode cL_law 554 = .ok (.aload_n 2, 1) := by decide +kernel
theorem dL_law_555 : decode cL_law 555 = .ok (.invokevirtual 76, 3) := by decide +kernel
theorem dL_law_558 : decode cL_law 558 = .ok (.if_icmp .eq 381, 3) := by decide +kernel
theorem dL_law_561 : decode cL_law 561 = .ok (.iconst 0, 1) := by decide +kernel
theorem dL_law_562 : decode cL_law 562 = .ok (.ireturn, 1) := by decide +kernel
theorem dL_law_563 : decode cL_law 563 = .ok (.aload_n 1, 1) := by decide +kernel
theorem dL_law_564 : decode cL_law 564 = .ok (.aload_n 0, 1) := by decide +kernel
theorem dL_law_565 : decode cL_law 565 = .ok (.iload_n 3, 1) := by decide +kernel
theorem dL_law_566 : decode cL_law 566 = .ok (.iconst 1, 1) := by decide +kernel
theorem dL_law_567 : decode cL_law 567 = .ok (.iadd, 1) := by decide +kernel
theorem dL_law_568 : decode cL_law 568 = .ok (.iaload, 1) := by decide +kernel
theorem dL_law_569 : decode cL_law 569 = .ok (.invokevirtual 77, 3) := by decide +kernel
theorem dL_law_572 : decode cL_law 572 = .ok (.aload_n 2, 1) := by decide +kernel
theorem dL_law_573 : decode cL_law 573 = .ok (.aload_n 0, 1) := by decide +kernel
theorem dL_law_574 : decode cL_law 574 = .ok (.iload_n 3, 1) := by decide +kernel
theorem dL_law_575 : decode cL_law 575 = .ok (.iconst 1, 1) := by decide +kernel
theorem dL_law_576 : decode cL_law 576 = .ok (.iadd, 1) := by decide +kernel
theorem dL_law_577 : decode cL_law 577 = .ok (.iaload, 1) := by decide +kernel
theorem dL_law_578 : decode cL_law 578 = .ok (.invokevirtual 80, 3) := by decide +kernel
theorem dL_law_581 : decode cL_law 581 = .ok (.if_icmp .eq 358, 3) := by decide +kernel
theorem dL_law_584 : decode cL_law 584 = .ok (.iconst 0, 1) := by decide +kernel
theorem dL_law_585 : decode cL_law 585 = .ok (.ireturn, 1) := by decide +kernel
theorem dL_law_586 : decode cL_law 586 = .ok (.aload_n 1, 1) := by decide +kernel
theorem dL_law_587 : decode cL_law 587 = .ok (.aload_n 0, 1) := by decide +kernel
theorem dL_law_588 : decode cL_law 588 = .ok (.iload_n 3, 1) := by decide +kernel
theorem dL_law_589 : decode cL_law 589 = .ok (.iconst 1, 1) := by decide +kernel
theorem dL_law_590 : decode cL_law 590 = .ok (.iadd, 1) := by decide +kernel
theorem dL_law_591 : decode cL_law 591 = .ok (.iaload, 1) := by decide +kernel
theorem dL_law_592 : decode cL_law 592 = .ok (.aload_n 0, 1) := by decide +kernel
theorem dL_law_593 : decode cL_law 593 = .ok (.iload_n 3, 1) := by decide +kernel
theorem dL_law_594 : decode cL_law 594 = .ok (.iconst 2, 1) := by decide +kernel
theorem dL_law_595 : decode cL_law 595 = .ok (.iadd, 1) := by decide +kernel
theorem dL_law_596 : decode cL_law 596 = .ok (.iaload, 1) := by decide +kernel
theorem dL_law_597 : decode cL_law 597 = .ok (.aload_n 0, 1) := by decide +kernel
theorem dL_law_598 : decode cL_law 598 = .ok (.iload_n 3, 1) := by decide +kernel
theorem dL_law_599 : decode cL_law 599 = .ok (.iconst 3, 1) := by decide +kernel
theorem dL_law_600 : decode cL_law 600 = .ok (.iadd, 1) := by decide +kernel
theorem dL_law_601 : decode cL_law 601 = .ok (.iaload, 1) := by decide +kernel
theorem dL_law_602 : decode cL_law 602 = .ok (.invokevirtual 81, 3) := by decide +kernel
theorem dL_law_605 : decode cL_law 605 = .ok (.aload_n 2, 1) := by decide +kernel
theorem dL_law_606 : decode cL_law 606 = .ok (.aload_n 0, 1) := by decide +kernel
theorem dL_law_607 : decode cL_law 607 = .ok (.iload_n 3, 1) := by decide +kernel
theorem dL_law_608 : decode cL_law 608 = .ok (.iconst 1, 1) := by decide +kernel
theorem dL_law_609 : decode cL_law 609 = .ok (.iadd, 1) := by decide +kernel
theorem dL_law_610 : decode cL_law 610 = .ok (.iaload, 1) := by decide +kernel
theorem dL_law_611 : decode cL_law 611 = .ok (.aload_n 0, 1) := by decide +kernel
theorem dL_law_612 : decode cL_law 612 = .ok (.iload_n 3, 1) := by decide +kernel
theorem dL_law_613 : decode cL_law 613 = .ok (.iconst 2, 1) := by decide +kernel
theorem dL_law_614 : decode cL_law 614 = .ok (.iadd, 1) := by decide +kernel
theorem dL_law_615 : decode cL_law 615 = .ok (.iaload, 1) := by decide +kernel
theorem dL_law_616 : decode cL_law 616 = .ok (.aload_n 0, 1) := by decide +kernel
theorem dL_law_617 : decode cL_law 617 = .ok (.iload_n 3, 1) := by decide +kernel
theorem dL_law_618 : decode cL_law 618 = .ok (.iconst 3, 1) := by decide +kernel
theorem dL_law_619 : decode cL_law 619 = .ok (.iadd, 1) := by decide +kernel
theorem dL_law_620 : decode cL_law 620 = .ok (.iaload, 1) := by decide +kernel
theorem dL_law_621 : decode cL_law 621 = .ok (.invokevirtual 84, 3) := by decide +kernel
theorem dL_law_624 : decode cL_law 624 = .ok (.if_icmp .eq 315, 3) := by decide +kernel
theorem dL_law_627 : decode cL_law 627 = .ok (.iconst 0, 1) := by decide +kernel
theorem dL_law_628 : decode cL_law 628 = .ok (.ireturn, 1) := by decide +kernel
theorem dL_law_629 : decode cL_law 629 = .ok (.aload_n 1, 1) := by decide +kernel
theorem dL_law_630 : decode cL_law 630 = .ok (.aload_n 0, 1) := by decide +kernel
theorem dL_law_631 : decode cL_law 631 = .ok (.iload_n 3, 1) := by decide +kernel
theorem dL_law_632 : decode cL_law 632 = .ok (.iconst 1, 1) := by decide +kernel
theorem dL_law_633 : decode cL_law 633 = .ok (.iadd, 1) := by decide +kernel
theorem dL_law_634 : decode cL_law 634 = .ok (.iaload, 1) := by decide +kernel
theorem dL_law_635 : decode cL_law 635 = .ok (.invokevirtual 85, 3) := by decide +kernel
theorem dL_law_638 : decode cL_law 638 = .ok (.aload_n 2, 1) := by decide +kernel
theorem dL_law_639 : decode cL_law 639 = .ok (.aload_n 0, 1) := by decide +kernel
theorem dL_law_640 : decode cL_law 640 = .ok (.iload_n 3, 1) := by decide +kernel
theorem dL_law_641 : decode cL_law 641 = .ok (.iconst 1, 1) := by decide +kernel
theorem dL_law_642 : decode cL_law 642 = .ok (.iadd, 1) := by decide +kernel
theorem dL_law_643 : decode cL_law 643 = .ok (.iaload, 1) := by decide +kernel
theorem dL_law_644 : decode cL_law 644 = .ok (.invokevirtual 88, 3) := by decide +kernel
theorem dL_law_647 : decode cL_law 647 = .ok (.if_icmp .eq 292, 3) := by decide +kernel
theorem dL_law_650 : decode cL_law 650 = .ok (.iconst 0, 1) := by decide +kernel
theorem dL_law_651 : decode cL_law 651 = .ok (.ireturn, 1) := by decide +kernel
theorem dL_law_652 : decode cL_law 652 = .ok (.aload_n 1, 1) := by decide +kernel
theorem dL_law_653 : decode cL_law 653 = .ok (.aload_n 0, 1) := by decide +kernel
theorem dL_law_654 : decode cL_law 654 = .ok (.iload_n 3, 1) := by decide +kernel
theorem dL_law_655 : decode cL_law 655 = .ok (.iconst 1, 1) := by decide +kernel
theorem dL_law_656 : decode cL_law 656 = .ok (.iadd, 1) := by decide +kernel
theorem dL_law_657 : decode cL_law 657 = .ok (.iaload, 1) := by decide +kernel
theorem dL_law_658 : decode cL_law 658 = .ok (.aload_n 0, 1) := by decide +kernel
theorem dL_law_659 : decode cL_law 659 = .ok (.iload_n 3, 1) := by decide +kernel
theorem dL_law_660 : decode cL_law 660 = .ok (.iconst 2, 1) := by decide +kernel
theorem dL_law_661 : decode cL_law 661 = .ok (.iadd, 1) := by decide +kernel
theorem dL_law_662 : decode cL_law 662 = .ok (.iaload, 1) := by decide +kernel
theorem dL_law_663 : decode cL_law 663 = .ok (.invokevirtual 89, 3) := by decide +kernel
theorem dL_law_666 : decode cL_law 666 = .ok (.aload_n 2, 1) := by decide +kernel
theorem dL_law_667 : decode cL_law 667 = .ok (.aload_n 0, 1) := by decide +kernel
theorem dL_law_668 : decode cL_law 668 = .ok (.iload_n 3, 1) := by decide +kernel
theorem dL_law_669 : decode cL_law 669 = .ok (.iconst 1, 1) := by decide +kernel
theorem dL_law_670 : decode cL_law 670 = .ok (.iadd, 1) := by decide +kernel
theorem dL_law_671 : decode cL_law 671 = .ok (.iaload, 1) := by decide +kernel
theorem dL_law_672 : decode cL_law 672 = .ok (.aload_n 0, 1) := by decide +kernel
theorem dL_law_673 : decode cL_law 673 = .ok (.iload_n 3, 1) := by decide +kernel
theorem dL_law_674 : decode cL_law 674 = .ok (.iconst 2, 1) := by decide +kernel
theorem dL_law_675 : decode cL_law 675 = .ok (.iadd, 1) := by decide +kernel
theorem dL_law_676 : decode cL_law 676 = .ok (.iaload, 1) := by decide +kernel
theorem dL_law_677 : decode cL_law 677 = .ok (.invokevirtual 92, 3) := by decide +kernel
theorem dL_law_680 : decode cL_law 680 = .ok (.if_icmp .eq 259, 3) := by decide +kernel
theorem dL_law_683 : decode cL_law 683 = .ok (.iconst 0, 1) := by decide +kernel
theorem dL_law_684 : decode cL_law 684 = .ok (.ireturn, 1) := by decide +kernel
theorem dL_law_685 : decode cL_law 685 = .ok (.aload_n 1, 1) := by decide +kernel
theorem dL_law_686 : decode cL_law 686 = .ok (.aload_n 0, 1) := by decide +kernel
theorem dL_law_687 : decode cL_law 687 = .ok (.iload_n 3, 1) := by decide +kernel
theorem dL_law_688 : decode cL_law 688 = .ok (.iconst 1, 1) := by decide +kernel
theorem dL_law_689 : decode cL_law 689 = .ok (.iadd, 1) := by decide +kernel
theorem dL_law_690 : decode cL_law 690 = .ok (.iaload, 1) := by decide +kernel
theorem dL_law_691 : decode cL_law 691 = .ok (.invokevirtual 93, 3) := by decide +kernel
theorem dL_law_694 : decode cL_law 694 = .ok (.aload_n 2, 1) := by decide +kernel
theorem dL_law_695 : decode cL_law 695 = .ok (.aload_n 0, 1) := by decide +kernel
theorem dL_law_696 : decode cL_law 696 = .ok (.iload_n 3, 1) := by decide +kernel
theorem dL_law_697 : decode cL_law 697 = .ok (.iconst 1, 1) := by decide +kernel
theorem dL_law_698 : decode cL_law 698 = .ok (.iadd, 1) := by decide +kernel
theorem dL_law_699 : decode cL_law 699 = .ok (.iaload, 1) := by decide +kernel
theorem dL_law_700 : decode cL_law 700 = .ok (.invokevirtual 96, 3) := by decide +kernel
theorem dL_law_703 : decode cL_law 703 = .ok (.if_icmp .eq 236, 3) := by decide +kernel
theorem dL_law_706 : decode cL_law 706 = .ok (.iconst 0, 1) := by decide +kernel
theorem dL_law_707 : decode cL_law 707 = .ok (.ireturn, 1) := by decide +kernel
theorem dL_law_708 : decode cL_law 708 = .ok (.aload_n 1, 1) := by decide +kernel
theorem dL_law_709 : decode cL_law 709 = .ok (.aload_n 0, 1) := by decide +kernel
theorem dL_law_710 : decode cL_law 710 = .ok (.iload_n 3, 1) := by decide +kernel
theorem dL_law_711 : decode cL_law 711 = .ok (.iconst 1, 1) := by decide +kernel
theorem dL_law_712 : decode cL_law 712 = .ok (.iadd, 1) := by decide +kernel
theorem dL_law_713 : decode cL_law 713 = .ok (.iaload, 1) := by decide +kernel
theorem dL_law_714 : decode cL_law 714 = .ok (.invokevirtual 97, 3) := by decide +kernel
theorem dL_law_717 : decode cL_law 717 = .ok (.aload_n 2, 1) := by decide +kernel
theorem dL_law_718 : decode cL_law 718 = .ok (.aload_n 0, 1) := by decide +kernel
theorem dL_law_719 : decode cL_law 719 = .ok (.iload_n 3, 1) := by decide +kernel
theorem dL_law_720 : decode cL_law 720 = .ok (.iconst 1, 1) := by decide +kernel
theorem dL_law_721 : decode cL_law 721 = .ok (.iadd, 1) := by decide +kernel
theorem dL_law_722 : decode cL_law 722 = .ok (.iaload, 1) := by decide +kernel
theorem dL_law_723 : decode cL_law 723 = .ok (.invokevirtual 100, 3) := by decide +kernel
theorem dL_law_726 : decode cL_law 726 = .ok (.if_icmp .eq 213, 3) := by decide +kernel
theorem dL_law_729 : decode cL_law 729 = .ok (.iconst 0, 1) := by decide +kernel
theorem dL_law_730 : decode cL_law 730 = .ok (.ireturn, 1) := by decide +kernel
theorem dL_law_731 : decode cL_law 731 = .ok (.aload_n 1, 1) := by decide +kernel
theorem dL_law_732 : decode cL_law 732 = .ok (.aload_n 0, 1) := by decide +kernel
theorem dL_law_733 : decode cL_law 733 = .ok (.iload_n 3, 1) := by decide +kernel
theorem dL_law_734 : decode cL_law 734 = .ok (.iconst 1, 1) := by decide +kernel
theorem dL_law_735 : decode cL_law 735 = .ok (.iadd, 1) := by decide +kernel
theorem dL_law_736 : decode cL_law 736 = .ok (.iaload, 1) := by decide +kernel
theorem dL_law_737 : decode cL_law 737 = .ok (.invokevirtual 101, 3) := by decide +kernel
theorem dL_law_740 : decode cL_law 740 = .ok (.aload_n 2, 1) := by decide +kernel
theorem dL_law_741 : decode cL_law 741 = .ok (.aload_n 0, 1) := by decide +kernel
theorem dL_law_742 : decode cL_law 742 = .ok (.iload_n 3, 1) := by decide +kernel
theorem dL_law_743 : decode cL_law 743 = .ok (.iconst 1, 1) := by decide +kernel
theorem dL_law_744 : decode cL_law 744 = .ok (.iadd, 1) := by decide +kernel
theorem dL_law_745 : decode cL_law 745 = .ok (.iaload, 1) := by decide +kernel
theorem dL_law_746 : decode cL_law 746 = .ok (.invokevirtual 104, 3) := by decide +kernel
theorem dL_law_749 : decode cL_law 749 = .ok (.if_icmp .eq 190, 3) := by decide +kernel
theorem dL_law_752 : decode cL_law 752 = .ok (.iconst 0, 1) := by decide +kernel
theorem dL_law_753 : decode cL_law 753 = .ok (.ireturn, 1) := by decide +kernel
theorem dL_law_754 : decode cL_law 754 = .ok (.aload_n 1, 1) := by decide +kernel
theorem dL_law_755 : decode cL_law 755 = .ok (.aload_n 0, 1) := by decide +kernel
theorem dL_law_756 : decode cL_law 756 = .ok (.iload_n 3, 1) := by decide +kernel
theorem dL_law_757 : decode cL_law 757 = .ok (.iconst 1, 1) := by decide +kernel
theorem dL_law_758 : decode cL_law 758 = .ok (.iadd, 1) := by decide +kernel
theorem dL_law_759 : decode cL_law 759 = .ok (.iaload, 1) := by decide +kernel
theorem dL_law_760 : decode cL_law 760 = .ok (.aload_n 0, 1) := by decide +kernel
theorem dL_law_761 : decode cL_law 761 = .ok (.iload_n 3, 1) := by decide +kernel
theorem dL_law_762 : decode cL_law 762 = .ok (.iconst 2, 1) := by decide +kernel
theorem dL_law_763 : decode cL_law 763 = .ok (.iadd, 1) := by decide +kernel
theorem dL_law_764 : decode cL_law 764 = .ok (.iaload, 1) := by decide +kernel
theorem dL_law_765 : decode cL_law 765 = .ok (.invokevirtual 105, 3) := by decide +kernel
theorem dL_law_768 : decode cL_law 768 = .ok (.aload_n 2, 1) := by decide +kernel
theorem dL_law_769 : decode cL_law 769 = .ok (.aload_n 0, 1) := by decide +kernel
theorem dL_law_770 : decode cL_law 770 = .ok (.iload_n 3, 1) := by decide +kernel
theorem dL_law_771 : decode cL_law 771 = .ok (.iconst 1, 1) := by decide +kernel
theorem dL_law_772 : decode cL_law 772 = .ok (.iadd, 1) := by decide +kernel
theorem dL_law_773 : decode cL_law 773 = .ok (.iaload, 1) := by decide +kernel
theorem dL_law_774 : decode cL_law 774 = .ok (.aload_n 0, 1) := by decide +kernel
theorem dL_law_775 : decode cL_law 775 = .ok (.iload_n 3, 1) := by decide +kernel
theorem dL_law_776 : decode cL_law 776 = .ok (.iconst 2, 1) := by decide +kernel
theorem dL_law_777 : decode cL_law 777 = .ok (.iadd, 1) := by decide +kernel
theorem dL_law_778 : decode cL_law 778 = .ok (.iaload, 1) := by decide +kernel
theorem dL_law_779 : decode cL_law 779 = .ok (.invokevirtual 108, 3) := by decide +kernel
theorem dL_law_782 : decode cL_law 782 = .ok (.if_icmp .eq 157, 3) := by decide +kernel
theorem dL_law_785 : decode cL_law 785 = .ok (.iconst 0, 1) := by decide +kernel
theorem dL_law_786 : decode cL_law 786 = .ok (.ireturn, 1) := by decide +kernel
theorem dL_law_787 : decode cL_law 787 = .ok (.aload_n 1, 1) := by decide +kernel
theorem dL_law_788 : decode cL_law 788 = .ok (.aload_n 0, 1) := by decide +kernel
theorem dL_law_789 : decode cL_law 789 = .ok (.iload_n 3, 1) := by decide +kernel
theorem dL_law_790 : decode cL_law 790 = .ok (.iconst 1, 1) := by decide +kernel
theorem dL_law_791 : decode cL_law 791 = .ok (.iadd, 1) := by decide +kernel
theorem dL_law_792 : decode cL_law 792 = .ok (.iaload, 1) := by decide +kernel
theorem dL_law_793 : decode cL_law 793 = .ok (.aload_n 0, 1) := by decide +kernel
theorem dL_law_794 : decode cL_law 794 = .ok (.iload_n 3, 1) := by decide +kernel
theorem dL_law_795 : decode cL_law 795 = .ok (.iconst 2, 1) := by decide +kernel
theorem dL_law_796 : decode cL_law 796 = .ok (.iadd, 1) := by decide +kernel
theorem dL_law_797 : decode cL_law 797 = .ok (.iaload, 1) := by decide +kernel
theorem dL_law_798 : decode cL_law 798 = .ok (.invokevirtual 109, 3) := by decide +kernel
theorem dL_law_801 : decode cL_law 801 = .ok (.aload_n 2, 1) := by decide +kernel
theorem dL_law_802 : decode cL_law 802 = .ok (.aload_n 0, 1) := by decide +kernel
theorem dL_law_803 : decode cL_law 803 = .ok (.iload_n 3, 1) := by decide +kernel
theorem dL_law_804 : decode cL_law 804 = .ok (.iconst 1, 1) := by decide +kernel
theorem dL_law_805 : decode cL_law 805 = .ok (.iadd, 1) := by decide +kernel
theorem dL_law_806 : decode cL_law 806 = .ok (.iaload, 1) := by decide +kernel
theorem dL_law_807 : decode cL_law 807 = .ok (.aload_n 0, 1) := by decide +kernel
theorem dL_law_808 : decode cL_law 808 = .ok (.iload_n 3, 1) := by decide +kernel
theorem dL_law_809 : decode cL_law 809 = .ok (.iconst 2, 1) := by decide +kernel
theorem dL_law_810 : decode cL_law 810 = .ok (.iadd, 1) := by decide +kernel
theorem dL_law_811 : decode cL_law 811 = .ok (.iaload, 1) := by decide +kernel
theorem dL_law_812 : decode cL_law 812 = .ok (.invokevirtual 112, 3) := by decide +kernel
theorem dL_law_815 : decode cL_law 815 = .ok (.if_icmp .eq 124, 3) := by decide +kernel
theorem dL_law_818 : decode cL_law 818 = .ok (.iconst 0, 1) := by decide +kernel
theorem dL_law_819 : decode cL_law 819 = .ok (.ireturn, 1) := by decide +kernel
theorem dL_law_820 : decode cL_law 820 = .ok (.aload_n 1, 1) := by decide +kernel
theorem dL_law_821 : decode cL_law 821 = .ok (.aload_n 0, 1) := by decide +kernel
theorem dL_law_822 : decode cL_law 822 = .ok (.iload_n 3, 1) := by decide +kernel
theorem dL_law_823 : decode cL_law 823 = .ok (.iconst 1, 1) := by decide +kernel
theorem dL_law_824 : decode cL_law 824 = .ok (.iadd, 1) := by decide +kernel
theorem dL_law_825 : decode cL_law 825 = .ok (.iaload, 1) := by decide +kernel
theorem dL_law_826 : decode cL_law 826 = .ok (.aload_n 0, 1) := by decide +kernel
theorem dL_law_827 : decode cL_law 827 = .ok (.iload_n 3, 1) := by decide +kernel
theorem dL_law_828 : decode cL_law 828 = .ok (.iconst 2, 1) := by decide +kernel
theorem dL_law_829 : decode cL_law 829 = .ok (.iadd, 1) := by decide +kernel
theorem dL_law_830 : decode cL_law 830 = .ok (.iaload, 1) := by decide +kernel
theorem dL_law_831 : decode cL_law 831 = .ok (.invokevirtual 113, 3) := by decide +kernel
theorem dL_law_834 : decode cL_law 834 = .ok (.aload_n 2, 1) := by decide +kernel
theorem dL_law_835 : decode cL_law 835 = .ok (.aload_n 0, 1) := by decide +kernel
theorem dL_law_836 : decode cL_law 836 = .ok (.iload_n 3, 1) := by decide +kernel
theorem dL_law_837 : decode cL_law 837 = .ok (.iconst 1, 1) := by decide +kernel
theorem dL_law_838 : decode cL_law 838 = .ok (.iadd, 1) := by decide +kernel
theorem dL_law_839 : decode cL_law 839 = .ok (.iaload, 1) := by decide +kernel
theorem dL_law_840 : decode cL_law 840 = .ok (.aload_n 0, 1) := by decide +kernel
theorem dL_law_841 : decode cL_law 841 = .ok (.iload_n 3, 1) := by decide +kernel
theorem dL_law_842 : decode cL_law 842 = .ok (.iconst 2, 1) := by decide +kernel
theorem dL_law_843 : decode cL_law 843 = .ok (.iadd, 1) := by decide +kernel
theorem dL_law_844 : decode cL_law 844 = .ok (.iaload, 1) := by decide +kernel
theorem dL_law_845 : decode cL_law 845 = .ok (.invokevirtual 116, 3) := by decide +kernel
theorem dL_law_848 : decode cL_law 848 = .ok (.if_icmp .eq 91, 3) := by decide +kernel
theorem dL_law_851 : decode cL_law 851 = .ok (.iconst 0, 1) := by decide +kernel
theorem dL_law_852 : decode cL_law 852 = .ok (.ireturn, 1) := by decide +kernel
theorem dL_law_853 : decode cL_law 853 = .ok (.aload_n 1, 1) := by decide +kernel
theorem dL_law_854 : decode cL_law 854 = .ok (.aload_n 0, 1) := by decide +kernel
theorem dL_law_855 : decode cL_law 855 = .ok (.iload_n 3, 1) := by decide +kernel
theorem dL_law_856 : decode cL_law 856 = .ok (.iconst 1, 1) := by decide +kernel
theorem dL_law_857 : decode cL_law 857 = .ok (.iadd, 1) := by decide +kernel
theorem dL_law_858 : decode cL_law 858 = .ok (.iaload, 1) := by decide +kernel
theorem dL_law_859 : decode cL_law 859 = .ok (.invokevirtual 117, 3) := by decide +kernel
theorem dL_law_862 : decode cL_law 862 = .ok (.aload_n 2, 1) := by decide +kernel
theorem dL_law_863 : decode cL_law 863 = .ok (.aload_n 0, 1) := by decide +kernel
theorem dL_law_864 : decode cL_law 864 = .ok (.iload_n 3, 1) := by decide +kernel
theorem dL_law_865 : decode cL_law 865 = .ok (.iconst 1, 1) := by decide +kernel
theorem dL_law_866 : decode cL_law 866 = .ok (.iadd, 1) := by decide +kernel
theorem dL_law_867 : decode cL_law 867 = .ok (.iaload, 1) := by decide +kernel
theorem dL_law_868 : decode cL_law 868 = .ok (.invokevirtual 120, 3) := by decide +kernel
theorem dL_law_871 : decode cL_law 871 = .ok (.if_icmp .eq 68, 3) := by decide +kernel
theorem dL_law_874 : decode cL_law 874 = .ok (.iconst 0, 1) := by decide +kernel
theorem dL_law_875 : decode cL_law 875 = .ok (.ireturn, 1) := by decide +kernel
theorem dL_law_876 : decode cL_law 876 = .ok (.aload_n 1, 1) := by decide +kernel
theorem dL_law_877 : decode cL_law 877 = .ok (.invokevirtual 121, 3) := by decide +kernel
theorem dL_law_880 : decode cL_law 880 = .ok (.aload_n 2, 1) := by decide +kernel
theorem dL_law_881 : decode cL_law 881 = .ok (.invokevirtual 124, 3) := by decide +kernel
theorem dL_law_884 : decode cL_law 884 = .ok (.if_icmp .eq 55, 3) := by decide +kernel
theorem dL_law_887 : decode cL_law 887 = .ok (.iconst 0, 1) := by decide +kernel
theorem dL_law_888 : decode cL_law 888 = .ok (.ireturn, 1) := by decide +kernel
theorem dL_law_889 : decode cL_law 889 = .ok (.aload_n 1, 1) := by decide +kernel
theorem dL_law_890 : decode cL_law 890 = .ok (.invokevirtual 125, 3) := by decide +kernel
theorem dL_law_893 : decode cL_law 893 = .ok (.aload_n 2, 1) := by decide +kernel
theorem dL_law_894 : decode cL_law 894 = .ok (.invokevirtual 128, 3) := by decide +kernel
theorem dL_law_897 : decode cL_law 897 = .ok (.if_icmp .eq 42, 3) := by decide +kernel
theorem dL_law_900 : decode cL_law 900 = .ok (.iconst 0, 1) := by decide +kernel
theorem dL_law_901 : decode cL_law 901 = .ok (.ireturn, 1) := by decide +kernel
theorem dL_law_902 : decode cL_law 902 = .ok (.aload_n 1, 1) := by decide +kernel
theorem dL_law_903 : decode cL_law 903 = .ok (.aload_n 0, 1) := by decide +kernel
theorem dL_law_904 : decode cL_law 904 = .ok (.iload_n 3, 1) := by decide +kernel
theorem dL_law_905 : decode cL_law 905 = .ok (.iconst 1, 1) := by decide +kernel
theorem dL_law_906 : decode cL_law 906 = .ok (.iadd, 1) := by decide +kernel
theorem dL_law_907 : decode cL_law 907 = .ok (.iaload, 1) := by decide +kernel
theorem dL_law_908 : decode cL_law 908 = .ok (.invokevirtual 129, 3) := by decide +kernel
theorem dL_law_911 : decode cL_law 911 = .ok (.aload_n 2, 1) := by decide +kernel
theorem dL_law_912 : decode cL_law 912 = .ok (.aload_n 0, 1) := by decide +kernel
theorem dL_law_913 : decode cL_law 913 = .ok (.iload_n 3, 1) := by decide +kernel
theorem dL_law_914 : decode cL_law 914 = .ok (.iconst 1, 1) := by decide +kernel
theorem dL_law_915 : decode cL_law 915 = .ok (.iadd, 1) := by decide +kernel
theorem dL_law_916 : decode cL_law 916 = .ok (.iaload, 1) := by decide +kernel
theorem dL_law_917 : decode cL_law 917 = .ok (.invokevirtual 132, 3) := by decide +kernel
theorem dL_law_920 : decode cL_law 920 = .ok (.if_icmp .eq 19, 3) := by decide +kernel
theorem dL_law_923 : decode cL_law 923 = .ok (.iconst 0, 1) := by decide +kernel
theorem dL_law_924 : decode cL_law 924 = .ok (.ireturn, 1) := by decide +kernel
theorem dL_law_925 : decode cL_law 925 = .ok (.aload_n 1, 1) := by decide +kernel
theorem dL_law_926 : decode cL_law 926 = .ok (.invokevirtual 133, 3) := by decide +kernel
theorem dL_law_929 : decode cL_law 929 = .ok (.aload_n 2, 1) := by decide +kernel
theorem dL_law_930 : decode cL_law 930 = .ok (.invokevirtual 137, 3) := by decide +kernel
theorem dL_law_933 : decode cL_law 933 = .ok (.lcmp, 1) := by decide +kernel
theorem dL_law_934 : decode cL_law 934 = .ok (.ifCond .eq 5, 3) := by decide +kernel
theorem dL_law_937 : decode cL_law 937 = .ok (.iconst 0, 1) := by decide +kernel
theorem dL_law_938 : decode cL_law 938 = .ok (.ireturn, 1) := by decide +kernel
theorem dL_law_939 : decode cL_law 939 = .ok (.iinc 3 4, 3) := by decide +kernel
theorem dL_law_942 : decode cL_law 942 = .ok (.goto (-924), 3) := by decide +kernel
theorem dL_law_945 : decode cL_law 945 = .ok (.iconst 1, 1) := by decide +kernel
theorem dL_law_946 : decode cL_law 946 = .ok (.ireturn, 1) := by decide +kernel
end
section
/-! THE MEMORY PICTURE: every cell of an object's world has a number i; w i k is the int in slot k of cell i; what refers to what is fixed (the shape). -/
abbrev Mem : Type := Nat → Nat → Int32
abbrev Shp : Type := Nat ⊕ (Nat × List (Option Nat))
def mst (w : Mem) (i k : Nat) (v : Int32) : Mem := fun j => if j = i then upd (w i) k v else w j
def fvs (ad : Nat → Nat) (g : Nat → Int32) : Nat → List (Option Nat) → List Value
  | _, [] => []
  | k, none :: r => .int (g k) :: fvs ad g (k + 1) r
  | k, some j :: r => .ref (ad j) :: fvs ad g (k + 1) r
theorem fvs_len (ad : Nat → Nat) (g : Nat → Int32) : ∀ (fk : List (Option Nat)) (b : Nat), (fvs ad g b fk).length = fk.length
  | [], _ => rfl
  | none :: r, b => by simp [fvs, fvs_len ad g r]
  | some j :: r, b => by simp [fvs, fvs_len ad g r]
theorem fvs_int (ad : Nat → Nat) (g : Nat → Int32) : ∀ (fk : List (Option Nat)) (b k : Nat), fk[k]? = some none → (fvs ad g b fk)[k]? = some (.int (g (b + k)))
  | [], _, k, h => by simp at h
  | none :: r, b, 0, _ => by simp [fvs]
  | some j :: r, b, 0, h => by simp at h
  | none :: r, b, k + 1, h => by
    have h' : r[k]? = some none := by simpa using h
    have := fvs_int ad g r (b + 1) k h'
    simpa [fvs, Nat.add_assoc, Nat.add_comm 1 k] using this
  | some j :: r, b, k + 1, h => by
    have h' : r[k]? = some none := by simpa using h
    have := fvs_int ad g r (b + 1) k h'
    simpa [fvs, Nat.add_assoc, Nat.add_comm 1 k] using this
theorem fvs_ref (ad : Nat → Nat) (g : Nat → Int32) {j : Nat} : ∀ (fk : List (Option Nat)) (b k : Nat), fk[k]? = some (some j) → (fvs ad g b fk)[k]? = some (.ref (ad j))
  | [], _, k, h => by simp at h
  | none :: r, b, 0, h => by simp at h
  | some j' :: r, b, 0, h => by
    have h' : j' = j := by simpa using h
    simp [fvs, h']
  | none :: r, b, k + 1, h => by
    have h' : r[k]? = some (some j) := by simpa using h
    simpa [fvs] using fvs_ref ad g r (b + 1) k h'
  | some j' :: r, b, k + 1, h => by
    have h' : r[k]? = some (some j) := by simpa using h
    simpa [fvs] using fvs_ref ad g r (b + 1) k h'
theorem fvs_congr (ad : Nat → Nat) {g g' : Nat → Int32} : ∀ (fk : List (Option Nat)) (b : Nat), (∀ k, b ≤ k → g k = g' k) → fvs ad g b fk = fvs ad g' b fk
  | [], _, _ => rfl
  | none :: r, b, h => by simp only [fvs]; rw [h b (Nat.le_refl b), fvs_congr ad r (b + 1) (fun k hk => h k (by omega))]
  | some j :: r, b, h => by simp only [fvs]; rw [fvs_congr ad r (b + 1) (fun k hk => h k (by omega))]
theorem fvs_set (ad : Nat → Nat) (g : Nat → Int32) (v : Int32) : ∀ (fk : List (Option Nat)) (b k : Nat), fk[k]? = some none → (fvs ad g b fk).set k (.int v) = fvs ad (upd g (b + k) v) b fk
  | [], _, k, h => by simp at h
  | none :: r, b, 0, _ => by
    have : fvs ad g (b + 1) r = fvs ad (upd g (b + 0) v) (b + 1) r := fvs_congr ad r (b + 1) (fun k hk => by simp only [upd]; rw [if_neg (by omega)])
    simp only [fvs, List.set_cons_zero, this]
    congr 1
    simp [upd]
  | some j :: r, b, 0, h => by simp at h
  | none :: r, b, k + 1, h => by
    have h' : r[k]? = some none := by simpa using h
    have e : b + (k + 1) = (b + 1) + k := by omega
    simp only [fvs, List.set_cons_succ, fvs_set ad g v r (b + 1) k h', e]
    congr 1
    simp only [upd]
    rw [if_neg (by omega)]
  | some j :: r, b, k + 1, h => by
    have h' : r[k]? = some none := by simpa using h
    have e : b + (k + 1) = (b + 1) + k := by omega
    simp only [fvs, List.set_cons_succ, fvs_set ad g v r (b + 1) k h', e]
/-- what the kit's world says of cell i -/
def cE (sh : Nat → Shp) (ad : Nat → Nat) (cA : ClassId) (w : Mem) (i : Nat) : va_E := match sh i with
  | .inl n => .inl (cA, n, .inl (w i))
  | .inr q => .inr (q.1, fvs ad (w i) 0 q.2)
def wsO (n : Nat) (sh : Nat → Shp) (ad : Nat → Nat) (cA : ClassId) (w : Mem) : va_W := (List.range n).map (fun i => (ad i, cE sh ad cA w i))
theorem wsO_get {n : Nat} {sh : Nat → Shp} {ad : Nat → Nat} {cA : ClassId} {w : Mem} {i : Nat} (h : i < n) : (wsO n sh ad cA w)[i]? = some (ad i, cE sh ad cA w i) := by
  simp [wsO, h]
theorem cE_other {sh : Nat → Shp} {ad : Nat → Nat} {cA : ClassId} {w : Mem} {i j k : Nat} {v : Int32} (h : j ≠ i) : cE sh ad cA (mst w i k v) j = cE sh ad cA w j := by
  have e : (mst w i k v) j = w j := by simp [mst, h]
  simp only [cE, e]
theorem wsO_up {n : Nat} {sh : Nat → Shp} {ad : Nat → Nat} {cA : ClassId} {w w' : Mem} {i : Nat} {E : va_E} (h : i < n) (hE : cE sh ad cA w' i = E) (ho : ∀ j, j ≠ i → w' j = w j) : (wsO n sh ad cA w).set i (ad i, E) = wsO n sh ad cA w' := by
  apply List.ext_getElem?
  intro j
  by_cases hj : j = i
  · subst hj
    rw [wsO_get h, List.getElem?_set_self (by simpa [wsO] using h), hE]
  · rw [List.getElem?_set_ne (Ne.symm hj)]
    by_cases hn : j < n
    · rw [wsO_get hn, wsO_get hn]
      simp only [cE, ho j hj]
    · simp [wsO, hn]
theorem mst_self (w : Mem) (i k : Nat) (v : Int32) : mst w i k v i = upd (w i) k v := by simp [mst]
theorem mst_ne (w : Mem) {i j : Nat} (k : Nat) (v : Int32) (h : j ≠ i) : mst w i k v j = w j := by simp [mst, h]
def AdOk (n : Nat) (ad : Nat → Nat) (A : Nat → Prop) : Prop := (∀ i j, i < n → j < n → ad i = ad j → i = j) ∧ ∀ i, i < n → A (ad i)
theorem AdOk.D {n : Nat} {ad : Nat → Nat} {A : Nat → Prop} (h : AdOk n ad A) (sh : Nat → Shp) (cA : ClassId) (w : Mem) : va_D A (wsO n sh ad cA w) := by
  have key : ∀ (k : Nat) (q : Nat × va_E), (wsO n sh ad cA w)[k]? = some q → k < n ∧ q.1 = ad k := by
    intro k q hk
    by_cases hn : k < n
    · rw [wsO_get hn] at hk
      cases hk
      exact ⟨hn, rfl⟩
    · simp [wsO, hn] at hk
  refine ⟨fun i j p q hi hj e => ?_, fun k q hk => ?_⟩
  · obtain ⟨h1, e1⟩ := key i p hi
    obtain ⟨h2, e2⟩ := key j q hj
    exact h.1 i j h1 h2 (by rw [← e1, ← e2]; exact e)
  · obtain ⟨h1, e1⟩ := key k q hk
    rw [e1]
    exact h.2 k h1
/-! the words: all good words of the tables, for every method -/
def gT : List Cond := lw_tbl.filter goodWord
def wsy (y : MethodName) (cc : ByteArray) (mL : Nat) (rt : Option FieldType) : List Cond := Cond.code y cc mL rt :: gT
theorem gT_in {y : MethodName} {cc : ByteArray} {mL : Nat} {rt : Option FieldType} (h : Cond.code y cc mL rt ∈ gT) : GoodIn gT (wsy y cc mL rt) := by
  intro w hw
  rcases List.mem_cons.mp hw with rfl | hw
  · exact ⟨h, good_of_word (List.mem_filter.mp h).2⟩
  · exact ⟨hw, good_of_word (List.mem_filter.mp hw).2⟩
theorem tin (i : Nat) {w : Cond} (h : tables_1[i]? = some w) (g : goodWord w = true) : w ∈ gT := List.mem_filter.mpr ⟨List.mem_append_right _ (List.mem_of_getElem? h), g⟩
theorem tsl (i : Nat) {w : Cond} (h : (k2_sels lw_privs)[i]? = some w) (g : goodWord w = true) : w ∈ gT := List.mem_filter.mpr ⟨List.mem_append_left _ (List.mem_of_getElem? h), g⟩
/-- the classes whose objects the worlds hold -/
abbrev classes : List vw_C := [(RX0, TX0, 8), (RX1, TX1, 9), (RX2, TX2, 2), (RX3, TX3, 6), (RX4, TX4, 3), (RX5, TX5, 5), (RX6, TX6, 8), (RX7, TX7, 37)]
/-! links into a nest mate's private members: they go from state to state by themselves -/
def NM : List (String × Nat × MethodName × String) := [("DriveTicks$Drive", 38, yX1_init, "DriveTicks"), ("DriveTicks$Table", 46, yX6_pulledWithin, "DriveTicks"), ("DriveTicks", 21, yX2_init, "DriveTicks"), ("DriveTicks", 37, yX3_init, "DriveTicks"), ("DriveTicks$Shifts", 11, yX2_init, "DriveTicks"), ("DriveTicks", 47, yX5_init, "DriveTicks"),
  ("DriveTicks$Plan", 35, yX6_greatestOf, "DriveTicks"), ("DriveTicks$Plan", 39, yX6_leastOf, "DriveTicks"), ("DriveTicks$Plan", 52, yX6_pulledWithin, "DriveTicks"), ("DriveTicks$Table", 36, yX6_within, "DriveTicks"), ("DriveTicks$Shifts", 45, yX6_within, "DriveTicks"), ("DriveTicks$Drive", 100, yX6_isLeg, "DriveTicks"),
  ("DriveTicks$Drive", 104, yX6_greatestOf, "DriveTicks"), ("DriveTicks$Drive", 108, yX6_leastOf, "DriveTicks"), ("DriveTicks$Drive", 111, yX6_pulledWithin, "DriveTicks"), ("DriveTicks$Text", 48, yX6_isLeg, "DriveTicks"), ("DriveTicks$Text", 76, yX6_within, "DriveTicks")]
def Nst (U : State) : Prop := (∀ q ∈ NM, va_Nw (.methodLinkNest q.1 q.2.1 q.2.2.1 q.2.2.2) U) ∧ va_Nw (.fieldLinkNest "DriveTicks$Drive" 46 "DriveTicks" "SETTING_AT_FIRST" "[I" "DriveTicks") U ∧ va_Nw (.fieldLinkNest "DriveTicks$Runs" 35 "DriveTicks" "LEG_TOLD" "[I" "DriveTicks") U
theorem Nst.warm {s U : State} (hW : s.WarmedH U.vm) (h : Nst s) : Nst U := ⟨fun q hq => va_Nw.warmM hW (h.1 q hq), va_Nw.warmF hW h.2.1, va_Nw.warmF hW h.2.2⟩
theorem Nst.same {s U : State} (hv : s.vm = U.vm) (h : Nst s) : Nst U := ⟨fun q hq => va_Nw.same rfl hv (h.1 q hq), va_Nw.same rfl hv h.2.1, va_Nw.same rfl hv h.2.2⟩
/-! the static rows of ints, outside of all worlds -/
def snm (k : Nat) : String := match k with
  | 0 => "SETTING_AT_FIRST"
  | 1 => "SETTING_LEAST"
  | 2 => "SETTING_MOST"
  | _ => "LEG_TOLD"
def sln (k : Nat) : Nat := match k with
  | 3 => 8
  | _ => 7
def sct (k : Nat) : Nat → Int32 := fun j => match k with
  | 0 => ([48, 2, 1, 4, 8, 4, 0] : List Int32).getD j 0
  | 1 => ([12, 0, 0, 1, 0, 0, 0] : List Int32).getD j 0
  | 2 => ([96, 5, 1, 20, 20, 20, 1] : List Int32).getD j 0
  | _ => ([-1, 0, 1, 2, 2, 1, 0, -1] : List Int32).getD j 0
def Stt (A : Nat → Prop) (sa : Nat → Nat) (U : State) : Prop := ∀ k, k < 4 → va_Z "DriveTicks" (snm k) "[I" (.ref (sa k)) A U U.heap ∧ va_X (sa k) (sln k) (sct k) U U.heap ∧ sa k < U.heap.size ∧ ¬ A (sa k)
theorem Stt.go {A : Nat → Prop} {sa : Nat → Nat} {s U : State} {H : Heap} {locs : List Loc} (hvm : s.vm.Alike U.vm) (hh : U.heap = H) (hS : va_S A s.heap H locs) (h : Stt A sa s) : Stt A sa U := by
  intro k hk
  obtain ⟨h1, h2, h3, h4⟩ := h k hk
  subst hh
  exact ⟨va_Z.moved hvm (va_Z.kept h1 (fun a g1 g2 => hS.2.1 a g1 g2)), va_X.moved hvm (va_X.kept h2 (hS.2.1 _ h3 h4)), Nat.lt_of_lt_of_le h3 hS.1, h4⟩
theorem Stt.same {A : Nat → Prop} {sa : Nat → Nat} {s U : State} (hvm : s.vm.Alike U.vm) (hh : U.heap = s.heap) (h : Stt A sa s) : Stt A sa U := h.go (locs := []) hvm hh va_S.rf
/-! contracts -/
def PcC (n : Nat) (sh : Nat → Shp) (D : va_G) (cA : ClassId) (ad : Nat → Nat) (A : Nat → Prop) (sa : Nat → Nat) (w : Mem) (as : List Value) : Array Value → State → Prop := va_Pc as (fun U => va_P D classes (wsO n sh ad cA w) U.heap ∧ va_K D classes [(cA, .int)] U ∧ Nst U ∧ Stt A sa U)
def QcC (n : Nat) (sh : Nat → Shp) (D : va_G) (cA : ClassId) (ad : Nat → Nat) (A : Nat → Prop) (r : Option Value) (w' : Mem) : Array Value → State → Outcome → State → Prop := fun _ st oc t => oc = .returned r ∧ va_P D classes (wsO n sh ad cA w') t.heap ∧ va_F A st t
abbrev Ctr (l : Launch) (n : Nat) (sh : Nat → Shp) (D : va_G) (cA : ClassId) (ad : Nat → Nat) (A : Nat → Prop) (sa : Nat → Nat) (y : MethodName) (cc : ByteArray) (mL : Nat) (rt : Option FieldType) (fr lo : Nat) (as : List Value) (w : Mem) (r : Option Value) (w' : Mem) : Prop :=
  Met l y (wsy y cc mL rt) ({ frames := fr, cells := 0, slots := 0, locals := lo }) (PcC n sh D cA ad A sa w as) (QcC n sh D cA ad A r w') 0 0 A
def QM (n : Nat) (sh : Nat → Shp) (D : va_G) (cA : ClassId) (ad : Nat → Nat) (A : Nat → Prop) (below : List Frame) (args : Array Value) (s : State) (r : Option Value) (w' : Mem) : State → Prop := MQ below (QcC n sh D cA ad A r w') args s 0 0 A
/-- what holds all through a method's body -/
def Mx (n : Nat) (D : va_G) (cA : ClassId) (ad : Nat → Nat) (A : Nat → Prop) (sa : Nat → Nat) (p : Program) (s : State) (m : MethodId) (args : Array Value) (meth : Method) (c : Code) (own : String) (cc : ByteArray) (mL : Nat) (rt : Option FieldType) : Prop :=
  p.tables.exec = Jvm.exec ∧ c.code = cc ∧ meth.sig.returnType = rt ∧ c.maxLocals = mL ∧ s.vm.findClass own = some m.cls ∧ (∀ w ∈ gT, w.before args s = true) ∧ meth.locks = false ∧ va_K D classes [(cA, .int)] s ∧ Nst s ∧ Stt A sa s ∧ AdOk n ad A
def Iv (n : Nat) (sh : Nat → Shp) (D : va_G) (cA : ClassId) (ad : Nat → Nat) (A : Nat → Prop) (H0 : Heap) (w : Mem) (H : Heap) (locs : List Loc) : Prop := va_P D classes (wsO n sh ad cA w) H ∧ va_S A H0 H locs
theorem m_enter {l : Launch} {n : Nat} {sh : Nat → Shp} {D : va_G} {cA : ClassId} {ad : Nat → Nat} {A : Nat → Prop} {sa : Nat → Nat} {y : MethodName} {cc : ByteArray} {mL : Nat} {rt : Option FieldType} {fr lo : Nat} {as : List Value} {w : Mem} {r : Option Value} {w' : Mem} (hA : AdOk n ad A) (hy : plainName y.cls = true) (hlen : (lg_sl as).length ≤ mL)
    (body : ∀ (p : Program) (e : Env) (s : State) (m : MethodId) (args : Array Value) (below : List Frame) (meth : Method) (c : Code) (ls : Array Slot), Mx n D cA ad A sa p s m args meth c y.cls cc mL rt → Iv n sh D cA ad A s.heap w s.heap [] → lv_has ls mL (lv_args 0 as) → W p l e ({ frames := fr, cells := 0, slots := 0, locals := lo }) s m args below meth c s.heap [] 0 0 (QM n sh D cA ad A below args s r w') (F0 m 0 ls [])) :
    Ctr l n sh D cA ad A sa y cc mL rt fr lo as w r w' := by
  refine Met.ofW (cc := cc) (maxL := mL) (ret := rt) hy rfl ?_
  intro p e s m args below meth c s₁ B hml hv
  obtain ⟨rfl, hP, hK, hN, hZ⟩ := hv
  have hl := lv_entry as (n := mL) hlen
  rw [lg_entry_eq]
  generalize (lg_sl as ++ List.replicate (mL - (lg_sl as).length) Slot.unset).toArray = ls at hl ⊢
  exact body p e s m as.toArray below meth c ls ⟨B.exec, B.bytes, B.returns, hml, findClass_of_methodNamed B.named, fun w hw => atoms_spec (ws := wsy y cc mL rt) B.pre w (List.mem_cons_of_mem _ hw), B.notSynchronized, hK, hN, hZ, hA⟩ ⟨hP, va_S.rf⟩ hl
section MR
variable {n : Nat} {sh : Nat → Shp} {D : va_G} {cA : ClassId} {ad : Nat → Nat} {A : Nat → Prop} {sa : Nat → Nat} {own : String} {mL : Nat} {rt : Option FieldType} {w : Mem}
variable {p : Program} {l : Launch} {e : Env} {R : Room} {s : State} {m : MethodId} {args : Array Value} {below : List Frame} {meth : Method} {c : Code} {H : Heap} {locs : List Loc} {cells slots : Nat} {Q : State → Prop} {cc : ByteArray} {pc : Nat} {ls : Array Slot} {rest : List Value}
/-- getfield of an int -/
theorem m_getI (G : Mx n D cA ad A sa p s m args meth c own cc mL rt) (hI : Iv n sh D cA ad A s.heap w H locs) {C ref : String} {T : u_T} {N ci k i index : Nat} {fk : List (Option Nat)} (hin : ∀ w ∈ u_ws C T N, w ∈ gT) (hc : classes[ci]? = some (C, T, N)) (hk : k < N) (hl : Cond.fieldLink own index ref (T k).2.1 (T k).2.2.1 ∈ gT) (hr : (T k).1 = ref)
    (hi : i < n) (hs : sh i = .inr (ci, fk)) (hf : fk[k]? = some none) (hd : decode cc pc = .ok (.getfield index, 3))
    (kk : W p l e R s m args below meth c H locs cells slots Q (F0 m (pc + 3) ls (.int (w i k) :: rest))) : W p l e R s m args below meth c H locs cells slots Q (F0 m pc ls (.ref (ad i) :: rest)) := by
  obtain ⟨hx, hb, -, -, hown, hg, -, hK, -, -, -⟩ := G
  have he : (wsO n sh ad cA w)[i]? = some (ad i, .inr (ci, fvs ad (w i) 0 fk)) := by rw [wsO_get hi]; simp only [cE, hs]
  exact va_get hx hb hg hin hown hK hI.1 i he hc k hk (hg _ hl) (fun x h => by rw [← hr]; exact h) (by rw [fvs_int ad (w i) fk 0 k hf, Nat.zero_add]) hd kk
/-- getfield of a reference -/
theorem m_getR (G : Mx n D cA ad A sa p s m args meth c own cc mL rt) (hI : Iv n sh D cA ad A s.heap w H locs) {C ref : String} {T : u_T} {N ci k i j index : Nat} {fk : List (Option Nat)} (hin : ∀ w ∈ u_ws C T N, w ∈ gT) (hc : classes[ci]? = some (C, T, N)) (hk : k < N) (hl : Cond.fieldLink own index ref (T k).2.1 (T k).2.2.1 ∈ gT) (hr : (T k).1 = ref)
    (hi : i < n) (hs : sh i = .inr (ci, fk)) (hf : fk[k]? = some (some j)) (hd : decode cc pc = .ok (.getfield index, 3))
    (kk : W p l e R s m args below meth c H locs cells slots Q (F0 m (pc + 3) ls (.ref (ad j) :: rest))) : W p l e R s m args below meth c H locs cells slots Q (F0 m pc ls (.ref (ad i) :: rest)) := by
  obtain ⟨hx, hb, -, -, hown, hg, -, hK, -, -, -⟩ := G
  have he : (wsO n sh ad cA w)[i]? = some (ad i, .inr (ci, fvs ad (w i) 0 fk)) := by rw [wsO_get hi]; simp only [cE, hs]
  exact va_get hx hb hg hin hown hK hI.1 i he hc k hk (hg _ hl) (fun x h => by rw [← hr]; exact h) (fvs_ref ad (w i) fk 0 k hf) hd kk
/-- putfield of an int (or a boolean that is 0 or 1) -/
theorem m_put (G : Mx n D cA ad A sa p s m args meth c own cc mL rt) (hI : Iv n sh D cA ad A s.heap w H locs) {C ref : String} {T : u_T} {N ci k i index : Nat} {fk : List (Option Nat)} {ty : FieldType} {ty0 : Nat → FieldType} (hin : ∀ w ∈ u_ws C T N, w ∈ gT) (hty : ∀ k, k < N → parseFieldDescriptor (T k).2.2.1 = some (ty0 k)) (hnm : ∀ a, a < N → ∀ b, b < N → a ≠ b → (T a).2.1 ≠ (T b).2.1) (hc : classes[ci]? = some (C, T, N)) (hk : k < N) (hl : Cond.fieldLink own index ref (T k).2.1 (T k).2.2.1 ∈ gT) (hr : (T k).1 = ref) (hfin : (T k).2.2.2 = false) (hpd : parseFieldDescriptor (T k).2.2.1 = some ty)
    (hi : i < n) (hs : sh i = .inr (ci, fk)) (hf : fk[k]? = some none) {v : Int32} (hn : narrow ty (.int v) = .int v) (hfit : fits ty (.int v) = true) (hd : decode cc pc = .ok (.putfield index, 3))
    (kk : ∀ (H1 : Heap) (locs1 : List Loc), Iv n sh D cA ad A s.heap (mst w i k v) H1 locs1 → W p l e R s m args below meth c H1 locs1 cells slots Q (F0 m (pc + 3) ls rest)) : W p l e R s m args below meth c H locs cells slots Q (F0 m pc ls (.int v :: .ref (ad i) :: rest)) := by
  obtain ⟨hx, hb, -, -, hown, hg, -, hK, -, -, hA⟩ := G
  have he : (wsO n sh ad cA w)[i]? = some (ad i, .inr (ci, fvs ad (w i) 0 fk)) := by rw [wsO_get hi]; simp only [cE, hs]
  have hlt : k < (fvs ad (w i) 0 fk).length := by rw [fvs_len]; exact (List.getElem?_eq_some_iff.mp hf).1
  refine va_put hx hb hg hin ty0 hty hnm hown hK hI.1 (hA.D sh cA w) hI.2 i he hc k hk (hg _ hl) (fun x h => by rw [← hr]; exact h) hfin hpd hn hfit hlt hd (fun H1 locs1 hP hD hS => ?_)
  refine kk H1 locs1 ⟨?_, hS⟩
  rw [wsO_up (w' := mst w i k v) hi (by simp only [cE, hs, mst_self]; rw [fvs_set ad (w i) v fk 0 k hf, Nat.zero_add]) (fun j hj => mst_ne w k v hj)] at hP
  exact hP
/-- iaload, iastore on a row of the world -/
theorem m_ald (G : Mx n D cA ad A sa p s m args meth c own cc mL rt) (hI : Iv n sh D cA ad A s.heap w H locs) {i len : Nat} {j : Int32} (hi : i < n) (hs : sh i = .inl len) (hj : vp_in j len) (hd : decode cc pc = .ok (.iaload, 1))
    (kk : W p l e R s m args below meth c H locs cells slots Q (F0 m (pc + 1) ls (.int (w i j.toNatClampNeg) :: rest))) : W p l e R s m args below meth c H locs cells slots Q (F0 m pc ls (.int j :: .ref (ad i) :: rest)) := by
  obtain ⟨hx, hb, -, -, hown, hg, -, hK, -, -, -⟩ := G
  have he : (wsO n sh ad cA w)[i]? = some (ad i, .inl (cA, len, .inl (w i))) := by rw [wsO_get hi]; simp only [cE, hs]
  exact va_iald hx hb hK hI.1 i 0 he rfl hj hd kk
theorem m_ast (G : Mx n D cA ad A sa p s m args meth c own cc mL rt) (hI : Iv n sh D cA ad A s.heap w H locs) {i len : Nat} {j v : Int32} (hi : i < n) (hs : sh i = .inl len) (hj : vp_in j len) (hd : decode cc pc = .ok (.iastore, 1))
    (kk : ∀ (H1 : Heap) (locs1 : List Loc), Iv n sh D cA ad A s.heap (mst w i j.toNatClampNeg v) H1 locs1 → W p l e R s m args below meth c H1 locs1 cells slots Q (F0 m (pc + 1) ls rest)) : W p l e R s m args below meth c H locs cells slots Q (F0 m pc ls (.int v :: .int j :: .ref (ad i) :: rest)) := by
  obtain ⟨hx, hb, -, -, hown, hg, -, hK, -, -, hA⟩ := G
  have he : (wsO n sh ad cA w)[i]? = some (ad i, .inl (cA, len, .inl (w i))) := by rw [wsO_get hi]; simp only [cE, hs]
  refine va_iast hx hb hK hI.1 (hA.D sh cA w) hI.2 i 0 he rfl hj hd (fun H1 locs1 hP hD hS => ?_)
  refine kk H1 locs1 ⟨?_, hS⟩
  rw [wsO_up (w' := mst w i j.toNatClampNeg v) hi (by simp only [cE, hs, mst_self]) (fun j' hj' => mst_ne w j.toNatClampNeg v hj')] at hP
  exact hP
/-- the static rows -/
theorem m_gets (G : Mx n D cA ad A sa p s m args meth c own cc mL rt) (hI : Iv n sh D cA ad A s.heap w H locs) (k : Nat) (hk : k < 4) {index : Nat} (hl : Cond.fieldLink own index "DriveTicks" (snm k) "[I" ∈ gT) (hd : decode cc pc = .ok (.getstatic index, 3))
    (kk : W p l e R s m args below meth c H locs cells slots Q (F0 m (pc + 3) ls (.ref (sa k) :: rest))) : W p l e R s m args below meth c H locs cells slots Q (F0 m pc ls rest) := by
  obtain ⟨hx, hb, -, -, hown, hg, -, hK, -, hZ, -⟩ := G
  exact va_gets hx hb (hZ k hk).1 hI.2 hown (hg _ hl) (fun _ h => h) hd kk
theorem m_getsN (G : Mx n D cA ad A sa p s m args meth c own cc mL rt) (hI : Iv n sh D cA ad A s.heap w H locs) (k : Nat) (hk : k < 4) {index : Nat} {host : String} (hl : Nst s → va_Nw (.fieldLinkNest own index "DriveTicks" (snm k) "[I" host) s) (hd : decode cc pc = .ok (.getstatic index, 3))
    (kk : W p l e R s m args below meth c H locs cells slots Q (F0 m (pc + 3) ls (.ref (sa k) :: rest))) : W p l e R s m args below meth c H locs cells slots Q (F0 m pc ls rest) := by
  obtain ⟨hx, hb, -, -, hown, hg, -, hK, hN, hZ, -⟩ := G
  exact va_getsN hx hb (hZ k hk).1 hI.2 hown (va_Nw.use rfl (hl hN)) (fun _ h => h) hd kk
theorem m_sald (G : Mx n D cA ad A sa p s m args meth c own cc mL rt) (hI : Iv n sh D cA ad A s.heap w H locs) (k : Nat) (hk : k < 4) {j : Int32} (hj : vp_in j (sln k)) (hd : decode cc pc = .ok (.iaload, 1))
    (kk : W p l e R s m args below meth c H locs cells slots Q (F0 m (pc + 1) ls (.int (sct k j.toNatClampNeg) :: rest))) : W p l e R s m args below meth c H locs cells slots Q (F0 m pc ls (.int j :: .ref (sa k) :: rest)) := by
  obtain ⟨hx, hb, -, -, hown, hg, -, hK, -, hZ, -⟩ := G
  obtain ⟨-, h2, h3, h4⟩ := hZ k hk
  exact va_sld hx hb h2 h3 h4 hI.2 hj hd kk
/-- ends -/
theorem m_iret (G : Mx n D cA ad A sa p s m args meth c own cc mL rt) (hI : Iv n sh D cA ad A s.heap w H locs) {v : Int32} (hrt : rt = some .int) (hd : decode cc pc = .ok (.ireturn, 1)) : W p l e R s m args below meth c H locs 0 0 (QM n sh D cA ad A below args s (some (.int v)) w) (F0 m pc ls [.int v]) := by
  obtain ⟨hx, hb, hr, -, hown, hg, hlocks, hK, -, -, -⟩ := G
  subst hrt
  exact W.iret hx hb hr (fun t ht hW => ⟨rfl, by rw [ht]; exact hI.1, hI.2.F ht⟩) hI.2.2.2 hd hlocks
theorem m_zret (G : Mx n D cA ad A sa p s m args meth c own cc mL rt) (hI : Iv n sh D cA ad A s.heap w H locs) {v : Int32} (hrt : rt = some .boolean) (hn : narrow .boolean (.int v) = .int v) (hd : decode cc pc = .ok (.ireturn, 1)) : W p l e R s m args below meth c H locs 0 0 (QM n sh D cA ad A below args s (some (.int v)) w) (F0 m pc ls [.int v]) := by
  obtain ⟨hx, hb, hr, -, hown, hg, hlocks, hK, -, -, -⟩ := G
  subst hrt
  exact W.zret hx hb hr hn (fun t ht hW => ⟨rfl, by rw [ht]; exact hI.1, hI.2.F ht⟩) hI.2.2.2 hd hlocks
theorem m_lret (G : Mx n D cA ad A sa p s m args meth c own cc mL rt) (hI : Iv n sh D cA ad A s.heap w H locs) {v : Int64} (hrt : rt = some .long) (hd : decode cc pc = .ok (.lreturn, 1)) : W p l e R s m args below meth c H locs 0 0 (QM n sh D cA ad A below args s (some (.long v)) w) (F0 m pc ls [.long v]) := by
  obtain ⟨hx, hb, hr, -, hown, hg, hlocks, hK, -, -, -⟩ := G
  subst hrt
  exact W.lret hx hb hr (fun t ht hW => ⟨rfl, by rw [ht]; exact hI.1, hI.2.F ht⟩) hI.2.2.2 hd hlocks
theorem m_vret (G : Mx n D cA ad A sa p s m args meth c own cc mL rt) (hI : Iv n sh D cA ad A s.heap w H locs) (hrt : rt = none) (hd : decode cc pc = .ok (.return_, 1)) : W p l e R s m args below meth c H locs 0 0 (QM n sh D cA ad A below args s none w) (F0 m pc ls []) := by
  obtain ⟨hx, hb, hr, -, hown, hg, hlocks, hK, -, -, -⟩ := G
  subst hrt
  exact W.vret hx hb hr (fun t ht hW => ⟨rfl, by rw [ht]; exact hI.1, hI.2.F ht⟩) hI.2.2.2 hd hlocks
theorem m_aret (G : Mx n D cA ad A sa p s m args meth c own cc mL rt) (hI : Iv n sh D cA ad A s.heap w H locs) {q : Nat} {nm : String} (hrt : rt = some (.object nm)) (hd : decode cc pc = .ok (.areturn, 1)) : W p l e R s m args below meth c H locs 0 0 (QM n sh D cA ad A below args s (some (.ref q)) w) (F0 m pc ls [.ref q]) := by
  obtain ⟨hx, hb, hr, -, hown, hg, hlocks, hK, -, -, -⟩ := G
  subst hrt
  exact W.aret hx hb hr (Or.inl ⟨_, rfl⟩) (Or.inr ⟨_, rfl⟩) (fun t ht hW => ⟨rfl, by rw [ht]; exact hI.1, hI.2.F ht⟩) hI.2.2.2 hd hlocks
/-- behind a call -/
theorem m_back {r : Option Value} {w1 : Mem} {a : Array Value} {st0 : List Value} (hr : va_Run p l e R s m args below meth c H locs 0 0 0 0 (F0 m pc ls st0) rest (QcC n sh D cA ad A r w1 a) A) (hI : Iv n sh D cA ad A s.heap w H locs)
    (kk : ∀ (H1 : Heap) (locs1 : List Loc), Iv n sh D cA ad A s.heap w1 H1 locs1 → W p l e R s m args below meth c H1 locs1 0 0 Q (F0 m (pc + 3) ls (r.toList ++ rest))) : W p l e R s m args below meth c H locs 0 0 Q (F0 m pc ls st0) := by
  have hS := hI.2
  intro T hT X
  obtain ⟨v, st₀, t, T', L, h0, X', hL, e1, e2, ⟨hv, hp, hz, hk⟩, st⟩ := hr T hT X
  cases hv
  rw [h0] at hz hk
  obtain ⟨t2, a1, b1⟩ := kk T'.heap (locs ++ L) ⟨by rw [e1]; exact hp, Nat.le_trans hS.1 (by rw [e1]; exact hz), fun q h1 h2 => by rw [e1, hk q (Nat.lt_of_lt_of_le h1 hS.1) h2]; exact hS.2.1 q h1 h2, fun q hq => by
      rcases List.mem_append.mp hq with h | h
      · exact hS.2.2 q h
      · exact hL q h⟩ T' rfl X'
  exact ⟨t2, st t2 a1, b1⟩
theorem PcC.blind {as : List Value} : FrameBlind (PcC n sh D cA ad A sa w as) := fun a U g mk q => by
  obtain ⟨q0, qP, qK, qN, qS⟩ := q
  exact ⟨q0, qP, va_K.moved (u := U) (U := U.calling g mk a) (Vm.Alike.refl U.vm) qK, qN.same rfl, qS.same (U := U.calling g mk a) (Vm.Alike.refl U.vm) rfl⟩
theorem PcC.at (G : Mx n D cA ad A sa p s m args meth c own cc mL rt) (hI : Iv n sh D cA ad A s.heap w H locs) (as : List Value) : ∀ U : State, U.heap = H → s.WarmedH U.vm → PcC n sh D cA ad A sa w as as.toArray U := by
  obtain ⟨hx, hb, hr, -, hown, hg, hlocks, hK, hN, hZ, -⟩ := G
  exact fun U hU hW => ⟨rfl, by rw [hU]; exact hI.1, va_K.moved hW.alike hK, hN.warm hW, hZ.go hW.alike hU hI.2⟩
/-- what the tables say of a method, by its words -/
def MV (y : MethodName) (cc : ByteArray) (mL : Nat) (rt : Option FieldType) (na : Nat) : Prop := Cond.code y cc mL rt ∈ gT ∧ Cond.instanceMethod y ∈ gT ∧ Cond.selects y.cls y y ∈ gT ∧ Cond.initialized y.cls ∈ gT ∧ y.cls ≠ "java/lang/invoke/MethodHandle" ∧ y.cls ≠ "java/lang/invoke/VarHandle" ∧ (parseMethodDescriptor y.desc).map (fun d => d.parameters.length) = some na
def MS (y : MethodName) (cc : ByteArray) (mL : Nat) (rt : Option FieldType) (na : Nat) : Prop := Cond.code y cc mL rt ∈ gT ∧ Cond.static y ∈ gT ∧ Cond.initialized y.cls ∈ gT ∧ y.cls ≠ "java/lang/invoke/MethodHandle" ∧ y.cls ≠ "java/lang/invoke/VarHandle" ∧ (parseMethodDescriptor y.desc).map (fun d => d.parameters.length) = some na
variable {y : MethodName} {bytes : ByteArray} {mL' fr lo na index i ci : Nat} {rt' : Option FieldType} {As : List Value} {r : Option Value} {w1 : Mem} {fk : List (Option Nat)} {T : u_T} {N : Nat} {st0 : List Value}
theorem m_callV (G : Mx n D cA ad A sa p s m args meth c own cc mL rt) (hI : Iv n sh D cA ad A s.heap w H locs) (hM : Ctr l n sh D cA ad A sa y bytes mL' rt' fr lo (.ref (ad i) :: As) w r w1) (my : MV y bytes mL' rt' na) (hl : Cond.methodLink own index y ∈ gT) (hi : i < n) (hs : sh i = .inr (ci, fk)) (hc : classes[ci]? = some (y.cls, T, N))
    (hR : fr + 1 ≤ R.frames ∧ 8 + (mL' + 11) + lo ≤ R.locals) (hn : As.length = na) (hsz : ls.size = mL) (hst : st0 = As.reverse ++ .ref (ad i) :: rest) (hW : (rest.map fun v => v.category).sum ≤ 8) (hd : decode cc pc = .ok (.invokevirtual index, 3))
    (kk : ∀ (H1 : Heap) (locs1 : List Loc), Iv n sh D cA ad A s.heap w1 H1 locs1 → W p l e R s m args below meth c H1 locs1 0 0 Q (F0 m (pc + 3) ls (r.toList ++ rest))) : W p l e R s m args below meth c H locs 0 0 Q (F0 m pc ls st0) := by
  have G' := G
  obtain ⟨hx, hb, hr, hml, hown, hg, hlocks, hK, hN, hZ, -⟩ := G'
  have he : (wsO n sh ad cA w)[i]? = some (ad i, .inr (ci, fvs ad (w i) 0 fk)) := by rw [wsO_get hi]; simp only [cE, hs]
  subst hst
  refine m_back (va_runV (b := ad i) (As := As) (rest := rest) (C := y.cls) (Ts := gT) ⟨hx, hb, hml, hown, hg⟩ hM ⟨callB_of na hg (gT_in my.1) rfl rfl rfl (hg _ my.2.2.2.1) (hg _ hl) my.2.2.2.2 hR, hg _ my.2.1, hg _ my.2.2.1⟩ ⟨PcC.blind, va_recv hK hI.1 hc he, PcC.at G hI _⟩ rfl hn hsz rfl (lv_room hW) hd ⟨Nat.zero_le _, Nat.zero_le _⟩) hI kk
theorem m_callS (G : Mx n D cA ad A sa p s m args meth c own cc mL rt) (hI : Iv n sh D cA ad A s.heap w H locs) (hM : Ctr l n sh D cA ad A sa y bytes mL' rt' fr lo As w r w1) (my : MS y bytes mL' rt' na) (hl : Cond.methodLink own index y ∈ gT)
    (hR : fr + 1 ≤ R.frames ∧ 8 + (mL' + 11) + lo ≤ R.locals) (hn : As.length = na) (hsz : ls.size = mL) (hst : st0 = As.reverse ++ rest) (hW : (rest.map fun v => v.category).sum ≤ 8) (hd : decode cc pc = .ok (.invokestatic index, 3))
    (kk : ∀ (H1 : Heap) (locs1 : List Loc), Iv n sh D cA ad A s.heap w1 H1 locs1 → W p l e R s m args below meth c H1 locs1 0 0 Q (F0 m (pc + 3) ls (r.toList ++ rest))) : W p l e R s m args below meth c H locs 0 0 Q (F0 m pc ls st0) := by
  have G' := G
  obtain ⟨hx, hb, hr, hml, hown, hg, hlocks, hK, hN, hZ, -⟩ := G'
  subst hst
  refine m_back (va_runS (As := As) (rest := rest) (Ts := gT) ⟨hx, hb, hml, hown, hg⟩ hM ⟨callB_of na hg (gT_in my.1) rfl rfl rfl (hg _ my.2.2.1) (hg _ hl) my.2.2.2 hR, hg _ my.2.1⟩ ⟨PcC.blind, PcC.at G hI _⟩ rfl hn hsz rfl (lv_room hW) hd ⟨Nat.zero_le _, Nat.zero_le _⟩) hI kk
theorem m_callSN (G : Mx n D cA ad A sa p s m args meth c own cc mL rt) (hI : Iv n sh D cA ad A s.heap w H locs) (hM : Ctr l n sh D cA ad A sa y bytes mL' rt' fr lo As w r w1) (my : MS y bytes mL' rt' na) {host : String} (hl : (own, index, y, host) ∈ NM)
    (hR : fr + 1 ≤ R.frames ∧ 8 + (mL' + 11) + lo ≤ R.locals) (hn : As.length = na) (hsz : ls.size = mL) (hst : st0 = As.reverse ++ rest) (hW : (rest.map fun v => v.category).sum ≤ 8) (hd : decode cc pc = .ok (.invokestatic index, 3))
    (kk : ∀ (H1 : Heap) (locs1 : List Loc), Iv n sh D cA ad A s.heap w1 H1 locs1 → W p l e R s m args below meth c H1 locs1 0 0 Q (F0 m (pc + 3) ls (r.toList ++ rest))) : W p l e R s m args below meth c H locs 0 0 Q (F0 m pc ls st0) := by
  have G' := G
  obtain ⟨hx, hb, hr, hml, hown, hg, hlocks, hK, hN, hZ, -⟩ := G'
  subst hst
  refine m_back (va_runSN (As := As) (rest := rest) (Ts := gT) ⟨hx, hb, hml, hown, hg⟩ hM ⟨va_cnB na hg (gT_in my.1) rfl rfl rfl (hN.1 _ hl) (hg _ my.2.2.1) my.2.2.2 hR, hg _ my.2.1, trivial⟩ ⟨PcC.blind, PcC.at G hI _⟩ rfl hn hsz rfl (lv_room hW) hd ⟨Nat.zero_le _, Nat.zero_le _⟩) hI kk
end MR
/-! the walk's own forms -/
def gd {β : Type} (b : Bool) (k : Option β) : Option β := match b with
  | true => k
  | false => none
theorem gd_some {β : Type} {b : Bool} {k : Option β} {x : β} (h : gd b k = some x) : b = true ∧ k = some x := by
  cases b
  · cases h
  · exact ⟨rfl, h⟩
def bd {α β : Type} (o : Option (α × Mem)) (f : α → Mem → Option β) : Option β := match o with
  | some q => f q.1 q.2
  | none => none
theorem bd_some {α β : Type} {o : Option (α × Mem)} {f : α → Mem → Option β} {x : β} (h : bd o f = some x) : ∃ a w, o = some (a, w) ∧ f a w = some x := by
  match o, h with
  | some (a, w), h => exact ⟨a, w, rfl, h⟩
def lt {α β : Type} (a : α) (f : α → Option β) : Option β := f a
theorem lt_some {α β : Type} {a : α} {f : α → Option β} {x : β} (h : lt a f = some x) : ∃ b, b = a ∧ f b = some x := ⟨a, rfl, h⟩
def jn {κ β : Type} (k : κ) (g : κ → Option β) : Option β := g k
theorem jn_some {κ β : Type} {k : κ} {g : κ → Option β} {x : β} (h : jn k g = some x) : ∃ k', k' = k ∧ g k' = some x := ⟨k, rfl, h⟩
def inb (j : Int32) (n : Nat) : Bool := !(decide (j < 0)) && !(decide (n ≤ j.toNatClampNeg))
theorem inb_in {j : Int32} {n : Nat} (h : inb j n = true) : vp_in j n := by
  simp only [inb, Bool.and_eq_true, Bool.not_eq_true', decide_eq_false_iff_not] at h
  rintro (q | q)
  · exact h.1 q
  · exact h.2 q
def bz (v : Int32) : Bool := decide (v = 0) || decide (v = 1)
theorem bz_narrow {v : Int32} (h : bz v = true) : narrow .boolean (.int v) = .int v := by
  simp only [bz, Bool.or_eq_true, decide_eq_true_eq] at h
  rcases h with rfl | rfl <;> rfl
def nz (v : Int32) : Bool := !(decide (v = 0))
theorem nz_ne {v : Int32} (h : nz v = true) : ¬ v = 0 := by simpa [nz] using h
def nzl (v : Int64) : Bool := !(decide (v = 0))
theorem nzl_ne {v : Int64} (h : nzl v = true) : ¬ v = 0 := by simpa [nzl] using h
end
section
/-! shapes, fields, links, methods: by program (wip/gen/g05.py) -/
def lnC (a : Nat) : Nat := match a with
  | 7 => 48
  | 8 => 48
  | 21 => 48
  | 29 => 28
  | 31 => 48
  | 35 => 28
  | 40 => 40
  | 44 => 48
  | _ => 0
def isAr (n : Nat) (sh : Nat → Shp) (a L : Nat) : Prop := a < n ∧ sh a = .inl L
def isX4 (n : Nat) (sh : Nat → Shp) (i : Nat) : Prop := i < n ∧ sh i = .inr (4, [none, some (i + 1), none]) ∧ isAr n sh (i + 1) (lnC (i + 1))
theorem isX4.lt {n : Nat} {sh : Nat → Shp} {i : Nat} (h : isX4 n sh i) : i < n := h.1
theorem isX4.sh {n : Nat} {sh : Nat → Shp} {i : Nat} (h : isX4 n sh i) : sh i = .inr (4, [none, some (i + 1), none]) := h.2.1
theorem isX4.cells {n : Nat} {sh : Nat → Shp} {i : Nat} (h : isX4 n sh i) : isAr n sh (i + 1) (lnC (i + 1)) := h.2.2
def isX1 (n : Nat) (sh : Nat → Shp) (i : Nat) : Prop := i < n ∧ sh i = .inr (1, [none, none, none, none, none, some (i + 1), some (i + 2), some (i + 3), some (i + 4)]) ∧ isAr n sh (i + 1) 3 ∧ isAr n sh (i + 2) 3 ∧ isAr n sh (i + 3) 3 ∧ isAr n sh (i + 4) 3
theorem isX1.lt {n : Nat} {sh : Nat → Shp} {i : Nat} (h : isX1 n sh i) : i < n := h.1
theorem isX1.sh {n : Nat} {sh : Nat → Shp} {i : Nat} (h : isX1 n sh i) : sh i = .inr (1, [none, none, none, none, none, some (i + 1), some (i + 2), some (i + 3), some (i + 4)]) := h.2.1
theorem isX1.uncorrected {n : Nat} {sh : Nat → Shp} {i : Nat} (h : isX1 n sh i) : isAr n sh (i + 1) 3 := h.2.2.1
theorem isX1.high {n : Nat} {sh : Nat → Shp} {i : Nat} (h : isX1 n sh i) : isAr n sh (i + 2) 3 := h.2.2.2.1
theorem isX1.start {n : Nat} {sh : Nat → Shp} {i : Nat} (h : isX1 n sh i) : isAr n sh (i + 3) 3 := h.2.2.2.2.1
theorem isX1.current {n : Nat} {sh : Nat → Shp} {i : Nat} (h : isX1 n sh i) : isAr n sh (i + 4) 3 := h.2.2.2.2.2
def isX2 (n : Nat) (sh : Nat → Shp) (i : Nat) : Prop := i < n ∧ sh i = .inr (2, [some (i + 1), none]) ∧ isX4 n sh (i + 1)
theorem isX2.lt {n : Nat} {sh : Nat → Shp} {i : Nat} (h : isX2 n sh i) : i < n := h.1
theorem isX2.sh {n : Nat} {sh : Nat → Shp} {i : Nat} (h : isX2 n sh i) : sh i = .inr (2, [some (i + 1), none]) := h.2.1
theorem isX2.rows {n : Nat} {sh : Nat → Shp} {i : Nat} (h : isX2 n sh i) : isX4 n sh (i + 1) := h.2.2
def isX0 (n : Nat) (sh : Nat → Shp) (i : Nat) : Prop := i < n ∧ sh i = .inr (0, [some (i + 1), some (i + 2), some (i + 3), some (i + 4), some (i + 5), some (i + 6), some (i + 8), none]) ∧ isAr n sh (i + 1) 7 ∧ isAr n sh (i + 2) 3 ∧ isAr n sh (i + 3) 3 ∧ isAr n sh (i + 4) 3 ∧ isAr n sh (i + 5) 3 ∧ isX4 n sh (i + 6) ∧ isX1 n sh (i + 8)
theorem isX0.lt {n : Nat} {sh : Nat → Shp} {i : Nat} (h : isX0 n sh i) : i < n := h.1
theorem isX0.sh {n : Nat} {sh : Nat → Shp} {i : Nat} (h : isX0 n sh i) : sh i = .inr (0, [some (i + 1), some (i + 2), some (i + 3), some (i + 4), some (i + 5), some (i + 6), some (i + 8), none]) := h.2.1
theorem isX0.setting {n : Nat} {sh : Nat → Shp} {i : Nat} (h : isX0 n sh i) : isAr n sh (i + 1) 7 := h.2.2.1
theorem isX0.demand {n : Nat} {sh : Nat → Shp} {i : Nat} (h : isX0 n sh i) : isAr n sh (i + 2) 3 := h.2.2.2.1
theorem isX0.current {n : Nat} {sh : Nat → Shp} {i : Nat} (h : isX0 n sh i) : isAr n sh (i + 3) 3 := h.2.2.2.2.1
theorem isX0.want {n : Nat} {sh : Nat → Shp} {i : Nat} (h : isX0 n sh i) : isAr n sh (i + 4) 3 := h.2.2.2.2.2.1
theorem isX0.sum {n : Nat} {sh : Nat → Shp} {i : Nat} (h : isX0 n sh i) : isAr n sh (i + 5) 3 := h.2.2.2.2.2.2.1
theorem isX0.wishes {n : Nat} {sh : Nat → Shp} {i : Nat} (h : isX0 n sh i) : isX4 n sh (i + 6) := h.2.2.2.2.2.2.2.1
theorem isX0.plan {n : Nat} {sh : Nat → Shp} {i : Nat} (h : isX0 n sh i) : isX1 n sh (i + 8) := h.2.2.2.2.2.2.2.2
def isX3 (n : Nat) (sh : Nat → Shp) (i : Nat) : Prop := i < n ∧ sh i = .inr (3, [some 33, some 36, some 37, some 38, none, none]) ∧ isX2 n sh 33 ∧ isAr n sh 36 3 ∧ isAr n sh 37 3 ∧ isAr n sh 38 3
theorem isX3.lt {n : Nat} {sh : Nat → Shp} {i : Nat} (h : isX3 n sh i) : i < n := h.1
theorem isX3.sh {n : Nat} {sh : Nat → Shp} {i : Nat} (h : isX3 n sh i) : sh i = .inr (3, [some 33, some 36, some 37, some 38, none, none]) := h.2.1
theorem isX3.runs {n : Nat} {sh : Nat → Shp} {i : Nat} (h : isX3 n sh i) : isX2 n sh 33 := h.2.2.1
theorem isX3.tried {n : Nat} {sh : Nat → Shp} {i : Nat} (h : isX3 n sh i) : isAr n sh 36 3 := h.2.2.2.1
theorem isX3.shifted {n : Nat} {sh : Nat → Shp} {i : Nat} (h : isX3 n sh i) : isAr n sh 37 3 := h.2.2.2.2.1
theorem isX3.best {n : Nat} {sh : Nat → Shp} {i : Nat} (h : isX3 n sh i) : isAr n sh 38 3 := h.2.2.2.2.2
def isX5 (n : Nat) (sh : Nat → Shp) (i : Nat) : Prop := i < n ∧ sh i = .inr (5, [some 42, some 43, none, none, none]) ∧ isAr n sh 42 120 ∧ isX4 n sh 43
theorem isX5.lt {n : Nat} {sh : Nat → Shp} {i : Nat} (h : isX5 n sh i) : i < n := h.1
theorem isX5.sh {n : Nat} {sh : Nat → Shp} {i : Nat} (h : isX5 n sh i) : sh i = .inr (5, [some 42, some 43, none, none, none]) := h.2.1
theorem isX5.bytes {n : Nat} {sh : Nat → Shp} {i : Nat} (h : isX5 n sh i) : isAr n sh 42 120 := h.2.2.1
theorem isX5.wishes {n : Nat} {sh : Nat → Shp} {i : Nat} (h : isX5 n sh i) : isX4 n sh 43 := h.2.2.2
def isX6 (n : Nat) (sh : Nat → Shp) (i : Nat) : Prop := i < n ∧ sh i = .inr (6, [some 1, some 14, some 27, some 30, some 32, some 39, some 41, some 45]) ∧ isX0 n sh 1 ∧ isX0 n sh 14 ∧ isX2 n sh 27 ∧ isX4 n sh 30 ∧ isX3 n sh 32 ∧ isX4 n sh 39 ∧ isX5 n sh 41 ∧ isAr n sh 45 3
theorem isX6.lt {n : Nat} {sh : Nat → Shp} {i : Nat} (h : isX6 n sh i) : i < n := h.1
theorem isX6.sh {n : Nat} {sh : Nat → Shp} {i : Nat} (h : isX6 n sh i) : sh i = .inr (6, [some 1, some 14, some 27, some 30, some 32, some 39, some 41, some 45]) := h.2.1
theorem isX6.drive {n : Nat} {sh : Nat → Shp} {i : Nat} (h : isX6 n sh i) : isX0 n sh 1 := h.2.2.1
theorem isX6.trial {n : Nat} {sh : Nat → Shp} {i : Nat} (h : isX6 n sh i) : isX0 n sh 14 := h.2.2.2.1
theorem isX6.runs {n : Nat} {sh : Nat → Shp} {i : Nat} (h : isX6 n sh i) : isX2 n sh 27 := h.2.2.2.2.1
theorem isX6.gateEvents {n : Nat} {sh : Nat → Shp} {i : Nat} (h : isX6 n sh i) : isX4 n sh 30 := h.2.2.2.2.2.1
theorem isX6.shifts {n : Nat} {sh : Nat → Shp} {i : Nat} (h : isX6 n sh i) : isX3 n sh 32 := h.2.2.2.2.2.2.1
theorem isX6.remembered {n : Nat} {sh : Nat → Shp} {i : Nat} (h : isX6 n sh i) : isX4 n sh 39 := h.2.2.2.2.2.2.2.1
theorem isX6.text {n : Nat} {sh : Nat → Shp} {i : Nat} (h : isX6 n sh i) : isX5 n sh 41 := h.2.2.2.2.2.2.2.2.1
theorem isX6.refused {n : Nat} {sh : Nat → Shp} {i : Nat} (h : isX6 n sh i) : isAr n sh 45 3 := h.2.2.2.2.2.2.2.2.2
def isX7 (n : Nat) (sh : Nat → Shp) (i : Nat) : Prop := i < n ∧ sh i = .inr (7, [some 1, some 2, some 3, some 4, some 5, some 6, none, none, some 7, some 8, some 9, none, some 10, none, none, some 11, some 12, some 13, some 14, none, some 15, some 16, none, none, none, none, none, some 17, some 18, some 19, some 20, some 21, none, none, none, none, none]) ∧ isAr n sh 1 3 ∧ isAr n sh 2 7 ∧ isAr n sh 3 3 ∧ isAr n sh 4 3 ∧ isAr n sh 5 3 ∧ isAr n sh 6 3 ∧ isAr n sh 7 12 ∧ isAr n sh 8 12 ∧ isAr n sh 9 12 ∧ isAr n sh 10 40 ∧ isAr n sh 11 3 ∧ isAr n sh 12 3 ∧ isAr n sh 13 3 ∧ isAr n sh 14 3 ∧ isAr n sh 15 96 ∧ isAr n sh 16 96 ∧ isAr n sh 17 5 ∧ isAr n sh 18 3 ∧ isAr n sh 19 3 ∧ isAr n sh 20 50 ∧ isAr n sh 21 120
theorem isX7.lt {n : Nat} {sh : Nat → Shp} {i : Nat} (h : isX7 n sh i) : i < n := h.1
theorem isX7.sh {n : Nat} {sh : Nat → Shp} {i : Nat} (h : isX7 n sh i) : sh i = .inr (7, [some 1, some 2, some 3, some 4, some 5, some 6, none, none, some 7, some 8, some 9, none, some 10, none, none, some 11, some 12, some 13, some 14, none, some 15, some 16, none, none, none, none, none, some 17, some 18, some 19, some 20, some 21, none, none, none, none, none]) := h.2.1
theorem isX7.refused {n : Nat} {sh : Nat → Shp} {i : Nat} (h : isX7 n sh i) : isAr n sh 1 3 := h.2.2.1
theorem isX7.told {n : Nat} {sh : Nat → Shp} {i : Nat} (h : isX7 n sh i) : isAr n sh 2 7 := h.2.2.2.1
theorem isX7.current {n : Nat} {sh : Nat → Shp} {i : Nat} (h : isX7 n sh i) : isAr n sh 3 3 := h.2.2.2.2.1
theorem isX7.demand {n : Nat} {sh : Nat → Shp} {i : Nat} (h : isX7 n sh i) : isAr n sh 4 3 := h.2.2.2.2.2.1
theorem isX7.want {n : Nat} {sh : Nat → Shp} {i : Nat} (h : isX7 n sh i) : isAr n sh 5 3 := h.2.2.2.2.2.2.1
theorem isX7.sum {n : Nat} {sh : Nat → Shp} {i : Nat} (h : isX7 n sh i) : isAr n sh 6 3 := h.2.2.2.2.2.2.2.1
theorem isX7.wishLeg {n : Nat} {sh : Nat → Shp} {i : Nat} (h : isX7 n sh i) : isAr n sh 7 12 := h.2.2.2.2.2.2.2.2.1
theorem isX7.wishPeriod {n : Nat} {sh : Nat → Shp} {i : Nat} (h : isX7 n sh i) : isAr n sh 8 12 := h.2.2.2.2.2.2.2.2.2.1
theorem isX7.wishValue {n : Nat} {sh : Nat → Shp} {i : Nat} (h : isX7 n sh i) : isAr n sh 9 12 := h.2.2.2.2.2.2.2.2.2.2.1
theorem isX7.memory {n : Nat} {sh : Nat → Shp} {i : Nat} (h : isX7 n sh i) : isAr n sh 10 40 := h.2.2.2.2.2.2.2.2.2.2.2.1
theorem isX7.plain {n : Nat} {sh : Nat → Shp} {i : Nat} (h : isX7 n sh i) : isAr n sh 11 3 := h.2.2.2.2.2.2.2.2.2.2.2.2.1
theorem isX7.high {n : Nat} {sh : Nat → Shp} {i : Nat} (h : isX7 n sh i) : isAr n sh 12 3 := h.2.2.2.2.2.2.2.2.2.2.2.2.2.1
theorem isX7.start {n : Nat} {sh : Nat → Shp} {i : Nat} (h : isX7 n sh i) : isAr n sh 13 3 := h.2.2.2.2.2.2.2.2.2.2.2.2.2.2.1
theorem isX7.counts {n : Nat} {sh : Nat → Shp} {i : Nat} (h : isX7 n sh i) : isAr n sh 14 3 := h.2.2.2.2.2.2.2.2.2.2.2.2.2.2.2.1
theorem isX7.runAt {n : Nat} {sh : Nat → Shp} {i : Nat} (h : isX7 n sh i) : isAr n sh 15 96 := h.2.2.2.2.2.2.2.2.2.2.2.2.2.2.2.2.1
theorem isX7.runLong {n : Nat} {sh : Nat → Shp} {i : Nat} (h : isX7 n sh i) : isAr n sh 16 96 := h.2.2.2.2.2.2.2.2.2.2.2.2.2.2.2.2.2.1
theorem isX7.best {n : Nat} {sh : Nat → Shp} {i : Nat} (h : isX7 n sh i) : isAr n sh 17 5 := h.2.2.2.2.2.2.2.2.2.2.2.2.2.2.2.2.2.2.1
theorem isX7.first {n : Nat} {sh : Nat → Shp} {i : Nat} (h : isX7 n sh i) : isAr n sh 18 3 := h.2.2.2.2.2.2.2.2.2.2.2.2.2.2.2.2.2.2.2.1
theorem isX7.means {n : Nat} {sh : Nat → Shp} {i : Nat} (h : isX7 n sh i) : isAr n sh 19 3 := h.2.2.2.2.2.2.2.2.2.2.2.2.2.2.2.2.2.2.2.2.1
theorem isX7.aside {n : Nat} {sh : Nat → Shp} {i : Nat} (h : isX7 n sh i) : isAr n sh 20 50 := h.2.2.2.2.2.2.2.2.2.2.2.2.2.2.2.2.2.2.2.2.2.1
theorem isX7.text {n : Nat} {sh : Nat → Shp} {i : Nat} (h : isX7 n sh i) : isAr n sh 21 120 := h.2.2.2.2.2.2.2.2.2.2.2.2.2.2.2.2.2.2.2.2.2.2
theorem u_all {C : String} {T : u_T} {N : Nat} (h : ∀ k, k < N → u_lay C T k ∈ gT) : ∀ w ∈ u_ws C T N, w ∈ gT := by
  intro w hw
  obtain ⟨k, hk, rfl⟩ := List.mem_map.mp hw
  exact h k (List.mem_range.mp hk)
theorem laX0_0 : u_lay RX0 TX0 0 ∈ gT := tin 130 (by decide +kernel) rfl
theorem laX0_1 : u_lay RX0 TX0 1 ∈ gT := tin 132 (by decide +kernel) rfl
theorem laX0_2 : u_lay RX0 TX0 2 ∈ gT := tin 134 (by decide +kernel) rfl
theorem laX0_3 : u_lay RX0 TX0 3 ∈ gT := tin 136 (by decide +kernel) rfl
theorem laX0_4 : u_lay RX0 TX0 4 ∈ gT := tin 138 (by decide +kernel) rfl
theorem laX0_5 : u_lay RX0 TX0 5 ∈ gT := tin 140 (by decide +kernel) rfl
theorem laX0_6 : u_lay RX0 TX0 6 ∈ gT := tin 142 (by decide +kernel) rfl
theorem laX0_7 : u_lay RX0 TX0 7 ∈ gT := tin 144 (by decide +kernel) rfl
theorem inGX0 : ∀ w ∈ u_ws RX0 TX0 8, w ∈ gT := u_all (fun k hk => match k, hk with
  | 0, _ => laX0_0
  | 1, _ => laX0_1
  | 2, _ => laX0_2
  | 3, _ => laX0_3
  | 4, _ => laX0_4
  | 5, _ => laX0_5
  | 6, _ => laX0_6
  | 7, _ => laX0_7
  | q + 8, h => absurd h (by omega))
theorem laX1_0 : u_lay RX1 TX1 0 ∈ gT := tin 75 (by decide +kernel) rfl
theorem laX1_1 : u_lay RX1 TX1 1 ∈ gT := tin 77 (by decide +kernel) rfl
theorem laX1_2 : u_lay RX1 TX1 2 ∈ gT := tin 79 (by decide +kernel) rfl
theorem laX1_3 : u_lay RX1 TX1 3 ∈ gT := tin 81 (by decide +kernel) rfl
theorem laX1_4 : u_lay RX1 TX1 4 ∈ gT := tin 83 (by decide +kernel) rfl
theorem laX1_5 : u_lay RX1 TX1 5 ∈ gT := tin 85 (by decide +kernel) rfl
theorem laX1_6 : u_lay RX1 TX1 6 ∈ gT := tin 87 (by decide +kernel) rfl
theorem laX1_7 : u_lay RX1 TX1 7 ∈ gT := tin 89 (by decide +kernel) rfl
theorem laX1_8 : u_lay RX1 TX1 8 ∈ gT := tin 91 (by decide +kernel) rfl
theorem inGX1 : ∀ w ∈ u_ws RX1 TX1 9, w ∈ gT := u_all (fun k hk => match k, hk with
  | 0, _ => laX1_0
  | 1, _ => laX1_1
  | 2, _ => laX1_2
  | 3, _ => laX1_3
  | 4, _ => laX1_4
  | 5, _ => laX1_5
  | 6, _ => laX1_6
  | 7, _ => laX1_7
  | 8, _ => laX1_8
  | q + 9, h => absurd h (by omega))
theorem laX2_0 : u_lay RX2 TX2 0 ∈ gT := tin 159 (by decide +kernel) rfl
theorem laX2_1 : u_lay RX2 TX2 1 ∈ gT := tin 161 (by decide +kernel) rfl
theorem inGX2 : ∀ w ∈ u_ws RX2 TX2 2, w ∈ gT := u_all (fun k hk => match k, hk with
  | 0, _ => laX2_0
  | 1, _ => laX2_1
  | q + 2, h => absurd h (by omega))
theorem laX3_0 : u_lay RX3 TX3 0 ∈ gT := tin 183 (by decide +kernel) rfl
theorem laX3_1 : u_lay RX3 TX3 1 ∈ gT := tin 185 (by decide +kernel) rfl
theorem laX3_2 : u_lay RX3 TX3 2 ∈ gT := tin 187 (by decide +kernel) rfl
theorem laX3_3 : u_lay RX3 TX3 3 ∈ gT := tin 189 (by decide +kernel) rfl
theorem laX3_4 : u_lay RX3 TX3 4 ∈ gT := tin 191 (by decide +kernel) rfl
theorem laX3_5 : u_lay RX3 TX3 5 ∈ gT := tin 193 (by decide +kernel) rfl
theorem inGX3 : ∀ w ∈ u_ws RX3 TX3 6, w ∈ gT := u_all (fun k hk => match k, hk with
  | 0, _ => laX3_0
  | 1, _ => laX3_1
  | 2, _ => laX3_2
  | 3, _ => laX3_3
  | 4, _ => laX3_4
  | 5, _ => laX3_5
  | q + 6, h => absurd h (by omega))
theorem laX4_0 : u_lay RX4 TX4 0 ∈ gT := tin 42 (by decide +kernel) rfl
theorem laX4_1 : u_lay RX4 TX4 1 ∈ gT := tin 44 (by decide +kernel) rfl
theorem laX4_2 : u_lay RX4 TX4 2 ∈ gT := tin 46 (by decide +kernel) rfl
theorem inGX4 : ∀ w ∈ u_ws RX4 TX4 3, w ∈ gT := u_all (fun k hk => match k, hk with
  | 0, _ => laX4_0
  | 1, _ => laX4_1
  | 2, _ => laX4_2
  | q + 3, h => absurd h (by omega))
theorem laX5_0 : u_lay RX5 TX5 0 ∈ gT := tin 211 (by decide +kernel) rfl
theorem laX5_1 : u_lay RX5 TX5 1 ∈ gT := tin 213 (by decide +kernel) rfl
theorem laX5_2 : u_lay RX5 TX5 2 ∈ gT := tin 215 (by decide +kernel) rfl
theorem laX5_3 : u_lay RX5 TX5 3 ∈ gT := tin 217 (by decide +kernel) rfl
theorem laX5_4 : u_lay RX5 TX5 4 ∈ gT := tin 219 (by decide +kernel) rfl
theorem inGX5 : ∀ w ∈ u_ws RX5 TX5 5, w ∈ gT := u_all (fun k hk => match k, hk with
  | 0, _ => laX5_0
  | 1, _ => laX5_1
  | 2, _ => laX5_2
  | 3, _ => laX5_3
  | 4, _ => laX5_4
  | q + 5, h => absurd h (by omega))
theorem laX6_0 : u_lay RX6 TX6 0 ∈ gT := tin 230 (by decide +kernel) rfl
theorem laX6_1 : u_lay RX6 TX6 1 ∈ gT := tin 232 (by decide +kernel) rfl
theorem laX6_2 : u_lay RX6 TX6 2 ∈ gT := tin 234 (by decide +kernel) rfl
theorem laX6_3 : u_lay RX6 TX6 3 ∈ gT := tin 236 (by decide +kernel) rfl
theorem laX6_4 : u_lay RX6 TX6 4 ∈ gT := tin 238 (by decide +kernel) rfl
theorem laX6_5 : u_lay RX6 TX6 5 ∈ gT := tin 240 (by decide +kernel) rfl
theorem laX6_6 : u_lay RX6 TX6 6 ∈ gT := tin 242 (by decide +kernel) rfl
theorem laX6_7 : u_lay RX6 TX6 7 ∈ gT := tin 244 (by decide +kernel) rfl
theorem inGX6 : ∀ w ∈ u_ws RX6 TX6 8, w ∈ gT := u_all (fun k hk => match k, hk with
  | 0, _ => laX6_0
  | 1, _ => laX6_1
  | 2, _ => laX6_2
  | 3, _ => laX6_3
  | 4, _ => laX6_4
  | 5, _ => laX6_5
  | 6, _ => laX6_6
  | 7, _ => laX6_7
  | q + 8, h => absurd h (by omega))
theorem laX7_0 : u_lay RX7 TX7 0 ∈ gT := tin 743 (by decide +kernel) rfl
theorem laX7_1 : u_lay RX7 TX7 1 ∈ gT := tin 745 (by decide +kernel) rfl
theorem laX7_2 : u_lay RX7 TX7 2 ∈ gT := tin 747 (by decide +kernel) rfl
theorem laX7_3 : u_lay RX7 TX7 3 ∈ gT := tin 749 (by decide +kernel) rfl
theorem laX7_4 : u_lay RX7 TX7 4 ∈ gT := tin 751 (by decide +kernel) rfl
theorem laX7_5 : u_lay RX7 TX7 5 ∈ gT := tin 753 (by decide +kernel) rfl
theorem laX7_6 : u_lay RX7 TX7 6 ∈ gT := tin 755 (by decide +kernel) rfl
theorem laX7_7 : u_lay RX7 TX7 7 ∈ gT := tin 757 (by decide +kernel) rfl
theorem laX7_8 : u_lay RX7 TX7 8 ∈ gT := tin 759 (by decide +kernel) rfl
theorem laX7_9 : u_lay RX7 TX7 9 ∈ gT := tin 761 (by decide +kernel) rfl
theorem laX7_10 : u_lay RX7 TX7 10 ∈ gT := tin 763 (by decide +kernel) rfl
theorem laX7_11 : u_lay RX7 TX7 11 ∈ gT := tin 765 (by decide +kernel) rfl
theorem laX7_12 : u_lay RX7 TX7 12 ∈ gT := tin 767 (by decide +kernel) rfl
theorem laX7_13 : u_lay RX7 TX7 13 ∈ gT := tin 769 (by decide +kernel) rfl
theorem laX7_14 : u_lay RX7 TX7 14 ∈ gT := tin 771 (by decide +kernel) rfl
theorem laX7_15 : u_lay RX7 TX7 15 ∈ gT := tin 773 (by decide +kernel) rfl
theorem laX7_16 : u_lay RX7 TX7 16 ∈ gT := tin 775 (by decide +kernel) rfl
theorem laX7_17 : u_lay RX7 TX7 17 ∈ gT := tin 777 (by decide +kernel) rfl
theorem laX7_18 : u_lay RX7 TX7 18 ∈ gT := tin 779 (by decide +kernel) rfl
theorem laX7_19 : u_lay RX7 TX7 19 ∈ gT := tin 781 (by decide +kernel) rfl
theorem laX7_20 : u_lay RX7 TX7 20 ∈ gT := tin 783 (by decide +kernel) rfl
theorem laX7_21 : u_lay RX7 TX7 21 ∈ gT := tin 785 (by decide +kernel) rfl
theorem laX7_22 : u_lay RX7 TX7 22 ∈ gT := tin 787 (by decide +kernel) rfl
theorem laX7_23 : u_lay RX7 TX7 23 ∈ gT := tin 789 (by decide +kernel) rfl
theorem laX7_24 : u_lay RX7 TX7 24 ∈ gT := tin 791 (by decide +kernel) rfl
theorem laX7_25 : u_lay RX7 TX7 25 ∈ gT := tin 793 (by decide +kernel) rfl
theorem laX7_26 : u_lay RX7 TX7 26 ∈ gT := tin 795 (by decide +kernel) rfl
theorem laX7_27 : u_lay RX7 TX7 27 ∈ gT := tin 797 (by decide +kernel) rfl
theorem laX7_28 : u_lay RX7 TX7 28 ∈ gT := tin 799 (by decide +kernel) rfl
theorem laX7_29 : u_lay RX7 TX7 29 ∈ gT := tin 801 (by decide +kernel) rfl
theorem laX7_30 : u_lay RX7 TX7 30 ∈ gT := tin 803 (by decide +kernel) rfl
theorem laX7_31 : u_lay RX7 TX7 31 ∈ gT := tin 805 (by decide +kernel) rfl
theorem laX7_32 : u_lay RX7 TX7 32 ∈ gT := tin 807 (by decide +kernel) rfl
theorem laX7_33 : u_lay RX7 TX7 33 ∈ gT := tin 809 (by decide +kernel) rfl
theorem laX7_34 : u_lay RX7 TX7 34 ∈ gT := tin 811 (by decide +kernel) rfl
theorem laX7_35 : u_lay RX7 TX7 35 ∈ gT := tin 813 (by decide +kernel) rfl
theorem laX7_36 : u_lay RX7 TX7 36 ∈ gT := tin 815 (by decide +kernel) rfl
theorem inGX7 : ∀ w ∈ u_ws RX7 TX7 37, w ∈ gT := u_all (fun k hk => match k, hk with
  | 0, _ => laX7_0
  | 1, _ => laX7_1
  | 2, _ => laX7_2
  | 3, _ => laX7_3
  | 4, _ => laX7_4
  | 5, _ => laX7_5
  | 6, _ => laX7_6
  | 7, _ => laX7_7
  | 8, _ => laX7_8
  | 9, _ => laX7_9
  | 10, _ => laX7_10
  | 11, _ => laX7_11
  | 12, _ => laX7_12
  | 13, _ => laX7_13
  | 14, _ => laX7_14
  | 15, _ => laX7_15
  | 16, _ => laX7_16
  | 17, _ => laX7_17
  | 18, _ => laX7_18
  | 19, _ => laX7_19
  | 20, _ => laX7_20
  | 21, _ => laX7_21
  | 22, _ => laX7_22
  | 23, _ => laX7_23
  | 24, _ => laX7_24
  | 25, _ => laX7_25
  | 26, _ => laX7_26
  | 27, _ => laX7_27
  | 28, _ => laX7_28
  | 29, _ => laX7_29
  | 30, _ => laX7_30
  | 31, _ => laX7_31
  | 32, _ => laX7_32
  | 33, _ => laX7_33
  | 34, _ => laX7_34
  | 35, _ => laX7_35
  | 36, _ => laX7_36
  | q + 37, h => absurd h (by omega))
theorem bz_fits {v : Int32} (h : bz v = true) : fits .boolean (.int v) = true := by
  simp only [bz, Bool.or_eq_true, decide_eq_true_eq] at h
  rcases h with rfl | rfl <;> rfl
section FR
variable {n : Nat} {sh : Nat → Shp} {D : va_G} {cA : ClassId} {ad : Nat → Nat} {A : Nat → Prop} {sa : Nat → Nat} {mL : Nat} {rt : Option FieldType} {w : Mem} {p : Program} {l : Launch} {e : Env} {Rm : Room} {s : State} {m : MethodId} {args : Array Value} {below : List Frame} {meth : Method} {c : Code} {H : Heap} {locs : List Loc} {cells slots : Nat} {Q : State → Prop} {cc : ByteArray} {pc : Nat} {ls : Array Slot} {rest : List Value}
theorem fl_X6_10 : Cond.fieldLink RX6 10 RX6 (TX6 0).2.1 (TX6 0).2.2.1 ∈ gT := tin 222 (by decide +kernel) rfl
theorem gf_X6_10 (G : Mx n D cA ad A sa p s m args meth c RX6 cc mL rt) (hI : Iv n sh D cA ad A s.heap w H locs) {i : Nat} (hi : isX6 n sh i) (hd : decode cc pc = .ok (.getfield 10, 3)) (kk : W p l e Rm s m args below meth c H locs cells slots Q (F0 m (pc + 3) ls (.ref (ad 1) :: rest))) : W p l e Rm s m args below meth c H locs cells slots Q (F0 m pc ls (.ref (ad i) :: rest)) :=
  m_getR G hI inGX6 (ci := 6) (k := 0) rfl (by decide) fl_X6_10 rfl hi.lt hi.sh rfl hd kk
theorem fl_X6_16 : Cond.fieldLink RX6 16 RX6 (TX6 1).2.1 (TX6 1).2.2.1 ∈ gT := tin 223 (by decide +kernel) rfl
theorem gf_X6_16 (G : Mx n D cA ad A sa p s m args meth c RX6 cc mL rt) (hI : Iv n sh D cA ad A s.heap w H locs) {i : Nat} (hi : isX6 n sh i) (hd : decode cc pc = .ok (.getfield 16, 3)) (kk : W p l e Rm s m args below meth c H locs cells slots Q (F0 m (pc + 3) ls (.ref (ad 14) :: rest))) : W p l e Rm s m args below meth c H locs cells slots Q (F0 m pc ls (.ref (ad i) :: rest)) :=
  m_getR G hI inGX6 (ci := 6) (k := 1) rfl (by decide) fl_X6_16 rfl hi.lt hi.sh rfl hd kk
theorem fl_X6_22 : Cond.fieldLink RX6 22 RX6 (TX6 2).2.1 (TX6 2).2.2.1 ∈ gT := tin 224 (by decide +kernel) rfl
theorem gf_X6_22 (G : Mx n D cA ad A sa p s m args meth c RX6 cc mL rt) (hI : Iv n sh D cA ad A s.heap w H locs) {i : Nat} (hi : isX6 n sh i) (hd : decode cc pc = .ok (.getfield 22, 3)) (kk : W p l e Rm s m args below meth c H locs cells slots Q (F0 m (pc + 3) ls (.ref (ad 27) :: rest))) : W p l e Rm s m args below meth c H locs cells slots Q (F0 m pc ls (.ref (ad i) :: rest)) :=
  m_getR G hI inGX6 (ci := 6) (k := 2) rfl (by decide) fl_X6_22 rfl hi.lt hi.sh rfl hd kk
theorem fl_X6_31 : Cond.fieldLink RX6 31 RX6 (TX6 3).2.1 (TX6 3).2.2.1 ∈ gT := tin 225 (by decide +kernel) rfl
theorem gf_X6_31 (G : Mx n D cA ad A sa p s m args meth c RX6 cc mL rt) (hI : Iv n sh D cA ad A s.heap w H locs) {i : Nat} (hi : isX6 n sh i) (hd : decode cc pc = .ok (.getfield 31, 3)) (kk : W p l e Rm s m args below meth c H locs cells slots Q (F0 m (pc + 3) ls (.ref (ad 30) :: rest))) : W p l e Rm s m args below meth c H locs cells slots Q (F0 m pc ls (.ref (ad i) :: rest)) :=
  m_getR G hI inGX6 (ci := 6) (k := 3) rfl (by decide) fl_X6_31 rfl hi.lt hi.sh rfl hd kk
theorem fl_X6_38 : Cond.fieldLink RX6 38 RX6 (TX6 4).2.1 (TX6 4).2.2.1 ∈ gT := tin 226 (by decide +kernel) rfl
theorem gf_X6_38 (G : Mx n D cA ad A sa p s m args meth c RX6 cc mL rt) (hI : Iv n sh D cA ad A s.heap w H locs) {i : Nat} (hi : isX6 n sh i) (hd : decode cc pc = .ok (.getfield 38, 3)) (kk : W p l e Rm s m args below meth c H locs cells slots Q (F0 m (pc + 3) ls (.ref (ad 32) :: rest))) : W p l e Rm s m args below meth c H locs cells slots Q (F0 m pc ls (.ref (ad i) :: rest)) :=
  m_getR G hI inGX6 (ci := 6) (k := 4) rfl (by decide) fl_X6_38 rfl hi.lt hi.sh rfl hd kk
theorem fl_X6_42 : Cond.fieldLink RX6 42 RX6 (TX6 5).2.1 (TX6 5).2.2.1 ∈ gT := tin 227 (by decide +kernel) rfl
theorem gf_X6_42 (G : Mx n D cA ad A sa p s m args meth c RX6 cc mL rt) (hI : Iv n sh D cA ad A s.heap w H locs) {i : Nat} (hi : isX6 n sh i) (hd : decode cc pc = .ok (.getfield 42, 3)) (kk : W p l e Rm s m args below meth c H locs cells slots Q (F0 m (pc + 3) ls (.ref (ad 39) :: rest))) : W p l e Rm s m args below meth c H locs cells slots Q (F0 m pc ls (.ref (ad i) :: rest)) :=
  m_getR G hI inGX6 (ci := 6) (k := 5) rfl (by decide) fl_X6_42 rfl hi.lt hi.sh rfl hd kk
theorem fl_X6_48 : Cond.fieldLink RX6 48 RX6 (TX6 6).2.1 (TX6 6).2.2.1 ∈ gT := tin 228 (by decide +kernel) rfl
theorem gf_X6_48 (G : Mx n D cA ad A sa p s m args meth c RX6 cc mL rt) (hI : Iv n sh D cA ad A s.heap w H locs) {i : Nat} (hi : isX6 n sh i) (hd : decode cc pc = .ok (.getfield 48, 3)) (kk : W p l e Rm s m args below meth c H locs cells slots Q (F0 m (pc + 3) ls (.ref (ad 41) :: rest))) : W p l e Rm s m args below meth c H locs cells slots Q (F0 m pc ls (.ref (ad i) :: rest)) :=
  m_getR G hI inGX6 (ci := 6) (k := 6) rfl (by decide) fl_X6_48 rfl hi.lt hi.sh rfl hd kk
theorem fl_X6_52 : Cond.fieldLink RX6 52 RX6 (TX6 7).2.1 (TX6 7).2.2.1 ∈ gT := tin 229 (by decide +kernel) rfl
theorem gf_X6_52 (G : Mx n D cA ad A sa p s m args meth c RX6 cc mL rt) (hI : Iv n sh D cA ad A s.heap w H locs) {i : Nat} (hi : isX6 n sh i) (hd : decode cc pc = .ok (.getfield 52, 3)) (kk : W p l e Rm s m args below meth c H locs cells slots Q (F0 m (pc + 3) ls (.ref (ad 45) :: rest))) : W p l e Rm s m args below meth c H locs cells slots Q (F0 m pc ls (.ref (ad i) :: rest)) :=
  m_getR G hI inGX6 (ci := 6) (k := 7) rfl (by decide) fl_X6_52 rfl hi.lt hi.sh rfl hd kk
theorem fl_X6_70 : Cond.fieldLink RX6 70 RX0 (TX0 0).2.1 (TX0 0).2.2.1 ∈ gT := tin 115 (by decide +kernel) rfl
theorem gf_X6_70 (G : Mx n D cA ad A sa p s m args meth c RX6 cc mL rt) (hI : Iv n sh D cA ad A s.heap w H locs) {i : Nat} (hi : isX0 n sh i) (hd : decode cc pc = .ok (.getfield 70, 3)) (kk : W p l e Rm s m args below meth c H locs cells slots Q (F0 m (pc + 3) ls (.ref (ad (i + 1)) :: rest))) : W p l e Rm s m args below meth c H locs cells slots Q (F0 m pc ls (.ref (ad i) :: rest)) :=
  m_getR G hI inGX0 (ci := 0) (k := 0) rfl (by decide) fl_X6_70 rfl hi.lt hi.sh rfl hd kk
theorem fl_X6_77 : Cond.fieldLink RX6 77 RX0 (TX0 1).2.1 (TX0 1).2.2.1 ∈ gT := tin 117 (by decide +kernel) rfl
theorem gf_X6_77 (G : Mx n D cA ad A sa p s m args meth c RX6 cc mL rt) (hI : Iv n sh D cA ad A s.heap w H locs) {i : Nat} (hi : isX0 n sh i) (hd : decode cc pc = .ok (.getfield 77, 3)) (kk : W p l e Rm s m args below meth c H locs cells slots Q (F0 m (pc + 3) ls (.ref (ad (i + 2)) :: rest))) : W p l e Rm s m args below meth c H locs cells slots Q (F0 m pc ls (.ref (ad i) :: rest)) :=
  m_getR G hI inGX0 (ci := 0) (k := 1) rfl (by decide) fl_X6_77 rfl hi.lt hi.sh rfl hd kk
theorem fl_X6_80 : Cond.fieldLink RX6 80 RX0 (TX0 2).2.1 (TX0 2).2.2.1 ∈ gT := tin 119 (by decide +kernel) rfl
theorem gf_X6_80 (G : Mx n D cA ad A sa p s m args meth c RX6 cc mL rt) (hI : Iv n sh D cA ad A s.heap w H locs) {i : Nat} (hi : isX0 n sh i) (hd : decode cc pc = .ok (.getfield 80, 3)) (kk : W p l e Rm s m args below meth c H locs cells slots Q (F0 m (pc + 3) ls (.ref (ad (i + 3)) :: rest))) : W p l e Rm s m args below meth c H locs cells slots Q (F0 m pc ls (.ref (ad i) :: rest)) :=
  m_getR G hI inGX0 (ci := 0) (k := 2) rfl (by decide) fl_X6_80 rfl hi.lt hi.sh rfl hd kk
theorem fl_X6_83 : Cond.fieldLink RX6 83 RX0 (TX0 7).2.1 (TX0 7).2.2.1 ∈ gT := tin 129 (by decide +kernel) rfl
theorem gf_X6_83 (G : Mx n D cA ad A sa p s m args meth c RX6 cc mL rt) (hI : Iv n sh D cA ad A s.heap w H locs) {i : Nat} (hi : isX0 n sh i) (hd : decode cc pc = .ok (.getfield 83, 3)) (kk : W p l e Rm s m args below meth c H locs cells slots Q (F0 m (pc + 3) ls (.int (w i 7) :: rest))) : W p l e Rm s m args below meth c H locs cells slots Q (F0 m pc ls (.ref (ad i) :: rest)) :=
  m_getI G hI inGX0 (ci := 0) (k := 7) rfl (by decide) fl_X6_83 rfl hi.lt hi.sh rfl hd kk
theorem pf_X6_83 (G : Mx n D cA ad A sa p s m args meth c RX6 cc mL rt) (hI : Iv n sh D cA ad A s.heap w H locs) {i : Nat} (hi : isX0 n sh i) {v : Int32} (hd : decode cc pc = .ok (.putfield 83, 3)) (kk : ∀ (H1 : Heap) (locs1 : List Loc), Iv n sh D cA ad A s.heap (mst w i 7 v) H1 locs1 → W p l e Rm s m args below meth c H1 locs1 cells slots Q (F0 m (pc + 3) ls rest)) : W p l e Rm s m args below meth c H locs cells slots Q (F0 m pc ls (.int v :: .ref (ad i) :: rest)) :=
  m_put G hI inGX0 tyX0_ok nmX0 (ci := 0) (k := 7) rfl (by decide) fl_X6_83 rfl rfl (ty := .int) rfl hi.lt hi.sh rfl rfl rfl hd kk
theorem fl_X6_112 : Cond.fieldLink RX6 112 RX1 (TX1 3).2.1 (TX1 3).2.2.1 ∈ gT := tin 62 (by decide +kernel) rfl
theorem gf_X6_112 (G : Mx n D cA ad A sa p s m args meth c RX6 cc mL rt) (hI : Iv n sh D cA ad A s.heap w H locs) {i : Nat} (hi : isX1 n sh i) (hd : decode cc pc = .ok (.getfield 112, 3)) (kk : W p l e Rm s m args below meth c H locs cells slots Q (F0 m (pc + 3) ls (.int (w i 3) :: rest))) : W p l e Rm s m args below meth c H locs cells slots Q (F0 m pc ls (.ref (ad i) :: rest)) :=
  m_getI G hI inGX1 (ci := 1) (k := 3) rfl (by decide) fl_X6_112 rfl hi.lt hi.sh rfl hd kk
theorem pf_X6_112 (G : Mx n D cA ad A sa p s m args meth c RX6 cc mL rt) (hI : Iv n sh D cA ad A s.heap w H locs) {i : Nat} (hi : isX1 n sh i) {v : Int32} (hd : decode cc pc = .ok (.putfield 112, 3)) (kk : ∀ (H1 : Heap) (locs1 : List Loc), Iv n sh D cA ad A s.heap (mst w i 3 v) H1 locs1 → W p l e Rm s m args below meth c H1 locs1 cells slots Q (F0 m (pc + 3) ls rest)) : W p l e Rm s m args below meth c H locs cells slots Q (F0 m pc ls (.int v :: .ref (ad i) :: rest)) :=
  m_put G hI inGX1 tyX1_ok nmX1 (ci := 1) (k := 3) rfl (by decide) fl_X6_112 rfl rfl (ty := .int) rfl hi.lt hi.sh rfl rfl rfl hd kk
theorem fl_X6_117 : Cond.fieldLink RX6 117 RX1 (TX1 4).2.1 (TX1 4).2.2.1 ∈ gT := tin 65 (by decide +kernel) rfl
theorem gf_X6_117 (G : Mx n D cA ad A sa p s m args meth c RX6 cc mL rt) (hI : Iv n sh D cA ad A s.heap w H locs) {i : Nat} (hi : isX1 n sh i) (hd : decode cc pc = .ok (.getfield 117, 3)) (kk : W p l e Rm s m args below meth c H locs cells slots Q (F0 m (pc + 3) ls (.int (w i 4) :: rest))) : W p l e Rm s m args below meth c H locs cells slots Q (F0 m pc ls (.ref (ad i) :: rest)) :=
  m_getI G hI inGX1 (ci := 1) (k := 4) rfl (by decide) fl_X6_117 rfl hi.lt hi.sh rfl hd kk
theorem pf_X6_117 (G : Mx n D cA ad A sa p s m args meth c RX6 cc mL rt) (hI : Iv n sh D cA ad A s.heap w H locs) {i : Nat} (hi : isX1 n sh i) {v : Int32} (hn : bz v = true) (hd : decode cc pc = .ok (.putfield 117, 3)) (kk : ∀ (H1 : Heap) (locs1 : List Loc), Iv n sh D cA ad A s.heap (mst w i 4 v) H1 locs1 → W p l e Rm s m args below meth c H1 locs1 cells slots Q (F0 m (pc + 3) ls rest)) : W p l e Rm s m args below meth c H locs cells slots Q (F0 m pc ls (.int v :: .ref (ad i) :: rest)) :=
  m_put G hI inGX1 tyX1_ok nmX1 (ci := 1) (k := 4) rfl (by decide) fl_X6_117 rfl rfl (ty := .boolean) rfl hi.lt hi.sh rfl (bz_narrow hn) (bz_fits hn) hd kk
theorem fl_X6_129 : Cond.fieldLink RX6 129 RX2 (TX2 0).2.1 (TX2 0).2.2.1 ∈ gT := tin 156 (by decide +kernel) rfl
theorem gf_X6_129 (G : Mx n D cA ad A sa p s m args meth c RX6 cc mL rt) (hI : Iv n sh D cA ad A s.heap w H locs) {i : Nat} (hi : isX2 n sh i) (hd : decode cc pc = .ok (.getfield 129, 3)) (kk : W p l e Rm s m args below meth c H locs cells slots Q (F0 m (pc + 3) ls (.ref (ad (i + 1)) :: rest))) : W p l e Rm s m args below meth c H locs cells slots Q (F0 m pc ls (.ref (ad i) :: rest)) :=
  m_getR G hI inGX2 (ci := 2) (k := 0) rfl (by decide) fl_X6_129 rfl hi.lt hi.sh rfl hd kk
theorem fl_X6_132 : Cond.fieldLink RX6 132 RX4 (TX4 2).2.1 (TX4 2).2.2.1 ∈ gT := tin 40 (by decide +kernel) rfl
theorem gf_X6_132 (G : Mx n D cA ad A sa p s m args meth c RX6 cc mL rt) (hI : Iv n sh D cA ad A s.heap w H locs) {i : Nat} (hi : isX4 n sh i) (hd : decode cc pc = .ok (.getfield 132, 3)) (kk : W p l e Rm s m args below meth c H locs cells slots Q (F0 m (pc + 3) ls (.int (w i 2) :: rest))) : W p l e Rm s m args below meth c H locs cells slots Q (F0 m pc ls (.ref (ad i) :: rest)) :=
  m_getI G hI inGX4 (ci := 4) (k := 2) rfl (by decide) fl_X6_132 rfl hi.lt hi.sh rfl hd kk
theorem pf_X6_132 (G : Mx n D cA ad A sa p s m args meth c RX6 cc mL rt) (hI : Iv n sh D cA ad A s.heap w H locs) {i : Nat} (hi : isX4 n sh i) {v : Int32} (hd : decode cc pc = .ok (.putfield 132, 3)) (kk : ∀ (H1 : Heap) (locs1 : List Loc), Iv n sh D cA ad A s.heap (mst w i 2 v) H1 locs1 → W p l e Rm s m args below meth c H1 locs1 cells slots Q (F0 m (pc + 3) ls rest)) : W p l e Rm s m args below meth c H locs cells slots Q (F0 m pc ls (.int v :: .ref (ad i) :: rest)) :=
  m_put G hI inGX4 tyX4_ok nmX4 (ci := 4) (k := 2) rfl (by decide) fl_X6_132 rfl rfl (ty := .int) rfl hi.lt hi.sh rfl rfl rfl hd kk
theorem fl_X6_135 : Cond.fieldLink RX6 135 RX1 (TX1 6).2.1 (TX1 6).2.2.1 ∈ gT := tin 70 (by decide +kernel) rfl
theorem gf_X6_135 (G : Mx n D cA ad A sa p s m args meth c RX6 cc mL rt) (hI : Iv n sh D cA ad A s.heap w H locs) {i : Nat} (hi : isX1 n sh i) (hd : decode cc pc = .ok (.getfield 135, 3)) (kk : W p l e Rm s m args below meth c H locs cells slots Q (F0 m (pc + 3) ls (.ref (ad (i + 2)) :: rest))) : W p l e Rm s m args below meth c H locs cells slots Q (F0 m pc ls (.ref (ad i) :: rest)) :=
  m_getR G hI inGX1 (ci := 1) (k := 6) rfl (by decide) fl_X6_135 rfl hi.lt hi.sh rfl hd kk
theorem fl_X6_138 : Cond.fieldLink RX6 138 RX1 (TX1 7).2.1 (TX1 7).2.2.1 ∈ gT := tin 73 (by decide +kernel) rfl
theorem gf_X6_138 (G : Mx n D cA ad A sa p s m args meth c RX6 cc mL rt) (hI : Iv n sh D cA ad A s.heap w H locs) {i : Nat} (hi : isX1 n sh i) (hd : decode cc pc = .ok (.getfield 138, 3)) (kk : W p l e Rm s m args below meth c H locs cells slots Q (F0 m (pc + 3) ls (.ref (ad (i + 3)) :: rest))) : W p l e Rm s m args below meth c H locs cells slots Q (F0 m pc ls (.ref (ad i) :: rest)) :=
  m_getR G hI inGX1 (ci := 1) (k := 7) rfl (by decide) fl_X6_138 rfl hi.lt hi.sh rfl hd kk
theorem fl_X6_170 : Cond.fieldLink RX6 170 RX2 (TX2 1).2.1 (TX2 1).2.2.1 ∈ gT := tin 158 (by decide +kernel) rfl
theorem gf_X6_170 (G : Mx n D cA ad A sa p s m args meth c RX6 cc mL rt) (hI : Iv n sh D cA ad A s.heap w H locs) {i : Nat} (hi : isX2 n sh i) (hd : decode cc pc = .ok (.getfield 170, 3)) (kk : W p l e Rm s m args below meth c H locs cells slots Q (F0 m (pc + 3) ls (.int (w i 1) :: rest))) : W p l e Rm s m args below meth c H locs cells slots Q (F0 m pc ls (.ref (ad i) :: rest)) :=
  m_getI G hI inGX2 (ci := 2) (k := 1) rfl (by decide) fl_X6_170 rfl hi.lt hi.sh rfl hd kk
theorem pf_X6_170 (G : Mx n D cA ad A sa p s m args meth c RX6 cc mL rt) (hI : Iv n sh D cA ad A s.heap w H locs) {i : Nat} (hi : isX2 n sh i) {v : Int32} (hd : decode cc pc = .ok (.putfield 170, 3)) (kk : ∀ (H1 : Heap) (locs1 : List Loc), Iv n sh D cA ad A s.heap (mst w i 1 v) H1 locs1 → W p l e Rm s m args below meth c H1 locs1 cells slots Q (F0 m (pc + 3) ls rest)) : W p l e Rm s m args below meth c H locs cells slots Q (F0 m pc ls (.int v :: .ref (ad i) :: rest)) :=
  m_put G hI inGX2 tyX2_ok nmX2 (ci := 2) (k := 1) rfl (by decide) fl_X6_170 rfl rfl (ty := .int) rfl hi.lt hi.sh rfl rfl rfl hd kk
theorem fl_X6_182 : Cond.fieldLink RX6 182 RX1 (TX1 0).2.1 (TX1 0).2.2.1 ∈ gT := tin 58 (by decide +kernel) rfl
theorem gf_X6_182 (G : Mx n D cA ad A sa p s m args meth c RX6 cc mL rt) (hI : Iv n sh D cA ad A s.heap w H locs) {i : Nat} (hi : isX1 n sh i) (hd : decode cc pc = .ok (.getfield 182, 3)) (kk : W p l e Rm s m args below meth c H locs cells slots Q (F0 m (pc + 3) ls (.int (w i 0) :: rest))) : W p l e Rm s m args below meth c H locs cells slots Q (F0 m pc ls (.ref (ad i) :: rest)) :=
  m_getI G hI inGX1 (ci := 1) (k := 0) rfl (by decide) fl_X6_182 rfl hi.lt hi.sh rfl hd kk
theorem pf_X6_182 (G : Mx n D cA ad A sa p s m args meth c RX6 cc mL rt) (hI : Iv n sh D cA ad A s.heap w H locs) {i : Nat} (hi : isX1 n sh i) {v : Int32} (hd : decode cc pc = .ok (.putfield 182, 3)) (kk : ∀ (H1 : Heap) (locs1 : List Loc), Iv n sh D cA ad A s.heap (mst w i 0 v) H1 locs1 → W p l e Rm s m args below meth c H1 locs1 cells slots Q (F0 m (pc + 3) ls rest)) : W p l e Rm s m args below meth c H locs cells slots Q (F0 m pc ls (.int v :: .ref (ad i) :: rest)) :=
  m_put G hI inGX1 tyX1_ok nmX1 (ci := 1) (k := 0) rfl (by decide) fl_X6_182 rfl rfl (ty := .int) rfl hi.lt hi.sh rfl rfl rfl hd kk
theorem fl_X6_185 : Cond.fieldLink RX6 185 RX1 (TX1 5).2.1 (TX1 5).2.2.1 ∈ gT := tin 67 (by decide +kernel) rfl
theorem gf_X6_185 (G : Mx n D cA ad A sa p s m args meth c RX6 cc mL rt) (hI : Iv n sh D cA ad A s.heap w H locs) {i : Nat} (hi : isX1 n sh i) (hd : decode cc pc = .ok (.getfield 185, 3)) (kk : W p l e Rm s m args below meth c H locs cells slots Q (F0 m (pc + 3) ls (.ref (ad (i + 1)) :: rest))) : W p l e Rm s m args below meth c H locs cells slots Q (F0 m pc ls (.ref (ad i) :: rest)) :=
  m_getR G hI inGX1 (ci := 1) (k := 5) rfl (by decide) fl_X6_185 rfl hi.lt hi.sh rfl hd kk
theorem fl_X6_199 : Cond.fieldLink RX6 199 RX3 (TX3 5).2.1 (TX3 5).2.2.1 ∈ gT := tin 182 (by decide +kernel) rfl
theorem gf_X6_199 (G : Mx n D cA ad A sa p s m args meth c RX6 cc mL rt) (hI : Iv n sh D cA ad A s.heap w H locs) {i : Nat} (hi : isX3 n sh i) (hd : decode cc pc = .ok (.getfield 199, 3)) (kk : W p l e Rm s m args below meth c H locs cells slots Q (F0 m (pc + 3) ls (.int (w i 5) :: rest))) : W p l e Rm s m args below meth c H locs cells slots Q (F0 m pc ls (.ref (ad i) :: rest)) :=
  m_getI G hI inGX3 (ci := 3) (k := 5) rfl (by decide) fl_X6_199 rfl hi.lt hi.sh rfl hd kk
theorem pf_X6_199 (G : Mx n D cA ad A sa p s m args meth c RX6 cc mL rt) (hI : Iv n sh D cA ad A s.heap w H locs) {i : Nat} (hi : isX3 n sh i) {v : Int32} (hd : decode cc pc = .ok (.putfield 199, 3)) (kk : ∀ (H1 : Heap) (locs1 : List Loc), Iv n sh D cA ad A s.heap (mst w i 5 v) H1 locs1 → W p l e Rm s m args below meth c H1 locs1 cells slots Q (F0 m (pc + 3) ls rest)) : W p l e Rm s m args below meth c H locs cells slots Q (F0 m pc ls (.int v :: .ref (ad i) :: rest)) :=
  m_put G hI inGX3 tyX3_ok nmX3 (ci := 3) (k := 5) rfl (by decide) fl_X6_199 rfl rfl (ty := .int) rfl hi.lt hi.sh rfl rfl rfl hd kk
theorem fl_X6_202 : Cond.fieldLink RX6 202 RX3 (TX3 4).2.1 (TX3 4).2.2.1 ∈ gT := tin 180 (by decide +kernel) rfl
theorem gf_X6_202 (G : Mx n D cA ad A sa p s m args meth c RX6 cc mL rt) (hI : Iv n sh D cA ad A s.heap w H locs) {i : Nat} (hi : isX3 n sh i) (hd : decode cc pc = .ok (.getfield 202, 3)) (kk : W p l e Rm s m args below meth c H locs cells slots Q (F0 m (pc + 3) ls (.int (w i 4) :: rest))) : W p l e Rm s m args below meth c H locs cells slots Q (F0 m pc ls (.ref (ad i) :: rest)) :=
  m_getI G hI inGX3 (ci := 3) (k := 4) rfl (by decide) fl_X6_202 rfl hi.lt hi.sh rfl hd kk
theorem pf_X6_202 (G : Mx n D cA ad A sa p s m args meth c RX6 cc mL rt) (hI : Iv n sh D cA ad A s.heap w H locs) {i : Nat} (hi : isX3 n sh i) {v : Int32} (hd : decode cc pc = .ok (.putfield 202, 3)) (kk : ∀ (H1 : Heap) (locs1 : List Loc), Iv n sh D cA ad A s.heap (mst w i 4 v) H1 locs1 → W p l e Rm s m args below meth c H1 locs1 cells slots Q (F0 m (pc + 3) ls rest)) : W p l e Rm s m args below meth c H locs cells slots Q (F0 m pc ls (.int v :: .ref (ad i) :: rest)) :=
  m_put G hI inGX3 tyX3_ok nmX3 (ci := 3) (k := 4) rfl (by decide) fl_X6_202 rfl rfl (ty := .int) rfl hi.lt hi.sh rfl rfl rfl hd kk
theorem fl_X6_205 : Cond.fieldLink RX6 205 RX3 (TX3 3).2.1 (TX3 3).2.2.1 ∈ gT := tin 178 (by decide +kernel) rfl
theorem gf_X6_205 (G : Mx n D cA ad A sa p s m args meth c RX6 cc mL rt) (hI : Iv n sh D cA ad A s.heap w H locs) {i : Nat} (hi : isX3 n sh i) (hd : decode cc pc = .ok (.getfield 205, 3)) (kk : W p l e Rm s m args below meth c H locs cells slots Q (F0 m (pc + 3) ls (.ref (ad 38) :: rest))) : W p l e Rm s m args below meth c H locs cells slots Q (F0 m pc ls (.ref (ad i) :: rest)) :=
  m_getR G hI inGX3 (ci := 3) (k := 3) rfl (by decide) fl_X6_205 rfl hi.lt hi.sh rfl hd kk
theorem fl_X6_208 : Cond.fieldLink RX6 208 RX0 (TX0 5).2.1 (TX0 5).2.2.1 ∈ gT := tin 125 (by decide +kernel) rfl
theorem gf_X6_208 (G : Mx n D cA ad A sa p s m args meth c RX6 cc mL rt) (hI : Iv n sh D cA ad A s.heap w H locs) {i : Nat} (hi : isX0 n sh i) (hd : decode cc pc = .ok (.getfield 208, 3)) (kk : W p l e Rm s m args below meth c H locs cells slots Q (F0 m (pc + 3) ls (.ref (ad (i + 6)) :: rest))) : W p l e Rm s m args below meth c H locs cells slots Q (F0 m pc ls (.ref (ad i) :: rest)) :=
  m_getR G hI inGX0 (ci := 0) (k := 5) rfl (by decide) fl_X6_208 rfl hi.lt hi.sh rfl hd kk
theorem fl_X6_234 : Cond.fieldLink RX6 234 RX0 (TX0 3).2.1 (TX0 3).2.2.1 ∈ gT := tin 121 (by decide +kernel) rfl
theorem gf_X6_234 (G : Mx n D cA ad A sa p s m args meth c RX6 cc mL rt) (hI : Iv n sh D cA ad A s.heap w H locs) {i : Nat} (hi : isX0 n sh i) (hd : decode cc pc = .ok (.getfield 234, 3)) (kk : W p l e Rm s m args below meth c H locs cells slots Q (F0 m (pc + 3) ls (.ref (ad (i + 4)) :: rest))) : W p l e Rm s m args below meth c H locs cells slots Q (F0 m pc ls (.ref (ad i) :: rest)) :=
  m_getR G hI inGX0 (ci := 0) (k := 3) rfl (by decide) fl_X6_234 rfl hi.lt hi.sh rfl hd kk
theorem fl_X6_237 : Cond.fieldLink RX6 237 RX0 (TX0 4).2.1 (TX0 4).2.2.1 ∈ gT := tin 123 (by decide +kernel) rfl
theorem gf_X6_237 (G : Mx n D cA ad A sa p s m args meth c RX6 cc mL rt) (hI : Iv n sh D cA ad A s.heap w H locs) {i : Nat} (hi : isX0 n sh i) (hd : decode cc pc = .ok (.getfield 237, 3)) (kk : W p l e Rm s m args below meth c H locs cells slots Q (F0 m (pc + 3) ls (.ref (ad (i + 5)) :: rest))) : W p l e Rm s m args below meth c H locs cells slots Q (F0 m pc ls (.ref (ad i) :: rest)) :=
  m_getR G hI inGX0 (ci := 0) (k := 4) rfl (by decide) fl_X6_237 rfl hi.lt hi.sh rfl hd kk
theorem fl_X6_250 : Cond.fieldLink RX6 250 RX5 (TX5 2).2.1 (TX5 2).2.2.1 ∈ gT := tin 208 (by decide +kernel) rfl
theorem gf_X6_250 (G : Mx n D cA ad A sa p s m args meth c RX6 cc mL rt) (hI : Iv n sh D cA ad A s.heap w H locs) {i : Nat} (hi : isX5 n sh i) (hd : decode cc pc = .ok (.getfield 250, 3)) (kk : W p l e Rm s m args below meth c H locs cells slots Q (F0 m (pc + 3) ls (.int (w i 2) :: rest))) : W p l e Rm s m args below meth c H locs cells slots Q (F0 m pc ls (.ref (ad i) :: rest)) :=
  m_getI G hI inGX5 (ci := 5) (k := 2) rfl (by decide) fl_X6_250 rfl hi.lt hi.sh rfl hd kk
theorem pf_X6_250 (G : Mx n D cA ad A sa p s m args meth c RX6 cc mL rt) (hI : Iv n sh D cA ad A s.heap w H locs) {i : Nat} (hi : isX5 n sh i) {v : Int32} (hd : decode cc pc = .ok (.putfield 250, 3)) (kk : ∀ (H1 : Heap) (locs1 : List Loc), Iv n sh D cA ad A s.heap (mst w i 2 v) H1 locs1 → W p l e Rm s m args below meth c H1 locs1 cells slots Q (F0 m (pc + 3) ls rest)) : W p l e Rm s m args below meth c H locs cells slots Q (F0 m pc ls (.int v :: .ref (ad i) :: rest)) :=
  m_put G hI inGX5 tyX5_ok nmX5 (ci := 5) (k := 2) rfl (by decide) fl_X6_250 rfl rfl (ty := .int) rfl hi.lt hi.sh rfl rfl rfl hd kk
theorem fl_X6_264 : Cond.fieldLink RX6 264 RX5 (TX5 1).2.1 (TX5 1).2.2.1 ∈ gT := tin 206 (by decide +kernel) rfl
theorem gf_X6_264 (G : Mx n D cA ad A sa p s m args meth c RX6 cc mL rt) (hI : Iv n sh D cA ad A s.heap w H locs) {i : Nat} (hi : isX5 n sh i) (hd : decode cc pc = .ok (.getfield 264, 3)) (kk : W p l e Rm s m args below meth c H locs cells slots Q (F0 m (pc + 3) ls (.ref (ad 43) :: rest))) : W p l e Rm s m args below meth c H locs cells slots Q (F0 m pc ls (.ref (ad i) :: rest)) :=
  m_getR G hI inGX5 (ci := 5) (k := 1) rfl (by decide) fl_X6_264 rfl hi.lt hi.sh rfl hd kk
theorem fl_X6_282 : Cond.fieldLink RX6 282 RX0 (TX0 6).2.1 (TX0 6).2.2.1 ∈ gT := tin 127 (by decide +kernel) rfl
theorem gf_X6_282 (G : Mx n D cA ad A sa p s m args meth c RX6 cc mL rt) (hI : Iv n sh D cA ad A s.heap w H locs) {i : Nat} (hi : isX0 n sh i) (hd : decode cc pc = .ok (.getfield 282, 3)) (kk : W p l e Rm s m args below meth c H locs cells slots Q (F0 m (pc + 3) ls (.ref (ad (i + 8)) :: rest))) : W p l e Rm s m args below meth c H locs cells slots Q (F0 m pc ls (.ref (ad i) :: rest)) :=
  m_getR G hI inGX0 (ci := 0) (k := 6) rfl (by decide) fl_X6_282 rfl hi.lt hi.sh rfl hd kk
theorem fl_X0_9 : Cond.fieldLink RX0 9 RX0 (TX0 0).2.1 (TX0 0).2.2.1 ∈ gT := tin 114 (by decide +kernel) rfl
theorem gf_X0_9 (G : Mx n D cA ad A sa p s m args meth c RX0 cc mL rt) (hI : Iv n sh D cA ad A s.heap w H locs) {i : Nat} (hi : isX0 n sh i) (hd : decode cc pc = .ok (.getfield 9, 3)) (kk : W p l e Rm s m args below meth c H locs cells slots Q (F0 m (pc + 3) ls (.ref (ad (i + 1)) :: rest))) : W p l e Rm s m args below meth c H locs cells slots Q (F0 m pc ls (.ref (ad i) :: rest)) :=
  m_getR G hI inGX0 (ci := 0) (k := 0) rfl (by decide) fl_X0_9 rfl hi.lt hi.sh rfl hd kk
theorem fl_X0_15 : Cond.fieldLink RX0 15 RX0 (TX0 1).2.1 (TX0 1).2.2.1 ∈ gT := tin 116 (by decide +kernel) rfl
theorem gf_X0_15 (G : Mx n D cA ad A sa p s m args meth c RX0 cc mL rt) (hI : Iv n sh D cA ad A s.heap w H locs) {i : Nat} (hi : isX0 n sh i) (hd : decode cc pc = .ok (.getfield 15, 3)) (kk : W p l e Rm s m args below meth c H locs cells slots Q (F0 m (pc + 3) ls (.ref (ad (i + 2)) :: rest))) : W p l e Rm s m args below meth c H locs cells slots Q (F0 m pc ls (.ref (ad i) :: rest)) :=
  m_getR G hI inGX0 (ci := 0) (k := 1) rfl (by decide) fl_X0_15 rfl hi.lt hi.sh rfl hd kk
theorem fl_X0_18 : Cond.fieldLink RX0 18 RX0 (TX0 2).2.1 (TX0 2).2.2.1 ∈ gT := tin 118 (by decide +kernel) rfl
theorem gf_X0_18 (G : Mx n D cA ad A sa p s m args meth c RX0 cc mL rt) (hI : Iv n sh D cA ad A s.heap w H locs) {i : Nat} (hi : isX0 n sh i) (hd : decode cc pc = .ok (.getfield 18, 3)) (kk : W p l e Rm s m args below meth c H locs cells slots Q (F0 m (pc + 3) ls (.ref (ad (i + 3)) :: rest))) : W p l e Rm s m args below meth c H locs cells slots Q (F0 m pc ls (.ref (ad i) :: rest)) :=
  m_getR G hI inGX0 (ci := 0) (k := 2) rfl (by decide) fl_X0_18 rfl hi.lt hi.sh rfl hd kk
theorem fl_X0_21 : Cond.fieldLink RX0 21 RX0 (TX0 3).2.1 (TX0 3).2.2.1 ∈ gT := tin 120 (by decide +kernel) rfl
theorem gf_X0_21 (G : Mx n D cA ad A sa p s m args meth c RX0 cc mL rt) (hI : Iv n sh D cA ad A s.heap w H locs) {i : Nat} (hi : isX0 n sh i) (hd : decode cc pc = .ok (.getfield 21, 3)) (kk : W p l e Rm s m args below meth c H locs cells slots Q (F0 m (pc + 3) ls (.ref (ad (i + 4)) :: rest))) : W p l e Rm s m args below meth c H locs cells slots Q (F0 m pc ls (.ref (ad i) :: rest)) :=
  m_getR G hI inGX0 (ci := 0) (k := 3) rfl (by decide) fl_X0_21 rfl hi.lt hi.sh rfl hd kk
theorem fl_X0_24 : Cond.fieldLink RX0 24 RX0 (TX0 4).2.1 (TX0 4).2.2.1 ∈ gT := tin 122 (by decide +kernel) rfl
theorem gf_X0_24 (G : Mx n D cA ad A sa p s m args meth c RX0 cc mL rt) (hI : Iv n sh D cA ad A s.heap w H locs) {i : Nat} (hi : isX0 n sh i) (hd : decode cc pc = .ok (.getfield 24, 3)) (kk : W p l e Rm s m args below meth c H locs cells slots Q (F0 m (pc + 3) ls (.ref (ad (i + 5)) :: rest))) : W p l e Rm s m args below meth c H locs cells slots Q (F0 m pc ls (.ref (ad i) :: rest)) :=
  m_getR G hI inGX0 (ci := 0) (k := 4) rfl (by decide) fl_X0_24 rfl hi.lt hi.sh rfl hd kk
theorem fl_X0_32 : Cond.fieldLink RX0 32 RX0 (TX0 5).2.1 (TX0 5).2.2.1 ∈ gT := tin 124 (by decide +kernel) rfl
theorem gf_X0_32 (G : Mx n D cA ad A sa p s m args meth c RX0 cc mL rt) (hI : Iv n sh D cA ad A s.heap w H locs) {i : Nat} (hi : isX0 n sh i) (hd : decode cc pc = .ok (.getfield 32, 3)) (kk : W p l e Rm s m args below meth c H locs cells slots Q (F0 m (pc + 3) ls (.ref (ad (i + 6)) :: rest))) : W p l e Rm s m args below meth c H locs cells slots Q (F0 m pc ls (.ref (ad i) :: rest)) :=
  m_getR G hI inGX0 (ci := 0) (k := 5) rfl (by decide) fl_X0_32 rfl hi.lt hi.sh rfl hd kk
theorem fl_X0_39 : Cond.fieldLink RX0 39 RX0 (TX0 6).2.1 (TX0 6).2.2.1 ∈ gT := tin 126 (by decide +kernel) rfl
theorem gf_X0_39 (G : Mx n D cA ad A sa p s m args meth c RX0 cc mL rt) (hI : Iv n sh D cA ad A s.heap w H locs) {i : Nat} (hi : isX0 n sh i) (hd : decode cc pc = .ok (.getfield 39, 3)) (kk : W p l e Rm s m args below meth c H locs cells slots Q (F0 m (pc + 3) ls (.ref (ad (i + 8)) :: rest))) : W p l e Rm s m args below meth c H locs cells slots Q (F0 m pc ls (.ref (ad i) :: rest)) :=
  m_getR G hI inGX0 (ci := 0) (k := 6) rfl (by decide) fl_X0_39 rfl hi.lt hi.sh rfl hd kk
theorem fl_X0_58 : Cond.fieldLink RX0 58 RX0 (TX0 7).2.1 (TX0 7).2.2.1 ∈ gT := tin 128 (by decide +kernel) rfl
theorem gf_X0_58 (G : Mx n D cA ad A sa p s m args meth c RX0 cc mL rt) (hI : Iv n sh D cA ad A s.heap w H locs) {i : Nat} (hi : isX0 n sh i) (hd : decode cc pc = .ok (.getfield 58, 3)) (kk : W p l e Rm s m args below meth c H locs cells slots Q (F0 m (pc + 3) ls (.int (w i 7) :: rest))) : W p l e Rm s m args below meth c H locs cells slots Q (F0 m pc ls (.ref (ad i) :: rest)) :=
  m_getI G hI inGX0 (ci := 0) (k := 7) rfl (by decide) fl_X0_58 rfl hi.lt hi.sh rfl hd kk
theorem pf_X0_58 (G : Mx n D cA ad A sa p s m args meth c RX0 cc mL rt) (hI : Iv n sh D cA ad A s.heap w H locs) {i : Nat} (hi : isX0 n sh i) {v : Int32} (hd : decode cc pc = .ok (.putfield 58, 3)) (kk : ∀ (H1 : Heap) (locs1 : List Loc), Iv n sh D cA ad A s.heap (mst w i 7 v) H1 locs1 → W p l e Rm s m args below meth c H1 locs1 cells slots Q (F0 m (pc + 3) ls rest)) : W p l e Rm s m args below meth c H locs cells slots Q (F0 m pc ls (.int v :: .ref (ad i) :: rest)) :=
  m_put G hI inGX0 tyX0_ok nmX0 (ci := 0) (k := 7) rfl (by decide) fl_X0_58 rfl rfl (ty := .int) rfl hi.lt hi.sh rfl rfl rfl hd kk
theorem fl_X0_82 : Cond.fieldLink RX0 82 RX1 (TX1 4).2.1 (TX1 4).2.2.1 ∈ gT := tin 64 (by decide +kernel) rfl
theorem gf_X0_82 (G : Mx n D cA ad A sa p s m args meth c RX0 cc mL rt) (hI : Iv n sh D cA ad A s.heap w H locs) {i : Nat} (hi : isX1 n sh i) (hd : decode cc pc = .ok (.getfield 82, 3)) (kk : W p l e Rm s m args below meth c H locs cells slots Q (F0 m (pc + 3) ls (.int (w i 4) :: rest))) : W p l e Rm s m args below meth c H locs cells slots Q (F0 m pc ls (.ref (ad i) :: rest)) :=
  m_getI G hI inGX1 (ci := 1) (k := 4) rfl (by decide) fl_X0_82 rfl hi.lt hi.sh rfl hd kk
theorem pf_X0_82 (G : Mx n D cA ad A sa p s m args meth c RX0 cc mL rt) (hI : Iv n sh D cA ad A s.heap w H locs) {i : Nat} (hi : isX1 n sh i) {v : Int32} (hn : bz v = true) (hd : decode cc pc = .ok (.putfield 82, 3)) (kk : ∀ (H1 : Heap) (locs1 : List Loc), Iv n sh D cA ad A s.heap (mst w i 4 v) H1 locs1 → W p l e Rm s m args below meth c H1 locs1 cells slots Q (F0 m (pc + 3) ls rest)) : W p l e Rm s m args below meth c H locs cells slots Q (F0 m pc ls (.int v :: .ref (ad i) :: rest)) :=
  m_put G hI inGX1 tyX1_ok nmX1 (ci := 1) (k := 4) rfl (by decide) fl_X0_82 rfl rfl (ty := .boolean) rfl hi.lt hi.sh rfl (bz_narrow hn) (bz_fits hn) hd kk
theorem fl_X0_86 : Cond.fieldLink RX0 86 RX4 (TX4 2).2.1 (TX4 2).2.2.1 ∈ gT := tin 39 (by decide +kernel) rfl
theorem gf_X0_86 (G : Mx n D cA ad A sa p s m args meth c RX0 cc mL rt) (hI : Iv n sh D cA ad A s.heap w H locs) {i : Nat} (hi : isX4 n sh i) (hd : decode cc pc = .ok (.getfield 86, 3)) (kk : W p l e Rm s m args below meth c H locs cells slots Q (F0 m (pc + 3) ls (.int (w i 2) :: rest))) : W p l e Rm s m args below meth c H locs cells slots Q (F0 m pc ls (.ref (ad i) :: rest)) :=
  m_getI G hI inGX4 (ci := 4) (k := 2) rfl (by decide) fl_X0_86 rfl hi.lt hi.sh rfl hd kk
theorem pf_X0_86 (G : Mx n D cA ad A sa p s m args meth c RX0 cc mL rt) (hI : Iv n sh D cA ad A s.heap w H locs) {i : Nat} (hi : isX4 n sh i) {v : Int32} (hd : decode cc pc = .ok (.putfield 86, 3)) (kk : ∀ (H1 : Heap) (locs1 : List Loc), Iv n sh D cA ad A s.heap (mst w i 2 v) H1 locs1 → W p l e Rm s m args below meth c H1 locs1 cells slots Q (F0 m (pc + 3) ls rest)) : W p l e Rm s m args below meth c H locs cells slots Q (F0 m pc ls (.int v :: .ref (ad i) :: rest)) :=
  m_put G hI inGX4 tyX4_ok nmX4 (ci := 4) (k := 2) rfl (by decide) fl_X0_86 rfl rfl (ty := .int) rfl hi.lt hi.sh rfl rfl rfl hd kk
theorem fl_X1_9 : Cond.fieldLink RX1 9 RX1 (TX1 5).2.1 (TX1 5).2.2.1 ∈ gT := tin 66 (by decide +kernel) rfl
theorem gf_X1_9 (G : Mx n D cA ad A sa p s m args meth c RX1 cc mL rt) (hI : Iv n sh D cA ad A s.heap w H locs) {i : Nat} (hi : isX1 n sh i) (hd : decode cc pc = .ok (.getfield 9, 3)) (kk : W p l e Rm s m args below meth c H locs cells slots Q (F0 m (pc + 3) ls (.ref (ad (i + 1)) :: rest))) : W p l e Rm s m args below meth c H locs cells slots Q (F0 m pc ls (.ref (ad i) :: rest)) :=
  m_getR G hI inGX1 (ci := 1) (k := 5) rfl (by decide) fl_X1_9 rfl hi.lt hi.sh rfl hd kk
theorem fl_X1_15 : Cond.fieldLink RX1 15 RX1 (TX1 6).2.1 (TX1 6).2.2.1 ∈ gT := tin 68 (by decide +kernel) rfl
theorem gf_X1_15 (G : Mx n D cA ad A sa p s m args meth c RX1 cc mL rt) (hI : Iv n sh D cA ad A s.heap w H locs) {i : Nat} (hi : isX1 n sh i) (hd : decode cc pc = .ok (.getfield 15, 3)) (kk : W p l e Rm s m args below meth c H locs cells slots Q (F0 m (pc + 3) ls (.ref (ad (i + 2)) :: rest))) : W p l e Rm s m args below meth c H locs cells slots Q (F0 m pc ls (.ref (ad i) :: rest)) :=
  m_getR G hI inGX1 (ci := 1) (k := 6) rfl (by decide) fl_X1_15 rfl hi.lt hi.sh rfl hd kk
theorem fl_X1_18 : Cond.fieldLink RX1 18 RX1 (TX1 7).2.1 (TX1 7).2.2.1 ∈ gT := tin 71 (by decide +kernel) rfl
theorem gf_X1_18 (G : Mx n D cA ad A sa p s m args meth c RX1 cc mL rt) (hI : Iv n sh D cA ad A s.heap w H locs) {i : Nat} (hi : isX1 n sh i) (hd : decode cc pc = .ok (.getfield 18, 3)) (kk : W p l e Rm s m args below meth c H locs cells slots Q (F0 m (pc + 3) ls (.ref (ad (i + 3)) :: rest))) : W p l e Rm s m args below meth c H locs cells slots Q (F0 m pc ls (.ref (ad i) :: rest)) :=
  m_getR G hI inGX1 (ci := 1) (k := 7) rfl (by decide) fl_X1_18 rfl hi.lt hi.sh rfl hd kk
theorem fl_X1_21 : Cond.fieldLink RX1 21 RX1 (TX1 8).2.1 (TX1 8).2.2.1 ∈ gT := tin 74 (by decide +kernel) rfl
theorem gf_X1_21 (G : Mx n D cA ad A sa p s m args meth c RX1 cc mL rt) (hI : Iv n sh D cA ad A s.heap w H locs) {i : Nat} (hi : isX1 n sh i) (hd : decode cc pc = .ok (.getfield 21, 3)) (kk : W p l e Rm s m args below meth c H locs cells slots Q (F0 m (pc + 3) ls (.ref (ad (i + 4)) :: rest))) : W p l e Rm s m args below meth c H locs cells slots Q (F0 m pc ls (.ref (ad i) :: rest)) :=
  m_getR G hI inGX1 (ci := 1) (k := 8) rfl (by decide) fl_X1_21 rfl hi.lt hi.sh rfl hd kk
theorem fl_X1_24 : Cond.fieldLink RX1 24 RX1 (TX1 0).2.1 (TX1 0).2.2.1 ∈ gT := tin 56 (by decide +kernel) rfl
theorem gf_X1_24 (G : Mx n D cA ad A sa p s m args meth c RX1 cc mL rt) (hI : Iv n sh D cA ad A s.heap w H locs) {i : Nat} (hi : isX1 n sh i) (hd : decode cc pc = .ok (.getfield 24, 3)) (kk : W p l e Rm s m args below meth c H locs cells slots Q (F0 m (pc + 3) ls (.int (w i 0) :: rest))) : W p l e Rm s m args below meth c H locs cells slots Q (F0 m pc ls (.ref (ad i) :: rest)) :=
  m_getI G hI inGX1 (ci := 1) (k := 0) rfl (by decide) fl_X1_24 rfl hi.lt hi.sh rfl hd kk
theorem pf_X1_24 (G : Mx n D cA ad A sa p s m args meth c RX1 cc mL rt) (hI : Iv n sh D cA ad A s.heap w H locs) {i : Nat} (hi : isX1 n sh i) {v : Int32} (hd : decode cc pc = .ok (.putfield 24, 3)) (kk : ∀ (H1 : Heap) (locs1 : List Loc), Iv n sh D cA ad A s.heap (mst w i 0 v) H1 locs1 → W p l e Rm s m args below meth c H1 locs1 cells slots Q (F0 m (pc + 3) ls rest)) : W p l e Rm s m args below meth c H locs cells slots Q (F0 m pc ls (.int v :: .ref (ad i) :: rest)) :=
  m_put G hI inGX1 tyX1_ok nmX1 (ci := 1) (k := 0) rfl (by decide) fl_X1_24 rfl rfl (ty := .int) rfl hi.lt hi.sh rfl rfl rfl hd kk
theorem fl_X1_28 : Cond.fieldLink RX1 28 RX1 (TX1 1).2.1 (TX1 1).2.2.1 ∈ gT := tin 59 (by decide +kernel) rfl
theorem gf_X1_28 (G : Mx n D cA ad A sa p s m args meth c RX1 cc mL rt) (hI : Iv n sh D cA ad A s.heap w H locs) {i : Nat} (hi : isX1 n sh i) (hd : decode cc pc = .ok (.getfield 28, 3)) (kk : W p l e Rm s m args below meth c H locs cells slots Q (F0 m (pc + 3) ls (.int (w i 1) :: rest))) : W p l e Rm s m args below meth c H locs cells slots Q (F0 m pc ls (.ref (ad i) :: rest)) :=
  m_getI G hI inGX1 (ci := 1) (k := 1) rfl (by decide) fl_X1_28 rfl hi.lt hi.sh rfl hd kk
theorem pf_X1_28 (G : Mx n D cA ad A sa p s m args meth c RX1 cc mL rt) (hI : Iv n sh D cA ad A s.heap w H locs) {i : Nat} (hi : isX1 n sh i) {v : Int32} (hd : decode cc pc = .ok (.putfield 28, 3)) (kk : ∀ (H1 : Heap) (locs1 : List Loc), Iv n sh D cA ad A s.heap (mst w i 1 v) H1 locs1 → W p l e Rm s m args below meth c H1 locs1 cells slots Q (F0 m (pc + 3) ls rest)) : W p l e Rm s m args below meth c H locs cells slots Q (F0 m pc ls (.int v :: .ref (ad i) :: rest)) :=
  m_put G hI inGX1 tyX1_ok nmX1 (ci := 1) (k := 1) rfl (by decide) fl_X1_28 rfl rfl (ty := .int) rfl hi.lt hi.sh rfl rfl rfl hd kk
theorem fl_X1_31 : Cond.fieldLink RX1 31 RX1 (TX1 2).2.1 (TX1 2).2.2.1 ∈ gT := tin 60 (by decide +kernel) rfl
theorem gf_X1_31 (G : Mx n D cA ad A sa p s m args meth c RX1 cc mL rt) (hI : Iv n sh D cA ad A s.heap w H locs) {i : Nat} (hi : isX1 n sh i) (hd : decode cc pc = .ok (.getfield 31, 3)) (kk : W p l e Rm s m args below meth c H locs cells slots Q (F0 m (pc + 3) ls (.int (w i 2) :: rest))) : W p l e Rm s m args below meth c H locs cells slots Q (F0 m pc ls (.ref (ad i) :: rest)) :=
  m_getI G hI inGX1 (ci := 1) (k := 2) rfl (by decide) fl_X1_31 rfl hi.lt hi.sh rfl hd kk
theorem pf_X1_31 (G : Mx n D cA ad A sa p s m args meth c RX1 cc mL rt) (hI : Iv n sh D cA ad A s.heap w H locs) {i : Nat} (hi : isX1 n sh i) {v : Int32} (hn : bz v = true) (hd : decode cc pc = .ok (.putfield 31, 3)) (kk : ∀ (H1 : Heap) (locs1 : List Loc), Iv n sh D cA ad A s.heap (mst w i 2 v) H1 locs1 → W p l e Rm s m args below meth c H1 locs1 cells slots Q (F0 m (pc + 3) ls rest)) : W p l e Rm s m args below meth c H locs cells slots Q (F0 m pc ls (.int v :: .ref (ad i) :: rest)) :=
  m_put G hI inGX1 tyX1_ok nmX1 (ci := 1) (k := 2) rfl (by decide) fl_X1_31 rfl rfl (ty := .boolean) rfl hi.lt hi.sh rfl (bz_narrow hn) (bz_fits hn) hd kk
theorem fl_X1_42 : Cond.fieldLink RX1 42 RX1 (TX1 3).2.1 (TX1 3).2.2.1 ∈ gT := tin 61 (by decide +kernel) rfl
theorem gf_X1_42 (G : Mx n D cA ad A sa p s m args meth c RX1 cc mL rt) (hI : Iv n sh D cA ad A s.heap w H locs) {i : Nat} (hi : isX1 n sh i) (hd : decode cc pc = .ok (.getfield 42, 3)) (kk : W p l e Rm s m args below meth c H locs cells slots Q (F0 m (pc + 3) ls (.int (w i 3) :: rest))) : W p l e Rm s m args below meth c H locs cells slots Q (F0 m pc ls (.ref (ad i) :: rest)) :=
  m_getI G hI inGX1 (ci := 1) (k := 3) rfl (by decide) fl_X1_42 rfl hi.lt hi.sh rfl hd kk
theorem pf_X1_42 (G : Mx n D cA ad A sa p s m args meth c RX1 cc mL rt) (hI : Iv n sh D cA ad A s.heap w H locs) {i : Nat} (hi : isX1 n sh i) {v : Int32} (hd : decode cc pc = .ok (.putfield 42, 3)) (kk : ∀ (H1 : Heap) (locs1 : List Loc), Iv n sh D cA ad A s.heap (mst w i 3 v) H1 locs1 → W p l e Rm s m args below meth c H1 locs1 cells slots Q (F0 m (pc + 3) ls rest)) : W p l e Rm s m args below meth c H locs cells slots Q (F0 m pc ls (.int v :: .ref (ad i) :: rest)) :=
  m_put G hI inGX1 tyX1_ok nmX1 (ci := 1) (k := 3) rfl (by decide) fl_X1_42 rfl rfl (ty := .int) rfl hi.lt hi.sh rfl rfl rfl hd kk
theorem fl_X1_45 : Cond.fieldLink RX1 45 RX1 (TX1 4).2.1 (TX1 4).2.2.1 ∈ gT := tin 63 (by decide +kernel) rfl
theorem gf_X1_45 (G : Mx n D cA ad A sa p s m args meth c RX1 cc mL rt) (hI : Iv n sh D cA ad A s.heap w H locs) {i : Nat} (hi : isX1 n sh i) (hd : decode cc pc = .ok (.getfield 45, 3)) (kk : W p l e Rm s m args below meth c H locs cells slots Q (F0 m (pc + 3) ls (.int (w i 4) :: rest))) : W p l e Rm s m args below meth c H locs cells slots Q (F0 m pc ls (.ref (ad i) :: rest)) :=
  m_getI G hI inGX1 (ci := 1) (k := 4) rfl (by decide) fl_X1_45 rfl hi.lt hi.sh rfl hd kk
theorem pf_X1_45 (G : Mx n D cA ad A sa p s m args meth c RX1 cc mL rt) (hI : Iv n sh D cA ad A s.heap w H locs) {i : Nat} (hi : isX1 n sh i) {v : Int32} (hn : bz v = true) (hd : decode cc pc = .ok (.putfield 45, 3)) (kk : ∀ (H1 : Heap) (locs1 : List Loc), Iv n sh D cA ad A s.heap (mst w i 4 v) H1 locs1 → W p l e Rm s m args below meth c H1 locs1 cells slots Q (F0 m (pc + 3) ls rest)) : W p l e Rm s m args below meth c H locs cells slots Q (F0 m pc ls (.int v :: .ref (ad i) :: rest)) :=
  m_put G hI inGX1 tyX1_ok nmX1 (ci := 1) (k := 4) rfl (by decide) fl_X1_45 rfl rfl (ty := .boolean) rfl hi.lt hi.sh rfl (bz_narrow hn) (bz_fits hn) hd kk
theorem fl_X2_14 : Cond.fieldLink RX2 14 RX2 (TX2 0).2.1 (TX2 0).2.2.1 ∈ gT := tin 155 (by decide +kernel) rfl
theorem gf_X2_14 (G : Mx n D cA ad A sa p s m args meth c RX2 cc mL rt) (hI : Iv n sh D cA ad A s.heap w H locs) {i : Nat} (hi : isX2 n sh i) (hd : decode cc pc = .ok (.getfield 14, 3)) (kk : W p l e Rm s m args below meth c H locs cells slots Q (F0 m (pc + 3) ls (.ref (ad (i + 1)) :: rest))) : W p l e Rm s m args below meth c H locs cells slots Q (F0 m pc ls (.ref (ad i) :: rest)) :=
  m_getR G hI inGX2 (ci := 2) (k := 0) rfl (by decide) fl_X2_14 rfl hi.lt hi.sh rfl hd kk
theorem fl_X2_23 : Cond.fieldLink RX2 23 RX2 (TX2 1).2.1 (TX2 1).2.2.1 ∈ gT := tin 157 (by decide +kernel) rfl
theorem gf_X2_23 (G : Mx n D cA ad A sa p s m args meth c RX2 cc mL rt) (hI : Iv n sh D cA ad A s.heap w H locs) {i : Nat} (hi : isX2 n sh i) (hd : decode cc pc = .ok (.getfield 23, 3)) (kk : W p l e Rm s m args below meth c H locs cells slots Q (F0 m (pc + 3) ls (.int (w i 1) :: rest))) : W p l e Rm s m args below meth c H locs cells slots Q (F0 m pc ls (.ref (ad i) :: rest)) :=
  m_getI G hI inGX2 (ci := 2) (k := 1) rfl (by decide) fl_X2_23 rfl hi.lt hi.sh rfl hd kk
theorem pf_X2_23 (G : Mx n D cA ad A sa p s m args meth c RX2 cc mL rt) (hI : Iv n sh D cA ad A s.heap w H locs) {i : Nat} (hi : isX2 n sh i) {v : Int32} (hd : decode cc pc = .ok (.putfield 23, 3)) (kk : ∀ (H1 : Heap) (locs1 : List Loc), Iv n sh D cA ad A s.heap (mst w i 1 v) H1 locs1 → W p l e Rm s m args below meth c H1 locs1 cells slots Q (F0 m (pc + 3) ls rest)) : W p l e Rm s m args below meth c H locs cells slots Q (F0 m pc ls (.int v :: .ref (ad i) :: rest)) :=
  m_put G hI inGX2 tyX2_ok nmX2 (ci := 2) (k := 1) rfl (by decide) fl_X2_23 rfl rfl (ty := .int) rfl hi.lt hi.sh rfl rfl rfl hd kk
theorem fl_X2_55 : Cond.fieldLink RX2 55 RX4 (TX4 2).2.1 (TX4 2).2.2.1 ∈ gT := tin 41 (by decide +kernel) rfl
theorem gf_X2_55 (G : Mx n D cA ad A sa p s m args meth c RX2 cc mL rt) (hI : Iv n sh D cA ad A s.heap w H locs) {i : Nat} (hi : isX4 n sh i) (hd : decode cc pc = .ok (.getfield 55, 3)) (kk : W p l e Rm s m args below meth c H locs cells slots Q (F0 m (pc + 3) ls (.int (w i 2) :: rest))) : W p l e Rm s m args below meth c H locs cells slots Q (F0 m pc ls (.ref (ad i) :: rest)) :=
  m_getI G hI inGX4 (ci := 4) (k := 2) rfl (by decide) fl_X2_55 rfl hi.lt hi.sh rfl hd kk
theorem pf_X2_55 (G : Mx n D cA ad A sa p s m args meth c RX2 cc mL rt) (hI : Iv n sh D cA ad A s.heap w H locs) {i : Nat} (hi : isX4 n sh i) {v : Int32} (hd : decode cc pc = .ok (.putfield 55, 3)) (kk : ∀ (H1 : Heap) (locs1 : List Loc), Iv n sh D cA ad A s.heap (mst w i 2 v) H1 locs1 → W p l e Rm s m args below meth c H1 locs1 cells slots Q (F0 m (pc + 3) ls rest)) : W p l e Rm s m args below meth c H locs cells slots Q (F0 m pc ls (.int v :: .ref (ad i) :: rest)) :=
  m_put G hI inGX4 tyX4_ok nmX4 (ci := 4) (k := 2) rfl (by decide) fl_X2_55 rfl rfl (ty := .int) rfl hi.lt hi.sh rfl rfl rfl hd kk
theorem fl_X3_12 : Cond.fieldLink RX3 12 RX3 (TX3 0).2.1 (TX3 0).2.2.1 ∈ gT := tin 174 (by decide +kernel) rfl
theorem gf_X3_12 (G : Mx n D cA ad A sa p s m args meth c RX3 cc mL rt) (hI : Iv n sh D cA ad A s.heap w H locs) {i : Nat} (hi : isX3 n sh i) (hd : decode cc pc = .ok (.getfield 12, 3)) (kk : W p l e Rm s m args below meth c H locs cells slots Q (F0 m (pc + 3) ls (.ref (ad 33) :: rest))) : W p l e Rm s m args below meth c H locs cells slots Q (F0 m pc ls (.ref (ad i) :: rest)) :=
  m_getR G hI inGX3 (ci := 3) (k := 0) rfl (by decide) fl_X3_12 rfl hi.lt hi.sh rfl hd kk
theorem fl_X3_18 : Cond.fieldLink RX3 18 RX3 (TX3 1).2.1 (TX3 1).2.2.1 ∈ gT := tin 175 (by decide +kernel) rfl
theorem gf_X3_18 (G : Mx n D cA ad A sa p s m args meth c RX3 cc mL rt) (hI : Iv n sh D cA ad A s.heap w H locs) {i : Nat} (hi : isX3 n sh i) (hd : decode cc pc = .ok (.getfield 18, 3)) (kk : W p l e Rm s m args below meth c H locs cells slots Q (F0 m (pc + 3) ls (.ref (ad 36) :: rest))) : W p l e Rm s m args below meth c H locs cells slots Q (F0 m pc ls (.ref (ad i) :: rest)) :=
  m_getR G hI inGX3 (ci := 3) (k := 1) rfl (by decide) fl_X3_18 rfl hi.lt hi.sh rfl hd kk
theorem fl_X3_22 : Cond.fieldLink RX3 22 RX3 (TX3 2).2.1 (TX3 2).2.2.1 ∈ gT := tin 176 (by decide +kernel) rfl
theorem gf_X3_22 (G : Mx n D cA ad A sa p s m args meth c RX3 cc mL rt) (hI : Iv n sh D cA ad A s.heap w H locs) {i : Nat} (hi : isX3 n sh i) (hd : decode cc pc = .ok (.getfield 22, 3)) (kk : W p l e Rm s m args below meth c H locs cells slots Q (F0 m (pc + 3) ls (.ref (ad 37) :: rest))) : W p l e Rm s m args below meth c H locs cells slots Q (F0 m pc ls (.ref (ad i) :: rest)) :=
  m_getR G hI inGX3 (ci := 3) (k := 2) rfl (by decide) fl_X3_22 rfl hi.lt hi.sh rfl hd kk
theorem fl_X3_25 : Cond.fieldLink RX3 25 RX3 (TX3 3).2.1 (TX3 3).2.2.1 ∈ gT := tin 177 (by decide +kernel) rfl
theorem gf_X3_25 (G : Mx n D cA ad A sa p s m args meth c RX3 cc mL rt) (hI : Iv n sh D cA ad A s.heap w H locs) {i : Nat} (hi : isX3 n sh i) (hd : decode cc pc = .ok (.getfield 25, 3)) (kk : W p l e Rm s m args below meth c H locs cells slots Q (F0 m (pc + 3) ls (.ref (ad 38) :: rest))) : W p l e Rm s m args below meth c H locs cells slots Q (F0 m pc ls (.ref (ad i) :: rest)) :=
  m_getR G hI inGX3 (ci := 3) (k := 3) rfl (by decide) fl_X3_25 rfl hi.lt hi.sh rfl hd kk
theorem fl_X3_28 : Cond.fieldLink RX3 28 RX3 (TX3 5).2.1 (TX3 5).2.2.1 ∈ gT := tin 181 (by decide +kernel) rfl
theorem gf_X3_28 (G : Mx n D cA ad A sa p s m args meth c RX3 cc mL rt) (hI : Iv n sh D cA ad A s.heap w H locs) {i : Nat} (hi : isX3 n sh i) (hd : decode cc pc = .ok (.getfield 28, 3)) (kk : W p l e Rm s m args below meth c H locs cells slots Q (F0 m (pc + 3) ls (.int (w i 5) :: rest))) : W p l e Rm s m args below meth c H locs cells slots Q (F0 m pc ls (.ref (ad i) :: rest)) :=
  m_getI G hI inGX3 (ci := 3) (k := 5) rfl (by decide) fl_X3_28 rfl hi.lt hi.sh rfl hd kk
theorem pf_X3_28 (G : Mx n D cA ad A sa p s m args meth c RX3 cc mL rt) (hI : Iv n sh D cA ad A s.heap w H locs) {i : Nat} (hi : isX3 n sh i) {v : Int32} (hd : decode cc pc = .ok (.putfield 28, 3)) (kk : ∀ (H1 : Heap) (locs1 : List Loc), Iv n sh D cA ad A s.heap (mst w i 5 v) H1 locs1 → W p l e Rm s m args below meth c H1 locs1 cells slots Q (F0 m (pc + 3) ls rest)) : W p l e Rm s m args below meth c H locs cells slots Q (F0 m pc ls (.int v :: .ref (ad i) :: rest)) :=
  m_put G hI inGX3 tyX3_ok nmX3 (ci := 3) (k := 5) rfl (by decide) fl_X3_28 rfl rfl (ty := .int) rfl hi.lt hi.sh rfl rfl rfl hd kk
theorem fl_X3_32 : Cond.fieldLink RX3 32 RX3 (TX3 4).2.1 (TX3 4).2.2.1 ∈ gT := tin 179 (by decide +kernel) rfl
theorem gf_X3_32 (G : Mx n D cA ad A sa p s m args meth c RX3 cc mL rt) (hI : Iv n sh D cA ad A s.heap w H locs) {i : Nat} (hi : isX3 n sh i) (hd : decode cc pc = .ok (.getfield 32, 3)) (kk : W p l e Rm s m args below meth c H locs cells slots Q (F0 m (pc + 3) ls (.int (w i 4) :: rest))) : W p l e Rm s m args below meth c H locs cells slots Q (F0 m pc ls (.ref (ad i) :: rest)) :=
  m_getI G hI inGX3 (ci := 3) (k := 4) rfl (by decide) fl_X3_32 rfl hi.lt hi.sh rfl hd kk
theorem pf_X3_32 (G : Mx n D cA ad A sa p s m args meth c RX3 cc mL rt) (hI : Iv n sh D cA ad A s.heap w H locs) {i : Nat} (hi : isX3 n sh i) {v : Int32} (hd : decode cc pc = .ok (.putfield 32, 3)) (kk : ∀ (H1 : Heap) (locs1 : List Loc), Iv n sh D cA ad A s.heap (mst w i 4 v) H1 locs1 → W p l e Rm s m args below meth c H1 locs1 cells slots Q (F0 m (pc + 3) ls rest)) : W p l e Rm s m args below meth c H locs cells slots Q (F0 m pc ls (.int v :: .ref (ad i) :: rest)) :=
  m_put G hI inGX3 tyX3_ok nmX3 (ci := 3) (k := 4) rfl (by decide) fl_X3_32 rfl rfl (ty := .int) rfl hi.lt hi.sh rfl rfl rfl hd kk
theorem fl_X3_57 : Cond.fieldLink RX3 57 RX1 (TX1 7).2.1 (TX1 7).2.2.1 ∈ gT := tin 72 (by decide +kernel) rfl
theorem gf_X3_57 (G : Mx n D cA ad A sa p s m args meth c RX3 cc mL rt) (hI : Iv n sh D cA ad A s.heap w H locs) {i : Nat} (hi : isX1 n sh i) (hd : decode cc pc = .ok (.getfield 57, 3)) (kk : W p l e Rm s m args below meth c H locs cells slots Q (F0 m (pc + 3) ls (.ref (ad (i + 3)) :: rest))) : W p l e Rm s m args below meth c H locs cells slots Q (F0 m pc ls (.ref (ad i) :: rest)) :=
  m_getR G hI inGX1 (ci := 1) (k := 7) rfl (by decide) fl_X3_57 rfl hi.lt hi.sh rfl hd kk
theorem fl_X3_62 : Cond.fieldLink RX3 62 RX1 (TX1 0).2.1 (TX1 0).2.2.1 ∈ gT := tin 57 (by decide +kernel) rfl
theorem gf_X3_62 (G : Mx n D cA ad A sa p s m args meth c RX3 cc mL rt) (hI : Iv n sh D cA ad A s.heap w H locs) {i : Nat} (hi : isX1 n sh i) (hd : decode cc pc = .ok (.getfield 62, 3)) (kk : W p l e Rm s m args below meth c H locs cells slots Q (F0 m (pc + 3) ls (.int (w i 0) :: rest))) : W p l e Rm s m args below meth c H locs cells slots Q (F0 m pc ls (.ref (ad i) :: rest)) :=
  m_getI G hI inGX1 (ci := 1) (k := 0) rfl (by decide) fl_X3_62 rfl hi.lt hi.sh rfl hd kk
theorem pf_X3_62 (G : Mx n D cA ad A sa p s m args meth c RX3 cc mL rt) (hI : Iv n sh D cA ad A s.heap w H locs) {i : Nat} (hi : isX1 n sh i) {v : Int32} (hd : decode cc pc = .ok (.putfield 62, 3)) (kk : ∀ (H1 : Heap) (locs1 : List Loc), Iv n sh D cA ad A s.heap (mst w i 0 v) H1 locs1 → W p l e Rm s m args below meth c H1 locs1 cells slots Q (F0 m (pc + 3) ls rest)) : W p l e Rm s m args below meth c H locs cells slots Q (F0 m pc ls (.int v :: .ref (ad i) :: rest)) :=
  m_put G hI inGX1 tyX1_ok nmX1 (ci := 1) (k := 0) rfl (by decide) fl_X3_62 rfl rfl (ty := .int) rfl hi.lt hi.sh rfl rfl rfl hd kk
theorem fl_X3_65 : Cond.fieldLink RX3 65 RX1 (TX1 6).2.1 (TX1 6).2.2.1 ∈ gT := tin 69 (by decide +kernel) rfl
theorem gf_X3_65 (G : Mx n D cA ad A sa p s m args meth c RX3 cc mL rt) (hI : Iv n sh D cA ad A s.heap w H locs) {i : Nat} (hi : isX1 n sh i) (hd : decode cc pc = .ok (.getfield 65, 3)) (kk : W p l e Rm s m args below meth c H locs cells slots Q (F0 m (pc + 3) ls (.ref (ad (i + 2)) :: rest))) : W p l e Rm s m args below meth c H locs cells slots Q (F0 m pc ls (.ref (ad i) :: rest)) :=
  m_getR G hI inGX1 (ci := 1) (k := 6) rfl (by decide) fl_X3_65 rfl hi.lt hi.sh rfl hd kk
theorem fl_X4_15 : Cond.fieldLink RX4 15 RX4 (TX4 0).2.1 (TX4 0).2.2.1 ∈ gT := tin 35 (by decide +kernel) rfl
theorem gf_X4_15 (G : Mx n D cA ad A sa p s m args meth c RX4 cc mL rt) (hI : Iv n sh D cA ad A s.heap w H locs) {i : Nat} (hi : isX4 n sh i) (hd : decode cc pc = .ok (.getfield 15, 3)) (kk : W p l e Rm s m args below meth c H locs cells slots Q (F0 m (pc + 3) ls (.int (w i 0) :: rest))) : W p l e Rm s m args below meth c H locs cells slots Q (F0 m pc ls (.ref (ad i) :: rest)) :=
  m_getI G hI inGX4 (ci := 4) (k := 0) rfl (by decide) fl_X4_15 rfl hi.lt hi.sh rfl hd kk
theorem fl_X4_21 : Cond.fieldLink RX4 21 RX4 (TX4 1).2.1 (TX4 1).2.2.1 ∈ gT := tin 36 (by decide +kernel) rfl
theorem gf_X4_21 (G : Mx n D cA ad A sa p s m args meth c RX4 cc mL rt) (hI : Iv n sh D cA ad A s.heap w H locs) {i : Nat} (hi : isX4 n sh i) (hd : decode cc pc = .ok (.getfield 21, 3)) (kk : W p l e Rm s m args below meth c H locs cells slots Q (F0 m (pc + 3) ls (.ref (ad (i + 1)) :: rest))) : W p l e Rm s m args below meth c H locs cells slots Q (F0 m pc ls (.ref (ad i) :: rest)) :=
  m_getR G hI inGX4 (ci := 4) (k := 1) rfl (by decide) fl_X4_21 rfl hi.lt hi.sh rfl hd kk
theorem fl_X4_25 : Cond.fieldLink RX4 25 RX4 (TX4 2).2.1 (TX4 2).2.2.1 ∈ gT := tin 37 (by decide +kernel) rfl
theorem gf_X4_25 (G : Mx n D cA ad A sa p s m args meth c RX4 cc mL rt) (hI : Iv n sh D cA ad A s.heap w H locs) {i : Nat} (hi : isX4 n sh i) (hd : decode cc pc = .ok (.getfield 25, 3)) (kk : W p l e Rm s m args below meth c H locs cells slots Q (F0 m (pc + 3) ls (.int (w i 2) :: rest))) : W p l e Rm s m args below meth c H locs cells slots Q (F0 m pc ls (.ref (ad i) :: rest)) :=
  m_getI G hI inGX4 (ci := 4) (k := 2) rfl (by decide) fl_X4_25 rfl hi.lt hi.sh rfl hd kk
theorem pf_X4_25 (G : Mx n D cA ad A sa p s m args meth c RX4 cc mL rt) (hI : Iv n sh D cA ad A s.heap w H locs) {i : Nat} (hi : isX4 n sh i) {v : Int32} (hd : decode cc pc = .ok (.putfield 25, 3)) (kk : ∀ (H1 : Heap) (locs1 : List Loc), Iv n sh D cA ad A s.heap (mst w i 2 v) H1 locs1 → W p l e Rm s m args below meth c H1 locs1 cells slots Q (F0 m (pc + 3) ls rest)) : W p l e Rm s m args below meth c H locs cells slots Q (F0 m pc ls (.int v :: .ref (ad i) :: rest)) :=
  m_put G hI inGX4 tyX4_ok nmX4 (ci := 4) (k := 2) rfl (by decide) fl_X4_25 rfl rfl (ty := .int) rfl hi.lt hi.sh rfl rfl rfl hd kk
theorem fl_X5_9 : Cond.fieldLink RX5 9 RX5 (TX5 0).2.1 (TX5 0).2.2.1 ∈ gT := tin 204 (by decide +kernel) rfl
theorem gf_X5_9 (G : Mx n D cA ad A sa p s m args meth c RX5 cc mL rt) (hI : Iv n sh D cA ad A s.heap w H locs) {i : Nat} (hi : isX5 n sh i) (hd : decode cc pc = .ok (.getfield 9, 3)) (kk : W p l e Rm s m args below meth c H locs cells slots Q (F0 m (pc + 3) ls (.ref (ad 42) :: rest))) : W p l e Rm s m args below meth c H locs cells slots Q (F0 m pc ls (.ref (ad i) :: rest)) :=
  m_getR G hI inGX5 (ci := 5) (k := 0) rfl (by decide) fl_X5_9 rfl hi.lt hi.sh rfl hd kk
theorem fl_X5_20 : Cond.fieldLink RX5 20 RX5 (TX5 1).2.1 (TX5 1).2.2.1 ∈ gT := tin 205 (by decide +kernel) rfl
theorem gf_X5_20 (G : Mx n D cA ad A sa p s m args meth c RX5 cc mL rt) (hI : Iv n sh D cA ad A s.heap w H locs) {i : Nat} (hi : isX5 n sh i) (hd : decode cc pc = .ok (.getfield 20, 3)) (kk : W p l e Rm s m args below meth c H locs cells slots Q (F0 m (pc + 3) ls (.ref (ad 43) :: rest))) : W p l e Rm s m args below meth c H locs cells slots Q (F0 m pc ls (.ref (ad i) :: rest)) :=
  m_getR G hI inGX5 (ci := 5) (k := 1) rfl (by decide) fl_X5_20 rfl hi.lt hi.sh rfl hd kk
theorem fl_X5_24 : Cond.fieldLink RX5 24 RX5 (TX5 2).2.1 (TX5 2).2.2.1 ∈ gT := tin 207 (by decide +kernel) rfl
theorem gf_X5_24 (G : Mx n D cA ad A sa p s m args meth c RX5 cc mL rt) (hI : Iv n sh D cA ad A s.heap w H locs) {i : Nat} (hi : isX5 n sh i) (hd : decode cc pc = .ok (.getfield 24, 3)) (kk : W p l e Rm s m args below meth c H locs cells slots Q (F0 m (pc + 3) ls (.int (w i 2) :: rest))) : W p l e Rm s m args below meth c H locs cells slots Q (F0 m pc ls (.ref (ad i) :: rest)) :=
  m_getI G hI inGX5 (ci := 5) (k := 2) rfl (by decide) fl_X5_24 rfl hi.lt hi.sh rfl hd kk
theorem pf_X5_24 (G : Mx n D cA ad A sa p s m args meth c RX5 cc mL rt) (hI : Iv n sh D cA ad A s.heap w H locs) {i : Nat} (hi : isX5 n sh i) {v : Int32} (hd : decode cc pc = .ok (.putfield 24, 3)) (kk : ∀ (H1 : Heap) (locs1 : List Loc), Iv n sh D cA ad A s.heap (mst w i 2 v) H1 locs1 → W p l e Rm s m args below meth c H1 locs1 cells slots Q (F0 m (pc + 3) ls rest)) : W p l e Rm s m args below meth c H locs cells slots Q (F0 m pc ls (.int v :: .ref (ad i) :: rest)) :=
  m_put G hI inGX5 tyX5_ok nmX5 (ci := 5) (k := 2) rfl (by decide) fl_X5_24 rfl rfl (ty := .int) rfl hi.lt hi.sh rfl rfl rfl hd kk
theorem fl_X5_31 : Cond.fieldLink RX5 31 RX5 (TX5 3).2.1 (TX5 3).2.2.1 ∈ gT := tin 209 (by decide +kernel) rfl
theorem gf_X5_31 (G : Mx n D cA ad A sa p s m args meth c RX5 cc mL rt) (hI : Iv n sh D cA ad A s.heap w H locs) {i : Nat} (hi : isX5 n sh i) (hd : decode cc pc = .ok (.getfield 31, 3)) (kk : W p l e Rm s m args below meth c H locs cells slots Q (F0 m (pc + 3) ls (.int (w i 3) :: rest))) : W p l e Rm s m args below meth c H locs cells slots Q (F0 m pc ls (.ref (ad i) :: rest)) :=
  m_getI G hI inGX5 (ci := 5) (k := 3) rfl (by decide) fl_X5_31 rfl hi.lt hi.sh rfl hd kk
theorem pf_X5_31 (G : Mx n D cA ad A sa p s m args meth c RX5 cc mL rt) (hI : Iv n sh D cA ad A s.heap w H locs) {i : Nat} (hi : isX5 n sh i) {v : Int32} (hd : decode cc pc = .ok (.putfield 31, 3)) (kk : ∀ (H1 : Heap) (locs1 : List Loc), Iv n sh D cA ad A s.heap (mst w i 3 v) H1 locs1 → W p l e Rm s m args below meth c H1 locs1 cells slots Q (F0 m (pc + 3) ls rest)) : W p l e Rm s m args below meth c H locs cells slots Q (F0 m pc ls (.int v :: .ref (ad i) :: rest)) :=
  m_put G hI inGX5 tyX5_ok nmX5 (ci := 5) (k := 3) rfl (by decide) fl_X5_31 rfl rfl (ty := .int) rfl hi.lt hi.sh rfl rfl rfl hd kk
theorem fl_X5_34 : Cond.fieldLink RX5 34 RX5 (TX5 4).2.1 (TX5 4).2.2.1 ∈ gT := tin 210 (by decide +kernel) rfl
theorem gf_X5_34 (G : Mx n D cA ad A sa p s m args meth c RX5 cc mL rt) (hI : Iv n sh D cA ad A s.heap w H locs) {i : Nat} (hi : isX5 n sh i) (hd : decode cc pc = .ok (.getfield 34, 3)) (kk : W p l e Rm s m args below meth c H locs cells slots Q (F0 m (pc + 3) ls (.int (w i 4) :: rest))) : W p l e Rm s m args below meth c H locs cells slots Q (F0 m pc ls (.ref (ad i) :: rest)) :=
  m_getI G hI inGX5 (ci := 5) (k := 4) rfl (by decide) fl_X5_34 rfl hi.lt hi.sh rfl hd kk
theorem pf_X5_34 (G : Mx n D cA ad A sa p s m args meth c RX5 cc mL rt) (hI : Iv n sh D cA ad A s.heap w H locs) {i : Nat} (hi : isX5 n sh i) {v : Int32} (hd : decode cc pc = .ok (.putfield 34, 3)) (kk : ∀ (H1 : Heap) (locs1 : List Loc), Iv n sh D cA ad A s.heap (mst w i 4 v) H1 locs1 → W p l e Rm s m args below meth c H1 locs1 cells slots Q (F0 m (pc + 3) ls rest)) : W p l e Rm s m args below meth c H locs cells slots Q (F0 m pc ls (.int v :: .ref (ad i) :: rest)) :=
  m_put G hI inGX5 tyX5_ok nmX5 (ci := 5) (k := 4) rfl (by decide) fl_X5_34 rfl rfl (ty := .int) rfl hi.lt hi.sh rfl rfl rfl hd kk
theorem fl_X5_52 : Cond.fieldLink RX5 52 RX4 (TX4 2).2.1 (TX4 2).2.2.1 ∈ gT := tin 38 (by decide +kernel) rfl
theorem gf_X5_52 (G : Mx n D cA ad A sa p s m args meth c RX5 cc mL rt) (hI : Iv n sh D cA ad A s.heap w H locs) {i : Nat} (hi : isX4 n sh i) (hd : decode cc pc = .ok (.getfield 52, 3)) (kk : W p l e Rm s m args below meth c H locs cells slots Q (F0 m (pc + 3) ls (.int (w i 2) :: rest))) : W p l e Rm s m args below meth c H locs cells slots Q (F0 m pc ls (.ref (ad i) :: rest)) :=
  m_getI G hI inGX4 (ci := 4) (k := 2) rfl (by decide) fl_X5_52 rfl hi.lt hi.sh rfl hd kk
theorem pf_X5_52 (G : Mx n D cA ad A sa p s m args meth c RX5 cc mL rt) (hI : Iv n sh D cA ad A s.heap w H locs) {i : Nat} (hi : isX4 n sh i) {v : Int32} (hd : decode cc pc = .ok (.putfield 52, 3)) (kk : ∀ (H1 : Heap) (locs1 : List Loc), Iv n sh D cA ad A s.heap (mst w i 2 v) H1 locs1 → W p l e Rm s m args below meth c H1 locs1 cells slots Q (F0 m (pc + 3) ls rest)) : W p l e Rm s m args below meth c H locs cells slots Q (F0 m pc ls (.int v :: .ref (ad i) :: rest)) :=
  m_put G hI inGX4 tyX4_ok nmX4 (ci := 4) (k := 2) rfl (by decide) fl_X5_52 rfl rfl (ty := .int) rfl hi.lt hi.sh rfl rfl rfl hd kk
theorem fl_X7_1 : Cond.fieldLink RX7 1 RX7 (TX7 0).2.1 (TX7 0).2.2.1 ∈ gT := tin 706 (by decide +kernel) rfl
theorem gf_X7_1 (G : Mx n D cA ad A sa p s m args meth c RX7 cc mL rt) (hI : Iv n sh D cA ad A s.heap w H locs) {i : Nat} (hi : isX7 n sh i) (hd : decode cc pc = .ok (.getfield 1, 3)) (kk : W p l e Rm s m args below meth c H locs cells slots Q (F0 m (pc + 3) ls (.ref (ad 1) :: rest))) : W p l e Rm s m args below meth c H locs cells slots Q (F0 m pc ls (.ref (ad i) :: rest)) :=
  m_getR G hI inGX7 (ci := 7) (k := 0) rfl (by decide) fl_X7_1 rfl hi.lt hi.sh rfl hd kk
theorem fl_X7_13 : Cond.fieldLink RX7 13 RX7 (TX7 1).2.1 (TX7 1).2.2.1 ∈ gT := tin 707 (by decide +kernel) rfl
theorem gf_X7_13 (G : Mx n D cA ad A sa p s m args meth c RX7 cc mL rt) (hI : Iv n sh D cA ad A s.heap w H locs) {i : Nat} (hi : isX7 n sh i) (hd : decode cc pc = .ok (.getfield 13, 3)) (kk : W p l e Rm s m args below meth c H locs cells slots Q (F0 m (pc + 3) ls (.ref (ad 2) :: rest))) : W p l e Rm s m args below meth c H locs cells slots Q (F0 m pc ls (.ref (ad i) :: rest)) :=
  m_getR G hI inGX7 (ci := 7) (k := 1) rfl (by decide) fl_X7_13 rfl hi.lt hi.sh rfl hd kk
theorem fl_X7_16 : Cond.fieldLink RX7 16 RX7 (TX7 2).2.1 (TX7 2).2.2.1 ∈ gT := tin 708 (by decide +kernel) rfl
theorem gf_X7_16 (G : Mx n D cA ad A sa p s m args meth c RX7 cc mL rt) (hI : Iv n sh D cA ad A s.heap w H locs) {i : Nat} (hi : isX7 n sh i) (hd : decode cc pc = .ok (.getfield 16, 3)) (kk : W p l e Rm s m args below meth c H locs cells slots Q (F0 m (pc + 3) ls (.ref (ad 3) :: rest))) : W p l e Rm s m args below meth c H locs cells slots Q (F0 m pc ls (.ref (ad i) :: rest)) :=
  m_getR G hI inGX7 (ci := 7) (k := 2) rfl (by decide) fl_X7_16 rfl hi.lt hi.sh rfl hd kk
theorem fl_X7_19 : Cond.fieldLink RX7 19 RX7 (TX7 3).2.1 (TX7 3).2.2.1 ∈ gT := tin 709 (by decide +kernel) rfl
theorem gf_X7_19 (G : Mx n D cA ad A sa p s m args meth c RX7 cc mL rt) (hI : Iv n sh D cA ad A s.heap w H locs) {i : Nat} (hi : isX7 n sh i) (hd : decode cc pc = .ok (.getfield 19, 3)) (kk : W p l e Rm s m args below meth c H locs cells slots Q (F0 m (pc + 3) ls (.ref (ad 4) :: rest))) : W p l e Rm s m args below meth c H locs cells slots Q (F0 m pc ls (.ref (ad i) :: rest)) :=
  m_getR G hI inGX7 (ci := 7) (k := 3) rfl (by decide) fl_X7_19 rfl hi.lt hi.sh rfl hd kk
theorem fl_X7_22 : Cond.fieldLink RX7 22 RX7 (TX7 4).2.1 (TX7 4).2.2.1 ∈ gT := tin 710 (by decide +kernel) rfl
theorem gf_X7_22 (G : Mx n D cA ad A sa p s m args meth c RX7 cc mL rt) (hI : Iv n sh D cA ad A s.heap w H locs) {i : Nat} (hi : isX7 n sh i) (hd : decode cc pc = .ok (.getfield 22, 3)) (kk : W p l e Rm s m args below meth c H locs cells slots Q (F0 m (pc + 3) ls (.ref (ad 5) :: rest))) : W p l e Rm s m args below meth c H locs cells slots Q (F0 m pc ls (.ref (ad i) :: rest)) :=
  m_getR G hI inGX7 (ci := 7) (k := 4) rfl (by decide) fl_X7_22 rfl hi.lt hi.sh rfl hd kk
theorem fl_X7_25 : Cond.fieldLink RX7 25 RX7 (TX7 5).2.1 (TX7 5).2.2.1 ∈ gT := tin 711 (by decide +kernel) rfl
theorem gf_X7_25 (G : Mx n D cA ad A sa p s m args meth c RX7 cc mL rt) (hI : Iv n sh D cA ad A s.heap w H locs) {i : Nat} (hi : isX7 n sh i) (hd : decode cc pc = .ok (.getfield 25, 3)) (kk : W p l e Rm s m args below meth c H locs cells slots Q (F0 m (pc + 3) ls (.ref (ad 6) :: rest))) : W p l e Rm s m args below meth c H locs cells slots Q (F0 m pc ls (.ref (ad i) :: rest)) :=
  m_getR G hI inGX7 (ci := 7) (k := 5) rfl (by decide) fl_X7_25 rfl hi.lt hi.sh rfl hd kk
theorem fl_X7_28 : Cond.fieldLink RX7 28 RX7 (TX7 8).2.1 (TX7 8).2.2.1 ∈ gT := tin 714 (by decide +kernel) rfl
theorem gf_X7_28 (G : Mx n D cA ad A sa p s m args meth c RX7 cc mL rt) (hI : Iv n sh D cA ad A s.heap w H locs) {i : Nat} (hi : isX7 n sh i) (hd : decode cc pc = .ok (.getfield 28, 3)) (kk : W p l e Rm s m args below meth c H locs cells slots Q (F0 m (pc + 3) ls (.ref (ad 7) :: rest))) : W p l e Rm s m args below meth c H locs cells slots Q (F0 m pc ls (.ref (ad i) :: rest)) :=
  m_getR G hI inGX7 (ci := 7) (k := 8) rfl (by decide) fl_X7_28 rfl hi.lt hi.sh rfl hd kk
theorem fl_X7_31 : Cond.fieldLink RX7 31 RX7 (TX7 9).2.1 (TX7 9).2.2.1 ∈ gT := tin 715 (by decide +kernel) rfl
theorem gf_X7_31 (G : Mx n D cA ad A sa p s m args meth c RX7 cc mL rt) (hI : Iv n sh D cA ad A s.heap w H locs) {i : Nat} (hi : isX7 n sh i) (hd : decode cc pc = .ok (.getfield 31, 3)) (kk : W p l e Rm s m args below meth c H locs cells slots Q (F0 m (pc + 3) ls (.ref (ad 8) :: rest))) : W p l e Rm s m args below meth c H locs cells slots Q (F0 m pc ls (.ref (ad i) :: rest)) :=
  m_getR G hI inGX7 (ci := 7) (k := 9) rfl (by decide) fl_X7_31 rfl hi.lt hi.sh rfl hd kk
theorem fl_X7_34 : Cond.fieldLink RX7 34 RX7 (TX7 10).2.1 (TX7 10).2.2.1 ∈ gT := tin 716 (by decide +kernel) rfl
theorem gf_X7_34 (G : Mx n D cA ad A sa p s m args meth c RX7 cc mL rt) (hI : Iv n sh D cA ad A s.heap w H locs) {i : Nat} (hi : isX7 n sh i) (hd : decode cc pc = .ok (.getfield 34, 3)) (kk : W p l e Rm s m args below meth c H locs cells slots Q (F0 m (pc + 3) ls (.ref (ad 9) :: rest))) : W p l e Rm s m args below meth c H locs cells slots Q (F0 m pc ls (.ref (ad i) :: rest)) :=
  m_getR G hI inGX7 (ci := 7) (k := 10) rfl (by decide) fl_X7_34 rfl hi.lt hi.sh rfl hd kk
theorem fl_X7_37 : Cond.fieldLink RX7 37 RX7 (TX7 12).2.1 (TX7 12).2.2.1 ∈ gT := tin 718 (by decide +kernel) rfl
theorem gf_X7_37 (G : Mx n D cA ad A sa p s m args meth c RX7 cc mL rt) (hI : Iv n sh D cA ad A s.heap w H locs) {i : Nat} (hi : isX7 n sh i) (hd : decode cc pc = .ok (.getfield 37, 3)) (kk : W p l e Rm s m args below meth c H locs cells slots Q (F0 m (pc + 3) ls (.ref (ad 10) :: rest))) : W p l e Rm s m args below meth c H locs cells slots Q (F0 m pc ls (.ref (ad i) :: rest)) :=
  m_getR G hI inGX7 (ci := 7) (k := 12) rfl (by decide) fl_X7_37 rfl hi.lt hi.sh rfl hd kk
theorem fl_X7_40 : Cond.fieldLink RX7 40 RX7 (TX7 15).2.1 (TX7 15).2.2.1 ∈ gT := tin 721 (by decide +kernel) rfl
theorem gf_X7_40 (G : Mx n D cA ad A sa p s m args meth c RX7 cc mL rt) (hI : Iv n sh D cA ad A s.heap w H locs) {i : Nat} (hi : isX7 n sh i) (hd : decode cc pc = .ok (.getfield 40, 3)) (kk : W p l e Rm s m args below meth c H locs cells slots Q (F0 m (pc + 3) ls (.ref (ad 11) :: rest))) : W p l e Rm s m args below meth c H locs cells slots Q (F0 m pc ls (.ref (ad i) :: rest)) :=
  m_getR G hI inGX7 (ci := 7) (k := 15) rfl (by decide) fl_X7_40 rfl hi.lt hi.sh rfl hd kk
theorem fl_X7_43 : Cond.fieldLink RX7 43 RX7 (TX7 16).2.1 (TX7 16).2.2.1 ∈ gT := tin 722 (by decide +kernel) rfl
theorem gf_X7_43 (G : Mx n D cA ad A sa p s m args meth c RX7 cc mL rt) (hI : Iv n sh D cA ad A s.heap w H locs) {i : Nat} (hi : isX7 n sh i) (hd : decode cc pc = .ok (.getfield 43, 3)) (kk : W p l e Rm s m args below meth c H locs cells slots Q (F0 m (pc + 3) ls (.ref (ad 12) :: rest))) : W p l e Rm s m args below meth c H locs cells slots Q (F0 m pc ls (.ref (ad i) :: rest)) :=
  m_getR G hI inGX7 (ci := 7) (k := 16) rfl (by decide) fl_X7_43 rfl hi.lt hi.sh rfl hd kk
theorem fl_X7_46 : Cond.fieldLink RX7 46 RX7 (TX7 17).2.1 (TX7 17).2.2.1 ∈ gT := tin 723 (by decide +kernel) rfl
theorem gf_X7_46 (G : Mx n D cA ad A sa p s m args meth c RX7 cc mL rt) (hI : Iv n sh D cA ad A s.heap w H locs) {i : Nat} (hi : isX7 n sh i) (hd : decode cc pc = .ok (.getfield 46, 3)) (kk : W p l e Rm s m args below meth c H locs cells slots Q (F0 m (pc + 3) ls (.ref (ad 13) :: rest))) : W p l e Rm s m args below meth c H locs cells slots Q (F0 m pc ls (.ref (ad i) :: rest)) :=
  m_getR G hI inGX7 (ci := 7) (k := 17) rfl (by decide) fl_X7_46 rfl hi.lt hi.sh rfl hd kk
theorem fl_X7_49 : Cond.fieldLink RX7 49 RX7 (TX7 18).2.1 (TX7 18).2.2.1 ∈ gT := tin 724 (by decide +kernel) rfl
theorem gf_X7_49 (G : Mx n D cA ad A sa p s m args meth c RX7 cc mL rt) (hI : Iv n sh D cA ad A s.heap w H locs) {i : Nat} (hi : isX7 n sh i) (hd : decode cc pc = .ok (.getfield 49, 3)) (kk : W p l e Rm s m args below meth c H locs cells slots Q (F0 m (pc + 3) ls (.ref (ad 14) :: rest))) : W p l e Rm s m args below meth c H locs cells slots Q (F0 m pc ls (.ref (ad i) :: rest)) :=
  m_getR G hI inGX7 (ci := 7) (k := 18) rfl (by decide) fl_X7_49 rfl hi.lt hi.sh rfl hd kk
theorem fl_X7_52 : Cond.fieldLink RX7 52 RX7 (TX7 20).2.1 (TX7 20).2.2.1 ∈ gT := tin 726 (by decide +kernel) rfl
theorem gf_X7_52 (G : Mx n D cA ad A sa p s m args meth c RX7 cc mL rt) (hI : Iv n sh D cA ad A s.heap w H locs) {i : Nat} (hi : isX7 n sh i) (hd : decode cc pc = .ok (.getfield 52, 3)) (kk : W p l e Rm s m args below meth c H locs cells slots Q (F0 m (pc + 3) ls (.ref (ad 15) :: rest))) : W p l e Rm s m args below meth c H locs cells slots Q (F0 m pc ls (.ref (ad i) :: rest)) :=
  m_getR G hI inGX7 (ci := 7) (k := 20) rfl (by decide) fl_X7_52 rfl hi.lt hi.sh rfl hd kk
theorem fl_X7_55 : Cond.fieldLink RX7 55 RX7 (TX7 21).2.1 (TX7 21).2.2.1 ∈ gT := tin 727 (by decide +kernel) rfl
theorem gf_X7_55 (G : Mx n D cA ad A sa p s m args meth c RX7 cc mL rt) (hI : Iv n sh D cA ad A s.heap w H locs) {i : Nat} (hi : isX7 n sh i) (hd : decode cc pc = .ok (.getfield 55, 3)) (kk : W p l e Rm s m args below meth c H locs cells slots Q (F0 m (pc + 3) ls (.ref (ad 16) :: rest))) : W p l e Rm s m args below meth c H locs cells slots Q (F0 m pc ls (.ref (ad i) :: rest)) :=
  m_getR G hI inGX7 (ci := 7) (k := 21) rfl (by decide) fl_X7_55 rfl hi.lt hi.sh rfl hd kk
theorem fl_X7_58 : Cond.fieldLink RX7 58 RX7 (TX7 27).2.1 (TX7 27).2.2.1 ∈ gT := tin 733 (by decide +kernel) rfl
theorem gf_X7_58 (G : Mx n D cA ad A sa p s m args meth c RX7 cc mL rt) (hI : Iv n sh D cA ad A s.heap w H locs) {i : Nat} (hi : isX7 n sh i) (hd : decode cc pc = .ok (.getfield 58, 3)) (kk : W p l e Rm s m args below meth c H locs cells slots Q (F0 m (pc + 3) ls (.ref (ad 17) :: rest))) : W p l e Rm s m args below meth c H locs cells slots Q (F0 m pc ls (.ref (ad i) :: rest)) :=
  m_getR G hI inGX7 (ci := 7) (k := 27) rfl (by decide) fl_X7_58 rfl hi.lt hi.sh rfl hd kk
theorem fl_X7_61 : Cond.fieldLink RX7 61 RX7 (TX7 28).2.1 (TX7 28).2.2.1 ∈ gT := tin 734 (by decide +kernel) rfl
theorem gf_X7_61 (G : Mx n D cA ad A sa p s m args meth c RX7 cc mL rt) (hI : Iv n sh D cA ad A s.heap w H locs) {i : Nat} (hi : isX7 n sh i) (hd : decode cc pc = .ok (.getfield 61, 3)) (kk : W p l e Rm s m args below meth c H locs cells slots Q (F0 m (pc + 3) ls (.ref (ad 18) :: rest))) : W p l e Rm s m args below meth c H locs cells slots Q (F0 m pc ls (.ref (ad i) :: rest)) :=
  m_getR G hI inGX7 (ci := 7) (k := 28) rfl (by decide) fl_X7_61 rfl hi.lt hi.sh rfl hd kk
theorem fl_X7_64 : Cond.fieldLink RX7 64 RX7 (TX7 29).2.1 (TX7 29).2.2.1 ∈ gT := tin 735 (by decide +kernel) rfl
theorem gf_X7_64 (G : Mx n D cA ad A sa p s m args meth c RX7 cc mL rt) (hI : Iv n sh D cA ad A s.heap w H locs) {i : Nat} (hi : isX7 n sh i) (hd : decode cc pc = .ok (.getfield 64, 3)) (kk : W p l e Rm s m args below meth c H locs cells slots Q (F0 m (pc + 3) ls (.ref (ad 19) :: rest))) : W p l e Rm s m args below meth c H locs cells slots Q (F0 m pc ls (.ref (ad i) :: rest)) :=
  m_getR G hI inGX7 (ci := 7) (k := 29) rfl (by decide) fl_X7_64 rfl hi.lt hi.sh rfl hd kk
theorem fl_X7_67 : Cond.fieldLink RX7 67 RX7 (TX7 30).2.1 (TX7 30).2.2.1 ∈ gT := tin 736 (by decide +kernel) rfl
theorem gf_X7_67 (G : Mx n D cA ad A sa p s m args meth c RX7 cc mL rt) (hI : Iv n sh D cA ad A s.heap w H locs) {i : Nat} (hi : isX7 n sh i) (hd : decode cc pc = .ok (.getfield 67, 3)) (kk : W p l e Rm s m args below meth c H locs cells slots Q (F0 m (pc + 3) ls (.ref (ad 20) :: rest))) : W p l e Rm s m args below meth c H locs cells slots Q (F0 m pc ls (.ref (ad i) :: rest)) :=
  m_getR G hI inGX7 (ci := 7) (k := 30) rfl (by decide) fl_X7_67 rfl hi.lt hi.sh rfl hd kk
theorem fl_X7_70 : Cond.fieldLink RX7 70 RX7 (TX7 31).2.1 (TX7 31).2.2.1 ∈ gT := tin 737 (by decide +kernel) rfl
theorem gf_X7_70 (G : Mx n D cA ad A sa p s m args meth c RX7 cc mL rt) (hI : Iv n sh D cA ad A s.heap w H locs) {i : Nat} (hi : isX7 n sh i) (hd : decode cc pc = .ok (.getfield 70, 3)) (kk : W p l e Rm s m args below meth c H locs cells slots Q (F0 m (pc + 3) ls (.ref (ad 21) :: rest))) : W p l e Rm s m args below meth c H locs cells slots Q (F0 m pc ls (.ref (ad i) :: rest)) :=
  m_getR G hI inGX7 (ci := 7) (k := 31) rfl (by decide) fl_X7_70 rfl hi.lt hi.sh rfl hd kk
theorem fl_X7_76 : Cond.fieldLink RX7 76 RX7 (TX7 6).2.1 (TX7 6).2.2.1 ∈ gT := tin 712 (by decide +kernel) rfl
theorem gf_X7_76 (G : Mx n D cA ad A sa p s m args meth c RX7 cc mL rt) (hI : Iv n sh D cA ad A s.heap w H locs) {i : Nat} (hi : isX7 n sh i) (hd : decode cc pc = .ok (.getfield 76, 3)) (kk : W p l e Rm s m args below meth c H locs cells slots Q (F0 m (pc + 3) ls (.int (w i 6) :: rest))) : W p l e Rm s m args below meth c H locs cells slots Q (F0 m pc ls (.ref (ad i) :: rest)) :=
  m_getI G hI inGX7 (ci := 7) (k := 6) rfl (by decide) fl_X7_76 rfl hi.lt hi.sh rfl hd kk
theorem pf_X7_76 (G : Mx n D cA ad A sa p s m args meth c RX7 cc mL rt) (hI : Iv n sh D cA ad A s.heap w H locs) {i : Nat} (hi : isX7 n sh i) {v : Int32} (hd : decode cc pc = .ok (.putfield 76, 3)) (kk : ∀ (H1 : Heap) (locs1 : List Loc), Iv n sh D cA ad A s.heap (mst w i 6 v) H1 locs1 → W p l e Rm s m args below meth c H1 locs1 cells slots Q (F0 m (pc + 3) ls rest)) : W p l e Rm s m args below meth c H locs cells slots Q (F0 m pc ls (.int v :: .ref (ad i) :: rest)) :=
  m_put G hI inGX7 tyX7_ok nmX7 (ci := 7) (k := 6) rfl (by decide) fl_X7_76 rfl rfl (ty := .int) rfl hi.lt hi.sh rfl rfl rfl hd kk
theorem fl_X7_80 : Cond.fieldLink RX7 80 RX7 (TX7 7).2.1 (TX7 7).2.2.1 ∈ gT := tin 713 (by decide +kernel) rfl
theorem gf_X7_80 (G : Mx n D cA ad A sa p s m args meth c RX7 cc mL rt) (hI : Iv n sh D cA ad A s.heap w H locs) {i : Nat} (hi : isX7 n sh i) (hd : decode cc pc = .ok (.getfield 80, 3)) (kk : W p l e Rm s m args below meth c H locs cells slots Q (F0 m (pc + 3) ls (.int (w i 7) :: rest))) : W p l e Rm s m args below meth c H locs cells slots Q (F0 m pc ls (.ref (ad i) :: rest)) :=
  m_getI G hI inGX7 (ci := 7) (k := 7) rfl (by decide) fl_X7_80 rfl hi.lt hi.sh rfl hd kk
theorem pf_X7_80 (G : Mx n D cA ad A sa p s m args meth c RX7 cc mL rt) (hI : Iv n sh D cA ad A s.heap w H locs) {i : Nat} (hi : isX7 n sh i) {v : Int32} (hd : decode cc pc = .ok (.putfield 80, 3)) (kk : ∀ (H1 : Heap) (locs1 : List Loc), Iv n sh D cA ad A s.heap (mst w i 7 v) H1 locs1 → W p l e Rm s m args below meth c H1 locs1 cells slots Q (F0 m (pc + 3) ls rest)) : W p l e Rm s m args below meth c H locs cells slots Q (F0 m pc ls (.int v :: .ref (ad i) :: rest)) :=
  m_put G hI inGX7 tyX7_ok nmX7 (ci := 7) (k := 7) rfl (by decide) fl_X7_80 rfl rfl (ty := .int) rfl hi.lt hi.sh rfl rfl rfl hd kk
theorem fl_X7_83 : Cond.fieldLink RX7 83 RX7 (TX7 11).2.1 (TX7 11).2.2.1 ∈ gT := tin 717 (by decide +kernel) rfl
theorem gf_X7_83 (G : Mx n D cA ad A sa p s m args meth c RX7 cc mL rt) (hI : Iv n sh D cA ad A s.heap w H locs) {i : Nat} (hi : isX7 n sh i) (hd : decode cc pc = .ok (.getfield 83, 3)) (kk : W p l e Rm s m args below meth c H locs cells slots Q (F0 m (pc + 3) ls (.int (w i 11) :: rest))) : W p l e Rm s m args below meth c H locs cells slots Q (F0 m pc ls (.ref (ad i) :: rest)) :=
  m_getI G hI inGX7 (ci := 7) (k := 11) rfl (by decide) fl_X7_83 rfl hi.lt hi.sh rfl hd kk
theorem pf_X7_83 (G : Mx n D cA ad A sa p s m args meth c RX7 cc mL rt) (hI : Iv n sh D cA ad A s.heap w H locs) {i : Nat} (hi : isX7 n sh i) {v : Int32} (hd : decode cc pc = .ok (.putfield 83, 3)) (kk : ∀ (H1 : Heap) (locs1 : List Loc), Iv n sh D cA ad A s.heap (mst w i 11 v) H1 locs1 → W p l e Rm s m args below meth c H1 locs1 cells slots Q (F0 m (pc + 3) ls rest)) : W p l e Rm s m args below meth c H locs cells slots Q (F0 m pc ls (.int v :: .ref (ad i) :: rest)) :=
  m_put G hI inGX7 tyX7_ok nmX7 (ci := 7) (k := 11) rfl (by decide) fl_X7_83 rfl rfl (ty := .int) rfl hi.lt hi.sh rfl rfl rfl hd kk
theorem fl_X7_120 : Cond.fieldLink RX7 120 RX7 (TX7 13).2.1 (TX7 13).2.2.1 ∈ gT := tin 719 (by decide +kernel) rfl
theorem gf_X7_120 (G : Mx n D cA ad A sa p s m args meth c RX7 cc mL rt) (hI : Iv n sh D cA ad A s.heap w H locs) {i : Nat} (hi : isX7 n sh i) (hd : decode cc pc = .ok (.getfield 120, 3)) (kk : W p l e Rm s m args below meth c H locs cells slots Q (F0 m (pc + 3) ls (.int (w i 13) :: rest))) : W p l e Rm s m args below meth c H locs cells slots Q (F0 m pc ls (.ref (ad i) :: rest)) :=
  m_getI G hI inGX7 (ci := 7) (k := 13) rfl (by decide) fl_X7_120 rfl hi.lt hi.sh rfl hd kk
theorem pf_X7_120 (G : Mx n D cA ad A sa p s m args meth c RX7 cc mL rt) (hI : Iv n sh D cA ad A s.heap w H locs) {i : Nat} (hi : isX7 n sh i) {v : Int32} (hd : decode cc pc = .ok (.putfield 120, 3)) (kk : ∀ (H1 : Heap) (locs1 : List Loc), Iv n sh D cA ad A s.heap (mst w i 13 v) H1 locs1 → W p l e Rm s m args below meth c H1 locs1 cells slots Q (F0 m (pc + 3) ls rest)) : W p l e Rm s m args below meth c H locs cells slots Q (F0 m pc ls (.int v :: .ref (ad i) :: rest)) :=
  m_put G hI inGX7 tyX7_ok nmX7 (ci := 7) (k := 13) rfl (by decide) fl_X7_120 rfl rfl (ty := .int) rfl hi.lt hi.sh rfl rfl rfl hd kk
theorem fl_X7_130 : Cond.fieldLink RX7 130 RX7 (TX7 14).2.1 (TX7 14).2.2.1 ∈ gT := tin 720 (by decide +kernel) rfl
theorem gf_X7_130 (G : Mx n D cA ad A sa p s m args meth c RX7 cc mL rt) (hI : Iv n sh D cA ad A s.heap w H locs) {i : Nat} (hi : isX7 n sh i) (hd : decode cc pc = .ok (.getfield 130, 3)) (kk : W p l e Rm s m args below meth c H locs cells slots Q (F0 m (pc + 3) ls (.int (w i 14) :: rest))) : W p l e Rm s m args below meth c H locs cells slots Q (F0 m pc ls (.ref (ad i) :: rest)) :=
  m_getI G hI inGX7 (ci := 7) (k := 14) rfl (by decide) fl_X7_130 rfl hi.lt hi.sh rfl hd kk
theorem pf_X7_130 (G : Mx n D cA ad A sa p s m args meth c RX7 cc mL rt) (hI : Iv n sh D cA ad A s.heap w H locs) {i : Nat} (hi : isX7 n sh i) {v : Int32} (hn : bz v = true) (hd : decode cc pc = .ok (.putfield 130, 3)) (kk : ∀ (H1 : Heap) (locs1 : List Loc), Iv n sh D cA ad A s.heap (mst w i 14 v) H1 locs1 → W p l e Rm s m args below meth c H1 locs1 cells slots Q (F0 m (pc + 3) ls rest)) : W p l e Rm s m args below meth c H locs cells slots Q (F0 m pc ls (.int v :: .ref (ad i) :: rest)) :=
  m_put G hI inGX7 tyX7_ok nmX7 (ci := 7) (k := 14) rfl (by decide) fl_X7_130 rfl rfl (ty := .boolean) rfl hi.lt hi.sh rfl (bz_narrow hn) (bz_fits hn) hd kk
theorem fl_X7_147 : Cond.fieldLink RX7 147 RX7 (TX7 19).2.1 (TX7 19).2.2.1 ∈ gT := tin 725 (by decide +kernel) rfl
theorem gf_X7_147 (G : Mx n D cA ad A sa p s m args meth c RX7 cc mL rt) (hI : Iv n sh D cA ad A s.heap w H locs) {i : Nat} (hi : isX7 n sh i) (hd : decode cc pc = .ok (.getfield 147, 3)) (kk : W p l e Rm s m args below meth c H locs cells slots Q (F0 m (pc + 3) ls (.int (w i 19) :: rest))) : W p l e Rm s m args below meth c H locs cells slots Q (F0 m pc ls (.ref (ad i) :: rest)) :=
  m_getI G hI inGX7 (ci := 7) (k := 19) rfl (by decide) fl_X7_147 rfl hi.lt hi.sh rfl hd kk
theorem pf_X7_147 (G : Mx n D cA ad A sa p s m args meth c RX7 cc mL rt) (hI : Iv n sh D cA ad A s.heap w H locs) {i : Nat} (hi : isX7 n sh i) {v : Int32} (hd : decode cc pc = .ok (.putfield 147, 3)) (kk : ∀ (H1 : Heap) (locs1 : List Loc), Iv n sh D cA ad A s.heap (mst w i 19 v) H1 locs1 → W p l e Rm s m args below meth c H1 locs1 cells slots Q (F0 m (pc + 3) ls rest)) : W p l e Rm s m args below meth c H locs cells slots Q (F0 m pc ls (.int v :: .ref (ad i) :: rest)) :=
  m_put G hI inGX7 tyX7_ok nmX7 (ci := 7) (k := 19) rfl (by decide) fl_X7_147 rfl rfl (ty := .int) rfl hi.lt hi.sh rfl rfl rfl hd kk
theorem fl_X7_187 : Cond.fieldLink RX7 187 RX7 (TX7 22).2.1 (TX7 22).2.2.1 ∈ gT := tin 728 (by decide +kernel) rfl
theorem gf_X7_187 (G : Mx n D cA ad A sa p s m args meth c RX7 cc mL rt) (hI : Iv n sh D cA ad A s.heap w H locs) {i : Nat} (hi : isX7 n sh i) (hd : decode cc pc = .ok (.getfield 187, 3)) (kk : W p l e Rm s m args below meth c H locs cells slots Q (F0 m (pc + 3) ls (.int (w i 22) :: rest))) : W p l e Rm s m args below meth c H locs cells slots Q (F0 m pc ls (.ref (ad i) :: rest)) :=
  m_getI G hI inGX7 (ci := 7) (k := 22) rfl (by decide) fl_X7_187 rfl hi.lt hi.sh rfl hd kk
theorem pf_X7_187 (G : Mx n D cA ad A sa p s m args meth c RX7 cc mL rt) (hI : Iv n sh D cA ad A s.heap w H locs) {i : Nat} (hi : isX7 n sh i) {v : Int32} (hd : decode cc pc = .ok (.putfield 187, 3)) (kk : ∀ (H1 : Heap) (locs1 : List Loc), Iv n sh D cA ad A s.heap (mst w i 22 v) H1 locs1 → W p l e Rm s m args below meth c H1 locs1 cells slots Q (F0 m (pc + 3) ls rest)) : W p l e Rm s m args below meth c H locs cells slots Q (F0 m pc ls (.int v :: .ref (ad i) :: rest)) :=
  m_put G hI inGX7 tyX7_ok nmX7 (ci := 7) (k := 22) rfl (by decide) fl_X7_187 rfl rfl (ty := .int) rfl hi.lt hi.sh rfl rfl rfl hd kk
theorem fl_X7_190 : Cond.fieldLink RX7 190 RX7 (TX7 23).2.1 (TX7 23).2.2.1 ∈ gT := tin 729 (by decide +kernel) rfl
theorem gf_X7_190 (G : Mx n D cA ad A sa p s m args meth c RX7 cc mL rt) (hI : Iv n sh D cA ad A s.heap w H locs) {i : Nat} (hi : isX7 n sh i) (hd : decode cc pc = .ok (.getfield 190, 3)) (kk : W p l e Rm s m args below meth c H locs cells slots Q (F0 m (pc + 3) ls (.int (w i 23) :: rest))) : W p l e Rm s m args below meth c H locs cells slots Q (F0 m pc ls (.ref (ad i) :: rest)) :=
  m_getI G hI inGX7 (ci := 7) (k := 23) rfl (by decide) fl_X7_190 rfl hi.lt hi.sh rfl hd kk
theorem pf_X7_190 (G : Mx n D cA ad A sa p s m args meth c RX7 cc mL rt) (hI : Iv n sh D cA ad A s.heap w H locs) {i : Nat} (hi : isX7 n sh i) {v : Int32} (hd : decode cc pc = .ok (.putfield 190, 3)) (kk : ∀ (H1 : Heap) (locs1 : List Loc), Iv n sh D cA ad A s.heap (mst w i 23 v) H1 locs1 → W p l e Rm s m args below meth c H1 locs1 cells slots Q (F0 m (pc + 3) ls rest)) : W p l e Rm s m args below meth c H locs cells slots Q (F0 m pc ls (.int v :: .ref (ad i) :: rest)) :=
  m_put G hI inGX7 tyX7_ok nmX7 (ci := 7) (k := 23) rfl (by decide) fl_X7_190 rfl rfl (ty := .int) rfl hi.lt hi.sh rfl rfl rfl hd kk
theorem fl_X7_193 : Cond.fieldLink RX7 193 RX7 (TX7 24).2.1 (TX7 24).2.2.1 ∈ gT := tin 730 (by decide +kernel) rfl
theorem gf_X7_193 (G : Mx n D cA ad A sa p s m args meth c RX7 cc mL rt) (hI : Iv n sh D cA ad A s.heap w H locs) {i : Nat} (hi : isX7 n sh i) (hd : decode cc pc = .ok (.getfield 193, 3)) (kk : W p l e Rm s m args below meth c H locs cells slots Q (F0 m (pc + 3) ls (.int (w i 24) :: rest))) : W p l e Rm s m args below meth c H locs cells slots Q (F0 m pc ls (.ref (ad i) :: rest)) :=
  m_getI G hI inGX7 (ci := 7) (k := 24) rfl (by decide) fl_X7_193 rfl hi.lt hi.sh rfl hd kk
theorem pf_X7_193 (G : Mx n D cA ad A sa p s m args meth c RX7 cc mL rt) (hI : Iv n sh D cA ad A s.heap w H locs) {i : Nat} (hi : isX7 n sh i) {v : Int32} (hd : decode cc pc = .ok (.putfield 193, 3)) (kk : ∀ (H1 : Heap) (locs1 : List Loc), Iv n sh D cA ad A s.heap (mst w i 24 v) H1 locs1 → W p l e Rm s m args below meth c H1 locs1 cells slots Q (F0 m (pc + 3) ls rest)) : W p l e Rm s m args below meth c H locs cells slots Q (F0 m pc ls (.int v :: .ref (ad i) :: rest)) :=
  m_put G hI inGX7 tyX7_ok nmX7 (ci := 7) (k := 24) rfl (by decide) fl_X7_193 rfl rfl (ty := .int) rfl hi.lt hi.sh rfl rfl rfl hd kk
theorem fl_X7_196 : Cond.fieldLink RX7 196 RX7 (TX7 25).2.1 (TX7 25).2.2.1 ∈ gT := tin 731 (by decide +kernel) rfl
theorem gf_X7_196 (G : Mx n D cA ad A sa p s m args meth c RX7 cc mL rt) (hI : Iv n sh D cA ad A s.heap w H locs) {i : Nat} (hi : isX7 n sh i) (hd : decode cc pc = .ok (.getfield 196, 3)) (kk : W p l e Rm s m args below meth c H locs cells slots Q (F0 m (pc + 3) ls (.int (w i 25) :: rest))) : W p l e Rm s m args below meth c H locs cells slots Q (F0 m pc ls (.ref (ad i) :: rest)) :=
  m_getI G hI inGX7 (ci := 7) (k := 25) rfl (by decide) fl_X7_196 rfl hi.lt hi.sh rfl hd kk
theorem pf_X7_196 (G : Mx n D cA ad A sa p s m args meth c RX7 cc mL rt) (hI : Iv n sh D cA ad A s.heap w H locs) {i : Nat} (hi : isX7 n sh i) {v : Int32} (hd : decode cc pc = .ok (.putfield 196, 3)) (kk : ∀ (H1 : Heap) (locs1 : List Loc), Iv n sh D cA ad A s.heap (mst w i 25 v) H1 locs1 → W p l e Rm s m args below meth c H1 locs1 cells slots Q (F0 m (pc + 3) ls rest)) : W p l e Rm s m args below meth c H locs cells slots Q (F0 m pc ls (.int v :: .ref (ad i) :: rest)) :=
  m_put G hI inGX7 tyX7_ok nmX7 (ci := 7) (k := 25) rfl (by decide) fl_X7_196 rfl rfl (ty := .int) rfl hi.lt hi.sh rfl rfl rfl hd kk
theorem fl_X7_199 : Cond.fieldLink RX7 199 RX7 (TX7 26).2.1 (TX7 26).2.2.1 ∈ gT := tin 732 (by decide +kernel) rfl
theorem gf_X7_199 (G : Mx n D cA ad A sa p s m args meth c RX7 cc mL rt) (hI : Iv n sh D cA ad A s.heap w H locs) {i : Nat} (hi : isX7 n sh i) (hd : decode cc pc = .ok (.getfield 199, 3)) (kk : W p l e Rm s m args below meth c H locs cells slots Q (F0 m (pc + 3) ls (.int (w i 26) :: rest))) : W p l e Rm s m args below meth c H locs cells slots Q (F0 m pc ls (.ref (ad i) :: rest)) :=
  m_getI G hI inGX7 (ci := 7) (k := 26) rfl (by decide) fl_X7_199 rfl hi.lt hi.sh rfl hd kk
theorem pf_X7_199 (G : Mx n D cA ad A sa p s m args meth c RX7 cc mL rt) (hI : Iv n sh D cA ad A s.heap w H locs) {i : Nat} (hi : isX7 n sh i) {v : Int32} (hd : decode cc pc = .ok (.putfield 199, 3)) (kk : ∀ (H1 : Heap) (locs1 : List Loc), Iv n sh D cA ad A s.heap (mst w i 26 v) H1 locs1 → W p l e Rm s m args below meth c H1 locs1 cells slots Q (F0 m (pc + 3) ls rest)) : W p l e Rm s m args below meth c H locs cells slots Q (F0 m pc ls (.int v :: .ref (ad i) :: rest)) :=
  m_put G hI inGX7 tyX7_ok nmX7 (ci := 7) (k := 26) rfl (by decide) fl_X7_199 rfl rfl (ty := .int) rfl hi.lt hi.sh rfl rfl rfl hd kk
theorem fl_X7_262 : Cond.fieldLink RX7 262 RX7 (TX7 32).2.1 (TX7 32).2.2.1 ∈ gT := tin 738 (by decide +kernel) rfl
theorem gf_X7_262 (G : Mx n D cA ad A sa p s m args meth c RX7 cc mL rt) (hI : Iv n sh D cA ad A s.heap w H locs) {i : Nat} (hi : isX7 n sh i) (hd : decode cc pc = .ok (.getfield 262, 3)) (kk : W p l e Rm s m args below meth c H locs cells slots Q (F0 m (pc + 3) ls (.int (w i 32) :: rest))) : W p l e Rm s m args below meth c H locs cells slots Q (F0 m pc ls (.ref (ad i) :: rest)) :=
  m_getI G hI inGX7 (ci := 7) (k := 32) rfl (by decide) fl_X7_262 rfl hi.lt hi.sh rfl hd kk
theorem pf_X7_262 (G : Mx n D cA ad A sa p s m args meth c RX7 cc mL rt) (hI : Iv n sh D cA ad A s.heap w H locs) {i : Nat} (hi : isX7 n sh i) {v : Int32} (hd : decode cc pc = .ok (.putfield 262, 3)) (kk : ∀ (H1 : Heap) (locs1 : List Loc), Iv n sh D cA ad A s.heap (mst w i 32 v) H1 locs1 → W p l e Rm s m args below meth c H1 locs1 cells slots Q (F0 m (pc + 3) ls rest)) : W p l e Rm s m args below meth c H locs cells slots Q (F0 m pc ls (.int v :: .ref (ad i) :: rest)) :=
  m_put G hI inGX7 tyX7_ok nmX7 (ci := 7) (k := 32) rfl (by decide) fl_X7_262 rfl rfl (ty := .int) rfl hi.lt hi.sh rfl rfl rfl hd kk
theorem fl_X7_265 : Cond.fieldLink RX7 265 RX7 (TX7 33).2.1 (TX7 33).2.2.1 ∈ gT := tin 739 (by decide +kernel) rfl
theorem gf_X7_265 (G : Mx n D cA ad A sa p s m args meth c RX7 cc mL rt) (hI : Iv n sh D cA ad A s.heap w H locs) {i : Nat} (hi : isX7 n sh i) (hd : decode cc pc = .ok (.getfield 265, 3)) (kk : W p l e Rm s m args below meth c H locs cells slots Q (F0 m (pc + 3) ls (.int (w i 33) :: rest))) : W p l e Rm s m args below meth c H locs cells slots Q (F0 m pc ls (.ref (ad i) :: rest)) :=
  m_getI G hI inGX7 (ci := 7) (k := 33) rfl (by decide) fl_X7_265 rfl hi.lt hi.sh rfl hd kk
theorem pf_X7_265 (G : Mx n D cA ad A sa p s m args meth c RX7 cc mL rt) (hI : Iv n sh D cA ad A s.heap w H locs) {i : Nat} (hi : isX7 n sh i) {v : Int32} (hd : decode cc pc = .ok (.putfield 265, 3)) (kk : ∀ (H1 : Heap) (locs1 : List Loc), Iv n sh D cA ad A s.heap (mst w i 33 v) H1 locs1 → W p l e Rm s m args below meth c H1 locs1 cells slots Q (F0 m (pc + 3) ls rest)) : W p l e Rm s m args below meth c H locs cells slots Q (F0 m pc ls (.int v :: .ref (ad i) :: rest)) :=
  m_put G hI inGX7 tyX7_ok nmX7 (ci := 7) (k := 33) rfl (by decide) fl_X7_265 rfl rfl (ty := .int) rfl hi.lt hi.sh rfl rfl rfl hd kk
theorem fl_X7_271 : Cond.fieldLink RX7 271 RX7 (TX7 34).2.1 (TX7 34).2.2.1 ∈ gT := tin 740 (by decide +kernel) rfl
theorem gf_X7_271 (G : Mx n D cA ad A sa p s m args meth c RX7 cc mL rt) (hI : Iv n sh D cA ad A s.heap w H locs) {i : Nat} (hi : isX7 n sh i) (hd : decode cc pc = .ok (.getfield 271, 3)) (kk : W p l e Rm s m args below meth c H locs cells slots Q (F0 m (pc + 3) ls (.int (w i 34) :: rest))) : W p l e Rm s m args below meth c H locs cells slots Q (F0 m pc ls (.ref (ad i) :: rest)) :=
  m_getI G hI inGX7 (ci := 7) (k := 34) rfl (by decide) fl_X7_271 rfl hi.lt hi.sh rfl hd kk
theorem pf_X7_271 (G : Mx n D cA ad A sa p s m args meth c RX7 cc mL rt) (hI : Iv n sh D cA ad A s.heap w H locs) {i : Nat} (hi : isX7 n sh i) {v : Int32} (hd : decode cc pc = .ok (.putfield 271, 3)) (kk : ∀ (H1 : Heap) (locs1 : List Loc), Iv n sh D cA ad A s.heap (mst w i 34 v) H1 locs1 → W p l e Rm s m args below meth c H1 locs1 cells slots Q (F0 m (pc + 3) ls rest)) : W p l e Rm s m args below meth c H locs cells slots Q (F0 m pc ls (.int v :: .ref (ad i) :: rest)) :=
  m_put G hI inGX7 tyX7_ok nmX7 (ci := 7) (k := 34) rfl (by decide) fl_X7_271 rfl rfl (ty := .int) rfl hi.lt hi.sh rfl rfl rfl hd kk
theorem fl_X7_277 : Cond.fieldLink RX7 277 RX7 (TX7 35).2.1 (TX7 35).2.2.1 ∈ gT := tin 741 (by decide +kernel) rfl
theorem gf_X7_277 (G : Mx n D cA ad A sa p s m args meth c RX7 cc mL rt) (hI : Iv n sh D cA ad A s.heap w H locs) {i : Nat} (hi : isX7 n sh i) (hd : decode cc pc = .ok (.getfield 277, 3)) (kk : W p l e Rm s m args below meth c H locs cells slots Q (F0 m (pc + 3) ls (.int (w i 35) :: rest))) : W p l e Rm s m args below meth c H locs cells slots Q (F0 m pc ls (.ref (ad i) :: rest)) :=
  m_getI G hI inGX7 (ci := 7) (k := 35) rfl (by decide) fl_X7_277 rfl hi.lt hi.sh rfl hd kk
theorem pf_X7_277 (G : Mx n D cA ad A sa p s m args meth c RX7 cc mL rt) (hI : Iv n sh D cA ad A s.heap w H locs) {i : Nat} (hi : isX7 n sh i) {v : Int32} (hd : decode cc pc = .ok (.putfield 277, 3)) (kk : ∀ (H1 : Heap) (locs1 : List Loc), Iv n sh D cA ad A s.heap (mst w i 35 v) H1 locs1 → W p l e Rm s m args below meth c H1 locs1 cells slots Q (F0 m (pc + 3) ls rest)) : W p l e Rm s m args below meth c H locs cells slots Q (F0 m pc ls (.int v :: .ref (ad i) :: rest)) :=
  m_put G hI inGX7 tyX7_ok nmX7 (ci := 7) (k := 35) rfl (by decide) fl_X7_277 rfl rfl (ty := .int) rfl hi.lt hi.sh rfl rfl rfl hd kk
theorem fl_X7_280 : Cond.fieldLink RX7 280 RX7 (TX7 36).2.1 (TX7 36).2.2.1 ∈ gT := tin 742 (by decide +kernel) rfl
theorem gf_X7_280 (G : Mx n D cA ad A sa p s m args meth c RX7 cc mL rt) (hI : Iv n sh D cA ad A s.heap w H locs) {i : Nat} (hi : isX7 n sh i) (hd : decode cc pc = .ok (.getfield 280, 3)) (kk : W p l e Rm s m args below meth c H locs cells slots Q (F0 m (pc + 3) ls (.int (w i 36) :: rest))) : W p l e Rm s m args below meth c H locs cells slots Q (F0 m pc ls (.ref (ad i) :: rest)) :=
  m_getI G hI inGX7 (ci := 7) (k := 36) rfl (by decide) fl_X7_280 rfl hi.lt hi.sh rfl hd kk
theorem pf_X7_280 (G : Mx n D cA ad A sa p s m args meth c RX7 cc mL rt) (hI : Iv n sh D cA ad A s.heap w H locs) {i : Nat} (hi : isX7 n sh i) {v : Int32} (hd : decode cc pc = .ok (.putfield 280, 3)) (kk : ∀ (H1 : Heap) (locs1 : List Loc), Iv n sh D cA ad A s.heap (mst w i 36 v) H1 locs1 → W p l e Rm s m args below meth c H1 locs1 cells slots Q (F0 m (pc + 3) ls rest)) : W p l e Rm s m args below meth c H locs cells slots Q (F0 m pc ls (.int v :: .ref (ad i) :: rest)) :=
  m_put G hI inGX7 tyX7_ok nmX7 (ci := 7) (k := 36) rfl (by decide) fl_X7_280 rfl rfl (ty := .int) rfl hi.lt hi.sh rfl rfl rfl hd kk
end FR
set_option maxRecDepth 100000 in
theorem my_X0_beginAnew : MV yX0_beginAnew cX0_beginAnew 2 none 0 := ⟨tin 97 rfl rfl, tin 95 (by decide +kernel) rfl, tin 96 (by decide +kernel) rfl, tin 2 (by decide +kernel) rfl, by decide +kernel, by decide +kernel, by decide +kernel⟩
set_option maxRecDepth 100000 in
theorem my_X0_becomeLike : MV yX0_becomeLike cX0_becomeLike 2 none 1 := ⟨tin 580 rfl rfl, tin 578 (by decide +kernel) rfl, tin 579 (by decide +kernel) rfl, tin 2 (by decide +kernel) rfl, by decide +kernel, by decide +kernel, by decide +kernel⟩
set_option maxRecDepth 100000 in
theorem my_X0_makePlan : MV yX0_makePlan cX0_makePlan 1 none 0 := ⟨tin 294 rfl rfl, tin 292 (by decide +kernel) rfl, tin 293 (by decide +kernel) rfl, tin 2 (by decide +kernel) rfl, by decide +kernel, by decide +kernel, by decide +kernel⟩
set_option maxRecDepth 100000 in
theorem my_X0_stepOnce : MV yX0_stepOnce cX0_stepOnce 1 (some .boolean) 0 := ⟨tin 536 rfl rfl, tin 534 (by decide +kernel) rfl, tin 535 (by decide +kernel) rfl, tin 2 (by decide +kernel) rfl, by decide +kernel, by decide +kernel, by decide +kernel⟩
set_option maxRecDepth 100000 in
theorem my_X0_takeWishesThatHaveCome : MV yX0_takeWishesThatHaveCome cX0_takeWishesThatHaveCome 3 none 0 := ⟨tin 540 rfl rfl, tin 539 (by decide +kernel) rfl, tsl 13 (by decide +kernel) rfl, tin 2 (by decide +kernel) rfl, by decide +kernel, by decide +kernel, by decide +kernel⟩
set_option maxRecDepth 100000 in
theorem my_X0_takeWant : MV yX0_takeWant cX0_takeWant 3 none 2 := ⟨tin 544 rfl rfl, tin 543 (by decide +kernel) rfl, tsl 14 (by decide +kernel) rfl, tin 2 (by decide +kernel) rfl, by decide +kernel, by decide +kernel, by decide +kernel⟩
set_option maxRecDepth 100000 in
theorem my_X0_steer : MV yX0_steer cX0_steer 6 none 0 := ⟨tin 549 rfl rfl, tin 548 (by decide +kernel) rfl, tsl 15 (by decide +kernel) rfl, tin 2 (by decide +kernel) rfl, by decide +kernel, by decide +kernel, by decide +kernel⟩
set_option maxRecDepth 100000 in
theorem my_X0_moveCurrents : MV yX0_moveCurrents cX0_moveCurrents 4 none 0 := ⟨tin 557 rfl rfl, tin 556 (by decide +kernel) rfl, tsl 16 (by decide +kernel) rfl, tin 2 (by decide +kernel) rfl, by decide +kernel, by decide +kernel, by decide +kernel⟩
set_option maxRecDepth 100000 in
theorem my_X0_dropWishesOf : MV yX0_dropWishesOf cX0_dropWishesOf 5 (some .int) 1 := ⟨tin 518 rfl rfl, tin 516 (by decide +kernel) rfl, tin 517 (by decide +kernel) rfl, tin 2 (by decide +kernel) rfl, by decide +kernel, by decide +kernel, by decide +kernel⟩
set_option maxRecDepth 100000 in
theorem my_X0_isSettled : MV yX0_isSettled cX0_isSettled 3 (some .boolean) 1 := ⟨tin 589 rfl rfl, tin 587 (by decide +kernel) rfl, tin 588 (by decide +kernel) rfl, tin 2 (by decide +kernel) rfl, by decide +kernel, by decide +kernel, by decide +kernel⟩
set_option maxRecDepth 100000 in
theorem my_X1_make : MV yX1_make cX1_make 9 none 3 := ⟨tin 298 rfl rfl, tin 296 (by decide +kernel) rfl, tin 297 (by decide +kernel) rfl, tin 5 (by decide +kernel) rfl, by decide +kernel, by decide +kernel, by decide +kernel⟩
set_option maxRecDepth 100000 in
theorem my_X1_demandThatCounts : MV yX1_demandThatCounts cX1_demandThatCounts 2 (some .int) 1 := ⟨tin 308 rfl rfl, tin 307 (by decide +kernel) rfl, tsl 2 (by decide +kernel) rfl, tin 5 (by decide +kernel) rfl, by decide +kernel, by decide +kernel, by decide +kernel⟩
set_option maxRecDepth 100000 in
theorem my_X1_highWithDead : MV yX1_highWithDead cX1_highWithDead 4 (some .int) 2 := ⟨tin 313 rfl rfl, tin 312 (by decide +kernel) rfl, tsl 3 (by decide +kernel) rfl, tin 5 (by decide +kernel) rfl, by decide +kernel, by decide +kernel, by decide +kernel⟩
set_option maxRecDepth 100000 in
theorem my_X1_isWanted : MV yX1_isWanted cX1_isWanted 3 (some .boolean) 2 := ⟨tin 391 rfl rfl, tin 389 (by decide +kernel) rfl, tin 390 (by decide +kernel) rfl, tin 5 (by decide +kernel) rfl, by decide +kernel, by decide +kernel, by decide +kernel⟩
set_option maxRecDepth 100000 in
theorem my_X1_tickBehindBy : MV yX1_tickBehindBy cX1_tickBehindBy 3 (some .int) 2 := ⟨tin 399 rfl rfl, tin 398 (by decide +kernel) rfl, tsl 6 (by decide +kernel) rfl, tin 5 (by decide +kernel) rfl, by decide +kernel, by decide +kernel, by decide +kernel⟩
set_option maxRecDepth 100000 in
theorem my_X1_isOn : MV yX1_isOn cX1_isOn 6 (some .boolean) 3 := ⟨tin 395 rfl rfl, tin 393 (by decide +kernel) rfl, tin 394 (by decide +kernel) rfl, tin 5 (by decide +kernel) rfl, by decide +kernel, by decide +kernel, by decide +kernel⟩
set_option maxRecDepth 100000 in
theorem my_X1_givesOne : MV yX1_givesOne cX1_givesOne 3 (some .boolean) 2 := ⟨tin 404 rfl rfl, tin 402 (by decide +kernel) rfl, tin 403 (by decide +kernel) rfl, tin 5 (by decide +kernel) rfl, by decide +kernel, by decide +kernel, by decide +kernel⟩
set_option maxRecDepth 100000 in
theorem my_X1_ticksOn : MV yX1_ticksOn cX1_ticksOn 3 (some .int) 2 := ⟨tin 368 rfl rfl, tin 367 (by decide +kernel) rfl, tsl 5 (by decide +kernel) rfl, tin 5 (by decide +kernel) rfl, by decide +kernel, by decide +kernel, by decide +kernel⟩
set_option maxRecDepth 100000 in
theorem my_X1_upperTicks : MV yX1_upperTicks cX1_upperTicks 2 (some .int) 1 := ⟨tin 373 rfl rfl, tin 371 (by decide +kernel) rfl, tin 372 (by decide +kernel) rfl, tin 5 (by decide +kernel) rfl, by decide +kernel, by decide +kernel, by decide +kernel⟩
set_option maxRecDepth 100000 in
theorem my_X1_lowerTicks : MV yX1_lowerTicks cX1_lowerTicks 2 (some .int) 1 := ⟨tin 364 rfl rfl, tin 362 (by decide +kernel) rfl, tin 363 (by decide +kernel) rfl, tin 5 (by decide +kernel) rfl, by decide +kernel, by decide +kernel, by decide +kernel⟩
set_option maxRecDepth 100000 in
theorem my_X1_neitherTicks : MV yX1_neitherTicks cX1_neitherTicks 2 (some .int) 1 := ⟨tin 379 rfl rfl, tin 377 (by decide +kernel) rfl, tin 378 (by decide +kernel) rfl, tin 5 (by decide +kernel) rfl, by decide +kernel, by decide +kernel, by decide +kernel⟩
set_option maxRecDepth 100000 in
theorem my_X1_mean : MV yX1_mean cX1_mean 2 (some .int) 1 := ⟨tin 360 rfl rfl, tin 358 (by decide +kernel) rfl, tin 359 (by decide +kernel) rfl, tin 5 (by decide +kernel) rfl, by decide +kernel, by decide +kernel, by decide +kernel⟩
set_option maxRecDepth 100000 in
theorem my_X1_timesUpperComesOn : MV yX1_timesUpperComesOn cX1_timesUpperComesOn 3 (some .int) 1 := ⟨tin 383 rfl rfl, tin 381 (by decide +kernel) rfl, tin 382 (by decide +kernel) rfl, tin 5 (by decide +kernel) rfl, by decide +kernel, by decide +kernel, by decide +kernel⟩
set_option maxRecDepth 100000 in
theorem my_X1_leastDeadWithoutUpper : MV yX1_leastDeadWithoutUpper cX1_leastDeadWithoutUpper 4 (some .int) 1 := ⟨tin 452 rfl rfl, tin 450 (by decide +kernel) rfl, tin 451 (by decide +kernel) rfl, tin 5 (by decide +kernel) rfl, by decide +kernel, by decide +kernel, by decide +kernel⟩
set_option maxRecDepth 100000 in
theorem my_X1_listEvents : MV yX1_listEvents cX1_listEvents 4 none 1 := ⟨tin 464 rfl rfl, tin 462 (by decide +kernel) rfl, tin 463 (by decide +kernel) rfl, tin 5 (by decide +kernel) rfl, by decide +kernel, by decide +kernel, by decide +kernel⟩
set_option maxRecDepth 100000 in
theorem my_X1_listEvent : MV yX1_listEvent cX1_listEvent 7 none 4 := ⟨tin 469 rfl rfl, tin 468 (by decide +kernel) rfl, tsl 9 (by decide +kernel) rfl, tin 5 (by decide +kernel) rfl, by decide +kernel, by decide +kernel, by decide +kernel⟩
set_option maxRecDepth 100000 in
theorem my_X2_find : MV yX2_find cX2_find 10 none 4 := ⟨tin 325 rfl rfl, tin 323 (by decide +kernel) rfl, tin 324 (by decide +kernel) rfl, tin 7 (by decide +kernel) rfl, by decide +kernel, by decide +kernel, by decide +kernel⟩
set_option maxRecDepth 100000 in
theorem my_X2_nextChange : MS yX2_nextChange cX2_nextChange 7 (some .int) 4 := ⟨tin 329 rfl rfl, tin 328 (by decide +kernel) rfl, tin 7 (by decide +kernel) rfl, by decide +kernel, by decide +kernel, by decide +kernel⟩
set_option maxRecDepth 100000 in
theorem my_X2_patternAt : MS yX2_patternAt cX2_patternAt 5 (some .int) 3 := ⟨tin 333 rfl rfl, tin 332 (by decide +kernel) rfl, tin 7 (by decide +kernel) rfl, by decide +kernel, by decide +kernel, by decide +kernel⟩
set_option maxRecDepth 100000 in
theorem my_X2_sees : MV yX2_sees cX2_sees 2 (some .boolean) 1 := ⟨tin 432 rfl rfl, tin 430 (by decide +kernel) rfl, tin 431 (by decide +kernel) rfl, tin 7 (by decide +kernel) rfl, by decide +kernel, by decide +kernel, by decide +kernel⟩
set_option maxRecDepth 100000 in
theorem my_X2_howManySeen : MV yX2_howManySeen cX2_howManySeen 1 (some .int) 0 := ⟨tin 418 rfl rfl, tin 416 (by decide +kernel) rfl, tin 417 (by decide +kernel) rfl, tin 7 (by decide +kernel) rfl, by decide +kernel, by decide +kernel, by decide +kernel⟩
set_option maxRecDepth 100000 in
theorem my_X2_ticksOf : MV yX2_ticksOf cX2_ticksOf 4 (some .int) 1 := ⟨tin 347 rfl rfl, tin 345 (by decide +kernel) rfl, tin 346 (by decide +kernel) rfl, tin 7 (by decide +kernel) rfl, by decide +kernel, by decide +kernel, by decide +kernel⟩
set_option maxRecDepth 100000 in
theorem my_X3_search : MV yX3_search cX3_search 4 none 2 := ⟨tin 482 rfl rfl, tin 480 (by decide +kernel) rfl, tin 481 (by decide +kernel) rfl, tin 8 (by decide +kernel) rfl, by decide +kernel, by decide +kernel, by decide +kernel⟩
set_option maxRecDepth 100000 in
theorem my_X3_searchAllOf : MV yX3_searchAllOf cX3_searchAllOf 7 none 3 := ⟨tin 486 rfl rfl, tin 485 (by decide +kernel) rfl, tsl 10 (by decide +kernel) rfl, tin 8 (by decide +kernel) rfl, by decide +kernel, by decide +kernel, by decide +kernel⟩
set_option maxRecDepth 100000 in
theorem my_X3_tryOne : MV yX3_tryOne cX3_tryOne 7 none 5 := ⟨tin 494 rfl rfl, tin 493 (by decide +kernel) rfl, tsl 11 (by decide +kernel) rfl, tin 8 (by decide +kernel) rfl, by decide +kernel, by decide +kernel, by decide +kernel⟩
set_option maxRecDepth 100000 in
theorem my_X3_mayMove : MS yX3_mayMove cX3_mayMove 4 (some .boolean) 3 := ⟨tin 497 rfl rfl, tin 496 (by decide +kernel) rfl, tin 8 (by decide +kernel) rfl, by decide +kernel, by decide +kernel, by decide +kernel⟩
set_option maxRecDepth 100000 in
theorem my_X4_isFull : MV yX4_isFull cX4_isFull 1 (some .boolean) 0 := ⟨tin 343 rfl rfl, tin 341 (by decide +kernel) rfl, tin 342 (by decide +kernel) rfl, tin 3 (by decide +kernel) rfl, by decide +kernel, by decide +kernel, by decide +kernel⟩
set_option maxRecDepth 100000 in
theorem my_X4_add : MV yX4_add cX4_add 6 none 4 := ⟨tin 339 rfl rfl, tin 337 (by decide +kernel) rfl, tin 338 (by decide +kernel) rfl, tin 3 (by decide +kernel) rfl, by decide +kernel, by decide +kernel, by decide +kernel⟩
set_option maxRecDepth 100000 in
theorem my_X4_addAll : MV yX4_addAll cX4_addAll 4 none 1 := ⟨tin 584 rfl rfl, tin 582 (by decide +kernel) rfl, tin 583 (by decide +kernel) rfl, tin 3 (by decide +kernel) rfl, by decide +kernel, by decide +kernel, by decide +kernel⟩
set_option maxRecDepth 100000 in
theorem my_X4_cellOr : MV yX4_cellOr cX4_cellOr 4 (some .int) 3 := ⟨tin 351 rfl rfl, tin 349 (by decide +kernel) rfl, tin 350 (by decide +kernel) rfl, tin 3 (by decide +kernel) rfl, by decide +kernel, by decide +kernel, by decide +kernel⟩
set_option maxRecDepth 100000 in
theorem my_X4_moveRow : MV yX4_moveRow cX4_moveRow 3 none 2 := ⟨tin 523 rfl rfl, tin 521 (by decide +kernel) rfl, tin 522 (by decide +kernel) rfl, tin 3 (by decide +kernel) rfl, by decide +kernel, by decide +kernel, by decide +kernel⟩
set_option maxRecDepth 100000 in
theorem my_X4_cutTo : MV yX4_cutTo cX4_cutTo 2 none 1 := ⟨tin 106 rfl rfl, tin 104 (by decide +kernel) rfl, tin 105 (by decide +kernel) rfl, tin 3 (by decide +kernel) rfl, by decide +kernel, by decide +kernel, by decide +kernel⟩
set_option maxRecDepth 100000 in
theorem my_X4_dropFirst : MV yX4_dropFirst cX4_dropFirst 2 none 0 := ⟨tin 566 rfl rfl, tin 564 (by decide +kernel) rfl, tin 565 (by decide +kernel) rfl, tin 3 (by decide +kernel) rfl, by decide +kernel, by decide +kernel, by decide +kernel⟩
set_option maxRecDepth 100000 in
theorem my_X4_greatestOr : MV yX4_greatestOr cX4_greatestOr 5 (some .int) 2 := ⟨tin 610 rfl rfl, tin 608 (by decide +kernel) rfl, tin 609 (by decide +kernel) rfl, tin 3 (by decide +kernel) rfl, by decide +kernel, by decide +kernel, by decide +kernel⟩
set_option maxRecDepth 100000 in
theorem my_X4_leastOr : MV yX4_leastOr cX4_leastOr 5 (some .int) 2 := ⟨tin 615 rfl rfl, tin 613 (by decide +kernel) rfl, tin 614 (by decide +kernel) rfl, tin 3 (by decide +kernel) rfl, by decide +kernel, by decide +kernel, by decide +kernel⟩
set_option maxRecDepth 100000 in
theorem my_X4_totalOr : MV yX4_totalOr cX4_totalOr 5 (some .int) 2 := ⟨tin 620 rfl rfl, tin 618 (by decide +kernel) rfl, tin 619 (by decide +kernel) rfl, tin 3 (by decide +kernel) rfl, by decide +kernel, by decide +kernel, by decide +kernel⟩
set_option maxRecDepth 100000 in
theorem my_X5_append : MV yX5_append cX5_append 2 none 1 := ⟨tin 628 rfl rfl, tin 626 (by decide +kernel) rfl, tin 627 (by decide +kernel) rfl, tin 9 (by decide +kernel) rfl, by decide +kernel, by decide +kernel, by decide +kernel⟩
set_option maxRecDepth 100000 in
theorem my_X5_faultOfWishes : MV yX5_faultOfWishes cX5_faultOfWishes 4 (some .int) 2 := ⟨tin 640 rfl rfl, tin 638 (by decide +kernel) rfl, tin 639 (by decide +kernel) rfl, tin 9 (by decide +kernel) rfl, by decide +kernel, by decide +kernel, by decide +kernel⟩
set_option maxRecDepth 100000 in
theorem my_X5_readWish : MV yX5_readWish cX5_readWish 6 none 2 := ⟨tin 653 rfl rfl, tin 652 (by decide +kernel) rfl, tsl 21 (by decide +kernel) rfl, tin 9 (by decide +kernel) rfl, by decide +kernel, by decide +kernel, by decide +kernel⟩
set_option maxRecDepth 100000 in
theorem my_X5_readEnd : MV yX5_readEnd cX5_readEnd 1 (some .boolean) 0 := ⟨tin 675 rfl rfl, tin 674 (by decide +kernel) rfl, tsl 26 (by decide +kernel) rfl, tin 9 (by decide +kernel) rfl, by decide +kernel, by decide +kernel, by decide +kernel⟩
set_option maxRecDepth 100000 in
theorem my_X5_readWant : MV yX5_readWant cX5_readWant 3 (some .int) 0 := ⟨tin 662 rfl rfl, tin 661 (by decide +kernel) rfl, tsl 23 (by decide +kernel) rfl, tin 9 (by decide +kernel) rfl, by decide +kernel, by decide +kernel, by decide +kernel⟩
set_option maxRecDepth 100000 in
theorem my_X5_readPeriod : MV yX5_readPeriod cX5_readPeriod 2 (some .int) 1 := ⟨tin 671 rfl rfl, tin 670 (by decide +kernel) rfl, tsl 25 (by decide +kernel) rfl, tin 9 (by decide +kernel) rfl, by decide +kernel, by decide +kernel, by decide +kernel⟩
set_option maxRecDepth 100000 in
theorem my_X5_readNumber : MV yX5_readNumber cX5_readNumber 5 (some .int) 1 := ⟨tin 666 rfl rfl, tin 665 (by decide +kernel) rfl, tsl 24 (by decide +kernel) rfl, tin 9 (by decide +kernel) rfl, by decide +kernel, by decide +kernel, by decide +kernel⟩
set_option maxRecDepth 100000 in
theorem my_X5_skipBlanks : MV yX5_skipBlanks cX5_skipBlanks 1 none 0 := ⟨tin 645 rfl rfl, tin 644 (by decide +kernel) rfl, tsl 19 (by decide +kernel) rfl, tin 9 (by decide +kernel) rfl, by decide +kernel, by decide +kernel, by decide +kernel⟩
set_option maxRecDepth 100000 in
theorem my_X5_byteHere : MV yX5_byteHere cX5_byteHere 1 (some .int) 0 := ⟨tin 649 rfl rfl, tin 648 (by decide +kernel) rfl, tsl 20 (by decide +kernel) rfl, tin 9 (by decide +kernel) rfl, by decide +kernel, by decide +kernel, by decide +kernel⟩
set_option maxRecDepth 100000 in
theorem my_X5_failAt : MV yX5_failAt cX5_failAt 2 none 1 := ⟨tin 658 rfl rfl, tin 657 (by decide +kernel) rfl, tsl 22 (by decide +kernel) rfl, tin 9 (by decide +kernel) rfl, by decide +kernel, by decide +kernel, by decide +kernel⟩
set_option maxRecDepth 100000 in
theorem my_X6_sets : MV yX6_sets cX6_sets 4 (some .int) 2 := ⟨tin 250 rfl rfl, tin 248 (by decide +kernel) rfl, tin 249 (by decide +kernel) rfl, tin 1 (by decide +kernel) rfl, by decide +kernel, by decide +kernel, by decide +kernel⟩
set_option maxRecDepth 100000 in
theorem my_X6_leg : MV yX6_leg cX6_leg 7 (some .int) 3 := ⟨tin 265 rfl rfl, tin 263 (by decide +kernel) rfl, tin 264 (by decide +kernel) rfl, tin 1 (by decide +kernel) rfl, by decide +kernel, by decide +kernel, by decide +kernel⟩
set_option maxRecDepth 100000 in
theorem my_X6_anew : MV yX6_anew cX6_anew 2 (some .int) 0 := ⟨tin 272 rfl rfl, tin 270 (by decide +kernel) rfl, tin 271 (by decide +kernel) rfl, tin 1 (by decide +kernel) rfl, by decide +kernel, by decide +kernel, by decide +kernel⟩
set_option maxRecDepth 100000 in
theorem my_X6_draw : MV yX6_draw cX6_draw 5 (some .int) 1 := ⟨tin 278 rfl rfl, tin 276 (by decide +kernel) rfl, tin 277 (by decide +kernel) rfl, tin 1 (by decide +kernel) rfl, by decide +kernel, by decide +kernel, by decide +kernel⟩
set_option maxRecDepth 100000 in
theorem my_X6_plan : MV yX6_plan cX6_plan 2 (some .int) 1 := ⟨tin 317 rfl rfl, tin 315 (by decide +kernel) rfl, tin 316 (by decide +kernel) rfl, tin 1 (by decide +kernel) rfl, by decide +kernel, by decide +kernel, by decide +kernel⟩
set_option maxRecDepth 100000 in
theorem my_X6_of : MV yX6_of cX6_of 4 (some .int) 2 := ⟨tin 356 rfl rfl, tin 354 (by decide +kernel) rfl, tin 355 (by decide +kernel) rfl, tin 1 (by decide +kernel) rfl, by decide +kernel, by decide +kernel, by decide +kernel⟩
set_option maxRecDepth 100000 in
theorem my_X6_at : MV yX6_at cX6_at 5 (some .int) 3 := ⟨tin 387 rfl rfl, tin 385 (by decide +kernel) rfl, tin 386 (by decide +kernel) rfl, tin 1 (by decide +kernel) rfl, by decide +kernel, by decide +kernel, by decide +kernel⟩
set_option maxRecDepth 100000 in
theorem my_X6_run : MV yX6_run cX6_run 3 (some .int) 2 := ⟨tin 409 rfl rfl, tin 407 (by decide +kernel) rfl, tin 408 (by decide +kernel) rfl, tin 1 (by decide +kernel) rfl, by decide +kernel, by decide +kernel, by decide +kernel⟩
set_option maxRecDepth 100000 in
theorem my_X6_seen : MV yX6_seen cX6_seen 2 (some .int) 1 := ⟨tin 414 rfl rfl, tin 412 (by decide +kernel) rfl, tin 413 (by decide +kernel) rfl, tin 1 (by decide +kernel) rfl, by decide +kernel, by decide +kernel, by decide +kernel⟩
set_option maxRecDepth 100000 in
theorem my_X6_told : MV yX6_told cX6_told 3 (some .int) 1 := ⟨tin 428 rfl rfl, tin 426 (by decide +kernel) rfl, tin 427 (by decide +kernel) rfl, tin 1 (by decide +kernel) rfl, by decide +kernel, by decide +kernel, by decide +kernel⟩
set_option maxRecDepth 100000 in
theorem my_X6_both : MV yX6_both cX6_both 4 (some .int) 0 := ⟨tin 440 rfl rfl, tin 438 (by decide +kernel) rfl, tin 439 (by decide +kernel) rfl, tin 1 (by decide +kernel) rfl, by decide +kernel, by decide +kernel, by decide +kernel⟩
set_option maxRecDepth 100000 in
theorem my_X6_off : MV yX6_off cX6_off 3 (some .int) 1 := ⟨tin 444 rfl rfl, tin 442 (by decide +kernel) rfl, tin 443 (by decide +kernel) rfl, tin 1 (by decide +kernel) rfl, by decide +kernel, by decide +kernel, by decide +kernel⟩
set_option maxRecDepth 100000 in
theorem my_X6_dies : MV yX6_dies cX6_dies 2 (some .int) 1 := ⟨tin 448 rfl rfl, tin 446 (by decide +kernel) rfl, tin 447 (by decide +kernel) rfl, tin 1 (by decide +kernel) rfl, by decide +kernel, by decide +kernel, by decide +kernel⟩
set_option maxRecDepth 100000 in
theorem my_X6_event : MV yX6_event cX6_event 3 (some .int) 2 := ⟨tin 456 rfl rfl, tin 454 (by decide +kernel) rfl, tin 455 (by decide +kernel) rfl, tin 1 (by decide +kernel) rfl, by decide +kernel, by decide +kernel, by decide +kernel⟩
set_option maxRecDepth 100000 in
theorem my_X6_events : MV yX6_events cX6_events 1 (some .int) 0 := ⟨tin 474 rfl rfl, tin 472 (by decide +kernel) rfl, tin 473 (by decide +kernel) rfl, tin 1 (by decide +kernel) rfl, by decide +kernel, by decide +kernel, by decide +kernel⟩
set_option maxRecDepth 100000 in
theorem my_X6_shift : MV yX6_shift cX6_shift 2 (some .int) 1 := ⟨tin 478 rfl rfl, tin 476 (by decide +kernel) rfl, tin 477 (by decide +kernel) rfl, tin 1 (by decide +kernel) rfl, by decide +kernel, by decide +kernel, by decide +kernel⟩
set_option maxRecDepth 100000 in
theorem my_X6_wish : MV yX6_wish cX6_wish 4 (some .int) 3 := ⟨tin 504 rfl rfl, tin 502 (by decide +kernel) rfl, tin 503 (by decide +kernel) rfl, tin 1 (by decide +kernel) rfl, by decide +kernel, by decide +kernel, by decide +kernel⟩
set_option maxRecDepth 100000 in
theorem my_X6_unwish : MV yX6_unwish cX6_unwish 2 (some .int) 1 := ⟨tin 514 rfl rfl, tin 512 (by decide +kernel) rfl, tin 513 (by decide +kernel) rfl, tin 1 (by decide +kernel) rfl, by decide +kernel, by decide +kernel, by decide +kernel⟩
set_option maxRecDepth 100000 in
theorem my_X6_wished : MV yX6_wished cX6_wished 3 (some .int) 2 := ⟨tin 528 rfl rfl, tin 526 (by decide +kernel) rfl, tin 527 (by decide +kernel) rfl, tin 1 (by decide +kernel) rfl, by decide +kernel, by decide +kernel, by decide +kernel⟩
set_option maxRecDepth 100000 in
theorem my_X6_steps : MV yX6_steps cX6_steps 5 (some .int) 1 := ⟨tin 532 rfl rfl, tin 530 (by decide +kernel) rfl, tin 531 (by decide +kernel) rfl, tin 1 (by decide +kernel) rfl, by decide +kernel, by decide +kernel, by decide +kernel⟩
set_option maxRecDepth 100000 in
theorem my_X6_settles : MV yX6_settles cX6_settles 2 (some .int) 1 := ⟨tin 572 rfl rfl, tin 570 (by decide +kernel) rfl, tin 571 (by decide +kernel) rfl, tin 1 (by decide +kernel) rfl, by decide +kernel, by decide +kernel, by decide +kernel⟩
set_option maxRecDepth 100000 in
theorem my_X6_tunes : MV yX6_tunes cX6_tunes 6 (some .int) 1 := ⟨tin 594 rfl rfl, tin 592 (by decide +kernel) rfl, tin 593 (by decide +kernel) rfl, tin 1 (by decide +kernel) rfl, by decide +kernel, by decide +kernel, by decide +kernel⟩
set_option maxRecDepth 100000 in
theorem my_X6_state : MV yX6_state cX6_state 3 (some .int) 2 := ⟨tin 598 rfl rfl, tin 596 (by decide +kernel) rfl, tin 597 (by decide +kernel) rfl, tin 1 (by decide +kernel) rfl, by decide +kernel, by decide +kernel, by decide +kernel⟩
set_option maxRecDepth 100000 in
theorem my_X6_memory : MV yX6_memory cX6_memory 3 (some .int) 2 := ⟨tin 602 rfl rfl, tin 600 (by decide +kernel) rfl, tin 601 (by decide +kernel) rfl, tin 1 (by decide +kernel) rfl, by decide +kernel, by decide +kernel, by decide +kernel⟩
set_option maxRecDepth 100000 in
theorem my_X6_over : MV yX6_over cX6_over 3 (some .int) 2 := ⟨tin 606 rfl rfl, tin 604 (by decide +kernel) rfl, tin 605 (by decide +kernel) rfl, tin 1 (by decide +kernel) rfl, by decide +kernel, by decide +kernel, by decide +kernel⟩
set_option maxRecDepth 100000 in
theorem my_X6_type : MV yX6_type cX6_type 2 (some .int) 1 := ⟨tin 624 rfl rfl, tin 622 (by decide +kernel) rfl, tin 623 (by decide +kernel) rfl, tin 1 (by decide +kernel) rfl, by decide +kernel, by decide +kernel, by decide +kernel⟩
set_option maxRecDepth 100000 in
theorem my_X6_clear : MV yX6_clear cX6_clear 2 (some .int) 0 := ⟨tin 632 rfl rfl, tin 630 (by decide +kernel) rfl, tin 631 (by decide +kernel) rfl, tin 1 (by decide +kernel) rfl, by decide +kernel, by decide +kernel, by decide +kernel⟩
set_option maxRecDepth 100000 in
theorem my_X6_reads : MV yX6_reads cX6_reads 3 (some .int) 0 := ⟨tin 636 rfl rfl, tin 634 (by decide +kernel) rfl, tin 635 (by decide +kernel) rfl, tin 1 (by decide +kernel) rfl, by decide +kernel, by decide +kernel, by decide +kernel⟩
set_option maxRecDepth 100000 in
theorem my_X6_count : MV yX6_count cX6_count 2 (some .int) 1 := ⟨tin 681 rfl rfl, tin 679 (by decide +kernel) rfl, tin 680 (by decide +kernel) rfl, tin 1 (by decide +kernel) rfl, by decide +kernel, by decide +kernel, by decide +kernel⟩
set_option maxRecDepth 100000 in
theorem my_X6_digest : MV yX6_digest cX6_digest 6 (some .long) 0 := ⟨tin 693 rfl rfl, tin 691 (by decide +kernel) rfl, tin 692 (by decide +kernel) rfl, tin 1 (by decide +kernel) rfl, by decide +kernel, by decide +kernel, by decide +kernel⟩
set_option maxRecDepth 100000 in
theorem my_X6_within : MS yX6_within cX6_within 3 (some .boolean) 3 := ⟨tin 253 rfl rfl, tin 252 (by decide +kernel) rfl, tin 1 (by decide +kernel) rfl, by decide +kernel, by decide +kernel, by decide +kernel⟩
set_option maxRecDepth 100000 in
theorem my_X6_isLeg : MS yX6_isLeg cX6_isLeg 1 (some .boolean) 1 := ⟨tin 268 rfl rfl, tin 267 (by decide +kernel) rfl, tin 1 (by decide +kernel) rfl, by decide +kernel, by decide +kernel, by decide +kernel⟩
set_option maxRecDepth 100000 in
theorem my_X6_pulledWithin : MS yX6_pulledWithin cX6_pulledWithin 3 (some .int) 3 := ⟨tin 109 rfl rfl, tin 108 (by decide +kernel) rfl, tin 1 (by decide +kernel) rfl, by decide +kernel, by decide +kernel, by decide +kernel⟩
set_option maxRecDepth 100000 in
theorem my_X6_greatestOf : MS yX6_greatestOf cX6_greatestOf 1 (some .int) 1 := ⟨tin 301 rfl rfl, tin 300 (by decide +kernel) rfl, tin 1 (by decide +kernel) rfl, by decide +kernel, by decide +kernel, by decide +kernel⟩
set_option maxRecDepth 100000 in
theorem my_X6_leastOf : MS yX6_leastOf cX6_leastOf 1 (some .int) 1 := ⟨tin 304 rfl rfl, tin 303 (by decide +kernel) rfl, tin 1 (by decide +kernel) rfl, by decide +kernel, by decide +kernel, by decide +kernel⟩
set_option maxRecDepth 100000 in
theorem my_X6_refuseBad : MV yX6_refuseBad cX6_refuseBad 1 (some .int) 0 := ⟨tin 261 rfl rfl, tin 260 (by decide +kernel) rfl, tsl 0 (by decide +kernel) rfl, tin 1 (by decide +kernel) rfl, by decide +kernel, by decide +kernel, by decide +kernel⟩
set_option maxRecDepth 100000 in
theorem my_X6_refuseFull : MV yX6_refuseFull cX6_refuseFull 1 (some .int) 0 := ⟨tin 509 rfl rfl, tin 508 (by decide +kernel) rfl, tsl 12 (by decide +kernel) rfl, tin 1 (by decide +kernel) rfl, by decide +kernel, by decide +kernel, by decide +kernel⟩
set_option maxRecDepth 100000 in
theorem my_X6_planNow : MV yX6_planNow cX6_planNow 1 (some (.object "DriveTicks$Plan")) 0 := ⟨tin 290 rfl rfl, tin 289 (by decide +kernel) rfl, tsl 1 (by decide +kernel) rfl, tin 1 (by decide +kernel) rfl, by decide +kernel, by decide +kernel, by decide +kernel⟩
set_option maxRecDepth 100000 in
theorem my_X6_runsNow : MV yX6_runsNow cX6_runsNow 2 (some (.object "DriveTicks$Runs")) 0 := ⟨tin 321 rfl rfl, tin 320 (by decide +kernel) rfl, tsl 4 (by decide +kernel) rfl, tin 1 (by decide +kernel) rfl, by decide +kernel, by decide +kernel, by decide +kernel⟩
set_option maxRecDepth 100000 in
theorem my_X6_eventsNow : MV yX6_eventsNow cX6_eventsNow 1 (some (.object "DriveTicks$Table")) 0 := ⟨tin 460 rfl rfl, tin 459 (by decide +kernel) rfl, tsl 8 (by decide +kernel) rfl, tin 1 (by decide +kernel) rfl, by decide +kernel, by decide +kernel, by decide +kernel⟩
set_option maxRecDepth 100000 in
theorem my_X6_currentByTheOthers : MV yX6_currentByTheOthers cX6_currentByTheOthers 4 (some .int) 1 := ⟨tin 436 rfl rfl, tin 435 (by decide +kernel) rfl, tsl 7 (by decide +kernel) rfl, tin 1 (by decide +kernel) rfl, by decide +kernel, by decide +kernel, by decide +kernel⟩
set_option maxRecDepth 100000 in
theorem my_X6_remember : MV yX6_remember cX6_remember 2 none 1 := ⟨tin 562 rfl rfl, tin 561 (by decide +kernel) rfl, tsl 17 (by decide +kernel) rfl, tin 1 (by decide +kernel) rfl, by decide +kernel, by decide +kernel, by decide +kernel⟩
set_option maxRecDepth 100000 in
theorem my_X6_stepsToSettle : MV yX6_stepsToSettle cX6_stepsToSettle 5 (some .int) 3 := ⟨tin 576 rfl rfl, tin 575 (by decide +kernel) rfl, tsl 18 (by decide +kernel) rfl, tin 1 (by decide +kernel) rfl, by decide +kernel, by decide +kernel, by decide +kernel⟩
set_option maxRecDepth 100000 in
theorem my_X6_counted : MV yX6_counted cX6_counted 2 (some .int) 1 := ⟨tin 685 rfl rfl, tin 684 (by decide +kernel) rfl, tsl 27 (by decide +kernel) rfl, tin 1 (by decide +kernel) rfl, by decide +kernel, by decide +kernel, by decide +kernel⟩
set_option maxRecDepth 100000 in
theorem my_X6_countedSetting : MV yX6_countedSetting cX6_countedSetting 2 (some .int) 1 := ⟨tin 689 rfl rfl, tin 688 (by decide +kernel) rfl, tsl 28 (by decide +kernel) rfl, tin 1 (by decide +kernel) rfl, by decide +kernel, by decide +kernel, by decide +kernel⟩
set_option maxRecDepth 100000 in
theorem my_X7_bad : MV yX7_bad cX7_bad 1 (some .int) 0 := ⟨tin 831 rfl rfl, tin 830 (by decide +kernel) rfl, tsl 30 (by decide +kernel) rfl, tin 10 (by decide +kernel) rfl, by decide +kernel, by decide +kernel, by decide +kernel⟩
set_option maxRecDepth 100000 in
theorem my_X7_full : MV yX7_full cX7_full 1 (some .int) 0 := ⟨tin 1002 rfl rfl, tin 1001 (by decide +kernel) rfl, tsl 50 (by decide +kernel) rfl, tin 10 (by decide +kernel) rfl, by decide +kernel, by decide +kernel, by decide +kernel⟩
set_option maxRecDepth 100000 in
theorem my_X7_in : MS yX7_in cX7_in 3 (some .boolean) 3 := ⟨tin 824 rfl rfl, tin 823 (by decide +kernel) rfl, tin 10 (by decide +kernel) rfl, by decide +kernel, by decide +kernel, by decide +kernel⟩
set_option maxRecDepth 100000 in
theorem my_X7_within : MS yX7_within cX7_within 2 (some .int) 2 := ⟨tin 1037 rfl rfl, tin 1036 (by decide +kernel) rfl, tin 10 (by decide +kernel) rfl, by decide +kernel, by decide +kernel, by decide +kernel⟩
set_option maxRecDepth 100000 in
theorem my_X7_far : MS yX7_far cX7_far 1 (some .int) 1 := ⟨tin 994 rfl rfl, tin 993 (by decide +kernel) rfl, tin 10 (by decide +kernel) rfl, by decide +kernel, by decide +kernel, by decide +kernel⟩
set_option maxRecDepth 100000 in
theorem my_X7_begins : MV yX7_begins cX7_begins 2 none 0 := ⟨tin 705 rfl rfl, tin 704 (by decide +kernel) rfl, tsl 29 (by decide +kernel) rfl, tin 10 (by decide +kernel) rfl, by decide +kernel, by decide +kernel, by decide +kernel⟩
set_option maxRecDepth 100000 in
theorem my_X7_may : MS yX7_may cX7_may 2 (some .boolean) 2 := ⟨tin 827 rfl rfl, tin 826 (by decide +kernel) rfl, tin 10 (by decide +kernel) rfl, by decide +kernel, by decide +kernel, by decide +kernel⟩
set_option maxRecDepth 100000 in
theorem my_X7_isLeg : MS yX7_isLeg cX7_isLeg 1 (some .boolean) 1 := ⟨tin 838 rfl rfl, tin 837 (by decide +kernel) rfl, tin 10 (by decide +kernel) rfl, by decide +kernel, by decide +kernel, by decide +kernel⟩
set_option maxRecDepth 100000 in
theorem my_X7_sets : MV yX7_sets cX7_sets 4 (some .int) 2 := ⟨tin 821 rfl rfl, tin 819 (by decide +kernel) rfl, tin 820 (by decide +kernel) rfl, tin 10 (by decide +kernel) rfl, by decide +kernel, by decide +kernel, by decide +kernel⟩
set_option maxRecDepth 100000 in
theorem my_X7_leg : MV yX7_leg cX7_leg 5 (some .int) 3 := ⟨tin 835 rfl rfl, tin 833 (by decide +kernel) rfl, tin 834 (by decide +kernel) rfl, tin 10 (by decide +kernel) rfl, by decide +kernel, by decide +kernel, by decide +kernel⟩
set_option maxRecDepth 100000 in
theorem my_X7_anew : MV yX7_anew cX7_anew 2 (some .int) 0 := ⟨tin 842 rfl rfl, tin 840 (by decide +kernel) rfl, tin 841 (by decide +kernel) rfl, tin 10 (by decide +kernel) rfl, by decide +kernel, by decide +kernel, by decide +kernel⟩
set_option maxRecDepth 100000 in
theorem my_X7_draw : MV yX7_draw cX7_draw 5 (some .int) 1 := ⟨tin 846 rfl rfl, tin 844 (by decide +kernel) rfl, tin 845 (by decide +kernel) rfl, tin 10 (by decide +kernel) rfl, by decide +kernel, by decide +kernel, by decide +kernel⟩
set_option maxRecDepth 100000 in
theorem my_X7_greatest : MS yX7_greatest cX7_greatest 2 (some .int) 1 := ⟨tin 861 rfl rfl, tin 860 (by decide +kernel) rfl, tin 10 (by decide +kernel) rfl, by decide +kernel, by decide +kernel, by decide +kernel⟩
set_option maxRecDepth 100000 in
theorem my_X7_least : MS yX7_least cX7_least 2 (some .int) 1 := ⟨tin 864 rfl rfl, tin 863 (by decide +kernel) rfl, tin 10 (by decide +kernel) rfl, by decide +kernel, by decide +kernel, by decide +kernel⟩
set_option maxRecDepth 100000 in
theorem my_X7_setPlan : MV yX7_setPlan cX7_setPlan 5 none 0 := ⟨tin 858 rfl rfl, tin 857 (by decide +kernel) rfl, tsl 31 (by decide +kernel) rfl, tin 10 (by decide +kernel) rfl, by decide +kernel, by decide +kernel, by decide +kernel⟩
set_option maxRecDepth 100000 in
theorem my_X7_bound : MS yX7_bound cX7_bound 2 (some .int) 2 := ⟨tin 867 rfl rfl, tin 866 (by decide +kernel) rfl, tin 10 (by decide +kernel) rfl, by decide +kernel, by decide +kernel, by decide +kernel⟩
set_option maxRecDepth 100000 in
theorem my_X7_wanted : MV yX7_wanted cX7_wanted 3 (some .boolean) 2 := ⟨tin 887 rfl rfl, tin 886 (by decide +kernel) rfl, tsl 35 (by decide +kernel) rfl, tin 10 (by decide +kernel) rfl, by decide +kernel, by decide +kernel, by decide +kernel⟩
set_option maxRecDepth 100000 in
theorem my_X7_wantedAhead : MV yX7_wantedAhead cX7_wantedAhead 5 (some .int) 2 := ⟨tin 911 rfl rfl, tin 910 (by decide +kernel) rfl, tsl 40 (by decide +kernel) rfl, tin 10 (by decide +kernel) rfl, by decide +kernel, by decide +kernel, by decide +kernel⟩
set_option maxRecDepth 100000 in
theorem my_X7_upper : MV yX7_upper cX7_upper 3 (some .boolean) 2 := ⟨tin 919 rfl rfl, tin 918 (by decide +kernel) rfl, tsl 42 (by decide +kernel) rfl, tin 10 (by decide +kernel) rfl, by decide +kernel, by decide +kernel, by decide +kernel⟩
set_option maxRecDepth 100000 in
theorem my_X7_lower : MV yX7_lower cX7_lower 3 (some .boolean) 2 := ⟨tin 923 rfl rfl, tin 922 (by decide +kernel) rfl, tsl 43 (by decide +kernel) rfl, tin 10 (by decide +kernel) rfl, by decide +kernel, by decide +kernel, by decide +kernel⟩
set_option maxRecDepth 100000 in
theorem my_X7_gives : MV yX7_gives cX7_gives 4 (some .int) 2 := ⟨tin 907 rfl rfl, tin 906 (by decide +kernel) rfl, tsl 39 (by decide +kernel) rfl, tin 10 (by decide +kernel) rfl, by decide +kernel, by decide +kernel, by decide +kernel⟩
set_option maxRecDepth 100000 in
theorem my_X7_meanOf : MV yX7_meanOf cX7_meanOf 4 (some .int) 1 := ⟨tin 903 rfl rfl, tin 902 (by decide +kernel) rfl, tsl 38 (by decide +kernel) rfl, tin 10 (by decide +kernel) rfl, by decide +kernel, by decide +kernel, by decide +kernel⟩
set_option maxRecDepth 100000 in
theorem my_X7_patternAt : MV yX7_patternAt cX7_patternAt 2 (some .int) 1 := ⟨tin 883 rfl rfl, tin 882 (by decide +kernel) rfl, tsl 34 (by decide +kernel) rfl, tin 10 (by decide +kernel) rfl, by decide +kernel, by decide +kernel, by decide +kernel⟩
set_option maxRecDepth 100000 in
theorem my_X7_setRuns : MV yX7_setRuns cX7_setRuns 2 none 0 := ⟨tin 891 rfl rfl, tin 890 (by decide +kernel) rfl, tsl 36 (by decide +kernel) rfl, tin 10 (by decide +kernel) rfl, by decide +kernel, by decide +kernel, by decide +kernel⟩
set_option maxRecDepth 100000 in
theorem my_X7_tells : MV yX7_tells cX7_tells 3 (some .int) 1 := ⟨tin 935 rfl rfl, tin 934 (by decide +kernel) rfl, tsl 44 (by decide +kernel) rfl, tin 10 (by decide +kernel) rfl, by decide +kernel, by decide +kernel, by decide +kernel⟩
set_option maxRecDepth 100000 in
theorem my_X7_seenSet : MV yX7_seenSet cX7_seenSet 4 (some .int) 0 := ⟨tin 943 rfl rfl, tin 942 (by decide +kernel) rfl, tsl 45 (by decide +kernel) rfl, tin 10 (by decide +kernel) rfl, by decide +kernel, by decide +kernel, by decide +kernel⟩
set_option maxRecDepth 100000 in
theorem my_X7_bits : MS yX7_bits cX7_bits 1 (some .int) 1 := ⟨tin 946 rfl rfl, tin 945 (by decide +kernel) rfl, tin 10 (by decide +kernel) rfl, by decide +kernel, by decide +kernel, by decide +kernel⟩
set_option maxRecDepth 100000 in
theorem my_X7_ticksOf : MV yX7_ticksOf cX7_ticksOf 4 (some .int) 1 := ⟨tin 879 rfl rfl, tin 878 (by decide +kernel) rfl, tsl 33 (by decide +kernel) rfl, tin 10 (by decide +kernel) rfl, by decide +kernel, by decide +kernel, by decide +kernel⟩
set_option maxRecDepth 100000 in
theorem my_X7_plansBy : MV yX7_plansBy cX7_plansBy 2 (some .int) 1 := ⟨tin 875 rfl rfl, tin 874 (by decide +kernel) rfl, tsl 32 (by decide +kernel) rfl, tin 10 (by decide +kernel) rfl, by decide +kernel, by decide +kernel, by decide +kernel⟩
set_option maxRecDepth 100000 in
theorem my_X7_plan : MV yX7_plan cX7_plan 2 (some .int) 1 := ⟨tin 871 rfl rfl, tin 869 (by decide +kernel) rfl, tin 870 (by decide +kernel) rfl, tin 10 (by decide +kernel) rfl, by decide +kernel, by decide +kernel, by decide +kernel⟩
set_option maxRecDepth 100000 in
theorem my_X7_gateMany : MV yX7_gateMany cX7_gateMany 9 (some .int) 2 := ⟨tin 915 rfl rfl, tin 914 (by decide +kernel) rfl, tsl 41 (by decide +kernel) rfl, tin 10 (by decide +kernel) rfl, by decide +kernel, by decide +kernel, by decide +kernel⟩
set_option maxRecDepth 100000 in
theorem my_X7_ofBy : MV yX7_ofBy cX7_ofBy 3 (some .int) 2 := ⟨tin 899 rfl rfl, tin 898 (by decide +kernel) rfl, tsl 37 (by decide +kernel) rfl, tin 10 (by decide +kernel) rfl, by decide +kernel, by decide +kernel, by decide +kernel⟩
set_option maxRecDepth 100000 in
theorem my_X7_of : MV yX7_of cX7_of 3 (some .int) 2 := ⟨tin 895 rfl rfl, tin 893 (by decide +kernel) rfl, tin 894 (by decide +kernel) rfl, tin 10 (by decide +kernel) rfl, by decide +kernel, by decide +kernel, by decide +kernel⟩
set_option maxRecDepth 100000 in
theorem my_X7_at : MV yX7_at cX7_at 5 (some .int) 3 := ⟨tin 927 rfl rfl, tin 925 (by decide +kernel) rfl, tin 926 (by decide +kernel) rfl, tin 10 (by decide +kernel) rfl, by decide +kernel, by decide +kernel, by decide +kernel⟩
set_option maxRecDepth 100000 in
theorem my_X7_run : MV yX7_run cX7_run 3 (some .int) 2 := ⟨tin 931 rfl rfl, tin 929 (by decide +kernel) rfl, tin 930 (by decide +kernel) rfl, tin 10 (by decide +kernel) rfl, by decide +kernel, by decide +kernel, by decide +kernel⟩
set_option maxRecDepth 100000 in
theorem my_X7_seen : MV yX7_seen cX7_seen 3 (some .int) 1 := ⟨tin 939 rfl rfl, tin 937 (by decide +kernel) rfl, tin 938 (by decide +kernel) rfl, tin 10 (by decide +kernel) rfl, by decide +kernel, by decide +kernel, by decide +kernel⟩
set_option maxRecDepth 100000 in
theorem my_X7_told : MV yX7_told cX7_told 3 (some .int) 1 := ⟨tin 950 rfl rfl, tin 948 (by decide +kernel) rfl, tin 949 (by decide +kernel) rfl, tin 10 (by decide +kernel) rfl, by decide +kernel, by decide +kernel, by decide +kernel⟩
set_option maxRecDepth 100000 in
theorem my_X7_both : MV yX7_both cX7_both 4 (some .int) 0 := ⟨tin 954 rfl rfl, tin 952 (by decide +kernel) rfl, tin 953 (by decide +kernel) rfl, tin 10 (by decide +kernel) rfl, by decide +kernel, by decide +kernel, by decide +kernel⟩
set_option maxRecDepth 100000 in
theorem my_X7_off : MV yX7_off cX7_off 2 (some .int) 1 := ⟨tin 958 rfl rfl, tin 956 (by decide +kernel) rfl, tin 957 (by decide +kernel) rfl, tin 10 (by decide +kernel) rfl, by decide +kernel, by decide +kernel, by decide +kernel⟩
set_option maxRecDepth 100000 in
theorem my_X7_dies : MV yX7_dies cX7_dies 6 (some .int) 1 := ⟨tin 962 rfl rfl, tin 960 (by decide +kernel) rfl, tin 961 (by decide +kernel) rfl, tin 10 (by decide +kernel) rfl, by decide +kernel, by decide +kernel, by decide +kernel⟩
set_option maxRecDepth 100000 in
theorem my_X7_comesEvent : MV yX7_comesEvent cX7_comesEvent 7 none 6 := ⟨tin 974 rfl rfl, tin 973 (by decide +kernel) rfl, tsl 47 (by decide +kernel) rfl, tin 10 (by decide +kernel) rfl, by decide +kernel, by decide +kernel, by decide +kernel⟩
set_option maxRecDepth 100000 in
theorem my_X7_setEvents : MV yX7_setEvents cX7_setEvents 5 none 1 := ⟨tin 970 rfl rfl, tin 969 (by decide +kernel) rfl, tsl 46 (by decide +kernel) rfl, tin 10 (by decide +kernel) rfl, by decide +kernel, by decide +kernel, by decide +kernel⟩
set_option maxRecDepth 100000 in
theorem my_X7_event : MV yX7_event cX7_event 3 (some .int) 2 := ⟨tin 966 rfl rfl, tin 964 (by decide +kernel) rfl, tin 965 (by decide +kernel) rfl, tin 10 (by decide +kernel) rfl, by decide +kernel, by decide +kernel, by decide +kernel⟩
set_option maxRecDepth 100000 in
theorem my_X7_events : MV yX7_events cX7_events 1 (some .int) 0 := ⟨tin 978 rfl rfl, tin 976 (by decide +kernel) rfl, tin 977 (by decide +kernel) rfl, tin 10 (by decide +kernel) rfl, by decide +kernel, by decide +kernel, by decide +kernel⟩
set_option maxRecDepth 100000 in
theorem my_X7_mayShift : MV yX7_mayShift cX7_mayShift 3 (some .boolean) 2 := ⟨tin 991 rfl rfl, tin 990 (by decide +kernel) rfl, tsl 49 (by decide +kernel) rfl, tin 10 (by decide +kernel) rfl, by decide +kernel, by decide +kernel, by decide +kernel⟩
set_option maxRecDepth 100000 in
theorem my_X7_tries : MV yX7_tries cX7_tries 5 none 3 := ⟨tin 987 rfl rfl, tin 986 (by decide +kernel) rfl, tsl 48 (by decide +kernel) rfl, tin 10 (by decide +kernel) rfl, by decide +kernel, by decide +kernel, by decide +kernel⟩
set_option maxRecDepth 100000 in
theorem my_X7_shift : MV yX7_shift cX7_shift 5 (some .int) 1 := ⟨tin 982 rfl rfl, tin 980 (by decide +kernel) rfl, tin 981 (by decide +kernel) rfl, tin 10 (by decide +kernel) rfl, by decide +kernel, by decide +kernel, by decide +kernel⟩
set_option maxRecDepth 100000 in
theorem my_X7_comesWish : MV yX7_comesWish cX7_comesWish 4 none 3 := ⟨tin 1006 rfl rfl, tin 1005 (by decide +kernel) rfl, tsl 51 (by decide +kernel) rfl, tin 10 (by decide +kernel) rfl, by decide +kernel, by decide +kernel, by decide +kernel⟩
set_option maxRecDepth 100000 in
theorem my_X7_goesWish : MV yX7_goesWish cX7_goesWish 3 none 1 := ⟨tin 1014 rfl rfl, tin 1013 (by decide +kernel) rfl, tsl 52 (by decide +kernel) rfl, tin 10 (by decide +kernel) rfl, by decide +kernel, by decide +kernel, by decide +kernel⟩
set_option maxRecDepth 100000 in
theorem my_X7_wish : MV yX7_wish cX7_wish 4 (some .int) 3 := ⟨tin 998 rfl rfl, tin 996 (by decide +kernel) rfl, tin 997 (by decide +kernel) rfl, tin 10 (by decide +kernel) rfl, by decide +kernel, by decide +kernel, by decide +kernel⟩
set_option maxRecDepth 100000 in
theorem my_X7_unwish : MV yX7_unwish cX7_unwish 4 (some .int) 1 := ⟨tin 1010 rfl rfl, tin 1008 (by decide +kernel) rfl, tin 1009 (by decide +kernel) rfl, tin 10 (by decide +kernel) rfl, by decide +kernel, by decide +kernel, by decide +kernel⟩
set_option maxRecDepth 100000 in
theorem my_X7_wished : MV yX7_wished cX7_wished 3 (some .int) 2 := ⟨tin 1018 rfl rfl, tin 1016 (by decide +kernel) rfl, tin 1017 (by decide +kernel) rfl, tin 10 (by decide +kernel) rfl, by decide +kernel, by decide +kernel, by decide +kernel⟩
set_option maxRecDepth 100000 in
theorem my_X7_comesTrue : MV yX7_comesTrue cX7_comesTrue 2 none 0 := ⟨tin 1030 rfl rfl, tin 1029 (by decide +kernel) rfl, tsl 54 (by decide +kernel) rfl, tin 10 (by decide +kernel) rfl, by decide +kernel, by decide +kernel, by decide +kernel⟩
set_option maxRecDepth 100000 in
theorem my_X7_steers : MV yX7_steers cX7_steers 5 none 0 := ⟨tin 1034 rfl rfl, tin 1033 (by decide +kernel) rfl, tsl 55 (by decide +kernel) rfl, tin 10 (by decide +kernel) rfl, by decide +kernel, by decide +kernel, by decide +kernel⟩
set_option maxRecDepth 100000 in
theorem my_X7_goes : MV yX7_goes cX7_goes 4 (some .boolean) 0 := ⟨tin 1026 rfl rfl, tin 1025 (by decide +kernel) rfl, tsl 53 (by decide +kernel) rfl, tin 10 (by decide +kernel) rfl, by decide +kernel, by decide +kernel, by decide +kernel⟩
set_option maxRecDepth 100000 in
theorem my_X7_remembers : MV yX7_remembers cX7_remembers 3 none 1 := ⟨tin 1041 rfl rfl, tin 1040 (by decide +kernel) rfl, tsl 56 (by decide +kernel) rfl, tin 10 (by decide +kernel) rfl, by decide +kernel, by decide +kernel, by decide +kernel⟩
set_option maxRecDepth 100000 in
theorem my_X7_steps : MV yX7_steps cX7_steps 5 (some .int) 1 := ⟨tin 1022 rfl rfl, tin 1020 (by decide +kernel) rfl, tin 1021 (by decide +kernel) rfl, tin 10 (by decide +kernel) rfl, by decide +kernel, by decide +kernel, by decide +kernel⟩
set_option maxRecDepth 100000 in
theorem my_X7_lays : MV yX7_lays cX7_lays 2 none 0 := ⟨tin 1053 rfl rfl, tin 1052 (by decide +kernel) rfl, tsl 58 (by decide +kernel) rfl, tin 10 (by decide +kernel) rfl, by decide +kernel, by decide +kernel, by decide +kernel⟩
set_option maxRecDepth 100000 in
theorem my_X7_takes : MV yX7_takes cX7_takes 2 none 0 := ⟨tin 1061 rfl rfl, tin 1060 (by decide +kernel) rfl, tsl 60 (by decide +kernel) rfl, tin 10 (by decide +kernel) rfl, by decide +kernel, by decide +kernel, by decide +kernel⟩
set_option maxRecDepth 100000 in
theorem my_X7_isNear : MV yX7_isNear cX7_isNear 4 (some .boolean) 1 := ⟨tin 1057 rfl rfl, tin 1056 (by decide +kernel) rfl, tsl 59 (by decide +kernel) rfl, tin 10 (by decide +kernel) rfl, by decide +kernel, by decide +kernel, by decide +kernel⟩
set_option maxRecDepth 100000 in
theorem my_X7_settlesIn : MV yX7_settlesIn cX7_settlesIn 3 (some .int) 1 := ⟨tin 1049 rfl rfl, tin 1048 (by decide +kernel) rfl, tsl 57 (by decide +kernel) rfl, tin 10 (by decide +kernel) rfl, by decide +kernel, by decide +kernel, by decide +kernel⟩
set_option maxRecDepth 100000 in
theorem my_X7_settles : MV yX7_settles cX7_settles 2 (some .int) 1 := ⟨tin 1045 rfl rfl, tin 1043 (by decide +kernel) rfl, tin 1044 (by decide +kernel) rfl, tin 10 (by decide +kernel) rfl, by decide +kernel, by decide +kernel, by decide +kernel⟩
set_option maxRecDepth 100000 in
theorem my_X7_tunes : MV yX7_tunes cX7_tunes 7 (some .int) 1 := ⟨tin 1065 rfl rfl, tin 1063 (by decide +kernel) rfl, tin 1064 (by decide +kernel) rfl, tin 10 (by decide +kernel) rfl, by decide +kernel, by decide +kernel, by decide +kernel⟩
set_option maxRecDepth 100000 in
theorem my_X7_stateBy : MV yX7_stateBy cX7_stateBy 3 (some .int) 2 := ⟨tin 1073 rfl rfl, tin 1072 (by decide +kernel) rfl, tsl 61 (by decide +kernel) rfl, tin 10 (by decide +kernel) rfl, by decide +kernel, by decide +kernel, by decide +kernel⟩
set_option maxRecDepth 100000 in
theorem my_X7_state : MV yX7_state cX7_state 3 (some .int) 2 := ⟨tin 1069 rfl rfl, tin 1067 (by decide +kernel) rfl, tin 1068 (by decide +kernel) rfl, tin 10 (by decide +kernel) rfl, by decide +kernel, by decide +kernel, by decide +kernel⟩
set_option maxRecDepth 100000 in
theorem my_X7_memory : MV yX7_memory cX7_memory 3 (some .int) 2 := ⟨tin 1077 rfl rfl, tin 1075 (by decide +kernel) rfl, tin 1076 (by decide +kernel) rfl, tin 10 (by decide +kernel) rfl, by decide +kernel, by decide +kernel, by decide +kernel⟩
set_option maxRecDepth 100000 in
theorem my_X7_over : MV yX7_over cX7_over 6 (some .int) 2 := ⟨tin 1081 rfl rfl, tin 1079 (by decide +kernel) rfl, tin 1080 (by decide +kernel) rfl, tin 10 (by decide +kernel) rfl, by decide +kernel, by decide +kernel, by decide +kernel⟩
set_option maxRecDepth 100000 in
theorem my_X7_type : MV yX7_type cX7_type 2 (some .int) 1 := ⟨tin 1085 rfl rfl, tin 1083 (by decide +kernel) rfl, tin 1084 (by decide +kernel) rfl, tin 10 (by decide +kernel) rfl, by decide +kernel, by decide +kernel, by decide +kernel⟩
set_option maxRecDepth 100000 in
theorem my_X7_clear : MV yX7_clear cX7_clear 2 (some .int) 0 := ⟨tin 1089 rfl rfl, tin 1087 (by decide +kernel) rfl, tin 1088 (by decide +kernel) rfl, tin 10 (by decide +kernel) rfl, by decide +kernel, by decide +kernel, by decide +kernel⟩
set_option maxRecDepth 100000 in
theorem my_X7_here : MV yX7_here cX7_here 1 (some .int) 0 := ⟨tin 1105 rfl rfl, tin 1104 (by decide +kernel) rfl, tsl 64 (by decide +kernel) rfl, tin 10 (by decide +kernel) rfl, by decide +kernel, by decide +kernel, by decide +kernel⟩
set_option maxRecDepth 100000 in
theorem my_X7_skips : MV yX7_skips cX7_skips 1 none 0 := ⟨tin 1101 rfl rfl, tin 1100 (by decide +kernel) rfl, tsl 63 (by decide +kernel) rfl, tin 10 (by decide +kernel) rfl, by decide +kernel, by decide +kernel, by decide +kernel⟩
set_option maxRecDepth 100000 in
theorem my_X7_number : MV yX7_number cX7_number 4 (some .boolean) 1 := ⟨tin 1113 rfl rfl, tin 1112 (by decide +kernel) rfl, tsl 66 (by decide +kernel) rfl, tin 10 (by decide +kernel) rfl, by decide +kernel, by decide +kernel, by decide +kernel⟩
set_option maxRecDepth 100000 in
theorem my_X7_readsWish : MV yX7_readsWish cX7_readsWish 6 (some .boolean) 1 := ⟨tin 1109 rfl rfl, tin 1108 (by decide +kernel) rfl, tsl 65 (by decide +kernel) rfl, tin 10 (by decide +kernel) rfl, by decide +kernel, by decide +kernel, by decide +kernel⟩
set_option maxRecDepth 100000 in
theorem my_X7_goesThrough : MV yX7_goesThrough cX7_goesThrough 3 (some .int) 1 := ⟨tin 1097 rfl rfl, tin 1096 (by decide +kernel) rfl, tsl 62 (by decide +kernel) rfl, tin 10 (by decide +kernel) rfl, by decide +kernel, by decide +kernel, by decide +kernel⟩
set_option maxRecDepth 100000 in
theorem my_X7_reads : MV yX7_reads cX7_reads 2 (some .int) 0 := ⟨tin 1093 rfl rfl, tin 1091 (by decide +kernel) rfl, tin 1092 (by decide +kernel) rfl, tin 10 (by decide +kernel) rfl, by decide +kernel, by decide +kernel, by decide +kernel⟩
set_option maxRecDepth 100000 in
theorem my_X7_countBy : MV yX7_countBy cX7_countBy 2 (some .int) 1 := ⟨tin 1121 rfl rfl, tin 1120 (by decide +kernel) rfl, tsl 67 (by decide +kernel) rfl, tin 10 (by decide +kernel) rfl, by decide +kernel, by decide +kernel, by decide +kernel⟩
set_option maxRecDepth 100000 in
theorem my_X7_count : MV yX7_count cX7_count 2 (some .int) 1 := ⟨tin 1117 rfl rfl, tin 1115 (by decide +kernel) rfl, tin 1116 (by decide +kernel) rfl, tin 10 (by decide +kernel) rfl, by decide +kernel, by decide +kernel, by decide +kernel⟩
set_option maxRecDepth 100000 in
theorem my_X7_digest : MV yX7_digest cX7_digest 5 (some .long) 0 := ⟨tin 1125 rfl rfl, tin 1123 (by decide +kernel) rfl, tin 1124 (by decide +kernel) rfl, tin 10 (by decide +kernel) rfl, by decide +kernel, by decide +kernel, by decide +kernel⟩
set_option maxRecDepth 100000 in
theorem my_J6_bitCount_0f7a4 : MS yJ6_bitCount_0f7a4 cJ6_bitCount_0f7a4 1 (some .int) 1 := ⟨tin 421 rfl rfl, tin 420 (by decide +kernel) rfl, tin 11 (by decide +kernel) rfl, by decide +kernel, by decide +kernel, by decide +kernel⟩
theorem kl_X6_56 : Cond.methodLink RX6 56 yX6_within ∈ gT := tin 251 (by decide +kernel) rfl
theorem kl_X6_66 : Cond.methodLink RX6 66 yX6_refuseBad ∈ gT := tin 258 (by decide +kernel) rfl
theorem kl_X6_73 : Cond.methodLink RX6 73 yX6_isLeg ∈ gT := tin 266 (by decide +kernel) rfl
theorem kl_X6_87 : Cond.methodLink RX6 87 yX0_beginAnew ∈ gT := tin 273 (by decide +kernel) rfl
theorem kl_X6_90 : Cond.methodLink RX6 90 yX4_cutTo ∈ gT := tin 274 (by decide +kernel) rfl
theorem kl_X6_108 : Cond.methodLink RX6 108 yX6_planNow ∈ gT := tin 287 (by decide +kernel) rfl
theorem kl_X6_121 : Cond.methodLink RX6 121 yX6_runsNow ∈ gT := tin 318 (by decide +kernel) rfl
theorem kl_X6_125 : Cond.methodLink RX6 125 yX2_ticksOf ∈ gT := tin 344 (by decide +kernel) rfl
theorem kl_X6_141 : Cond.methodLink RX6 141 yX1_mean ∈ gT := tin 357 (by decide +kernel) rfl
theorem kl_X6_144 : Cond.methodLink RX6 144 yX1_upperTicks ∈ gT := tin 374 (by decide +kernel) rfl
theorem kl_X6_147 : Cond.methodLink RX6 147 yX1_lowerTicks ∈ gT := tin 375 (by decide +kernel) rfl
theorem kl_X6_150 : Cond.methodLink RX6 150 yX1_neitherTicks ∈ gT := tin 376 (by decide +kernel) rfl
theorem kl_X6_153 : Cond.methodLink RX6 153 yX1_timesUpperComesOn ∈ gT := tin 380 (by decide +kernel) rfl
theorem kl_X6_156 : Cond.methodLink RX6 156 yX1_isWanted ∈ gT := tin 388 (by decide +kernel) rfl
theorem kl_X6_160 : Cond.methodLink RX6 160 yX1_isOn ∈ gT := tin 392 (by decide +kernel) rfl
theorem kl_X6_163 : Cond.methodLink RX6 163 yX1_givesOne ∈ gT := tin 401 (by decide +kernel) rfl
theorem kl_X6_166 : Cond.methodLink RX6 166 yX4_cellOr ∈ gT := tin 410 (by decide +kernel) rfl
theorem kl_X6_173 : Cond.methodLink RX6 173 yX2_howManySeen ∈ gT := tin 415 (by decide +kernel) rfl
theorem kl_X6_176 : Cond.methodLink RX6 176 yX2_sees ∈ gT := tin 429 (by decide +kernel) rfl
theorem kl_X6_179 : Cond.methodLink RX6 179 yX6_currentByTheOthers ∈ gT := tin 433 (by decide +kernel) rfl
theorem kl_X6_188 : Cond.methodLink RX6 188 yX1_leastDeadWithoutUpper ∈ gT := tin 449 (by decide +kernel) rfl
theorem kl_X6_191 : Cond.methodLink RX6 191 yX6_eventsNow ∈ gT := tin 457 (by decide +kernel) rfl
theorem kl_X6_195 : Cond.methodLink RX6 195 yX3_search ∈ gT := tin 479 (by decide +kernel) rfl
theorem kl_X6_211 : Cond.methodLink RX6 211 yX4_isFull ∈ gT := tin 505 (by decide +kernel) rfl
theorem kl_X6_215 : Cond.methodLink RX6 215 yX6_refuseFull ∈ gT := tin 506 (by decide +kernel) rfl
theorem kl_X6_218 : Cond.methodLink RX6 218 yX4_add ∈ gT := tin 510 (by decide +kernel) rfl
theorem kl_X6_222 : Cond.methodLink RX6 222 yX0_dropWishesOf ∈ gT := tin 515 (by decide +kernel) rfl
theorem kl_X6_225 : Cond.methodLink RX6 225 yX0_stepOnce ∈ gT := tin 533 (by decide +kernel) rfl
theorem kl_X6_228 : Cond.methodLink RX6 228 yX6_remember ∈ gT := tin 559 (by decide +kernel) rfl
theorem kl_X6_231 : Cond.methodLink RX6 231 yX6_stepsToSettle ∈ gT := tin 573 (by decide +kernel) rfl
theorem kl_X6_240 : Cond.methodLink RX6 240 yX4_greatestOr ∈ gT := tin 607 (by decide +kernel) rfl
theorem kl_X6_244 : Cond.methodLink RX6 244 yX4_leastOr ∈ gT := tin 612 (by decide +kernel) rfl
theorem kl_X6_247 : Cond.methodLink RX6 247 yX4_totalOr ∈ gT := tin 617 (by decide +kernel) rfl
theorem kl_X6_253 : Cond.methodLink RX6 253 yX5_append ∈ gT := tin 625 (by decide +kernel) rfl
theorem kl_X6_256 : Cond.methodLink RX6 256 Lib.Math.min.name ∈ gT := tin 110 (by decide +kernel) rfl
theorem kl_X6_261 : Cond.methodLink RX6 261 yX5_faultOfWishes ∈ gT := tin 637 (by decide +kernel) rfl
theorem kl_X6_265 : Cond.methodLink RX6 265 yX4_addAll ∈ gT := tin 677 (by decide +kernel) rfl
theorem kl_X6_269 : Cond.methodLink RX6 269 yX6_counted ∈ gT := tin 682 (by decide +kernel) rfl
theorem kl_X6_276 : Cond.methodLink RX6 276 Lib.Math.max.name ∈ gT := tin 113 (by decide +kernel) rfl
theorem kl_X6_279 : Cond.methodLink RX6 279 yX0_makePlan ∈ gT := tin 291 (by decide +kernel) rfl
theorem kl_X6_286 : Cond.methodLink RX6 286 yX2_find ∈ gT := tin 322 (by decide +kernel) rfl
theorem kl_X6_290 : Cond.methodLink RX6 290 yX1_listEvents ∈ gT := tin 461 (by decide +kernel) rfl
theorem kl_X6_293 : Cond.methodLink RX6 293 yX4_dropFirst ∈ gT := tin 563 (by decide +kernel) rfl
theorem kl_X6_296 : Cond.methodLink RX6 296 yX0_becomeLike ∈ gT := tin 577 (by decide +kernel) rfl
theorem kl_X6_300 : Cond.methodLink RX6 300 yX0_isSettled ∈ gT := tin 586 (by decide +kernel) rfl
theorem kl_X6_303 : Cond.methodLink RX6 303 yX6_countedSetting ∈ gT := tin 686 (by decide +kernel) rfl
theorem kl_X0_43 : Cond.methodLink RX0 43 yX0_beginAnew ∈ gT := tin 94 (by decide +kernel) rfl
theorem kl_X0_49 : Cond.methodLink RX0 49 arraycopyName ∈ gT := tin 100 (by decide +kernel) rfl
theorem kl_X0_55 : Cond.methodLink RX0 55 yX4_cutTo ∈ gT := tin 103 (by decide +kernel) rfl
theorem kl_X0_62 : Cond.methodLink RX0 62 yX4_addAll ∈ gT := tin 581 (by decide +kernel) rfl
theorem kl_X0_66 : Cond.methodLink RX0 66 yX1_make ∈ gT := tin 295 (by decide +kernel) rfl
theorem kl_X0_70 : Cond.methodLink RX0 70 yX0_takeWishesThatHaveCome ∈ gT := tin 537 (by decide +kernel) rfl
theorem kl_X0_73 : Cond.methodLink RX0 73 yX0_steer ∈ gT := tin 546 (by decide +kernel) rfl
theorem kl_X0_76 : Cond.methodLink RX0 76 yX0_makePlan ∈ gT := tin 553 (by decide +kernel) rfl
theorem kl_X0_79 : Cond.methodLink RX0 79 yX0_moveCurrents ∈ gT := tin 554 (by decide +kernel) rfl
theorem kl_X0_89 : Cond.methodLink RX0 89 yX4_cellOr ∈ gT := tin 519 (by decide +kernel) rfl
theorem kl_X0_93 : Cond.methodLink RX0 93 yX4_moveRow ∈ gT := tin 520 (by decide +kernel) rfl
theorem kl_X0_97 : Cond.methodLink RX0 97 yX0_takeWant ∈ gT := tin 541 (by decide +kernel) rfl
theorem kl_X0_114 : Cond.methodLink RX0 114 yX1_mean ∈ gT := tin 558 (by decide +kernel) rfl
theorem kl_X0_118 : Cond.methodLink RX0 118 Lib.Math.abs.name ∈ gT := tin 590 (by decide +kernel) rfl
theorem kl_X1_48 : Cond.methodLink RX1 48 yX1_demandThatCounts ∈ gT := tin 305 (by decide +kernel) rfl
theorem kl_X1_56 : Cond.methodLink RX1 56 yX1_highWithDead ∈ gT := tin 310 (by decide +kernel) rfl
theorem kl_X1_60 : Cond.methodLink RX1 60 yX1_tickBehindBy ∈ gT := tin 396 (by decide +kernel) rfl
theorem kl_X1_63 : Cond.methodLink RX1 63 yX1_isWanted ∈ gT := tin 400 (by decide +kernel) rfl
theorem kl_X1_67 : Cond.methodLink RX1 67 yX1_isOn ∈ gT := tin 405 (by decide +kernel) rfl
theorem kl_X1_71 : Cond.methodLink RX1 71 Lib.Math.max.name ∈ gT := tin 369 (by decide +kernel) rfl
theorem kl_X1_76 : Cond.methodLink RX1 76 yX1_ticksOn ∈ gT := tin 365 (by decide +kernel) rfl
theorem kl_X1_79 : Cond.methodLink RX1 79 yX1_upperTicks ∈ gT := tin 370 (by decide +kernel) rfl
theorem kl_X1_82 : Cond.methodLink RX1 82 yX1_lowerTicks ∈ gT := tin 361 (by decide +kernel) rfl
theorem kl_X1_85 : Cond.methodLink RX1 85 yX4_cutTo ∈ gT := tin 465 (by decide +kernel) rfl
theorem kl_X1_91 : Cond.methodLink RX1 91 yX1_listEvent ∈ gT := tin 466 (by decide +kernel) rfl
theorem kl_X1_95 : Cond.methodLink RX1 95 yX4_add ∈ gT := tin 470 (by decide +kernel) rfl
theorem kl_X2_20 : Cond.methodLink RX2 20 yX4_cutTo ∈ gT := tin 326 (by decide +kernel) rfl
theorem kl_X2_27 : Cond.methodLink RX2 27 yX2_nextChange ∈ gT := tin 327 (by decide +kernel) rfl
theorem kl_X2_31 : Cond.methodLink RX2 31 yX2_patternAt ∈ gT := tin 331 (by decide +kernel) rfl
theorem kl_X2_39 : Cond.methodLink RX2 39 yX4_add ∈ gT := tin 336 (by decide +kernel) rfl
theorem kl_X2_43 : Cond.methodLink RX2 43 Lib.Math.min.name ∈ gT := tin 330 (by decide +kernel) rfl
theorem kl_X2_49 : Cond.methodLink RX2 49 yJ6_bitCount_0f7a4 ∈ gT := tin 419 (by decide +kernel) rfl
theorem kl_X2_58 : Cond.methodLink RX2 58 yX4_cellOr ∈ gT := tin 348 (by decide +kernel) rfl
theorem kl_X3_35 : Cond.methodLink RX3 35 yX3_searchAllOf ∈ gT := tin 483 (by decide +kernel) rfl
theorem kl_X3_39 : Cond.methodLink RX3 39 Lib.Math.abs.name ∈ gT := tin 487 (by decide +kernel) rfl
theorem kl_X3_49 : Cond.methodLink RX3 49 yX3_tryOne ∈ gT := tin 491 (by decide +kernel) rfl
theorem kl_X3_53 : Cond.methodLink RX3 53 yX3_mayMove ∈ gT := tin 495 (by decide +kernel) rfl
theorem kl_X3_68 : Cond.methodLink RX3 68 yX2_find ∈ gT := tin 498 (by decide +kernel) rfl
theorem kl_X3_72 : Cond.methodLink RX3 72 yX2_howManySeen ∈ gT := tin 499 (by decide +kernel) rfl
theorem kl_X3_76 : Cond.methodLink RX3 76 arraycopyName ∈ gT := tin 500 (by decide +kernel) rfl
theorem kl_X4_9 : Cond.methodLink RX4 9 Lib.Math.max.name ∈ gT := tin 32 (by decide +kernel) rfl
theorem kl_X4_28 : Cond.methodLink RX4 28 yX4_isFull ∈ gT := tin 340 (by decide +kernel) rfl
theorem kl_X4_32 : Cond.methodLink RX4 32 yX4_add ∈ gT := tin 585 (by decide +kernel) rfl
theorem kl_X4_40 : Cond.methodLink RX4 40 arraycopyName ∈ gT := tin 524 (by decide +kernel) rfl
theorem kl_X4_50 : Cond.methodLink RX4 50 yX4_moveRow ∈ gT := tin 567 (by decide +kernel) rfl
theorem kl_X4_54 : Cond.methodLink RX4 54 yX4_cutTo ∈ gT := tin 568 (by decide +kernel) rfl
theorem kl_X4_58 : Cond.methodLink RX4 58 yX4_cellOr ∈ gT := tin 611 (by decide +kernel) rfl
theorem kl_X4_61 : Cond.methodLink RX4 61 Lib.Math.min.name ∈ gT := tin 616 (by decide +kernel) rfl
theorem kl_X5_28 : Cond.methodLink RX5 28 yX4_cutTo ∈ gT := tin 641 (by decide +kernel) rfl
theorem kl_X5_37 : Cond.methodLink RX5 37 yX5_skipBlanks ∈ gT := tin 642 (by decide +kernel) rfl
theorem kl_X5_40 : Cond.methodLink RX5 40 yX5_readWish ∈ gT := tin 650 (by decide +kernel) rfl
theorem kl_X5_44 : Cond.methodLink RX5 44 yX5_byteHere ∈ gT := tin 646 (by decide +kernel) rfl
theorem kl_X5_55 : Cond.methodLink RX5 55 yX5_failAt ∈ gT := tin 655 (by decide +kernel) rfl
theorem kl_X5_58 : Cond.methodLink RX5 58 yX5_readWant ∈ gT := tin 659 (by decide +kernel) rfl
theorem kl_X5_61 : Cond.methodLink RX5 61 yX5_readPeriod ∈ gT := tin 668 (by decide +kernel) rfl
theorem kl_X5_65 : Cond.methodLink RX5 65 yX5_readEnd ∈ gT := tin 672 (by decide +kernel) rfl
theorem kl_X5_69 : Cond.methodLink RX5 69 yX4_add ∈ gT := tin 676 (by decide +kernel) rfl
theorem kl_X5_73 : Cond.methodLink RX5 73 yX5_readNumber ∈ gT := tin 663 (by decide +kernel) rfl
theorem kl_X7_73 : Cond.methodLink RX7 73 yX7_begins ∈ gT := tin 702 (by decide +kernel) rfl
theorem kl_X7_86 : Cond.methodLink RX7 86 yX7_in ∈ gT := tin 822 (by decide +kernel) rfl
theorem kl_X7_90 : Cond.methodLink RX7 90 yX7_may ∈ gT := tin 825 (by decide +kernel) rfl
theorem kl_X7_94 : Cond.methodLink RX7 94 yX7_bad ∈ gT := tin 828 (by decide +kernel) rfl
theorem kl_X7_98 : Cond.methodLink RX7 98 yX7_isLeg ∈ gT := tin 836 (by decide +kernel) rfl
theorem kl_X7_117 : Cond.methodLink RX7 117 yX7_setPlan ∈ gT := tin 855 (by decide +kernel) rfl
theorem kl_X7_123 : Cond.methodLink RX7 123 yX7_greatest ∈ gT := tin 859 (by decide +kernel) rfl
theorem kl_X7_127 : Cond.methodLink RX7 127 yX7_least ∈ gT := tin 862 (by decide +kernel) rfl
theorem kl_X7_134 : Cond.methodLink RX7 134 yX7_bound ∈ gT := tin 865 (by decide +kernel) rfl
theorem kl_X7_138 : Cond.methodLink RX7 138 yX7_wanted ∈ gT := tin 884 (by decide +kernel) rfl
theorem kl_X7_141 : Cond.methodLink RX7 141 yX7_wantedAhead ∈ gT := tin 908 (by decide +kernel) rfl
theorem kl_X7_144 : Cond.methodLink RX7 144 yX7_gives ∈ gT := tin 904 (by decide +kernel) rfl
theorem kl_X7_150 : Cond.methodLink RX7 150 yX7_patternAt ∈ gT := tin 880 (by decide +kernel) rfl
theorem kl_X7_154 : Cond.methodLink RX7 154 yX7_setRuns ∈ gT := tin 888 (by decide +kernel) rfl
theorem kl_X7_157 : Cond.methodLink RX7 157 yX7_tells ∈ gT := tin 932 (by decide +kernel) rfl
theorem kl_X7_160 : Cond.methodLink RX7 160 yX7_ticksOf ∈ gT := tin 876 (by decide +kernel) rfl
theorem kl_X7_163 : Cond.methodLink RX7 163 yX7_plansBy ∈ gT := tin 872 (by decide +kernel) rfl
theorem kl_X7_166 : Cond.methodLink RX7 166 yX7_upper ∈ gT := tin 916 (by decide +kernel) rfl
theorem kl_X7_169 : Cond.methodLink RX7 169 yX7_lower ∈ gT := tin 920 (by decide +kernel) rfl
theorem kl_X7_172 : Cond.methodLink RX7 172 yX7_meanOf ∈ gT := tin 900 (by decide +kernel) rfl
theorem kl_X7_175 : Cond.methodLink RX7 175 yX7_gateMany ∈ gT := tin 912 (by decide +kernel) rfl
theorem kl_X7_178 : Cond.methodLink RX7 178 yX7_ofBy ∈ gT := tin 896 (by decide +kernel) rfl
theorem kl_X7_181 : Cond.methodLink RX7 181 yX7_seenSet ∈ gT := tin 940 (by decide +kernel) rfl
theorem kl_X7_184 : Cond.methodLink RX7 184 yX7_bits ∈ gT := tin 944 (by decide +kernel) rfl
theorem kl_X7_202 : Cond.methodLink RX7 202 yX7_comesEvent ∈ gT := tin 971 (by decide +kernel) rfl
theorem kl_X7_206 : Cond.methodLink RX7 206 yX7_setEvents ∈ gT := tin 967 (by decide +kernel) rfl
theorem kl_X7_210 : Cond.methodLink RX7 210 yX7_mayShift ∈ gT := tin 988 (by decide +kernel) rfl
theorem kl_X7_213 : Cond.methodLink RX7 213 yX7_far ∈ gT := tin 992 (by decide +kernel) rfl
theorem kl_X7_217 : Cond.methodLink RX7 217 yX7_tries ∈ gT := tin 984 (by decide +kernel) rfl
theorem kl_X7_221 : Cond.methodLink RX7 221 yX7_full ∈ gT := tin 999 (by decide +kernel) rfl
theorem kl_X7_224 : Cond.methodLink RX7 224 yX7_comesWish ∈ gT := tin 1003 (by decide +kernel) rfl
theorem kl_X7_227 : Cond.methodLink RX7 227 yX7_goesWish ∈ gT := tin 1011 (by decide +kernel) rfl
theorem kl_X7_230 : Cond.methodLink RX7 230 yX7_within ∈ gT := tin 1035 (by decide +kernel) rfl
theorem kl_X7_233 : Cond.methodLink RX7 233 yX7_comesTrue ∈ gT := tin 1027 (by decide +kernel) rfl
theorem kl_X7_236 : Cond.methodLink RX7 236 yX7_steers ∈ gT := tin 1031 (by decide +kernel) rfl
theorem kl_X7_239 : Cond.methodLink RX7 239 yX7_goes ∈ gT := tin 1023 (by decide +kernel) rfl
theorem kl_X7_243 : Cond.methodLink RX7 243 yX7_remembers ∈ gT := tin 1038 (by decide +kernel) rfl
theorem kl_X7_247 : Cond.methodLink RX7 247 yX7_lays ∈ gT := tin 1050 (by decide +kernel) rfl
theorem kl_X7_250 : Cond.methodLink RX7 250 yX7_isNear ∈ gT := tin 1054 (by decide +kernel) rfl
theorem kl_X7_253 : Cond.methodLink RX7 253 yX7_takes ∈ gT := tin 1058 (by decide +kernel) rfl
theorem kl_X7_256 : Cond.methodLink RX7 256 yX7_settlesIn ∈ gT := tin 1046 (by decide +kernel) rfl
theorem kl_X7_259 : Cond.methodLink RX7 259 yX7_stateBy ∈ gT := tin 1070 (by decide +kernel) rfl
theorem kl_X7_268 : Cond.methodLink RX7 268 yX7_here ∈ gT := tin 1102 (by decide +kernel) rfl
theorem kl_X7_274 : Cond.methodLink RX7 274 yX7_skips ∈ gT := tin 1098 (by decide +kernel) rfl
theorem kl_X7_283 : Cond.methodLink RX7 283 yX7_number ∈ gT := tin 1110 (by decide +kernel) rfl
theorem kl_X7_286 : Cond.methodLink RX7 286 yX7_readsWish ∈ gT := tin 1106 (by decide +kernel) rfl
theorem kl_X7_290 : Cond.methodLink RX7 290 yX7_goesThrough ∈ gT := tin 1094 (by decide +kernel) rfl
theorem kl_X7_294 : Cond.methodLink RX7 294 yX7_countBy ∈ gT := tin 1118 (by decide +kernel) rfl
theorem st_max : Cond.static Lib.Math.max.name ∈ gT := tin 33 (by decide +kernel) rfl
theorem cd_max : Cond.code Lib.Math.max.name Lib.Math.max.code 2 (some .int) ∈ gT := tin 34 (by decide +kernel) rfl
theorem st_min : Cond.static Lib.Math.min.name ∈ gT := tin 111 (by decide +kernel) rfl
theorem cd_min : Cond.code Lib.Math.min.name Lib.Math.min.code 2 (some .int) ∈ gT := tin 112 (by decide +kernel) rfl
theorem st_abs : Cond.static Lib.Math.abs.name ∈ gT := tin 488 (by decide +kernel) rfl
theorem cd_abs : Cond.code Lib.Math.abs.name Lib.Math.abs.code 1 (some .int) ∈ gT := tin 489 (by decide +kernel) rfl
theorem st_arraycopy : Cond.static arraycopyName ∈ gT := tin 101 (by decide +kernel) rfl
theorem nat_arraycopy : Cond.native arraycopyName ∈ gT := tin 102 (by decide +kernel) rfl
theorem ini_Math : Cond.initialized "java/lang/Math" ∈ gT := tin 4 (by decide +kernel) rfl
theorem ini_System : Cond.initialized "java/lang/System" ∈ gT := tin 6 (by decide +kernel) rfl
theorem kc_X6_93 : Cond.constant RX6 93 999999 ∈ gT := tin 279 (by decide +kernel) rfl
theorem kc_X7_102 : Cond.constant RX7 102 999999 ∈ gT := tin 847 (by decide +kernel) rfl
theorem kc_X7_216 : Cond.constant RX7 216 268435456 ∈ gT := tin 983 (by decide +kernel) rfl
theorem kc_J6_265 : Cond.constant RJ6 265 1431655765 ∈ gT := tin 422 (by decide +kernel) rfl
theorem kc_J6_266 : Cond.constant RJ6 266 858993459 ∈ gT := tin 423 (by decide +kernel) rfl
theorem kc_J6_267 : Cond.constant RJ6 267 252645135 ∈ gT := tin 424 (by decide +kernel) rfl
theorem kc_X6_94 : Cond.constantLong RX6 94 1103515245 ∈ gT := tin 280 (by decide +kernel) rfl
theorem kc_X6_96 : Cond.constantLong RX6 96 12345 ∈ gT := tin 281 (by decide +kernel) rfl
theorem kc_X6_98 : Cond.constantLong RX6 98 2147483648 ∈ gT := tin 282 (by decide +kernel) rfl
theorem kc_X6_100 : Cond.constantLong RX6 100 65536 ∈ gT := tin 283 (by decide +kernel) rfl
theorem kc_X6_102 : Cond.constantLong RX6 102 201 ∈ gT := tin 284 (by decide +kernel) rfl
theorem kc_X6_104 : Cond.constantLong RX6 104 1024 ∈ gT := tin 285 (by decide +kernel) rfl
theorem kc_X6_106 : Cond.constantLong RX6 106 401 ∈ gT := tin 286 (by decide +kernel) rfl
theorem kc_X6_272 : Cond.constantLong RX6 272 2069 ∈ gT := tin 694 (by decide +kernel) rfl
theorem kc_X6_274 : Cond.constantLong RX6 274 31 ∈ gT := tin 695 (by decide +kernel) rfl
theorem kc_X7_103 : Cond.constantLong RX7 103 1103515245 ∈ gT := tin 848 (by decide +kernel) rfl
theorem kc_X7_105 : Cond.constantLong RX7 105 12345 ∈ gT := tin 849 (by decide +kernel) rfl
theorem kc_X7_107 : Cond.constantLong RX7 107 2147483648 ∈ gT := tin 850 (by decide +kernel) rfl
theorem kc_X7_109 : Cond.constantLong RX7 109 65536 ∈ gT := tin 851 (by decide +kernel) rfl
theorem kc_X7_111 : Cond.constantLong RX7 111 201 ∈ gT := tin 852 (by decide +kernel) rfl
theorem kc_X7_113 : Cond.constantLong RX7 113 1024 ∈ gT := tin 853 (by decide +kernel) rfl
theorem kc_X7_115 : Cond.constantLong RX7 115 401 ∈ gT := tin 854 (by decide +kernel) rfl
theorem kc_X7_297 : Cond.constantLong RX7 297 2069 ∈ gT := tin 1126 (by decide +kernel) rfl
theorem kc_X7_299 : Cond.constantLong RX7 299 31 ∈ gT := tin 1127 (by decide +kernel) rfl
theorem sf_X6_60 : Cond.fieldLink RX6 60 "DriveTicks" (snm 1) "[I" ∈ gT := tin 254 (by decide +kernel) rfl
theorem sf_X6_63 : Cond.fieldLink RX6 63 "DriveTicks" (snm 2) "[I" ∈ gT := tin 256 (by decide +kernel) rfl
end
section
/-! rows with names of their own for what is pushed -/
def ix (j : Int32) : Nat := j.toNatClampNeg
def irm (x y : Int32) : Int32 := x - x / y * y
def lrm (x y : Int64) : Int64 := x - x / y * y
def imax (x y : Int32) : Int32 := if x < y then y else x
def imin (x y : Int32) : Int32 := if y < x then y else x
def iabs (x : Int32) : Int32 := if 0 ≤ x then x else 0 - x
def ushr (x y : Int32) : Int32 := (x.toUInt32 >>> (y.toUInt32 &&& Int32.toUInt32 31)).toInt32
def mcp (w : Mem) (f : Nat → Int32) (sp a1 dp n : Nat) : Mem := fun j => if j = a1 then va_cpy f (w a1) sp dp n else w j
def cpok (sp dp n : Int32) (L0 L1 : Nat) : Bool := !(decide (sp < 0)) && (!(decide (dp < 0)) && (!(decide (n < 0)) && (decide (ix sp + ix n ≤ L0) && decide (ix dp + ix n ≤ L1))))
theorem cpok_spec {sp dp n : Int32} {L0 L1 : Nat} (h : cpok sp dp n L0 L1 = true) : ¬ sp < 0 ∧ ¬ dp < 0 ∧ ¬ n < 0 ∧ sp.toNatClampNeg + n.toNatClampNeg ≤ L0 ∧ dp.toNatClampNeg + n.toNatClampNeg ≤ L1 := by
  simp only [cpok, ix, Bool.and_eq_true, Bool.not_eq_true', decide_eq_false_iff_not] at h
  exact ⟨h.1, h.2.1, h.2.2.1, of_decide_eq_true h.2.2.2.1, of_decide_eq_true h.2.2.2.2⟩
section NR
variable {n : Nat} {sh : Nat → Shp} {D : va_G} {cA : ClassId} {ad : Nat → Nat} {A : Nat → Prop} {sa : Nat → Nat} {own : String} {mL : Nat} {rt : Option FieldType} {w : Mem}
variable {p : Program} {l : Launch} {e : Env} {R : Room} {s : State} {m : MethodId} {args : Array Value} {below : List Frame} {meth : Method} {c : Code} {H : Heap} {locs : List Loc} {Q : State → Prop} {cc : ByteArray} {pc : Nat} {ls : Array Slot} {rest : List Value}
theorem n_ald (G : Mx n D cA ad A sa p s m args meth c own cc mL rt) (hI : Iv n sh D cA ad A s.heap w H locs) {a L : Nat} {j : Int32} (ha : isAr n sh a L) (hj : inb j L = true) (hd : decode cc pc = .ok (.iaload, 1))
    (kk : W p l e R s m args below meth c H locs 0 0 Q (F0 m (pc + 1) ls (.int (w a (ix j)) :: rest))) : W p l e R s m args below meth c H locs 0 0 Q (F0 m pc ls (.int j :: .ref (ad a) :: rest)) := m_ald G hI ha.1 ha.2 (inb_in hj) hd kk
theorem n_ast (G : Mx n D cA ad A sa p s m args meth c own cc mL rt) (hI : Iv n sh D cA ad A s.heap w H locs) {a L : Nat} {j v : Int32} (ha : isAr n sh a L) (hj : inb j L = true) (hd : decode cc pc = .ok (.iastore, 1))
    (kk : ∀ (H1 : Heap) (locs1 : List Loc), Iv n sh D cA ad A s.heap (mst w a (ix j) v) H1 locs1 → W p l e R s m args below meth c H1 locs1 0 0 Q (F0 m (pc + 1) ls rest)) : W p l e R s m args below meth c H locs 0 0 Q (F0 m pc ls (.int v :: .int j :: .ref (ad a) :: rest)) := m_ast G hI ha.1 ha.2 (inb_in hj) hd kk
theorem n_sald (G : Mx n D cA ad A sa p s m args meth c own cc mL rt) (hI : Iv n sh D cA ad A s.heap w H locs) (k : Nat) (hk : k < 4) {j : Int32} (hj : inb j (sln k) = true) (hd : decode cc pc = .ok (.iaload, 1))
    (kk : W p l e R s m args below meth c H locs 0 0 Q (F0 m (pc + 1) ls (.int (sct k (ix j)) :: rest))) : W p l e R s m args below meth c H locs 0 0 Q (F0 m pc ls (.int j :: .ref (sa k) :: rest)) := m_sald G hI k hk (inb_in hj) hd kk
theorem n_idiv (G : Mx n D cA ad A sa p s m args meth c own cc mL rt) {x y : Int32} (hne : nz y = true) (hd : decode cc pc = .ok (.idiv, 1)) (kk : W p l e R s m args below meth c H locs 0 0 Q (F0 m (pc + 1) ls (.int (x / y) :: rest))) : W p l e R s m args below meth c H locs 0 0 Q (F0 m pc ls (.int y :: .int x :: rest)) := lv_idiv G.1 G.2.1 hd (nz_ne hne) kk
theorem n_irem (G : Mx n D cA ad A sa p s m args meth c own cc mL rt) {x y : Int32} (hne : nz y = true) (hd : decode cc pc = .ok (.irem, 1)) (kk : W p l e R s m args below meth c H locs 0 0 Q (F0 m (pc + 1) ls (.int (irm x y) :: rest))) : W p l e R s m args below meth c H locs 0 0 Q (F0 m pc ls (.int y :: .int x :: rest)) := lv_irem G.1 G.2.1 hd (nz_ne hne) kk
theorem n_ldiv (G : Mx n D cA ad A sa p s m args meth c own cc mL rt) {x y : Int64} (hne : nzl y = true) (hd : decode cc pc = .ok (.ldiv, 1)) (kk : W p l e R s m args below meth c H locs 0 0 Q (F0 m (pc + 1) ls (.long (x / y) :: rest))) : W p l e R s m args below meth c H locs 0 0 Q (F0 m pc ls (.long y :: .long x :: rest)) := lv_ldiv G.1 G.2.1 hd (nzl_ne hne) kk
theorem n_lrem (G : Mx n D cA ad A sa p s m args meth c own cc mL rt) {x y : Int64} (hne : nzl y = true) (hd : decode cc pc = .ok (.lrem, 1)) (kk : W p l e R s m args below meth c H locs 0 0 Q (F0 m (pc + 1) ls (.long (lrm x y) :: rest))) : W p l e R s m args below meth c H locs 0 0 Q (F0 m pc ls (.long y :: .long x :: rest)) := lv_lrem G.1 G.2.1 hd (nzl_ne hne) kk
theorem n_ushr (G : Mx n D cA ad A sa p s m args meth c own cc mL rt) {x y : Int32} (hd : decode cc pc = .ok (.iushr, 1)) (kk : W p l e R s m args below meth c H locs 0 0 Q (F0 m (pc + 1) ls (.int (ushr x y) :: rest))) : W p l e R s m args below meth c H locs 0 0 Q (F0 m pc ls (.int y :: .int x :: rest)) := lv_iushr G.1 G.2.1 hd rfl kk
theorem n_max (G : Mx n D cA ad A sa p s m args meth c own cc mL rt) {index : Nat} {x y : Int32} (hl : Cond.methodLink own index Lib.Math.max.name ∈ gT) (hf : 1 ≤ R.frames) (hlo : (rest.map fun v => v.category).sum + 13 ≤ R.locals) (hsz : ls.size = mL) (hd : decode cc pc = .ok (.invokestatic index, 3)) (kk : W p l e R s m args below meth c H locs 0 0 Q (F0 m (pc + 3) ls (.int (imax x y) :: rest))) : W p l e R s m args below meth c H locs 0 0 Q (F0 m pc ls (.int y :: .int x :: rest)) := by
  obtain ⟨hx, hb, -, hml, hown, hg, -⟩ := G
  exact va_mmax hx hb (hml.trans hsz.symm) hown (hg _ hl) (hg _ st_max) (hg _ ini_Math) (hg _ cd_max) hf hlo (Nat.zero_le _) (Nat.zero_le _) hd kk
theorem n_min (G : Mx n D cA ad A sa p s m args meth c own cc mL rt) {index : Nat} {x y : Int32} (hl : Cond.methodLink own index Lib.Math.min.name ∈ gT) (hf : 1 ≤ R.frames) (hlo : (rest.map fun v => v.category).sum + 13 ≤ R.locals) (hsz : ls.size = mL) (hd : decode cc pc = .ok (.invokestatic index, 3)) (kk : W p l e R s m args below meth c H locs 0 0 Q (F0 m (pc + 3) ls (.int (imin x y) :: rest))) : W p l e R s m args below meth c H locs 0 0 Q (F0 m pc ls (.int y :: .int x :: rest)) := by
  obtain ⟨hx, hb, -, hml, hown, hg, -⟩ := G
  exact va_mmin hx hb (hml.trans hsz.symm) hown (hg _ hl) (hg _ st_min) (hg _ ini_Math) (hg _ cd_min) hf hlo (Nat.zero_le _) (Nat.zero_le _) hd kk
theorem n_abs (G : Mx n D cA ad A sa p s m args meth c own cc mL rt) {index : Nat} {x : Int32} (hl : Cond.methodLink own index Lib.Math.abs.name ∈ gT) (hf : 1 ≤ R.frames) (hlo : (rest.map fun v => v.category).sum + 13 ≤ R.locals) (hsz : ls.size = mL) (hd : decode cc pc = .ok (.invokestatic index, 3)) (kk : W p l e R s m args below meth c H locs 0 0 Q (F0 m (pc + 3) ls (.int (iabs x) :: rest))) : W p l e R s m args below meth c H locs 0 0 Q (F0 m pc ls (.int x :: rest)) := by
  obtain ⟨hx, hb, -, hml, hown, hg, -⟩ := G
  exact va_mabs hx hb (hml.trans hsz.symm) hown (hg _ hl) (hg _ st_abs) (hg _ ini_Math) (hg _ cd_abs) hf hlo (Nat.zero_le _) (Nat.zero_le _) hd kk
theorem n_copy (G : Mx n D cA ad A sa p s m args meth c own cc mL rt) (hI : Iv n sh D cA ad A s.heap w H locs) {index a0 a1 L0 L1 : Nat} {sp dp nn : Int32} (ha0 : isAr n sh a0 L0) (ha1 : isAr n sh a1 L1) (hl : Cond.methodLink own index arraycopyName ∈ gT) (hok : cpok sp dp nn L0 L1 = true) (hf : 1 ≤ R.frames) (hlo : (rest.map fun v => v.category).sum + 18 ≤ R.locals) (hsz : ls.size = mL) (hd : decode cc pc = .ok (.invokestatic index, 3))
    (kk : ∀ (H1 : Heap) (locs1 : List Loc), Iv n sh D cA ad A s.heap (mcp w (w a0) (ix sp) a1 (ix dp) (ix nn)) H1 locs1 → W p l e R s m args below meth c H1 locs1 0 0 Q (F0 m (pc + 3) ls rest)) : W p l e R s m args below meth c H locs 0 0 Q (F0 m pc ls (.int nn :: .int dp :: .ref (ad a1) :: .int sp :: .ref (ad a0) :: rest)) := by
  obtain ⟨hx, hb, -, hml, hown, hg, -, hK, -, -, hA⟩ := G
  obtain ⟨h1, h2, h3, h4, h5⟩ := cpok_spec hok
  have e0 : (wsO n sh ad cA w)[a0]? = some (ad a0, .inl (cA, L0, .inl (w a0))) := by rw [wsO_get ha0.1]; simp only [cE, ha0.2]
  have e1 : (wsO n sh ad cA w)[a1]? = some (ad a1, .inl (cA, L1, .inl (w a1))) := by rw [wsO_get ha1.1]; simp only [cE, ha1.2]
  refine va_copyi hx hb (hml.trans hsz.symm) hown (hg _ hl) (hg _ nat_arraycopy) (hg _ st_arraycopy) (hg _ ini_System) hK hI.1 (hA.D sh cA w) hI.2 a0 a1 0 0 e0 e1 rfl rfl rfl h1 h2 h3 h4 h5 (fun i hi => rfl) hf hlo hd (fun H1 locs1 hP hD hS => ?_)
  refine kk H1 locs1 ⟨?_, hS⟩
  rw [wsO_up (w' := mcp w (w a0) (ix sp) a1 (ix dp) (ix nn)) ha1.1 (by simp only [cE, ha1.2, mcp, if_pos, ix]) (fun j hj => by simp [mcp, hj])] at hP
  exact hP
theorem n_copyS (G : Mx n D cA ad A sa p s m args meth c own cc mL rt) (hI : Iv n sh D cA ad A s.heap w H locs) (k : Nat) (hk : k < 4) {index a1 L1 : Nat} {sp dp nn : Int32} (ha1 : isAr n sh a1 L1) (hl : Cond.methodLink own index arraycopyName ∈ gT) (hok : cpok sp dp nn (sln k) L1 = true) (hf : 1 ≤ R.frames) (hlo : (rest.map fun v => v.category).sum + 18 ≤ R.locals) (hsz : ls.size = mL) (hd : decode cc pc = .ok (.invokestatic index, 3))
    (kk : ∀ (H1 : Heap) (locs1 : List Loc), Iv n sh D cA ad A s.heap (mcp w (sct k) (ix sp) a1 (ix dp) (ix nn)) H1 locs1 → W p l e R s m args below meth c H1 locs1 0 0 Q (F0 m (pc + 3) ls rest)) : W p l e R s m args below meth c H locs 0 0 Q (F0 m pc ls (.int nn :: .int dp :: .ref (ad a1) :: .int sp :: .ref (sa k) :: rest)) := by
  obtain ⟨hx, hb, -, hml, hown, hg, -, hK, -, hZ, hA⟩ := G
  obtain ⟨h1, h2, h3, h4, h5⟩ := cpok_spec hok
  obtain ⟨-, g2, g3, g4⟩ := hZ k hk
  have e1 : (wsO n sh ad cA w)[a1]? = some (ad a1, .inl (cA, L1, .inl (w a1))) := by rw [wsO_get ha1.1]; simp only [cE, ha1.2]
  refine va_copyx hx hb (hml.trans hsz.symm) hown (hg _ hl) (hg _ nat_arraycopy) (hg _ st_arraycopy) (hg _ ini_System) hK hI.1 (hA.D sh cA w) hI.2 g2 g3 g4 a1 0 e1 rfl h1 h2 h3 h4 h5 hf hlo hd (fun H1 locs1 hP hD hS => ?_)
  refine kk H1 locs1 ⟨?_, hS⟩
  rw [wsO_up (w' := mcp w (sct k) (ix sp) a1 (ix dp) (ix nn)) ha1.1 (by simp only [cE, ha1.2, mcp, if_pos, ix]) (fun j hj => by simp [mcp, hj])] at hP
  exact hP
variable {y : MethodName} {bytes : ByteArray} {mL' fr lo na index i ci : Nat} {rt' : Option FieldType} {As : List Value} {w1 : Mem} {fk : List (Option Nat)} {T : u_T} {N : Nat} {st0 : List Value}
theorem n_Vi {r : Int32} (G : Mx n D cA ad A sa p s m args meth c own cc mL rt) (hI : Iv n sh D cA ad A s.heap w H locs) (hM : Ctr l n sh D cA ad A sa y bytes mL' rt' fr lo (.ref (ad i) :: As) w (some (.int r)) w1) (my : MV y bytes mL' rt' na) (hl : Cond.methodLink own index y ∈ gT) (hi : i < n) (hs : sh i = .inr (ci, fk)) (hc : classes[ci]? = some (y.cls, T, N)) (hR : fr + 1 ≤ R.frames ∧ 8 + (mL' + 11) + lo ≤ R.locals) (hn : As.length = na) (hsz : ls.size = mL) (hst : st0 = As.reverse ++ .ref (ad i) :: rest) (hW : (rest.map fun v => v.category).sum ≤ 8) (hd : decode cc pc = .ok (.invokevirtual index, 3))
    (kk : ∀ (H1 : Heap) (locs1 : List Loc), Iv n sh D cA ad A s.heap w1 H1 locs1 → W p l e R s m args below meth c H1 locs1 0 0 Q (F0 m (pc + 3) ls (.int r :: rest))) : W p l e R s m args below meth c H locs 0 0 Q (F0 m pc ls st0) := m_callV G hI hM my hl hi hs hc hR hn hsz hst hW hd kk
theorem n_Vl {r : Int64} (G : Mx n D cA ad A sa p s m args meth c own cc mL rt) (hI : Iv n sh D cA ad A s.heap w H locs) (hM : Ctr l n sh D cA ad A sa y bytes mL' rt' fr lo (.ref (ad i) :: As) w (some (.long r)) w1) (my : MV y bytes mL' rt' na) (hl : Cond.methodLink own index y ∈ gT) (hi : i < n) (hs : sh i = .inr (ci, fk)) (hc : classes[ci]? = some (y.cls, T, N)) (hR : fr + 1 ≤ R.frames ∧ 8 + (mL' + 11) + lo ≤ R.locals) (hn : As.length = na) (hsz : ls.size = mL) (hst : st0 = As.reverse ++ .ref (ad i) :: rest) (hW : (rest.map fun v => v.category).sum ≤ 8) (hd : decode cc pc = .ok (.invokevirtual index, 3))
    (kk : ∀ (H1 : Heap) (locs1 : List Loc), Iv n sh D cA ad A s.heap w1 H1 locs1 → W p l e R s m args below meth c H1 locs1 0 0 Q (F0 m (pc + 3) ls (.long r :: rest))) : W p l e R s m args below meth c H locs 0 0 Q (F0 m pc ls st0) := m_callV G hI hM my hl hi hs hc hR hn hsz hst hW hd kk
theorem n_Vr {r : Nat} (G : Mx n D cA ad A sa p s m args meth c own cc mL rt) (hI : Iv n sh D cA ad A s.heap w H locs) (hM : Ctr l n sh D cA ad A sa y bytes mL' rt' fr lo (.ref (ad i) :: As) w (some (.ref r)) w1) (my : MV y bytes mL' rt' na) (hl : Cond.methodLink own index y ∈ gT) (hi : i < n) (hs : sh i = .inr (ci, fk)) (hc : classes[ci]? = some (y.cls, T, N)) (hR : fr + 1 ≤ R.frames ∧ 8 + (mL' + 11) + lo ≤ R.locals) (hn : As.length = na) (hsz : ls.size = mL) (hst : st0 = As.reverse ++ .ref (ad i) :: rest) (hW : (rest.map fun v => v.category).sum ≤ 8) (hd : decode cc pc = .ok (.invokevirtual index, 3))
    (kk : ∀ (H1 : Heap) (locs1 : List Loc), Iv n sh D cA ad A s.heap w1 H1 locs1 → W p l e R s m args below meth c H1 locs1 0 0 Q (F0 m (pc + 3) ls (.ref r :: rest))) : W p l e R s m args below meth c H locs 0 0 Q (F0 m pc ls st0) := m_callV G hI hM my hl hi hs hc hR hn hsz hst hW hd kk
theorem n_Vv (G : Mx n D cA ad A sa p s m args meth c own cc mL rt) (hI : Iv n sh D cA ad A s.heap w H locs) (hM : Ctr l n sh D cA ad A sa y bytes mL' rt' fr lo (.ref (ad i) :: As) w none w1) (my : MV y bytes mL' rt' na) (hl : Cond.methodLink own index y ∈ gT) (hi : i < n) (hs : sh i = .inr (ci, fk)) (hc : classes[ci]? = some (y.cls, T, N)) (hR : fr + 1 ≤ R.frames ∧ 8 + (mL' + 11) + lo ≤ R.locals) (hn : As.length = na) (hsz : ls.size = mL) (hst : st0 = As.reverse ++ .ref (ad i) :: rest) (hW : (rest.map fun v => v.category).sum ≤ 8) (hd : decode cc pc = .ok (.invokevirtual index, 3))
    (kk : ∀ (H1 : Heap) (locs1 : List Loc), Iv n sh D cA ad A s.heap w1 H1 locs1 → W p l e R s m args below meth c H1 locs1 0 0 Q (F0 m (pc + 3) ls rest)) : W p l e R s m args below meth c H locs 0 0 Q (F0 m pc ls st0) := m_callV G hI hM my hl hi hs hc hR hn hsz hst hW hd kk
theorem n_Si {r : Int32} (G : Mx n D cA ad A sa p s m args meth c own cc mL rt) (hI : Iv n sh D cA ad A s.heap w H locs) (hM : Ctr l n sh D cA ad A sa y bytes mL' rt' fr lo As w (some (.int r)) w1) (my : MS y bytes mL' rt' na) (hl : Cond.methodLink own index y ∈ gT) (hR : fr + 1 ≤ R.frames ∧ 8 + (mL' + 11) + lo ≤ R.locals) (hn : As.length = na) (hsz : ls.size = mL) (hst : st0 = As.reverse ++ rest) (hW : (rest.map fun v => v.category).sum ≤ 8) (hd : decode cc pc = .ok (.invokestatic index, 3))
    (kk : ∀ (H1 : Heap) (locs1 : List Loc), Iv n sh D cA ad A s.heap w1 H1 locs1 → W p l e R s m args below meth c H1 locs1 0 0 Q (F0 m (pc + 3) ls (.int r :: rest))) : W p l e R s m args below meth c H locs 0 0 Q (F0 m pc ls st0) := m_callS G hI hM my hl hR hn hsz hst hW hd kk
theorem n_SNi {r : Int32} (G : Mx n D cA ad A sa p s m args meth c own cc mL rt) (hI : Iv n sh D cA ad A s.heap w H locs) (hM : Ctr l n sh D cA ad A sa y bytes mL' rt' fr lo As w (some (.int r)) w1) (my : MS y bytes mL' rt' na) {host : String} (hl : (own, index, y, host) ∈ NM) (hR : fr + 1 ≤ R.frames ∧ 8 + (mL' + 11) + lo ≤ R.locals) (hn : As.length = na) (hsz : ls.size = mL) (hst : st0 = As.reverse ++ rest) (hW : (rest.map fun v => v.category).sum ≤ 8) (hd : decode cc pc = .ok (.invokestatic index, 3))
    (kk : ∀ (H1 : Heap) (locs1 : List Loc), Iv n sh D cA ad A s.heap w1 H1 locs1 → W p l e R s m args below meth c H1 locs1 0 0 Q (F0 m (pc + 3) ls (.int r :: rest))) : W p l e R s m args below meth c H locs 0 0 Q (F0 m pc ls st0) := m_callSN G hI hM my hl hR hn hsz hst hW hd kk
end NR
end
