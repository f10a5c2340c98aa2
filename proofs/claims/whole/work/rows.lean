section
/-- a private method of a class that the tables say can be made, by its rows of tables_1 -/
def lw_okq (q : MethodName × Nat) : Prop := (q.1.cls ≠ "java/lang/invoke/MethodHandle" ∧ q.1.cls ≠ "java/lang/invoke/VarHandle") ∧ Cond.instantiable q.1.cls q.2 ∈ tables_1 ∧ Cond.privateMethod q.1 ∈ tables_1 ∧ Cond.instanceMethod q.1 ∈ tables_1
theorem lw_p0 : lw_okq (⟨"GangMatrix", "wentOn", "(Z)Z"⟩, 5) := ⟨⟨by decide +kernel, by decide +kernel⟩, List.mem_of_getElem? (i := 16) (by decide +kernel), List.mem_of_getElem? (i := 295) (by decide +kernel), List.mem_of_getElem? (i := 296) (by decide +kernel)⟩
theorem lw_p1 : lw_okq (⟨"GangMatrix$Board", "tryPlace", "(II)Z"⟩, 14) := ⟨⟨by decide +kernel, by decide +kernel⟩, List.mem_of_getElem? (i := 24) (by decide +kernel), List.mem_of_getElem? (i := 314) (by decide +kernel), List.mem_of_getElem? (i := 315) (by decide +kernel)⟩
theorem lw_p2 : lw_okq (⟨"GangMatrix$Board", "canStand", "(I)Z"⟩, 14) := ⟨⟨by decide +kernel, by decide +kernel⟩, List.mem_of_getElem? (i := 24) (by decide +kernel), List.mem_of_getElem? (i := 322) (by decide +kernel), List.mem_of_getElem? (i := 323) (by decide +kernel)⟩
theorem lw_p3 : lw_okq (⟨"GangMatrix$Board", "rankedStart", "(II)I"⟩, 14) := ⟨⟨by decide +kernel, by decide +kernel⟩, List.mem_of_getElem? (i := 24) (by decide +kernel), List.mem_of_getElem? (i := 350) (by decide +kernel), List.mem_of_getElem? (i := 351) (by decide +kernel)⟩
theorem lw_p4 : lw_okq (⟨"GangMatrix$Board", "roomOf", "(III)I"⟩, 14) := ⟨⟨by decide +kernel, by decide +kernel⟩, List.mem_of_getElem? (i := 24) (by decide +kernel), List.mem_of_getElem? (i := 363) (by decide +kernel), List.mem_of_getElem? (i := 364) (by decide +kernel)⟩
theorem lw_p5 : lw_okq (⟨"GangMatrix$Board", "loadRank", "(II)I"⟩, 14) := ⟨⟨by decide +kernel, by decide +kernel⟩, List.mem_of_getElem? (i := 24) (by decide +kernel), List.mem_of_getElem? (i := 367) (by decide +kernel), List.mem_of_getElem? (i := 368) (by decide +kernel)⟩
theorem lw_p6 : lw_okq (⟨"GangMatrix$Board", "end", "(I)V"⟩, 14) := ⟨⟨by decide +kernel, by decide +kernel⟩, List.mem_of_getElem? (i := 24) (by decide +kernel), List.mem_of_getElem? (i := 486) (by decide +kernel), List.mem_of_getElem? (i := 487) (by decide +kernel)⟩
theorem lw_p7 : lw_okq (⟨"GangMatrix$Board", "dropSlot", "(I)V"⟩, 14) := ⟨⟨by decide +kernel, by decide +kernel⟩, List.mem_of_getElem? (i := 24) (by decide +kernel), List.mem_of_getElem? (i := 498) (by decide +kernel), List.mem_of_getElem? (i := 499) (by decide +kernel)⟩
theorem lw_p8 : lw_okq (⟨"GangMatrix$Board", "nextHeldBy", "(II)I"⟩, 14) := ⟨⟨by decide +kernel, by decide +kernel⟩, List.mem_of_getElem? (i := 24) (by decide +kernel), List.mem_of_getElem? (i := 506) (by decide +kernel), List.mem_of_getElem? (i := 507) (by decide +kernel)⟩
theorem lw_p9 : lw_okq (⟨"GangMatrix$Board", "bringArrivals", "()V"⟩, 14) := ⟨⟨by decide +kernel, by decide +kernel⟩, List.mem_of_getElem? (i := 24) (by decide +kernel), List.mem_of_getElem? (i := 518) (by decide +kernel), List.mem_of_getElem? (i := 519) (by decide +kernel)⟩
theorem lw_p10 : lw_okq (⟨"GangMatrix$Board", "takeTurn", "(I)V"⟩, 14) := ⟨⟨by decide +kernel, by decide +kernel⟩, List.mem_of_getElem? (i := 24) (by decide +kernel), List.mem_of_getElem? (i := 553) (by decide +kernel), List.mem_of_getElem? (i := 554) (by decide +kernel)⟩
theorem lw_p11 : lw_okq (⟨"GangMatrix$Crew", "sort", "(LGangMatrix$Jobs;II)V"⟩, 6) := ⟨⟨by decide +kernel, by decide +kernel⟩, List.mem_of_getElem? (i := 146) (by decide +kernel), List.mem_of_getElem? (i := 571) (by decide +kernel), List.mem_of_getElem? (i := 572) (by decide +kernel)⟩
theorem lw_p12 : lw_okq (⟨"GangMatrix$Crew", "lendTo", "(LGangMatrix$Jobs;LGangMatrix$Users;I)V"⟩, 6) := ⟨⟨by decide +kernel, by decide +kernel⟩, List.mem_of_getElem? (i := 146) (by decide +kernel), List.mem_of_getElem? (i := 580) (by decide +kernel), List.mem_of_getElem? (i := 581) (by decide +kernel)⟩
theorem lw_p13 : lw_okq (⟨"GangMatrix$Board", "run", "(II)V"⟩, 14) := ⟨⟨by decide +kernel, by decide +kernel⟩, List.mem_of_getElem? (i := 24) (by decide +kernel), List.mem_of_getElem? (i := 588) (by decide +kernel), List.mem_of_getElem? (i := 589) (by decide +kernel)⟩
theorem lw_p14 : lw_okq (⟨"GangMatrix$Board", "restStopped", "()V"⟩, 14) := ⟨⟨by decide +kernel, by decide +kernel⟩, List.mem_of_getElem? (i := 24) (by decide +kernel), List.mem_of_getElem? (i := 592) (by decide +kernel), List.mem_of_getElem? (i := 593) (by decide +kernel)⟩
theorem lw_p15 : lw_okq (⟨"GangMatrix$Board", "countColumns", "(I)V"⟩, 14) := ⟨⟨by decide +kernel, by decide +kernel⟩, List.mem_of_getElem? (i := 24) (by decide +kernel), List.mem_of_getElem? (i := 597) (by decide +kernel), List.mem_of_getElem? (i := 598) (by decide +kernel)⟩
def lw_privs_1 : List (MethodName × Nat) := [(⟨"GangMatrix", "wentOn", "(Z)Z"⟩, 5), (⟨"GangMatrix$Board", "tryPlace", "(II)Z"⟩, 14), (⟨"GangMatrix$Board", "canStand", "(I)Z"⟩, 14), (⟨"GangMatrix$Board", "rankedStart", "(II)I"⟩, 14), (⟨"GangMatrix$Board", "roomOf", "(III)I"⟩, 14), (⟨"GangMatrix$Board", "loadRank", "(II)I"⟩, 14), (⟨"GangMatrix$Board", "end", "(I)V"⟩, 14), (⟨"GangMatrix$Board", "dropSlot", "(I)V"⟩, 14), (⟨"GangMatrix$Board", "nextHeldBy", "(II)I"⟩, 14), (⟨"GangMatrix$Board", "bringArrivals", "()V"⟩, 14), (⟨"GangMatrix$Board", "takeTurn", "(I)V"⟩, 14), (⟨"GangMatrix$Crew", "sort", "(LGangMatrix$Jobs;II)V"⟩, 6), (⟨"GangMatrix$Crew", "lendTo", "(LGangMatrix$Jobs;LGangMatrix$Users;I)V"⟩, 6), (⟨"GangMatrix$Board", "run", "(II)V"⟩, 14), (⟨"GangMatrix$Board", "restStopped", "()V"⟩, 14), (⟨"GangMatrix$Board", "countColumns", "(I)V"⟩, 14)]
theorem lw_r1 : ∀ q ∈ lw_privs_1, lw_okq q := List.forall_mem_cons.mpr ⟨lw_p0, List.forall_mem_cons.mpr ⟨lw_p1, List.forall_mem_cons.mpr ⟨lw_p2, List.forall_mem_cons.mpr ⟨lw_p3, List.forall_mem_cons.mpr ⟨lw_p4, List.forall_mem_cons.mpr ⟨lw_p5, List.forall_mem_cons.mpr ⟨lw_p6, List.forall_mem_cons.mpr ⟨lw_p7, List.forall_mem_cons.mpr ⟨lw_p8, List.forall_mem_cons.mpr ⟨lw_p9, List.forall_mem_cons.mpr ⟨lw_p10, List.forall_mem_cons.mpr ⟨lw_p11, List.forall_mem_cons.mpr ⟨lw_p12, List.forall_mem_cons.mpr ⟨lw_p13, List.forall_mem_cons.mpr ⟨lw_p14, List.forall_mem_cons.mpr ⟨lw_p15, fun _ h => absurd h List.not_mem_nil⟩⟩⟩⟩⟩⟩⟩⟩⟩⟩⟩⟩⟩⟩⟩⟩
theorem lw_p16 : lw_okq (⟨"GangMatrix$Board", "endJobs", "()I"⟩, 14) := ⟨⟨by decide +kernel, by decide +kernel⟩, List.mem_of_getElem? (i := 24) (by decide +kernel), List.mem_of_getElem? (i := 607) (by decide +kernel), List.mem_of_getElem? (i := 608) (by decide +kernel)⟩
theorem lw_p17 : lw_okq (⟨"GangMatrix$Board", "wakeHeld", "()V"⟩, 14) := ⟨⟨by decide +kernel, by decide +kernel⟩, List.mem_of_getElem? (i := 24) (by decide +kernel), List.mem_of_getElem? (i := 611) (by decide +kernel), List.mem_of_getElem? (i := 612) (by decide +kernel)⟩
theorem lw_p18 : lw_okq (⟨"GangMatrix$Board", "isOver", "(I)Z"⟩, 14) := ⟨⟨by decide +kernel, by decide +kernel⟩, List.mem_of_getElem? (i := 24) (by decide +kernel), List.mem_of_getElem? (i := 615) (by decide +kernel), List.mem_of_getElem? (i := 616) (by decide +kernel)⟩
theorem lw_p19 : lw_okq (⟨"GangMatrix$Board", "unifyFirst", "()Z"⟩, 14) := ⟨⟨by decide +kernel, by decide +kernel⟩, List.mem_of_getElem? (i := 24) (by decide +kernel), List.mem_of_getElem? (i := 624) (by decide +kernel), List.mem_of_getElem? (i := 625) (by decide +kernel)⟩
theorem lw_p20 : lw_okq (⟨"GangMatrix$Board", "unite", "(II)V"⟩, 14) := ⟨⟨by decide +kernel, by decide +kernel⟩, List.mem_of_getElem? (i := 24) (by decide +kernel), List.mem_of_getElem? (i := 628) (by decide +kernel), List.mem_of_getElem? (i := 629) (by decide +kernel)⟩
theorem lw_p21 : lw_okq (⟨"GangMatrix$Board", "sortForRepack", "()I"⟩, 14) := ⟨⟨by decide +kernel, by decide +kernel⟩, List.mem_of_getElem? (i := 24) (by decide +kernel), List.mem_of_getElem? (i := 685) (by decide +kernel), List.mem_of_getElem? (i := 686) (by decide +kernel)⟩
theorem lw_p22 : lw_okq (⟨"GangMatrix$Plans", "isUp", "(II)Z"⟩, 7) := ⟨⟨by decide +kernel, by decide +kernel⟩, List.mem_of_getElem? (i := 236) (by decide +kernel), List.mem_of_getElem? (i := 711) (by decide +kernel), List.mem_of_getElem? (i := 712) (by decide +kernel)⟩
theorem lw_p23 : lw_okq (⟨"GangMatrix$Plans", "hasRoom", "(II)Z"⟩, 7) := ⟨⟨by decide +kernel, by decide +kernel⟩, List.mem_of_getElem? (i := 236) (by decide +kernel), List.mem_of_getElem? (i := 716) (by decide +kernel), List.mem_of_getElem? (i := 717) (by decide +kernel)⟩
theorem lw_p24 : lw_okq (⟨"GangMatrix$Plans", "stop", "(I)V"⟩, 7) := ⟨⟨by decide +kernel, by decide +kernel⟩, List.mem_of_getElem? (i := 236) (by decide +kernel), List.mem_of_getElem? (i := 725) (by decide +kernel), List.mem_of_getElem? (i := 726) (by decide +kernel)⟩
theorem lw_p25 : lw_okq (⟨"GangMatrix$Plans", "stopOf", "(I)I"⟩, 7) := ⟨⟨by decide +kernel, by decide +kernel⟩, List.mem_of_getElem? (i := 236) (by decide +kernel), List.mem_of_getElem? (i := 729) (by decide +kernel), List.mem_of_getElem? (i := 730) (by decide +kernel)⟩
theorem lw_p26 : lw_okq (⟨"GangMatrix$Plans", "bestColumn", "(I)I"⟩, 7) := ⟨⟨by decide +kernel, by decide +kernel⟩, List.mem_of_getElem? (i := 236) (by decide +kernel), List.mem_of_getElem? (i := 742) (by decide +kernel), List.mem_of_getElem? (i := 743) (by decide +kernel)⟩
theorem lw_p27 : lw_okq (⟨"GangMatrix$Plans", "addLoad", "(III)V"⟩, 7) := ⟨⟨by decide +kernel, by decide +kernel⟩, List.mem_of_getElem? (i := 236) (by decide +kernel), List.mem_of_getElem? (i := 747) (by decide +kernel), List.mem_of_getElem? (i := 748) (by decide +kernel)⟩
theorem lw_p28 : lw_okq (⟨"GangMatrix$Plans", "greatestLoad", "(II)I"⟩, 7) := ⟨⟨by decide +kernel, by decide +kernel⟩, List.mem_of_getElem? (i := 236) (by decide +kernel), List.mem_of_getElem? (i := 755) (by decide +kernel), List.mem_of_getElem? (i := 756) (by decide +kernel)⟩
theorem lw_p29 : lw_okq (⟨"GangMatrix$Plans", "gain", "()I"⟩, 7) := ⟨⟨by decide +kernel, by decide +kernel⟩, List.mem_of_getElem? (i := 236) (by decide +kernel), List.mem_of_getElem? (i := 759) (by decide +kernel), List.mem_of_getElem? (i := 760) (by decide +kernel)⟩
theorem lw_p30 : lw_okq (⟨"GangMatrix$Plans", "costOf", "(I)I"⟩, 7) := ⟨⟨by decide +kernel, by decide +kernel⟩, List.mem_of_getElem? (i := 236) (by decide +kernel), List.mem_of_getElem? (i := 776) (by decide +kernel), List.mem_of_getElem? (i := 777) (by decide +kernel)⟩
theorem lw_p31 : lw_okq (⟨"GangMatrix$Plans", "layAnew", "()V"⟩, 7) := ⟨⟨by decide +kernel, by decide +kernel⟩, List.mem_of_getElem? (i := 236) (by decide +kernel), List.mem_of_getElem? (i := 799) (by decide +kernel), List.mem_of_getElem? (i := 800) (by decide +kernel)⟩
def lw_privs_2 : List (MethodName × Nat) := [(⟨"GangMatrix$Board", "endJobs", "()I"⟩, 14), (⟨"GangMatrix$Board", "wakeHeld", "()V"⟩, 14), (⟨"GangMatrix$Board", "isOver", "(I)Z"⟩, 14), (⟨"GangMatrix$Board", "unifyFirst", "()Z"⟩, 14), (⟨"GangMatrix$Board", "unite", "(II)V"⟩, 14), (⟨"GangMatrix$Board", "sortForRepack", "()I"⟩, 14), (⟨"GangMatrix$Plans", "isUp", "(II)Z"⟩, 7), (⟨"GangMatrix$Plans", "hasRoom", "(II)Z"⟩, 7), (⟨"GangMatrix$Plans", "stop", "(I)V"⟩, 7), (⟨"GangMatrix$Plans", "stopOf", "(I)I"⟩, 7), (⟨"GangMatrix$Plans", "bestColumn", "(I)I"⟩, 7), (⟨"GangMatrix$Plans", "addLoad", "(III)V"⟩, 7), (⟨"GangMatrix$Plans", "greatestLoad", "(II)I"⟩, 7), (⟨"GangMatrix$Plans", "gain", "()I"⟩, 7), (⟨"GangMatrix$Plans", "costOf", "(I)I"⟩, 7), (⟨"GangMatrix$Plans", "layAnew", "()V"⟩, 7)]
theorem lw_r2 : ∀ q ∈ lw_privs_2, lw_okq q := List.forall_mem_cons.mpr ⟨lw_p16, List.forall_mem_cons.mpr ⟨lw_p17, List.forall_mem_cons.mpr ⟨lw_p18, List.forall_mem_cons.mpr ⟨lw_p19, List.forall_mem_cons.mpr ⟨lw_p20, List.forall_mem_cons.mpr ⟨lw_p21, List.forall_mem_cons.mpr ⟨lw_p22, List.forall_mem_cons.mpr ⟨lw_p23, List.forall_mem_cons.mpr ⟨lw_p24, List.forall_mem_cons.mpr ⟨lw_p25, List.forall_mem_cons.mpr ⟨lw_p26, List.forall_mem_cons.mpr ⟨lw_p27, List.forall_mem_cons.mpr ⟨lw_p28, List.forall_mem_cons.mpr ⟨lw_p29, List.forall_mem_cons.mpr ⟨lw_p30, List.forall_mem_cons.mpr ⟨lw_p31, fun _ h => absurd h List.not_mem_nil⟩⟩⟩⟩⟩⟩⟩⟩⟩⟩⟩⟩⟩⟩⟩⟩
theorem lw_p32 : lw_okq (⟨"GangMatrix$Plans", "sortByWidth", "()I"⟩, 7) := ⟨⟨by decide +kernel, by decide +kernel⟩, List.mem_of_getElem? (i := 236) (by decide +kernel), List.mem_of_getElem? (i := 803) (by decide +kernel), List.mem_of_getElem? (i := 804) (by decide +kernel)⟩
theorem lw_p33 : lw_okq (⟨"GangMatrix$Plans", "layColumn", "(I)I"⟩, 7) := ⟨⟨by decide +kernel, by decide +kernel⟩, List.mem_of_getElem? (i := 236) (by decide +kernel), List.mem_of_getElem? (i := 809) (by decide +kernel), List.mem_of_getElem? (i := 810) (by decide +kernel)⟩
theorem lw_p34 : lw_okq (⟨"GangMatrix$Plans", "laidElsewhere", "()I"⟩, 7) := ⟨⟨by decide +kernel, by decide +kernel⟩, List.mem_of_getElem? (i := 236) (by decide +kernel), List.mem_of_getElem? (i := 813) (by decide +kernel), List.mem_of_getElem? (i := 814) (by decide +kernel)⟩
theorem lw_p35 : lw_okq (⟨"GangMatrix$Plans", "isLaidElsewhere", "(I)Z"⟩, 7) := ⟨⟨by decide +kernel, by decide +kernel⟩, List.mem_of_getElem? (i := 236) (by decide +kernel), List.mem_of_getElem? (i := 817) (by decide +kernel), List.mem_of_getElem? (i := 818) (by decide +kernel)⟩
theorem lw_p36 : lw_okq (⟨"GangMatrix$Plans", "layingCost", "()I"⟩, 7) := ⟨⟨by decide +kernel, by decide +kernel⟩, List.mem_of_getElem? (i := 236) (by decide +kernel), List.mem_of_getElem? (i := 821) (by decide +kernel), List.mem_of_getElem? (i := 822) (by decide +kernel)⟩
theorem lw_p37 : lw_okq (⟨"GangMatrix$Plans", "urgeSpot", "(I)I"⟩, 7) := ⟨⟨by decide +kernel, by decide +kernel⟩, List.mem_of_getElem? (i := 236) (by decide +kernel), List.mem_of_getElem? (i := 845) (by decide +kernel), List.mem_of_getElem? (i := 846) (by decide +kernel)⟩
theorem lw_p38 : lw_okq (⟨"GangMatrix$Plans", "lossAt", "(II)I"⟩, 7) := ⟨⟨by decide +kernel, by decide +kernel⟩, List.mem_of_getElem? (i := 236) (by decide +kernel), List.mem_of_getElem? (i := 849) (by decide +kernel), List.mem_of_getElem? (i := 850) (by decide +kernel)⟩
theorem lw_p39 : lw_okq (⟨"GangMatrix$Plans", "hitAt", "(II)I"⟩, 7) := ⟨⟨by decide +kernel, by decide +kernel⟩, List.mem_of_getElem? (i := 236) (by decide +kernel), List.mem_of_getElem? (i := 855) (by decide +kernel), List.mem_of_getElem? (i := 856) (by decide +kernel)⟩
theorem lw_p40 : lw_okq (⟨"GangMatrix$Plans", "leastPeakBy", "(I)I"⟩, 7) := ⟨⟨by decide +kernel, by decide +kernel⟩, List.mem_of_getElem? (i := 236) (by decide +kernel), List.mem_of_getElem? (i := 884) (by decide +kernel), List.mem_of_getElem? (i := 885) (by decide +kernel)⟩
theorem lw_p41 : lw_okq (⟨"GangMatrix$Plans", "leastPeakByTwo", "(I)I"⟩, 7) := ⟨⟨by decide +kernel, by decide +kernel⟩, List.mem_of_getElem? (i := 236) (by decide +kernel), List.mem_of_getElem? (i := 889) (by decide +kernel), List.mem_of_getElem? (i := 890) (by decide +kernel)⟩
theorem lw_p42 : lw_okq (⟨"GangMatrix$Plans", "leastPeakByLater", "(I)I"⟩, 7) := ⟨⟨by decide +kernel, by decide +kernel⟩, List.mem_of_getElem? (i := 236) (by decide +kernel), List.mem_of_getElem? (i := 893) (by decide +kernel), List.mem_of_getElem? (i := 894) (by decide +kernel)⟩
theorem lw_p43 : lw_okq (⟨"GangMatrix", "tallied", "(I)I"⟩, 5) := ⟨⟨by decide +kernel, by decide +kernel⟩, List.mem_of_getElem? (i := 16) (by decide +kernel), List.mem_of_getElem? (i := 1009) (by decide +kernel), List.mem_of_getElem? (i := 1010) (by decide +kernel)⟩
theorem lw_p44 : lw_okq (⟨"GangMatrixModel", "canSet", "(II)Z"⟩, 30) := ⟨⟨by decide +kernel, by decide +kernel⟩, List.mem_of_getElem? (i := 1044) (by decide +kernel), List.mem_of_getElem? (i := 1146) (by decide +kernel), List.mem_of_getElem? (i := 1147) (by decide +kernel)⟩
theorem lw_p45 : lw_okq (⟨"GangMatrixModel", "isIn", "(III)Z"⟩, 30) := ⟨⟨by decide +kernel, by decide +kernel⟩, List.mem_of_getElem? (i := 1044) (by decide +kernel), List.mem_of_getElem? (i := 1150) (by decide +kernel), List.mem_of_getElem? (i := 1151) (by decide +kernel)⟩
theorem lw_p46 : lw_okq (⟨"GangMatrixModel", "mostOf", "(I)I"⟩, 30) := ⟨⟨by decide +kernel, by decide +kernel⟩, List.mem_of_getElem? (i := 1044) (by decide +kernel), List.mem_of_getElem? (i := 1154) (by decide +kernel), List.mem_of_getElem? (i := 1155) (by decide +kernel)⟩
theorem lw_p47 : lw_okq (⟨"GangMatrixModel", "firstOf", "(I)I"⟩, 30) := ⟨⟨by decide +kernel, by decide +kernel⟩, List.mem_of_getElem? (i := 1044) (by decide +kernel), List.mem_of_getElem? (i := 1158) (by decide +kernel), List.mem_of_getElem? (i := 1159) (by decide +kernel)⟩
def lw_privs_3 : List (MethodName × Nat) := [(⟨"GangMatrix$Plans", "sortByWidth", "()I"⟩, 7), (⟨"GangMatrix$Plans", "layColumn", "(I)I"⟩, 7), (⟨"GangMatrix$Plans", "laidElsewhere", "()I"⟩, 7), (⟨"GangMatrix$Plans", "isLaidElsewhere", "(I)Z"⟩, 7), (⟨"GangMatrix$Plans", "layingCost", "()I"⟩, 7), (⟨"GangMatrix$Plans", "urgeSpot", "(I)I"⟩, 7), (⟨"GangMatrix$Plans", "lossAt", "(II)I"⟩, 7), (⟨"GangMatrix$Plans", "hitAt", "(II)I"⟩, 7), (⟨"GangMatrix$Plans", "leastPeakBy", "(I)I"⟩, 7), (⟨"GangMatrix$Plans", "leastPeakByTwo", "(I)I"⟩, 7), (⟨"GangMatrix$Plans", "leastPeakByLater", "(I)I"⟩, 7), (⟨"GangMatrix", "tallied", "(I)I"⟩, 5), (⟨"GangMatrixModel", "canSet", "(II)Z"⟩, 30), (⟨"GangMatrixModel", "isIn", "(III)Z"⟩, 30), (⟨"GangMatrixModel", "mostOf", "(I)I"⟩, 30), (⟨"GangMatrixModel", "firstOf", "(I)I"⟩, 30)]
theorem lw_r3 : ∀ q ∈ lw_privs_3, lw_okq q := List.forall_mem_cons.mpr ⟨lw_p32, List.forall_mem_cons.mpr ⟨lw_p33, List.forall_mem_cons.mpr ⟨lw_p34, List.forall_mem_cons.mpr ⟨lw_p35, List.forall_mem_cons.mpr ⟨lw_p36, List.forall_mem_cons.mpr ⟨lw_p37, List.forall_mem_cons.mpr ⟨lw_p38, List.forall_mem_cons.mpr ⟨lw_p39, List.forall_mem_cons.mpr ⟨lw_p40, List.forall_mem_cons.mpr ⟨lw_p41, List.forall_mem_cons.mpr ⟨lw_p42, List.forall_mem_cons.mpr ⟨lw_p43, List.forall_mem_cons.mpr ⟨lw_p44, List.forall_mem_cons.mpr ⟨lw_p45, List.forall_mem_cons.mpr ⟨lw_p46, List.forall_mem_cons.mpr ⟨lw_p47, fun _ h => absurd h List.not_mem_nil⟩⟩⟩⟩⟩⟩⟩⟩⟩⟩⟩⟩⟩⟩⟩⟩
theorem lw_p48 : lw_okq (⟨"GangMatrixModel", "goesOn", "()V"⟩, 30) := ⟨⟨by decide +kernel, by decide +kernel⟩, List.mem_of_getElem? (i := 1044) (by decide +kernel), List.mem_of_getElem? (i := 1162) (by decide +kernel), List.mem_of_getElem? (i := 1163) (by decide +kernel)⟩
theorem lw_p49 : lw_okq (⟨"GangMatrixModel", "laysQueue", "()V"⟩, 30) := ⟨⟨by decide +kernel, by decide +kernel⟩, List.mem_of_getElem? (i := 1044) (by decide +kernel), List.mem_of_getElem? (i := 1166) (by decide +kernel), List.mem_of_getElem? (i := 1167) (by decide +kernel)⟩
theorem lw_p50 : lw_okq (⟨"GangMatrixModel", "at", "(II)I"⟩, 30) := ⟨⟨by decide +kernel, by decide +kernel⟩, List.mem_of_getElem? (i := 1044) (by decide +kernel), List.mem_of_getElem? (i := 1170) (by decide +kernel), List.mem_of_getElem? (i := 1171) (by decide +kernel)⟩
theorem lw_p51 : lw_okq (⟨"GangMatrixModel", "isAhead", "(II)Z"⟩, 30) := ⟨⟨by decide +kernel, by decide +kernel⟩, List.mem_of_getElem? (i := 1044) (by decide +kernel), List.mem_of_getElem? (i := 1174) (by decide +kernel), List.mem_of_getElem? (i := 1175) (by decide +kernel)⟩
theorem lw_p52 : lw_okq (⟨"GangMatrixModel", "settingOf", "(I)I"⟩, 30) := ⟨⟨by decide +kernel, by decide +kernel⟩, List.mem_of_getElem? (i := 1044) (by decide +kernel), List.mem_of_getElem? (i := 1178) (by decide +kernel), List.mem_of_getElem? (i := 1179) (by decide +kernel)⟩
theorem lw_p53 : lw_okq (⟨"GangMatrixModel", "ratios", "(II)I"⟩, 30) := ⟨⟨by decide +kernel, by decide +kernel⟩, List.mem_of_getElem? (i := 1044) (by decide +kernel), List.mem_of_getElem? (i := 1182) (by decide +kernel), List.mem_of_getElem? (i := 1183) (by decide +kernel)⟩
theorem lw_p54 : lw_okq (⟨"GangMatrixModel", "shareOf", "(I)I"⟩, 30) := ⟨⟨by decide +kernel, by decide +kernel⟩, List.mem_of_getElem? (i := 1044) (by decide +kernel), List.mem_of_getElem? (i := 1186) (by decide +kernel), List.mem_of_getElem? (i := 1187) (by decide +kernel)⟩
theorem lw_p55 : lw_okq (⟨"GangMatrixModel", "places", "(II)Z"⟩, 30) := ⟨⟨by decide +kernel, by decide +kernel⟩, List.mem_of_getElem? (i := 1044) (by decide +kernel), List.mem_of_getElem? (i := 1190) (by decide +kernel), List.mem_of_getElem? (i := 1191) (by decide +kernel)⟩
theorem lw_p56 : lw_okq (⟨"GangMatrixModel", "finds", "(I)Z"⟩, 30) := ⟨⟨by decide +kernel, by decide +kernel⟩, List.mem_of_getElem? (i := 1044) (by decide +kernel), List.mem_of_getElem? (i := 1194) (by decide +kernel), List.mem_of_getElem? (i := 1195) (by decide +kernel)⟩
theorem lw_p57 : lw_okq (⟨"GangMatrixModel", "columns", "()I"⟩, 30) := ⟨⟨by decide +kernel, by decide +kernel⟩, List.mem_of_getElem? (i := 1044) (by decide +kernel), List.mem_of_getElem? (i := 1198) (by decide +kernel), List.mem_of_getElem? (i := 1199) (by decide +kernel)⟩
theorem lw_p58 : lw_okq (⟨"GangMatrixModel", "isFree", "(III)Z"⟩, 30) := ⟨⟨by decide +kernel, by decide +kernel⟩, List.mem_of_getElem? (i := 1044) (by decide +kernel), List.mem_of_getElem? (i := 1202) (by decide +kernel), List.mem_of_getElem? (i := 1203) (by decide +kernel)⟩
theorem lw_p59 : lw_okq (⟨"GangMatrixModel", "blocksIn", "(II)I"⟩, 30) := ⟨⟨by decide +kernel, by decide +kernel⟩, List.mem_of_getElem? (i := 1044) (by decide +kernel), List.mem_of_getElem? (i := 1206) (by decide +kernel), List.mem_of_getElem? (i := 1207) (by decide +kernel)⟩
theorem lw_p60 : lw_okq (⟨"GangMatrixModel", "isAt", "(II)Z"⟩, 30) := ⟨⟨by decide +kernel, by decide +kernel⟩, List.mem_of_getElem? (i := 1044) (by decide +kernel), List.mem_of_getElem? (i := 1210) (by decide +kernel), List.mem_of_getElem? (i := 1211) (by decide +kernel)⟩
theorem lw_p61 : lw_okq (⟨"GangMatrixModel", "isPlaced", "(I)Z"⟩, 30) := ⟨⟨by decide +kernel, by decide +kernel⟩, List.mem_of_getElem? (i := 1044) (by decide +kernel), List.mem_of_getElem? (i := 1214) (by decide +kernel), List.mem_of_getElem? (i := 1215) (by decide +kernel)⟩
theorem lw_p62 : lw_okq (⟨"GangMatrixModel", "slotOf", "(I)I"⟩, 30) := ⟨⟨by decide +kernel, by decide +kernel⟩, List.mem_of_getElem? (i := 1044) (by decide +kernel), List.mem_of_getElem? (i := 1218) (by decide +kernel), List.mem_of_getElem? (i := 1219) (by decide +kernel)⟩
theorem lw_p63 : lw_okq (⟨"GangMatrixModel", "blockOf", "(I)I"⟩, 30) := ⟨⟨by decide +kernel, by decide +kernel⟩, List.mem_of_getElem? (i := 1044) (by decide +kernel), List.mem_of_getElem? (i := 1222) (by decide +kernel), List.mem_of_getElem? (i := 1223) (by decide +kernel)⟩
def lw_privs_4 : List (MethodName × Nat) := [(⟨"GangMatrixModel", "goesOn", "()V"⟩, 30), (⟨"GangMatrixModel", "laysQueue", "()V"⟩, 30), (⟨"GangMatrixModel", "at", "(II)I"⟩, 30), (⟨"GangMatrixModel", "isAhead", "(II)Z"⟩, 30), (⟨"GangMatrixModel", "settingOf", "(I)I"⟩, 30), (⟨"GangMatrixModel", "ratios", "(II)I"⟩, 30), (⟨"GangMatrixModel", "shareOf", "(I)I"⟩, 30), (⟨"GangMatrixModel", "places", "(II)Z"⟩, 30), (⟨"GangMatrixModel", "finds", "(I)Z"⟩, 30), (⟨"GangMatrixModel", "columns", "()I"⟩, 30), (⟨"GangMatrixModel", "isFree", "(III)Z"⟩, 30), (⟨"GangMatrixModel", "blocksIn", "(II)I"⟩, 30), (⟨"GangMatrixModel", "isAt", "(II)Z"⟩, 30), (⟨"GangMatrixModel", "isPlaced", "(I)Z"⟩, 30), (⟨"GangMatrixModel", "slotOf", "(I)I"⟩, 30), (⟨"GangMatrixModel", "blockOf", "(I)I"⟩, 30)]
theorem lw_r4 : ∀ q ∈ lw_privs_4, lw_okq q := List.forall_mem_cons.mpr ⟨lw_p48, List.forall_mem_cons.mpr ⟨lw_p49, List.forall_mem_cons.mpr ⟨lw_p50, List.forall_mem_cons.mpr ⟨lw_p51, List.forall_mem_cons.mpr ⟨lw_p52, List.forall_mem_cons.mpr ⟨lw_p53, List.forall_mem_cons.mpr ⟨lw_p54, List.forall_mem_cons.mpr ⟨lw_p55, List.forall_mem_cons.mpr ⟨lw_p56, List.forall_mem_cons.mpr ⟨lw_p57, List.forall_mem_cons.mpr ⟨lw_p58, List.forall_mem_cons.mpr ⟨lw_p59, List.forall_mem_cons.mpr ⟨lw_p60, List.forall_mem_cons.mpr ⟨lw_p61, List.forall_mem_cons.mpr ⟨lw_p62, List.forall_mem_cons.mpr ⟨lw_p63, fun _ h => absurd h List.not_mem_nil⟩⟩⟩⟩⟩⟩⟩⟩⟩⟩⟩⟩⟩⟩⟩⟩
theorem lw_p64 : lw_okq (⟨"GangMatrixModel", "columnOf", "(I)I"⟩, 30) := ⟨⟨by decide +kernel, by decide +kernel⟩, List.mem_of_getElem? (i := 1044) (by decide +kernel), List.mem_of_getElem? (i := 1226) (by decide +kernel), List.mem_of_getElem? (i := 1227) (by decide +kernel)⟩
theorem lw_p65 : lw_okq (⟨"GangMatrixModel", "bits", "(II)I"⟩, 30) := ⟨⟨by decide +kernel, by decide +kernel⟩, List.mem_of_getElem? (i := 1044) (by decide +kernel), List.mem_of_getElem? (i := 1230) (by decide +kernel), List.mem_of_getElem? (i := 1231) (by decide +kernel)⟩
theorem lw_p66 : lw_okq (⟨"GangMatrixModel", "weighs", "(III)V"⟩, 30) := ⟨⟨by decide +kernel, by decide +kernel⟩, List.mem_of_getElem? (i := 1044) (by decide +kernel), List.mem_of_getElem? (i := 1234) (by decide +kernel), List.mem_of_getElem? (i := 1235) (by decide +kernel)⟩
theorem lw_p67 : lw_okq (⟨"GangMatrixModel", "roomOf", "(III)I"⟩, 30) := ⟨⟨by decide +kernel, by decide +kernel⟩, List.mem_of_getElem? (i := 1044) (by decide +kernel), List.mem_of_getElem? (i := 1238) (by decide +kernel), List.mem_of_getElem? (i := 1239) (by decide +kernel)⟩
theorem lw_p68 : lw_okq (⟨"GangMatrixModel", "greatestIn", "(II)I"⟩, 30) := ⟨⟨by decide +kernel, by decide +kernel⟩, List.mem_of_getElem? (i := 1044) (by decide +kernel), List.mem_of_getElem? (i := 1242) (by decide +kernel), List.mem_of_getElem? (i := 1243) (by decide +kernel)⟩
theorem lw_p69 : lw_okq (⟨"GangMatrixModel", "loadOf", "(I)I"⟩, 30) := ⟨⟨by decide +kernel, by decide +kernel⟩, List.mem_of_getElem? (i := 1044) (by decide +kernel), List.mem_of_getElem? (i := 1246) (by decide +kernel), List.mem_of_getElem? (i := 1247) (by decide +kernel)⟩
theorem lw_p70 : lw_okq (⟨"GangMatrixModel", "sumIn", "(II)I"⟩, 30) := ⟨⟨by decide +kernel, by decide +kernel⟩, List.mem_of_getElem? (i := 1044) (by decide +kernel), List.mem_of_getElem? (i := 1250) (by decide +kernel), List.mem_of_getElem? (i := 1251) (by decide +kernel)⟩
theorem lw_p71 : lw_okq (⟨"GangMatrixModel", "newSlot", "()V"⟩, 30) := ⟨⟨by decide +kernel, by decide +kernel⟩, List.mem_of_getElem? (i := 1044) (by decide +kernel), List.mem_of_getElem? (i := 1254) (by decide +kernel), List.mem_of_getElem? (i := 1255) (by decide +kernel)⟩
theorem lw_p72 : lw_okq (⟨"GangMatrixModel", "leastPass", "()J"⟩, 30) := ⟨⟨by decide +kernel, by decide +kernel⟩, List.mem_of_getElem? (i := 1044) (by decide +kernel), List.mem_of_getElem? (i := 1258) (by decide +kernel), List.mem_of_getElem? (i := 1259) (by decide +kernel)⟩
theorem lw_p73 : lw_okq (⟨"GangMatrixModel", "more", "(II)V"⟩, 30) := ⟨⟨by decide +kernel, by decide +kernel⟩, List.mem_of_getElem? (i := 1044) (by decide +kernel), List.mem_of_getElem? (i := 1262) (by decide +kernel), List.mem_of_getElem? (i := 1263) (by decide +kernel)⟩
theorem lw_p74 : lw_okq (⟨"GangMatrixModel", "isPut", "(IIII)V"⟩, 30) := ⟨⟨by decide +kernel, by decide +kernel⟩, List.mem_of_getElem? (i := 1044) (by decide +kernel), List.mem_of_getElem? (i := 1266) (by decide +kernel), List.mem_of_getElem? (i := 1267) (by decide +kernel)⟩
theorem lw_p75 : lw_okq (⟨"GangMatrixModel", "lay", "(III)V"⟩, 30) := ⟨⟨by decide +kernel, by decide +kernel⟩, List.mem_of_getElem? (i := 1044) (by decide +kernel), List.mem_of_getElem? (i := 1270) (by decide +kernel), List.mem_of_getElem? (i := 1271) (by decide +kernel)⟩
theorem lw_p76 : lw_okq (⟨"GangMatrixModel", "writes", "(IIII)V"⟩, 30) := ⟨⟨by decide +kernel, by decide +kernel⟩, List.mem_of_getElem? (i := 1044) (by decide +kernel), List.mem_of_getElem? (i := 1274) (by decide +kernel), List.mem_of_getElem? (i := 1275) (by decide +kernel)⟩
theorem lw_p77 : lw_okq (⟨"GangMatrixModel", "moreOf", "(III)V"⟩, 30) := ⟨⟨by decide +kernel, by decide +kernel⟩, List.mem_of_getElem? (i := 1044) (by decide +kernel), List.mem_of_getElem? (i := 1278) (by decide +kernel), List.mem_of_getElem? (i := 1279) (by decide +kernel)⟩
theorem lw_p78 : lw_okq (⟨"GangMatrixModel", "isUser", "(I)Z"⟩, 30) := ⟨⟨by decide +kernel, by decide +kernel⟩, List.mem_of_getElem? (i := 1044) (by decide +kernel), List.mem_of_getElem? (i := 1286) (by decide +kernel), List.mem_of_getElem? (i := 1287) (by decide +kernel)⟩
theorem lw_p79 : lw_okq (⟨"GangMatrixModel", "widthOf", "(I)I"⟩, 30) := ⟨⟨by decide +kernel, by decide +kernel⟩, List.mem_of_getElem? (i := 1044) (by decide +kernel), List.mem_of_getElem? (i := 1294) (by decide +kernel), List.mem_of_getElem? (i := 1295) (by decide +kernel)⟩
def lw_privs_5 : List (MethodName × Nat) := [(⟨"GangMatrixModel", "columnOf", "(I)I"⟩, 30), (⟨"GangMatrixModel", "bits", "(II)I"⟩, 30), (⟨"GangMatrixModel", "weighs", "(III)V"⟩, 30), (⟨"GangMatrixModel", "roomOf", "(III)I"⟩, 30), (⟨"GangMatrixModel", "greatestIn", "(II)I"⟩, 30), (⟨"GangMatrixModel", "loadOf", "(I)I"⟩, 30), (⟨"GangMatrixModel", "sumIn", "(II)I"⟩, 30), (⟨"GangMatrixModel", "newSlot", "()V"⟩, 30), (⟨"GangMatrixModel", "leastPass", "()J"⟩, 30), (⟨"GangMatrixModel", "more", "(II)V"⟩, 30), (⟨"GangMatrixModel", "isPut", "(IIII)V"⟩, 30), (⟨"GangMatrixModel", "lay", "(III)V"⟩, 30), (⟨"GangMatrixModel", "writes", "(IIII)V"⟩, 30), (⟨"GangMatrixModel", "moreOf", "(III)V"⟩, 30), (⟨"GangMatrixModel", "isUser", "(I)Z"⟩, 30), (⟨"GangMatrixModel", "widthOf", "(I)I"⟩, 30)]
theorem lw_r5 : ∀ q ∈ lw_privs_5, lw_okq q := List.forall_mem_cons.mpr ⟨lw_p64, List.forall_mem_cons.mpr ⟨lw_p65, List.forall_mem_cons.mpr ⟨lw_p66, List.forall_mem_cons.mpr ⟨lw_p67, List.forall_mem_cons.mpr ⟨lw_p68, List.forall_mem_cons.mpr ⟨lw_p69, List.forall_mem_cons.mpr ⟨lw_p70, List.forall_mem_cons.mpr ⟨lw_p71, List.forall_mem_cons.mpr ⟨lw_p72, List.forall_mem_cons.mpr ⟨lw_p73, List.forall_mem_cons.mpr ⟨lw_p74, List.forall_mem_cons.mpr ⟨lw_p75, List.forall_mem_cons.mpr ⟨lw_p76, List.forall_mem_cons.mpr ⟨lw_p77, List.forall_mem_cons.mpr ⟨lw_p78, List.forall_mem_cons.mpr ⟨lw_p79, fun _ h => absurd h List.not_mem_nil⟩⟩⟩⟩⟩⟩⟩⟩⟩⟩⟩⟩⟩⟩⟩⟩
theorem lw_p80 : lw_okq (⟨"GangMatrixModel", "canCome", "(III)Z"⟩, 30) := ⟨⟨by decide +kernel, by decide +kernel⟩, List.mem_of_getElem? (i := 1044) (by decide +kernel), List.mem_of_getElem? (i := 1306) (by decide +kernel), List.mem_of_getElem? (i := 1307) (by decide +kernel)⟩
theorem lw_p81 : lw_okq (⟨"GangMatrixModel", "isJob", "(I)Z"⟩, 30) := ⟨⟨by decide +kernel, by decide +kernel⟩, List.mem_of_getElem? (i := 1044) (by decide +kernel), List.mem_of_getElem? (i := 1310) (by decide +kernel), List.mem_of_getElem? (i := 1311) (by decide +kernel)⟩
theorem lw_p82 : lw_okq (⟨"GangMatrixModel", "comes", "(IIII)I"⟩, 30) := ⟨⟨by decide +kernel, by decide +kernel⟩, List.mem_of_getElem? (i := 1044) (by decide +kernel), List.mem_of_getElem? (i := 1314) (by decide +kernel), List.mem_of_getElem? (i := 1315) (by decide +kernel)⟩
theorem lw_p83 : lw_okq (⟨"GangMatrixModel", "waits", "(I)V"⟩, 30) := ⟨⟨by decide +kernel, by decide +kernel⟩, List.mem_of_getElem? (i := 1044) (by decide +kernel), List.mem_of_getElem? (i := 1318) (by decide +kernel), List.mem_of_getElem? (i := 1319) (by decide +kernel)⟩
theorem lw_p84 : lw_okq (⟨"GangMatrixModel", "arrivalAt", "(I)I"⟩, 30) := ⟨⟨by decide +kernel, by decide +kernel⟩, List.mem_of_getElem? (i := 1044) (by decide +kernel), List.mem_of_getElem? (i := 1327) (by decide +kernel), List.mem_of_getElem? (i := 1328) (by decide +kernel)⟩
theorem lw_p85 : lw_okq (⟨"GangMatrixModel", "kills", "(I)I"⟩, 30) := ⟨⟨by decide +kernel, by decide +kernel⟩, List.mem_of_getElem? (i := 1044) (by decide +kernel), List.mem_of_getElem? (i := 1335) (by decide +kernel), List.mem_of_getElem? (i := 1336) (by decide +kernel)⟩
theorem lw_p86 : lw_okq (⟨"GangMatrixModel", "isNowhere", "(II)V"⟩, 30) := ⟨⟨by decide +kernel, by decide +kernel⟩, List.mem_of_getElem? (i := 1044) (by decide +kernel), List.mem_of_getElem? (i := 1339) (by decide +kernel), List.mem_of_getElem? (i := 1340) (by decide +kernel)⟩
theorem lw_p87 : lw_okq (⟨"GangMatrixModel", "closes", "()V"⟩, 30) := ⟨⟨by decide +kernel, by decide +kernel⟩, List.mem_of_getElem? (i := 1044) (by decide +kernel), List.mem_of_getElem? (i := 1343) (by decide +kernel), List.mem_of_getElem? (i := 1344) (by decide +kernel)⟩
theorem lw_p88 : lw_okq (⟨"GangMatrixModel", "jobsIn", "(I)I"⟩, 30) := ⟨⟨by decide +kernel, by decide +kernel⟩, List.mem_of_getElem? (i := 1044) (by decide +kernel), List.mem_of_getElem? (i := 1347) (by decide +kernel), List.mem_of_getElem? (i := 1348) (by decide +kernel)⟩
theorem lw_p89 : lw_okq (⟨"GangMatrixModel", "dropsSlot", "(I)V"⟩, 30) := ⟨⟨by decide +kernel, by decide +kernel⟩, List.mem_of_getElem? (i := 1044) (by decide +kernel), List.mem_of_getElem? (i := 1351) (by decide +kernel), List.mem_of_getElem? (i := 1352) (by decide +kernel)⟩
theorem lw_p90 : lw_okq (⟨"GangMatrixModel", "isColumn", "(I)Z"⟩, 30) := ⟨⟨by decide +kernel, by decide +kernel⟩, List.mem_of_getElem? (i := 1044) (by decide +kernel), List.mem_of_getElem? (i := 1359) (by decide +kernel), List.mem_of_getElem? (i := 1360) (by decide +kernel)⟩
theorem lw_p91 : lw_okq (⟨"GangMatrixModel", "isDown", "(I)Z"⟩, 30) := ⟨⟨by decide +kernel, by decide +kernel⟩, List.mem_of_getElem? (i := 1044) (by decide +kernel), List.mem_of_getElem? (i := 1363) (by decide +kernel), List.mem_of_getElem? (i := 1364) (by decide +kernel)⟩
theorem lw_p92 : lw_okq (⟨"GangMatrixModel", "putsBack", "(I)V"⟩, 30) := ⟨⟨by decide +kernel, by decide +kernel⟩, List.mem_of_getElem? (i := 1044) (by decide +kernel), List.mem_of_getElem? (i := 1367) (by decide +kernel), List.mem_of_getElem? (i := 1368) (by decide +kernel)⟩
theorem lw_p93 : lw_okq (⟨"GangMatrixModel", "unifies", "()I"⟩, 30) := ⟨⟨by decide +kernel, by decide +kernel⟩, List.mem_of_getElem? (i := 1044) (by decide +kernel), List.mem_of_getElem? (i := 1379) (by decide +kernel), List.mem_of_getElem? (i := 1380) (by decide +kernel)⟩
theorem lw_p94 : lw_okq (⟨"GangMatrixModel", "unifiesOne", "()Z"⟩, 30) := ⟨⟨by decide +kernel, by decide +kernel⟩, List.mem_of_getElem? (i := 1044) (by decide +kernel), List.mem_of_getElem? (i := 1383) (by decide +kernel), List.mem_of_getElem? (i := 1384) (by decide +kernel)⟩
theorem lw_p95 : lw_okq (⟨"GangMatrixModel", "packs", "()V"⟩, 30) := ⟨⟨by decide +kernel, by decide +kernel⟩, List.mem_of_getElem? (i := 1044) (by decide +kernel), List.mem_of_getElem? (i := 1391) (by decide +kernel), List.mem_of_getElem? (i := 1392) (by decide +kernel)⟩
def lw_privs_6 : List (MethodName × Nat) := [(⟨"GangMatrixModel", "canCome", "(III)Z"⟩, 30), (⟨"GangMatrixModel", "isJob", "(I)Z"⟩, 30), (⟨"GangMatrixModel", "comes", "(IIII)I"⟩, 30), (⟨"GangMatrixModel", "waits", "(I)V"⟩, 30), (⟨"GangMatrixModel", "arrivalAt", "(I)I"⟩, 30), (⟨"GangMatrixModel", "kills", "(I)I"⟩, 30), (⟨"GangMatrixModel", "isNowhere", "(II)V"⟩, 30), (⟨"GangMatrixModel", "closes", "()V"⟩, 30), (⟨"GangMatrixModel", "jobsIn", "(I)I"⟩, 30), (⟨"GangMatrixModel", "dropsSlot", "(I)V"⟩, 30), (⟨"GangMatrixModel", "isColumn", "(I)Z"⟩, 30), (⟨"GangMatrixModel", "isDown", "(I)Z"⟩, 30), (⟨"GangMatrixModel", "putsBack", "(I)V"⟩, 30), (⟨"GangMatrixModel", "unifies", "()I"⟩, 30), (⟨"GangMatrixModel", "unifiesOne", "()Z"⟩, 30), (⟨"GangMatrixModel", "packs", "()V"⟩, 30)]
theorem lw_r6 : ∀ q ∈ lw_privs_6, lw_okq q := List.forall_mem_cons.mpr ⟨lw_p80, List.forall_mem_cons.mpr ⟨lw_p81, List.forall_mem_cons.mpr ⟨lw_p82, List.forall_mem_cons.mpr ⟨lw_p83, List.forall_mem_cons.mpr ⟨lw_p84, List.forall_mem_cons.mpr ⟨lw_p85, List.forall_mem_cons.mpr ⟨lw_p86, List.forall_mem_cons.mpr ⟨lw_p87, List.forall_mem_cons.mpr ⟨lw_p88, List.forall_mem_cons.mpr ⟨lw_p89, List.forall_mem_cons.mpr ⟨lw_p90, List.forall_mem_cons.mpr ⟨lw_p91, List.forall_mem_cons.mpr ⟨lw_p92, List.forall_mem_cons.mpr ⟨lw_p93, List.forall_mem_cons.mpr ⟨lw_p94, List.forall_mem_cons.mpr ⟨lw_p95, fun _ h => absurd h List.not_mem_nil⟩⟩⟩⟩⟩⟩⟩⟩⟩⟩⟩⟩⟩⟩⟩⟩
theorem lw_p96 : lw_okq (⟨"GangMatrixModel", "nextToPack", "()I"⟩, 30) := ⟨⟨by decide +kernel, by decide +kernel⟩, List.mem_of_getElem? (i := 1044) (by decide +kernel), List.mem_of_getElem? (i := 1395) (by decide +kernel), List.mem_of_getElem? (i := 1396) (by decide +kernel)⟩
theorem lw_p97 : lw_okq (⟨"GangMatrixModel", "packsAhead", "(II)Z"⟩, 30) := ⟨⟨by decide +kernel, by decide +kernel⟩, List.mem_of_getElem? (i := 1044) (by decide +kernel), List.mem_of_getElem? (i := 1399) (by decide +kernel), List.mem_of_getElem? (i := 1400) (by decide +kernel)⟩
theorem lw_p98 : lw_okq (⟨"GangMatrixModel", "canMove", "(II)Z"⟩, 30) := ⟨⟨by decide +kernel, by decide +kernel⟩, List.mem_of_getElem? (i := 1044) (by decide +kernel), List.mem_of_getElem? (i := 1407) (by decide +kernel), List.mem_of_getElem? (i := 1408) (by decide +kernel)⟩
theorem lw_p99 : lw_okq (⟨"GangMatrixModel", "isMoved", "(II)V"⟩, 30) := ⟨⟨by decide +kernel, by decide +kernel⟩, List.mem_of_getElem? (i := 1044) (by decide +kernel), List.mem_of_getElem? (i := 1411) (by decide +kernel), List.mem_of_getElem? (i := 1412) (by decide +kernel)⟩
theorem lw_p100 : lw_okq (⟨"GangMatrixModel", "stopOf", "(I)I"⟩, 30) := ⟨⟨by decide +kernel, by decide +kernel⟩, List.mem_of_getElem? (i := 1044) (by decide +kernel), List.mem_of_getElem? (i := 1415) (by decide +kernel), List.mem_of_getElem? (i := 1416) (by decide +kernel)⟩
theorem lw_p101 : lw_okq (⟨"GangMatrixModel", "findsBest", "(I)V"⟩, 30) := ⟨⟨by decide +kernel, by decide +kernel⟩, List.mem_of_getElem? (i := 1044) (by decide +kernel), List.mem_of_getElem? (i := 1424) (by decide +kernel), List.mem_of_getElem? (i := 1425) (by decide +kernel)⟩
theorem lw_p102 : lw_okq (⟨"GangMatrixModel", "laysLoads", "()V"⟩, 30) := ⟨⟨by decide +kernel, by decide +kernel⟩, List.mem_of_getElem? (i := 1044) (by decide +kernel), List.mem_of_getElem? (i := 1428) (by decide +kernel), List.mem_of_getElem? (i := 1429) (by decide +kernel)⟩
theorem lw_p103 : lw_okq (⟨"GangMatrixModel", "greatest", "()I"⟩, 30) := ⟨⟨by decide +kernel, by decide +kernel⟩, List.mem_of_getElem? (i := 1044) (by decide +kernel), List.mem_of_getElem? (i := 1432) (by decide +kernel), List.mem_of_getElem? (i := 1433) (by decide +kernel)⟩
theorem lw_p104 : lw_okq (⟨"GangMatrixModel", "loadsBy", "(III)V"⟩, 30) := ⟨⟨by decide +kernel, by decide +kernel⟩, List.mem_of_getElem? (i := 1044) (by decide +kernel), List.mem_of_getElem? (i := 1436) (by decide +kernel), List.mem_of_getElem? (i := 1437) (by decide +kernel)⟩
theorem lw_p105 : lw_okq (⟨"GangMatrixModel", "gain", "()I"⟩, 30) := ⟨⟨by decide +kernel, by decide +kernel⟩, List.mem_of_getElem? (i := 1044) (by decide +kernel), List.mem_of_getElem? (i := 1440) (by decide +kernel), List.mem_of_getElem? (i := 1441) (by decide +kernel)⟩
theorem lw_p106 : lw_okq (⟨"GangMatrixModel", "leastLeft", "()I"⟩, 30) := ⟨⟨by decide +kernel, by decide +kernel⟩, List.mem_of_getElem? (i := 1044) (by decide +kernel), List.mem_of_getElem? (i := 1444) (by decide +kernel), List.mem_of_getElem? (i := 1445) (by decide +kernel)⟩
theorem lw_p107 : lw_okq (⟨"GangMatrixModel", "cost", "(I)I"⟩, 30) := ⟨⟨by decide +kernel, by decide +kernel⟩, List.mem_of_getElem? (i := 1044) (by decide +kernel), List.mem_of_getElem? (i := 1448) (by decide +kernel), List.mem_of_getElem? (i := 1449) (by decide +kernel)⟩
theorem lw_p108 : lw_okq (⟨"GangMatrixModel", "packedAll", "(I)I"⟩, 30) := ⟨⟨by decide +kernel, by decide +kernel⟩, List.mem_of_getElem? (i := 1044) (by decide +kernel), List.mem_of_getElem? (i := 1460) (by decide +kernel), List.mem_of_getElem? (i := 1461) (by decide +kernel)⟩
theorem lw_p109 : lw_okq (⟨"GangMatrixModel", "laysPack", "()V"⟩, 30) := ⟨⟨by decide +kernel, by decide +kernel⟩, List.mem_of_getElem? (i := 1044) (by decide +kernel), List.mem_of_getElem? (i := 1464) (by decide +kernel), List.mem_of_getElem? (i := 1465) (by decide +kernel)⟩
theorem lw_p110 : lw_okq (⟨"GangMatrixModel", "thinnest", "(II)I"⟩, 30) := ⟨⟨by decide +kernel, by decide +kernel⟩, List.mem_of_getElem? (i := 1044) (by decide +kernel), List.mem_of_getElem? (i := 1468) (by decide +kernel), List.mem_of_getElem? (i := 1469) (by decide +kernel)⟩
theorem lw_p111 : lw_okq (⟨"GangMatrixModel", "isOther", "(I)Z"⟩, 30) := ⟨⟨by decide +kernel, by decide +kernel⟩, List.mem_of_getElem? (i := 1044) (by decide +kernel), List.mem_of_getElem? (i := 1472) (by decide +kernel), List.mem_of_getElem? (i := 1473) (by decide +kernel)⟩
def lw_privs_7 : List (MethodName × Nat) := [(⟨"GangMatrixModel", "nextToPack", "()I"⟩, 30), (⟨"GangMatrixModel", "packsAhead", "(II)Z"⟩, 30), (⟨"GangMatrixModel", "canMove", "(II)Z"⟩, 30), (⟨"GangMatrixModel", "isMoved", "(II)V"⟩, 30), (⟨"GangMatrixModel", "stopOf", "(I)I"⟩, 30), (⟨"GangMatrixModel", "findsBest", "(I)V"⟩, 30), (⟨"GangMatrixModel", "laysLoads", "()V"⟩, 30), (⟨"GangMatrixModel", "greatest", "()I"⟩, 30), (⟨"GangMatrixModel", "loadsBy", "(III)V"⟩, 30), (⟨"GangMatrixModel", "gain", "()I"⟩, 30), (⟨"GangMatrixModel", "leastLeft", "()I"⟩, 30), (⟨"GangMatrixModel", "cost", "(I)I"⟩, 30), (⟨"GangMatrixModel", "packedAll", "(I)I"⟩, 30), (⟨"GangMatrixModel", "laysPack", "()V"⟩, 30), (⟨"GangMatrixModel", "thinnest", "(II)I"⟩, 30), (⟨"GangMatrixModel", "isOther", "(I)Z"⟩, 30)]
theorem lw_r7 : ∀ q ∈ lw_privs_7, lw_okq q := List.forall_mem_cons.mpr ⟨lw_p96, List.forall_mem_cons.mpr ⟨lw_p97, List.forall_mem_cons.mpr ⟨lw_p98, List.forall_mem_cons.mpr ⟨lw_p99, List.forall_mem_cons.mpr ⟨lw_p100, List.forall_mem_cons.mpr ⟨lw_p101, List.forall_mem_cons.mpr ⟨lw_p102, List.forall_mem_cons.mpr ⟨lw_p103, List.forall_mem_cons.mpr ⟨lw_p104, List.forall_mem_cons.mpr ⟨lw_p105, List.forall_mem_cons.mpr ⟨lw_p106, List.forall_mem_cons.mpr ⟨lw_p107, List.forall_mem_cons.mpr ⟨lw_p108, List.forall_mem_cons.mpr ⟨lw_p109, List.forall_mem_cons.mpr ⟨lw_p110, List.forall_mem_cons.mpr ⟨lw_p111, fun _ h => absurd h List.not_mem_nil⟩⟩⟩⟩⟩⟩⟩⟩⟩⟩⟩⟩⟩⟩⟩⟩
theorem lw_p112 : lw_okq (⟨"GangMatrixModel", "findsUrge", "(I)Z"⟩, 30) := ⟨⟨by decide +kernel, by decide +kernel⟩, List.mem_of_getElem? (i := 1044) (by decide +kernel), List.mem_of_getElem? (i := 1484) (by decide +kernel), List.mem_of_getElem? (i := 1485) (by decide +kernel)⟩
theorem lw_p113 : lw_okq (⟨"GangMatrixModel", "urgesAt", "(III)V"⟩, 30) := ⟨⟨by decide +kernel, by decide +kernel⟩, List.mem_of_getElem? (i := 1044) (by decide +kernel), List.mem_of_getElem? (i := 1488) (by decide +kernel), List.mem_of_getElem? (i := 1489) (by decide +kernel)⟩
theorem lw_p114 : lw_okq (⟨"GangMatrixModel", "isInWay", "(III)Z"⟩, 30) := ⟨⟨by decide +kernel, by decide +kernel⟩, List.mem_of_getElem? (i := 1044) (by decide +kernel), List.mem_of_getElem? (i := 1492) (by decide +kernel), List.mem_of_getElem? (i := 1493) (by decide +kernel)⟩
theorem lw_p115 : lw_okq (⟨"GangMatrixModel", "manyOf", "(I)I"⟩, 30) := ⟨⟨by decide +kernel, by decide +kernel⟩, List.mem_of_getElem? (i := 1044) (by decide +kernel), List.mem_of_getElem? (i := 1504) (by decide +kernel), List.mem_of_getElem? (i := 1505) (by decide +kernel)⟩
theorem lw_p116 : lw_okq (⟨"GangMatrixModel", "thinsOne", "(I)I"⟩, 30) := ⟨⟨by decide +kernel, by decide +kernel⟩, List.mem_of_getElem? (i := 1044) (by decide +kernel), List.mem_of_getElem? (i := 1508) (by decide +kernel), List.mem_of_getElem? (i := 1509) (by decide +kernel)⟩
theorem lw_p117 : lw_okq (⟨"GangMatrixModel", "thinsTwo", "()I"⟩, 30) := ⟨⟨by decide +kernel, by decide +kernel⟩, List.mem_of_getElem? (i := 1044) (by decide +kernel), List.mem_of_getElem? (i := 1512) (by decide +kernel), List.mem_of_getElem? (i := 1513) (by decide +kernel)⟩
theorem lw_p118 : lw_okq (⟨"GangMatrixModel", "isSlot", "(I)Z"⟩, 30) := ⟨⟨by decide +kernel, by decide +kernel⟩, List.mem_of_getElem? (i := 1044) (by decide +kernel), List.mem_of_getElem? (i := 1520) (by decide +kernel), List.mem_of_getElem? (i := 1521) (by decide +kernel)⟩
theorem lw_p119 : lw_okq (⟨"GangMatrixModel", "laysLenders", "(I)V"⟩, 30) := ⟨⟨by decide +kernel, by decide +kernel⟩, List.mem_of_getElem? (i := 1044) (by decide +kernel), List.mem_of_getElem? (i := 1524) (by decide +kernel), List.mem_of_getElem? (i := 1525) (by decide +kernel)⟩
theorem lw_p120 : lw_okq (⟨"GangMatrixModel", "cellsOf", "(I)I"⟩, 30) := ⟨⟨by decide +kernel, by decide +kernel⟩, List.mem_of_getElem? (i := 1044) (by decide +kernel), List.mem_of_getElem? (i := 1528) (by decide +kernel), List.mem_of_getElem? (i := 1529) (by decide +kernel)⟩
theorem lw_p121 : lw_okq (⟨"GangMatrixModel", "quanta", "(I)I"⟩, 30) := ⟨⟨by decide +kernel, by decide +kernel⟩, List.mem_of_getElem? (i := 1044) (by decide +kernel), List.mem_of_getElem? (i := 1536) (by decide +kernel), List.mem_of_getElem? (i := 1537) (by decide +kernel)⟩
theorem lw_p122 : lw_okq (⟨"GangMatrixModel", "arrives", "()V"⟩, 30) := ⟨⟨by decide +kernel, by decide +kernel⟩, List.mem_of_getElem? (i := 1044) (by decide +kernel), List.mem_of_getElem? (i := 1540) (by decide +kernel), List.mem_of_getElem? (i := 1541) (by decide +kernel)⟩
theorem lw_p123 : lw_okq (⟨"GangMatrixModel", "turns", "()V"⟩, 30) := ⟨⟨by decide +kernel, by decide +kernel⟩, List.mem_of_getElem? (i := 1044) (by decide +kernel), List.mem_of_getElem? (i := 1544) (by decide +kernel), List.mem_of_getElem? (i := 1545) (by decide +kernel)⟩
theorem lw_p124 : lw_okq (⟨"GangMatrixModel", "turnOf", "()I"⟩, 30) := ⟨⟨by decide +kernel, by decide +kernel⟩, List.mem_of_getElem? (i := 1044) (by decide +kernel), List.mem_of_getElem? (i := 1548) (by decide +kernel), List.mem_of_getElem? (i := 1549) (by decide +kernel)⟩
theorem lw_p125 : lw_okq (⟨"GangMatrixModel", "weightOf", "(I)I"⟩, 30) := ⟨⟨by decide +kernel, by decide +kernel⟩, List.mem_of_getElem? (i := 1044) (by decide +kernel), List.mem_of_getElem? (i := 1553) (by decide +kernel), List.mem_of_getElem? (i := 1554) (by decide +kernel)⟩
theorem lw_p126 : lw_okq (⟨"GangMatrixModel", "runs", "(II)V"⟩, 30) := ⟨⟨by decide +kernel, by decide +kernel⟩, List.mem_of_getElem? (i := 1044) (by decide +kernel), List.mem_of_getElem? (i := 1557) (by decide +kernel), List.mem_of_getElem? (i := 1558) (by decide +kernel)⟩
theorem lw_p127 : lw_okq (⟨"GangMatrixModel", "cellsIn", "(I)I"⟩, 30) := ⟨⟨by decide +kernel, by decide +kernel⟩, List.mem_of_getElem? (i := 1044) (by decide +kernel), List.mem_of_getElem? (i := 1561) (by decide +kernel), List.mem_of_getElem? (i := 1562) (by decide +kernel)⟩
def lw_privs_8 : List (MethodName × Nat) := [(⟨"GangMatrixModel", "findsUrge", "(I)Z"⟩, 30), (⟨"GangMatrixModel", "urgesAt", "(III)V"⟩, 30), (⟨"GangMatrixModel", "isInWay", "(III)Z"⟩, 30), (⟨"GangMatrixModel", "manyOf", "(I)I"⟩, 30), (⟨"GangMatrixModel", "thinsOne", "(I)I"⟩, 30), (⟨"GangMatrixModel", "thinsTwo", "()I"⟩, 30), (⟨"GangMatrixModel", "isSlot", "(I)Z"⟩, 30), (⟨"GangMatrixModel", "laysLenders", "(I)V"⟩, 30), (⟨"GangMatrixModel", "cellsOf", "(I)I"⟩, 30), (⟨"GangMatrixModel", "quanta", "(I)I"⟩, 30), (⟨"GangMatrixModel", "arrives", "()V"⟩, 30), (⟨"GangMatrixModel", "turns", "()V"⟩, 30), (⟨"GangMatrixModel", "turnOf", "()I"⟩, 30), (⟨"GangMatrixModel", "weightOf", "(I)I"⟩, 30), (⟨"GangMatrixModel", "runs", "(II)V"⟩, 30), (⟨"GangMatrixModel", "cellsIn", "(I)I"⟩, 30)]
theorem lw_r8 : ∀ q ∈ lw_privs_8, lw_okq q := List.forall_mem_cons.mpr ⟨lw_p112, List.forall_mem_cons.mpr ⟨lw_p113, List.forall_mem_cons.mpr ⟨lw_p114, List.forall_mem_cons.mpr ⟨lw_p115, List.forall_mem_cons.mpr ⟨lw_p116, List.forall_mem_cons.mpr ⟨lw_p117, List.forall_mem_cons.mpr ⟨lw_p118, List.forall_mem_cons.mpr ⟨lw_p119, List.forall_mem_cons.mpr ⟨lw_p120, List.forall_mem_cons.mpr ⟨lw_p121, List.forall_mem_cons.mpr ⟨lw_p122, List.forall_mem_cons.mpr ⟨lw_p123, List.forall_mem_cons.mpr ⟨lw_p124, List.forall_mem_cons.mpr ⟨lw_p125, List.forall_mem_cons.mpr ⟨lw_p126, List.forall_mem_cons.mpr ⟨lw_p127, fun _ h => absurd h List.not_mem_nil⟩⟩⟩⟩⟩⟩⟩⟩⟩⟩⟩⟩⟩⟩⟩⟩
theorem lw_p128 : lw_okq (⟨"GangMatrixModel", "countsColumns", "(III)V"⟩, 30) := ⟨⟨by decide +kernel, by decide +kernel⟩, List.mem_of_getElem? (i := 1044) (by decide +kernel), List.mem_of_getElem? (i := 1565) (by decide +kernel), List.mem_of_getElem? (i := 1566) (by decide +kernel)⟩
theorem lw_p129 : lw_okq (⟨"GangMatrixModel", "ones", "(I)I"⟩, 30) := ⟨⟨by decide +kernel, by decide +kernel⟩, List.mem_of_getElem? (i := 1044) (by decide +kernel), List.mem_of_getElem? (i := 1569) (by decide +kernel), List.mem_of_getElem? (i := 1570) (by decide +kernel)⟩
theorem lw_p130 : lw_okq (⟨"GangMatrixModel", "ends", "()I"⟩, 30) := ⟨⟨by decide +kernel, by decide +kernel⟩, List.mem_of_getElem? (i := 1044) (by decide +kernel), List.mem_of_getElem? (i := 1573) (by decide +kernel), List.mem_of_getElem? (i := 1574) (by decide +kernel)⟩
theorem lw_p131 : lw_okq (⟨"GangMatrixModel", "thinks", "()V"⟩, 30) := ⟨⟨by decide +kernel, by decide +kernel⟩, List.mem_of_getElem? (i := 1044) (by decide +kernel), List.mem_of_getElem? (i := 1581) (by decide +kernel), List.mem_of_getElem? (i := 1582) (by decide +kernel)⟩
theorem lw_p132 : lw_okq (⟨"GangMatrixModel", "idle", "()I"⟩, 30) := ⟨⟨by decide +kernel, by decide +kernel⟩, List.mem_of_getElem? (i := 1044) (by decide +kernel), List.mem_of_getElem? (i := 1585) (by decide +kernel), List.mem_of_getElem? (i := 1586) (by decide +kernel)⟩
theorem lw_p133 : lw_okq (⟨"GangMatrixModel", "forgets", "()V"⟩, 30) := ⟨⟨by decide +kernel, by decide +kernel⟩, List.mem_of_getElem? (i := 1044) (by decide +kernel), List.mem_of_getElem? (i := 1589) (by decide +kernel), List.mem_of_getElem? (i := 1590) (by decide +kernel)⟩
theorem lw_p134 : lw_okq (⟨"GangMatrixModel", "jobsOf", "(IZ)I"⟩, 30) := ⟨⟨by decide +kernel, by decide +kernel⟩, List.mem_of_getElem? (i := 1044) (by decide +kernel), List.mem_of_getElem? (i := 1618) (by decide +kernel), List.mem_of_getElem? (i := 1619) (by decide +kernel)⟩
theorem lw_p135 : lw_okq (⟨"GangMatrixModel", "waitedOf", "(I)I"⟩, 30) := ⟨⟨by decide +kernel, by decide +kernel⟩, List.mem_of_getElem? (i := 1044) (by decide +kernel), List.mem_of_getElem? (i := 1622) (by decide +kernel), List.mem_of_getElem? (i := 1623) (by decide +kernel)⟩
theorem lw_p136 : lw_okq (⟨"GangMatrixModel", "usedOfAll", "()I"⟩, 30) := ⟨⟨by decide +kernel, by decide +kernel⟩, List.mem_of_getElem? (i := 1044) (by decide +kernel), List.mem_of_getElem? (i := 1626) (by decide +kernel), List.mem_of_getElem? (i := 1627) (by decide +kernel)⟩
theorem lw_p137 : lw_okq (⟨"GangMatrixModel", "shares", "()I"⟩, 30) := ⟨⟨by decide +kernel, by decide +kernel⟩, List.mem_of_getElem? (i := 1044) (by decide +kernel), List.mem_of_getElem? (i := 1630) (by decide +kernel), List.mem_of_getElem? (i := 1631) (by decide +kernel)⟩
theorem lw_p138 : lw_okq (⟨"GangMatrixModel", "ringAt", "(II)I"⟩, 30) := ⟨⟨by decide +kernel, by decide +kernel⟩, List.mem_of_getElem? (i := 1044) (by decide +kernel), List.mem_of_getElem? (i := 1642) (by decide +kernel), List.mem_of_getElem? (i := 1643) (by decide +kernel)⟩
theorem lw_p139 : lw_okq (⟨"GangMatrixModel", "firstGreatest", "()I"⟩, 30) := ⟨⟨by decide +kernel, by decide +kernel⟩, List.mem_of_getElem? (i := 1044) (by decide +kernel), List.mem_of_getElem? (i := 1658) (by decide +kernel), List.mem_of_getElem? (i := 1659) (by decide +kernel)⟩
def lw_privs_9 : List (MethodName × Nat) := [(⟨"GangMatrixModel", "countsColumns", "(III)V"⟩, 30), (⟨"GangMatrixModel", "ones", "(I)I"⟩, 30), (⟨"GangMatrixModel", "ends", "()I"⟩, 30), (⟨"GangMatrixModel", "thinks", "()V"⟩, 30), (⟨"GangMatrixModel", "idle", "()I"⟩, 30), (⟨"GangMatrixModel", "forgets", "()V"⟩, 30), (⟨"GangMatrixModel", "jobsOf", "(IZ)I"⟩, 30), (⟨"GangMatrixModel", "waitedOf", "(I)I"⟩, 30), (⟨"GangMatrixModel", "usedOfAll", "()I"⟩, 30), (⟨"GangMatrixModel", "shares", "()I"⟩, 30), (⟨"GangMatrixModel", "ringAt", "(II)I"⟩, 30), (⟨"GangMatrixModel", "firstGreatest", "()I"⟩, 30)]
theorem lw_r9 : ∀ q ∈ lw_privs_9, lw_okq q := List.forall_mem_cons.mpr ⟨lw_p128, List.forall_mem_cons.mpr ⟨lw_p129, List.forall_mem_cons.mpr ⟨lw_p130, List.forall_mem_cons.mpr ⟨lw_p131, List.forall_mem_cons.mpr ⟨lw_p132, List.forall_mem_cons.mpr ⟨lw_p133, List.forall_mem_cons.mpr ⟨lw_p134, List.forall_mem_cons.mpr ⟨lw_p135, List.forall_mem_cons.mpr ⟨lw_p136, List.forall_mem_cons.mpr ⟨lw_p137, List.forall_mem_cons.mpr ⟨lw_p138, List.forall_mem_cons.mpr ⟨lw_p139, fun _ h => absurd h List.not_mem_nil⟩⟩⟩⟩⟩⟩⟩⟩⟩⟩⟩⟩
def lw_privs : List (MethodName × Nat) := lw_privs_1 ++ (lw_privs_2 ++ (lw_privs_3 ++ (lw_privs_4 ++ (lw_privs_5 ++ (lw_privs_6 ++ (lw_privs_7 ++ (lw_privs_8 ++ (lw_privs_9))))))))
def lw_tbl : List Cond := k2_sels lw_privs ++ tables_1
theorem lw_privs_ok : ∀ q ∈ lw_privs, lw_okq q := by
  show ∀ q ∈ lw_privs_1 ++ (lw_privs_2 ++ (lw_privs_3 ++ (lw_privs_4 ++ (lw_privs_5 ++ (lw_privs_6 ++ (lw_privs_7 ++ (lw_privs_8 ++ (lw_privs_9)))))))), lw_okq q
  exact List.forall_mem_append.mpr ⟨lw_r1, List.forall_mem_append.mpr ⟨lw_r2, List.forall_mem_append.mpr ⟨lw_r3, List.forall_mem_append.mpr ⟨lw_r4, List.forall_mem_append.mpr ⟨lw_r5, List.forall_mem_append.mpr ⟨lw_r6, List.forall_mem_append.mpr ⟨lw_r7, List.forall_mem_append.mpr ⟨lw_r8, lw_r9⟩⟩⟩⟩⟩⟩⟩⟩
end
section
def RX0 : String := "GangMatrix$Arrivals"
def TX0 : u_T := fun k => match k with
  | 0 => ("GangMatrix$Arrivals", "value", "[[I", true)
  | _ => ("GangMatrix$Arrivals", "ahead", "I", false)
def tyX0 : Nat → FieldType := fun k => match k with
  | 0 => .array (.array .int)
  | _ => .int
abbrev wsX00 : List Cond := u_ws RX0 TX0 2
theorem nmX0 : ∀ a, a < 2 → ∀ b, b < 2 → a ≠ b → (TX0 a).2.1 ≠ (TX0 b).2.1 := by decide +kernel
theorem tyX0_ok : ∀ k, k < 2 → parseFieldDescriptor (TX0 k).2.2.1 = some (tyX0 k) := by decide +kernel
abbrev cX0_init : ByteArray := prog_2_method_1_code
def yX0_init : MethodName := ⟨RX0, "<init>", "()V"⟩
abbrev cX0_add : ByteArray := prog_2_method_2_code
def yX0_add : MethodName := ⟨RX0, "add", "(IIII)V"⟩
abbrev cX0_isDue : ByteArray := prog_2_method_3_code
def yX0_isDue : MethodName := ⟨RX0, "isDue", "(II)Z"⟩
abbrev cX0_size : ByteArray := prog_2_method_4_code
def yX0_size : MethodName := ⟨RX0, "size", "(I)I"⟩
abbrev cX0_work : ByteArray := prog_2_method_5_code
def yX0_work : MethodName := ⟨RX0, "work", "(I)I"⟩
abbrev cX0_who : ByteArray := prog_2_method_6_code
def yX0_who : MethodName := ⟨RX0, "who", "(I)I"⟩
abbrev cX0_dropDue : ByteArray := prog_2_method_7_code
def yX0_dropDue : MethodName := ⟨RX0, "dropDue", "(I)V"⟩
abbrev cX0_copyFrom : ByteArray := prog_2_method_8_code
def yX0_copyFrom : MethodName := ⟨RX0, "copyFrom", "(LGangMatrix$Arrivals;)V"⟩
def RX1 : String := "GangMatrix$Blocks"
def TX1 : u_T := fun k => match k with
  | _ => ("", "", "", false)
def tyX1 : Nat → FieldType := fun k => match k with
  | _ => .int
abbrev cX1_bits : ByteArray := prog_3_method_2_code
def yX1_bits : MethodName := ⟨RX1, "bits", "(II)I"⟩
abbrev cX1_widthOf : ByteArray := prog_3_method_3_code
def yX1_widthOf : MethodName := ⟨RX1, "widthOf", "(I)I"⟩
abbrev cX1_starts : ByteArray := prog_3_method_4_code
def yX1_starts : MethodName := ⟨RX1, "starts", "(II)I"⟩
abbrev cX1_lowest : ByteArray := prog_3_method_5_code
def yX1_lowest : MethodName := ⟨RX1, "lowest", "(I)I"⟩
abbrev cX1_spot : ByteArray := prog_3_method_6_code
def yX1_spot : MethodName := ⟨RX1, "spot", "(II)I"⟩
abbrev cX1_slotOf : ByteArray := prog_3_method_7_code
def yX1_slotOf : MethodName := ⟨RX1, "slotOf", "(I)I"⟩
abbrev cX1_columnOf : ByteArray := prog_3_method_8_code
def yX1_columnOf : MethodName := ⟨RX1, "columnOf", "(I)I"⟩
def RX2 : String := "GangMatrix$Board"
def TX2 : u_T := fun k => match k with
  | 0 => ("GangMatrix$Board", "told", "[I", true)
  | 1 => ("GangMatrix$Board", "tally", "[I", true)
  | 2 => ("GangMatrix$Board", "jobs", "LGangMatrix$Jobs;", true)
  | 3 => ("GangMatrix$Board", "users", "LGangMatrix$Users;", true)
  | 4 => ("GangMatrix$Board", "slots", "LGangMatrix$Slots;", true)
  | 5 => ("GangMatrix$Board", "arrivals", "LGangMatrix$Arrivals;", true)
  | 6 => ("GangMatrix$Board", "lines", "LGangMatrix$Ring;", true)
  | 7 => ("GangMatrix$Board", "gone", "LGangMatrix$Ring;", true)
  | 8 => ("GangMatrix$Board", "crew", "LGangMatrix$Crew;", true)
  | 9 => ("GangMatrix$Board", "order", "[I", true)
  | 10 => ("GangMatrix$Board", "key", "[I", true)
  | 11 => ("GangMatrix$Board", "load", "[I", true)
  | 12 => ("GangMatrix$Board", "time", "I", false)
  | _ => ("GangMatrix$Board", "downs", "I", false)
def tyX2 : Nat → FieldType := fun k => match k with
  | 0 => .array .int
  | 1 => .array .int
  | 2 => .object "GangMatrix$Jobs"
  | 3 => .object "GangMatrix$Users"
  | 4 => .object "GangMatrix$Slots"
  | 5 => .object "GangMatrix$Arrivals"
  | 6 => .object "GangMatrix$Ring"
  | 7 => .object "GangMatrix$Ring"
  | 8 => .object "GangMatrix$Crew"
  | 9 => .array .int
  | 10 => .array .int
  | 11 => .array .int
  | 12 => .int
  | _ => .int
abbrev wsX20 : List Cond := u_ws RX2 TX2 14
theorem nmX2 : ∀ a, a < 14 → ∀ b, b < 14 → a ≠ b → (TX2 a).2.1 ≠ (TX2 b).2.1 := by decide +kernel
theorem tyX2_ok : ∀ k, k < 14 → parseFieldDescriptor (TX2 k).2.2.1 = some (tyX2 k) := by decide +kernel
abbrev cX2_init : ByteArray := prog_4_method_1_code
def yX2_init : MethodName := ⟨RX2, "<init>", "()V"⟩
abbrev cX2_copyFrom : ByteArray := prog_4_method_2_code
def yX2_copyFrom : MethodName := ⟨RX2, "copyFrom", "(LGangMatrix$Board;)V"⟩
abbrev cX2_p : ByteArray := prog_4_method_3_code
def yX2_p : MethodName := ⟨RX2, "p", "()I"⟩
abbrev cX2_ups : ByteArray := prog_4_method_4_code
def yX2_ups : MethodName := ⟨RX2, "ups", "()I"⟩
abbrev cX2_hasColumn : ByteArray := prog_4_method_5_code
def yX2_hasColumn : MethodName := ⟨RX2, "hasColumn", "(I)Z"⟩
abbrev cX2_isDown : ByteArray := prog_4_method_6_code
def yX2_isDown : MethodName := ⟨RX2, "isDown", "(I)Z"⟩
abbrev cX2_freeIn : ByteArray := prog_4_method_7_code
def yX2_freeIn : MethodName := ⟨RX2, "freeIn", "(I)I"⟩
abbrev cX2_tell : ByteArray := prog_4_method_8_code
def yX2_tell : MethodName := ⟨RX2, "tell", "(II)Z"⟩
abbrev cX2_note : ByteArray := prog_4_method_9_code
def yX2_note : MethodName := ⟨RX2, "note", "(II)V"⟩
abbrev cX2_canCome : ByteArray := prog_4_method_10_code
def yX2_canCome : MethodName := ⟨RX2, "canCome", "(III)Z"⟩
abbrev cX2_come : ByteArray := prog_4_method_11_code
def yX2_come : MethodName := ⟨RX2, "come", "(IIII)I"⟩
abbrev cX2_spotFor : ByteArray := prog_4_method_12_code
def yX2_spotFor : MethodName := ⟨RX2, "spotFor", "(I)I"⟩
abbrev cX2_canStand : ByteArray := prog_4_method_13_code
def yX2_canStand : MethodName := ⟨RX2, "canStand", "(I)Z"⟩
abbrev cX2_rankedStart : ByteArray := prog_4_method_14_code
def yX2_rankedStart : MethodName := ⟨RX2, "rankedStart", "(II)I"⟩
abbrev cX2_roomOf : ByteArray := prog_4_method_15_code
def yX2_roomOf : MethodName := ⟨RX2, "roomOf", "(III)I"⟩
abbrev cX2_loadRank : ByteArray := prog_4_method_16_code
def yX2_loadRank : MethodName := ⟨RX2, "loadRank", "(II)I"⟩
abbrev cX2_lineUp : ByteArray := prog_4_method_17_code
def yX2_lineUp : MethodName := ⟨RX2, "lineUp", "()I"⟩
abbrev cX2_goOn : ByteArray := prog_4_method_18_code
def yX2_goOn : MethodName := ⟨RX2, "goOn", "()V"⟩
abbrev cX2_tryPlace : ByteArray := prog_4_method_19_code
def yX2_tryPlace : MethodName := ⟨RX2, "tryPlace", "(II)Z"⟩
abbrev cX2_placeAt : ByteArray := prog_4_method_20_code
def yX2_placeAt : MethodName := ⟨RX2, "placeAt", "(III)V"⟩
abbrev cX2_settle : ByteArray := prog_4_method_21_code
def yX2_settle : MethodName := ⟨RX2, "settle", "(III)V"⟩
abbrev cX2_takeOut : ByteArray := prog_4_method_22_code
def yX2_takeOut : MethodName := ⟨RX2, "takeOut", "(I)V"⟩
abbrev cX2_dropEmpty : ByteArray := prog_4_method_23_code
def yX2_dropEmpty : MethodName := ⟨RX2, "dropEmpty", "()V"⟩
abbrev cX2_dropSlot : ByteArray := prog_4_method_24_code
def yX2_dropSlot : MethodName := ⟨RX2, "dropSlot", "(I)V"⟩
abbrev cX2_weightOf : ByteArray := prog_4_method_25_code
def yX2_weightOf : MethodName := ⟨RX2, "weightOf", "(I)I"⟩
abbrev cX2_runOne : ByteArray := prog_4_method_26_code
def yX2_runOne : MethodName := ⟨RX2, "runOne", "()I"⟩
abbrev cX2_bringArrivals : ByteArray := prog_4_method_27_code
def yX2_bringArrivals : MethodName := ⟨RX2, "bringArrivals", "()V"⟩
abbrev cX2_takeTurn : ByteArray := prog_4_method_28_code
def yX2_takeTurn : MethodName := ⟨RX2, "takeTurn", "(I)V"⟩
abbrev cX2_run : ByteArray := prog_4_method_29_code
def yX2_run : MethodName := ⟨RX2, "run", "(II)V"⟩
abbrev cX2_restStopped : ByteArray := prog_4_method_30_code
def yX2_restStopped : MethodName := ⟨RX2, "restStopped", "()V"⟩
abbrev cX2_countColumns : ByteArray := prog_4_method_31_code
def yX2_countColumns : MethodName := ⟨RX2, "countColumns", "(I)V"⟩
abbrev cX2_endJobs : ByteArray := prog_4_method_32_code
def yX2_endJobs : MethodName := ⟨RX2, "endJobs", "()I"⟩
abbrev cX2_wakeHeld : ByteArray := prog_4_method_33_code
def yX2_wakeHeld : MethodName := ⟨RX2, "wakeHeld", "()V"⟩
abbrev cX2_isOver : ByteArray := prog_4_method_34_code
def yX2_isOver : MethodName := ⟨RX2, "isOver", "(I)Z"⟩
abbrev cX2_unifyAll : ByteArray := prog_4_method_35_code
def yX2_unifyAll : MethodName := ⟨RX2, "unifyAll", "()I"⟩
abbrev cX2_unifyFirst : ByteArray := prog_4_method_36_code
def yX2_unifyFirst : MethodName := ⟨RX2, "unifyFirst", "()Z"⟩
abbrev cX2_unite : ByteArray := prog_4_method_37_code
def yX2_unite : MethodName := ⟨RX2, "unite", "(II)V"⟩
abbrev cX2_repackAll : ByteArray := prog_4_method_38_code
def yX2_repackAll : MethodName := ⟨RX2, "repackAll", "()V"⟩
abbrev cX2_sortForRepack : ByteArray := prog_4_method_39_code
def yX2_sortForRepack : MethodName := ⟨RX2, "sortForRepack", "()I"⟩
abbrev cX2_sortKeys : ByteArray := prog_4_method_40_code
def yX2_sortKeys : MethodName := ⟨RX2, "sortKeys", "([II)V"⟩
abbrev cX2_killWithHeld : ByteArray := prog_4_method_41_code
def yX2_killWithHeld : MethodName := ⟨RX2, "killWithHeld", "(I)I"⟩
abbrev cX2_nextHeldBy : ByteArray := prog_4_method_42_code
def yX2_nextHeldBy : MethodName := ⟨RX2, "nextHeldBy", "(II)I"⟩
abbrev cX2_end : ByteArray := prog_4_method_43_code
def yX2_end : MethodName := ⟨RX2, "end", "(I)V"⟩
abbrev cX2_fail : ByteArray := prog_4_method_44_code
def yX2_fail : MethodName := ⟨RX2, "fail", "(I)V"⟩
abbrev cX2_putBack : ByteArray := prog_4_method_45_code
def yX2_putBack : MethodName := ⟨RX2, "putBack", "(II)V"⟩
abbrev cX2_stands : ByteArray := prog_4_method_46_code
def yX2_stands : MethodName := ⟨RX2, "stands", "(II)Z"⟩
def RX3 : String := "GangMatrix$Crew"
def TX3 : u_T := fun k => match k with
  | 0 => ("GangMatrix$Crew", "runner", "[I", true)
  | 1 => ("GangMatrix$Crew", "ready", "[I", true)
  | 2 => ("GangMatrix$Crew", "readies", "I", false)
  | 3 => ("GangMatrix$Crew", "own", "I", false)
  | 4 => ("GangMatrix$Crew", "lent", "I", false)
  | _ => ("GangMatrix$Crew", "cells", "I", false)
def tyX3 : Nat → FieldType := fun k => match k with
  | 0 => .array .int
  | 1 => .array .int
  | 2 => .int
  | 3 => .int
  | 4 => .int
  | _ => .int
abbrev wsX30 : List Cond := u_ws RX3 TX3 6
theorem nmX3 : ∀ a, a < 6 → ∀ b, b < 6 → a ≠ b → (TX3 a).2.1 ≠ (TX3 b).2.1 := by decide +kernel
theorem tyX3_ok : ∀ k, k < 6 → parseFieldDescriptor (TX3 k).2.2.1 = some (tyX3 k) := by decide +kernel
abbrev cX3_init : ByteArray := prog_5_method_1_code
def yX3_init : MethodName := ⟨RX3, "<init>", "()V"⟩
abbrev cX3_clear : ByteArray := prog_5_method_2_code
def yX3_clear : MethodName := ⟨RX3, "clear", "()V"⟩
abbrev cX3_size : ByteArray := prog_5_method_3_code
def yX3_size : MethodName := ⟨RX3, "size", "()I"⟩
abbrev cX3_lentAt : ByteArray := prog_5_method_4_code
def yX3_lentAt : MethodName := ⟨RX3, "lentAt", "(I)I"⟩
abbrev cX3_choose : ByteArray := prog_5_method_5_code
def yX3_choose : MethodName := ⟨RX3, "choose", "(LGangMatrix$Jobs;LGangMatrix$Users;IZ)V"⟩
abbrev cX3_sort : ByteArray := prog_5_method_6_code
def yX3_sort : MethodName := ⟨RX3, "sort", "(LGangMatrix$Jobs;II)V"⟩
abbrev cX3_lendTo : ByteArray := prog_5_method_7_code
def yX3_lendTo : MethodName := ⟨RX3, "lendTo", "(LGangMatrix$Jobs;LGangMatrix$Users;I)V"⟩
def RX4 : String := "GangMatrix$Jobs"
def TX4 : u_T := fun k => match k with
  | 0 => ("GangMatrix$Jobs", "row", "[[I", true)
  | 1 => ("GangMatrix$Jobs", "line", "[I", true)
  | 2 => ("GangMatrix$Jobs", "came", "I", false)
  | _ => ("GangMatrix$Jobs", "waiting", "I", false)
def tyX4 : Nat → FieldType := fun k => match k with
  | 0 => .array (.array .int)
  | 1 => .array .int
  | 2 => .int
  | _ => .int
abbrev wsX40 : List Cond := u_ws RX4 TX4 4
theorem nmX4 : ∀ a, a < 4 → ∀ b, b < 4 → a ≠ b → (TX4 a).2.1 ≠ (TX4 b).2.1 := by decide +kernel
theorem tyX4_ok : ∀ k, k < 4 → parseFieldDescriptor (TX4 k).2.2.1 = some (tyX4 k) := by decide +kernel
abbrev cX4_init : ByteArray := prog_6_method_1_code
def yX4_init : MethodName := ⟨RX4, "<init>", "()V"⟩
abbrev cX4_has : ByteArray := prog_6_method_2_code
def yX4_has : MethodName := ⟨RX4, "has", "(I)Z"⟩
abbrev cX4_state : ByteArray := prog_6_method_3_code
def yX4_state : MethodName := ⟨RX4, "state", "(I)I"⟩
abbrev cX4_isPlaced : ByteArray := prog_6_method_4_code
def yX4_isPlaced : MethodName := ⟨RX4, "isPlaced", "(I)Z"⟩
abbrev cX4_isWaiting : ByteArray := prog_6_method_5_code
def yX4_isWaiting : MethodName := ⟨RX4, "isWaiting", "(I)Z"⟩
abbrev cX4_canFollow : ByteArray := prog_6_method_6_code
def yX4_canFollow : MethodName := ⟨RX4, "canFollow", "(I)Z"⟩
abbrev cX4_add : ByteArray := prog_6_method_7_code
def yX4_add : MethodName := ⟨RX4, "add", "(IIIII)I"⟩
abbrev cX4_toLine : ByteArray := prog_6_method_8_code
def yX4_toLine : MethodName := ⟨RX4, "toLine", "(I)V"⟩
abbrev cX4_fromLine : ByteArray := prog_6_method_9_code
def yX4_fromLine : MethodName := ⟨RX4, "fromLine", "(I)V"⟩
abbrev cX4_block : ByteArray := prog_6_method_10_code
def yX4_block : MethodName := ⟨RX4, "block", "(I)I"⟩
abbrev cX4_cells : ByteArray := prog_6_method_11_code
def yX4_cells : MethodName := ⟨RX4, "cells", "(I)I"⟩
abbrev cX4_lossOf : ByteArray := prog_6_method_12_code
def yX4_lossOf : MethodName := ⟨RX4, "lossOf", "(I)I"⟩
abbrev cX4_inBlock : ByteArray := prog_6_method_13_code
def yX4_inBlock : MethodName := ⟨RX4, "inBlock", "(II)I"⟩
abbrev cX4_inState : ByteArray := prog_6_method_14_code
def yX4_inState : MethodName := ⟨RX4, "inState", "(I)I"⟩
abbrev cX4_inSlot : ByteArray := prog_6_method_15_code
def yX4_inSlot : MethodName := ⟨RX4, "inSlot", "(I)I"⟩
abbrev cX4_cellsIn : ByteArray := prog_6_method_16_code
def yX4_cellsIn : MethodName := ⟨RX4, "cellsIn", "(I)I"⟩
abbrev cX4_ofUser : ByteArray := prog_6_method_17_code
def yX4_ofUser : MethodName := ⟨RX4, "ofUser", "(III)I"⟩
abbrev cX4_waitedOf : ByteArray := prog_6_method_18_code
def yX4_waitedOf : MethodName := ⟨RX4, "waitedOf", "(I)I"⟩
abbrev cX4_leastLeft : ByteArray := prog_6_method_19_code
def yX4_leastLeft : MethodName := ⟨RX4, "leastLeft", "()I"⟩
abbrev cX4_copyFrom : ByteArray := prog_6_method_20_code
def yX4_copyFrom : MethodName := ⟨RX4, "copyFrom", "(LGangMatrix$Jobs;)V"⟩
def RX5 : String := "GangMatrix$Plans"
def TX5 : u_T := fun k => match k with
  | 0 => ("GangMatrix$Plans", "board", "LGangMatrix$Board;", true)
  | 1 => ("GangMatrix$Plans", "jobs", "LGangMatrix$Jobs;", true)
  | 2 => ("GangMatrix$Plans", "slots", "LGangMatrix$Slots;", true)
  | 3 => ("GangMatrix$Plans", "load", "[I", true)
  | 4 => ("GangMatrix$Plans", "laid", "[I", true)
  | 5 => ("GangMatrix$Plans", "key", "[I", true)
  | _ => ("GangMatrix$Plans", "peak", "I", false)
def tyX5 : Nat → FieldType := fun k => match k with
  | 0 => .object "GangMatrix$Board"
  | 1 => .object "GangMatrix$Jobs"
  | 2 => .object "GangMatrix$Slots"
  | 3 => .array .int
  | 4 => .array .int
  | 5 => .array .int
  | _ => .int
abbrev wsX50 : List Cond := u_ws RX5 TX5 7
theorem nmX5 : ∀ a, a < 7 → ∀ b, b < 7 → a ≠ b → (TX5 a).2.1 ≠ (TX5 b).2.1 := by decide +kernel
theorem tyX5_ok : ∀ k, k < 7 → parseFieldDescriptor (TX5 k).2.2.1 = some (tyX5 k) := by decide +kernel
abbrev cX5_init : ByteArray := prog_7_method_1_code
def yX5_init : MethodName := ⟨RX5, "<init>", "(LGangMatrix$Board;)V"⟩
abbrev cX5_stopOf : ByteArray := prog_7_method_2_code
def yX5_stopOf : MethodName := ⟨RX5, "stopOf", "(I)I"⟩
abbrev cX5_costOf : ByteArray := prog_7_method_3_code
def yX5_costOf : MethodName := ⟨RX5, "costOf", "(I)I"⟩
abbrev cX5_gain : ByteArray := prog_7_method_4_code
def yX5_gain : MethodName := ⟨RX5, "gain", "()I"⟩
abbrev cX5_isUp : ByteArray := prog_7_method_5_code
def yX5_isUp : MethodName := ⟨RX5, "isUp", "(II)Z"⟩
abbrev cX5_addLoad : ByteArray := prog_7_method_6_code
def yX5_addLoad : MethodName := ⟨RX5, "addLoad", "(III)V"⟩
abbrev cX5_greatestLoad : ByteArray := prog_7_method_7_code
def yX5_greatestLoad : MethodName := ⟨RX5, "greatestLoad", "(II)I"⟩
abbrev cX5_stop : ByteArray := prog_7_method_8_code
def yX5_stop : MethodName := ⟨RX5, "stop", "(I)V"⟩
abbrev cX5_moveTo : ByteArray := prog_7_method_9_code
def yX5_moveTo : MethodName := ⟨RX5, "moveTo", "(II)Z"⟩
abbrev cX5_hasRoom : ByteArray := prog_7_method_10_code
def yX5_hasRoom : MethodName := ⟨RX5, "hasRoom", "(II)Z"⟩
abbrev cX5_bestColumn : ByteArray := prog_7_method_11_code
def yX5_bestColumn : MethodName := ⟨RX5, "bestColumn", "(I)I"⟩
abbrev cX5_weighed : ByteArray := prog_7_method_12_code
def yX5_weighed : MethodName := ⟨RX5, "weighed", "(II)I"⟩
abbrev cX5_migrateToBest : ByteArray := prog_7_method_13_code
def yX5_migrateToBest : MethodName := ⟨RX5, "migrateToBest", "(I)Z"⟩
abbrev cX5_layAnew : ByteArray := prog_7_method_14_code
def yX5_layAnew : MethodName := ⟨RX5, "layAnew", "()V"⟩
abbrev cX5_sortByWidth : ByteArray := prog_7_method_15_code
def yX5_sortByWidth : MethodName := ⟨RX5, "sortByWidth", "()I"⟩
abbrev cX5_layColumn : ByteArray := prog_7_method_16_code
def yX5_layColumn : MethodName := ⟨RX5, "layColumn", "(I)I"⟩
abbrev cX5_isLaidElsewhere : ByteArray := prog_7_method_17_code
def yX5_isLaidElsewhere : MethodName := ⟨RX5, "isLaidElsewhere", "(I)Z"⟩
abbrev cX5_laidElsewhere : ByteArray := prog_7_method_18_code
def yX5_laidElsewhere : MethodName := ⟨RX5, "laidElsewhere", "()I"⟩
abbrev cX5_layingCost : ByteArray := prog_7_method_19_code
def yX5_layingCost : MethodName := ⟨RX5, "layingCost", "()I"⟩
abbrev cX5_packed : ByteArray := prog_7_method_20_code
def yX5_packed : MethodName := ⟨RX5, "packed", "(I)I"⟩
abbrev cX5_relayAll : ByteArray := prog_7_method_21_code
def yX5_relayAll : MethodName := ⟨RX5, "relayAll", "()Z"⟩
abbrev cX5_urgeSpot : ByteArray := prog_7_method_22_code
def yX5_urgeSpot : MethodName := ⟨RX5, "urgeSpot", "(I)I"⟩
abbrev cX5_lossAt : ByteArray := prog_7_method_23_code
def yX5_lossAt : MethodName := ⟨RX5, "lossAt", "(II)I"⟩
abbrev cX5_hitAt : ByteArray := prog_7_method_24_code
def yX5_hitAt : MethodName := ⟨RX5, "hitAt", "(II)I"⟩
abbrev cX5_urgedWhat : ByteArray := prog_7_method_25_code
def yX5_urgedWhat : MethodName := ⟨RX5, "urgedWhat", "(II)I"⟩
abbrev cX5_urgeIn : ByteArray := prog_7_method_26_code
def yX5_urgeIn : MethodName := ⟨RX5, "urgeIn", "(I)Z"⟩
abbrev cX5_thinned : ByteArray := prog_7_method_27_code
def yX5_thinned : MethodName := ⟨RX5, "thinned", "(I)I"⟩
abbrev cX5_leastPeakBy : ByteArray := prog_7_method_28_code
def yX5_leastPeakBy : MethodName := ⟨RX5, "leastPeakBy", "(I)I"⟩
abbrev cX5_leastPeakByTwo : ByteArray := prog_7_method_29_code
def yX5_leastPeakByTwo : MethodName := ⟨RX5, "leastPeakByTwo", "(I)I"⟩
abbrev cX5_leastPeakByLater : ByteArray := prog_7_method_30_code
def yX5_leastPeakByLater : MethodName := ⟨RX5, "leastPeakByLater", "(I)I"⟩
def RX6 : String := "GangMatrix$Ring"
def TX6 : u_T := fun k => match k with
  | 0 => ("GangMatrix$Ring", "value", "[[I", true)
  | _ => ("GangMatrix$Ring", "total", "I", false)
def tyX6 : Nat → FieldType := fun k => match k with
  | 0 => .array (.array .int)
  | _ => .int
abbrev wsX60 : List Cond := u_ws RX6 TX6 2
theorem nmX6 : ∀ a, a < 2 → ∀ b, b < 2 → a ≠ b → (TX6 a).2.1 ≠ (TX6 b).2.1 := by decide +kernel
theorem tyX6_ok : ∀ k, k < 2 → parseFieldDescriptor (TX6 k).2.2.1 = some (tyX6 k) := by decide +kernel
abbrev cX6_init : ByteArray := prog_8_method_1_code
def yX6_init : MethodName := ⟨RX6, "<init>", "()V"⟩
abbrev cX6_add : ByteArray := prog_8_method_2_code
def yX6_add : MethodName := ⟨RX6, "add", "(IIIII)V"⟩
abbrev cX6_valueAt : ByteArray := prog_8_method_3_code
def yX6_valueAt : MethodName := ⟨RX6, "valueAt", "(III)I"⟩
abbrev cX6_copyFrom : ByteArray := prog_8_method_4_code
def yX6_copyFrom : MethodName := ⟨RX6, "copyFrom", "(LGangMatrix$Ring;)V"⟩
def RX7 : String := "GangMatrix$Slots"
def TX7 : u_T := fun k => match k with
  | 0 => ("GangMatrix$Slots", "pass", "[J", true)
  | 1 => ("GangMatrix$Slots", "turns", "[I", true)
  | 2 => ("GangMatrix$Slots", "busy", "[I", true)
  | _ => ("GangMatrix$Slots", "rows", "I", false)
def tyX7 : Nat → FieldType := fun k => match k with
  | 0 => .array .long
  | 1 => .array .int
  | 2 => .array .int
  | _ => .int
abbrev wsX70 : List Cond := u_ws RX7 TX7 4
theorem nmX7 : ∀ a, a < 4 → ∀ b, b < 4 → a ≠ b → (TX7 a).2.1 ≠ (TX7 b).2.1 := by decide +kernel
theorem tyX7_ok : ∀ k, k < 4 → parseFieldDescriptor (TX7 k).2.2.1 = some (tyX7 k) := by decide +kernel
abbrev cX7_init : ByteArray := prog_9_method_1_code
def yX7_init : MethodName := ⟨RX7, "<init>", "()V"⟩
abbrev cX7_has : ByteArray := prog_9_method_2_code
def yX7_has : MethodName := ⟨RX7, "has", "(I)Z"⟩
abbrev cX7_leastPass : ByteArray := prog_9_method_3_code
def yX7_leastPass : MethodName := ⟨RX7, "leastPass", "()J"⟩
abbrev cX7_next : ByteArray := prog_9_method_4_code
def yX7_next : MethodName := ⟨RX7, "next", "()I"⟩
abbrev cX7_open : ByteArray := prog_9_method_5_code
def yX7_open : MethodName := ⟨RX7, "open", "()V"⟩
abbrev cX7_drop : ByteArray := prog_9_method_6_code
def yX7_drop : MethodName := ⟨RX7, "drop", "(I)V"⟩
abbrev cX7_firstClear : ByteArray := prog_9_method_7_code
def yX7_firstClear : MethodName := ⟨RX7, "firstClear", "(I)I"⟩
abbrev cX7_unite : ByteArray := prog_9_method_8_code
def yX7_unite : MethodName := ⟨RX7, "unite", "(II)V"⟩
abbrev cX7_passAllAt : ByteArray := prog_9_method_9_code
def yX7_passAllAt : MethodName := ⟨RX7, "passAllAt", "(J)V"⟩
abbrev cX7_loadOf : ByteArray := prog_9_method_10_code
def yX7_loadOf : MethodName := ⟨RX7, "loadOf", "(I)I"⟩
abbrev cX7_loadsInto : ByteArray := prog_9_method_11_code
def yX7_loadsInto : MethodName := ⟨RX7, "loadsInto", "([I)V"⟩
abbrev cX7_peakColumn : ByteArray := prog_9_method_12_code
def yX7_peakColumn : MethodName := ⟨RX7, "peakColumn", "()I"⟩
abbrev cX7_peak : ByteArray := prog_9_method_13_code
def yX7_peak : MethodName := ⟨RX7, "peak", "()I"⟩
abbrev cX7_copyFrom : ByteArray := prog_9_method_14_code
def yX7_copyFrom : MethodName := ⟨RX7, "copyFrom", "(LGangMatrix$Slots;)V"⟩
def RX8 : String := "GangMatrix$Users"
def TX8 : u_T := fun k => match k with
  | 0 => ("GangMatrix$Users", "share", "[I", true)
  | 1 => ("GangMatrix$Users", "used", "[I", true)
  | _ => ("GangMatrix$Users", "rank", "[I", true)
def tyX8 : Nat → FieldType := fun k => match k with
  | 0 => .array .int
  | 1 => .array .int
  | _ => .array .int
abbrev wsX80 : List Cond := u_ws RX8 TX8 3
theorem nmX8 : ∀ a, a < 3 → ∀ b, b < 3 → a ≠ b → (TX8 a).2.1 ≠ (TX8 b).2.1 := by decide +kernel
theorem tyX8_ok : ∀ k, k < 3 → parseFieldDescriptor (TX8 k).2.2.1 = some (tyX8 k) := by decide +kernel
abbrev cX8_init : ByteArray := prog_10_method_1_code
def yX8_init : MethodName := ⟨RX8, "<init>", "()V"⟩
abbrev cX8_promise : ByteArray := prog_10_method_2_code
def yX8_promise : MethodName := ⟨RX8, "promise", "(II)Z"⟩
abbrev cX8_rankAll : ByteArray := prog_10_method_3_code
def yX8_rankAll : MethodName := ⟨RX8, "rankAll", "()V"⟩
abbrev cX8_owed : ByteArray := prog_10_method_4_code
def yX8_owed : MethodName := ⟨RX8, "owed", "(I)I"⟩
abbrev cX8_copyFrom : ByteArray := prog_10_method_5_code
def yX8_copyFrom : MethodName := ⟨RX8, "copyFrom", "(LGangMatrix$Users;)V"⟩
def RX9 : String := "GangMatrix"
def TX9 : u_T := fun k => match k with
  | 0 => ("GangMatrix", "board", "LGangMatrix$Board;", true)
  | 1 => ("GangMatrix", "image", "LGangMatrix$Board;", true)
  | 2 => ("GangMatrix", "thought", "LGangMatrix$Board;", true)
  | 3 => ("GangMatrix", "plans", "LGangMatrix$Plans;", true)
  | _ => ("GangMatrix", "imageTaken", "Z", false)
def tyX9 : Nat → FieldType := fun k => match k with
  | 0 => .object "GangMatrix$Board"
  | 1 => .object "GangMatrix$Board"
  | 2 => .object "GangMatrix$Board"
  | 3 => .object "GangMatrix$Plans"
  | _ => .boolean
abbrev wsX90 : List Cond := u_ws RX9 TX9 5
theorem nmX9 : ∀ a, a < 5 → ∀ b, b < 5 → a ≠ b → (TX9 a).2.1 ≠ (TX9 b).2.1 := by decide +kernel
theorem tyX9_ok : ∀ k, k < 5 → parseFieldDescriptor (TX9 k).2.2.1 = some (tyX9 k) := by decide +kernel
abbrev cX9_init : ByteArray := prog_1_method_1_code
def yX9_init : MethodName := ⟨RX9, "<init>", "()V"⟩
abbrev cX9_set : ByteArray := prog_1_method_2_code
def yX9_set : MethodName := ⟨RX9, "set", "(II)Z"⟩
abbrev cX9_share : ByteArray := prog_1_method_3_code
def yX9_share : MethodName := ⟨RX9, "share", "(II)Z"⟩
abbrev cX9_job : ByteArray := prog_1_method_4_code
def yX9_job : MethodName := ⟨RX9, "job", "(IIII)I"⟩
abbrev cX9_later : ByteArray := prog_1_method_5_code
def yX9_later : MethodName := ⟨RX9, "later", "(IIII)I"⟩
abbrev cX9_kill : ByteArray := prog_1_method_6_code
def yX9_kill : MethodName := ⟨RX9, "kill", "(I)I"⟩
abbrev cX9_quantum : ByteArray := prog_1_method_7_code
def yX9_quantum : MethodName := ⟨RX9, "quantum", "(I)I"⟩
abbrev cX9_down : ByteArray := prog_1_method_8_code
def yX9_down : MethodName := ⟨RX9, "down", "(I)Z"⟩
abbrev cX9_up : ByteArray := prog_1_method_9_code
def yX9_up : MethodName := ⟨RX9, "up", "(I)Z"⟩
abbrev cX9_unify : ByteArray := prog_1_method_10_code
def yX9_unify : MethodName := ⟨RX9, "unify", "()I"⟩
abbrev cX9_repack : ByteArray := prog_1_method_11_code
def yX9_repack : MethodName := ⟨RX9, "repack", "()I"⟩
abbrev cX9_move : ByteArray := prog_1_method_12_code
def yX9_move : MethodName := ⟨RX9, "move", "(II)Z"⟩
abbrev cX9_migrate : ByteArray := prog_1_method_13_code
def yX9_migrate : MethodName := ⟨RX9, "migrate", "(I)Z"⟩
abbrev cX9_weigh : ByteArray := prog_1_method_14_code
def yX9_weigh : MethodName := ⟨RX9, "weigh", "(II)I"⟩
abbrev cX9_pack : ByteArray := prog_1_method_15_code
def yX9_pack : MethodName := ⟨RX9, "pack", "(I)I"⟩
abbrev cX9_relay : ByteArray := prog_1_method_16_code
def yX9_relay : MethodName := ⟨RX9, "relay", "()Z"⟩
abbrev cX9_urge : ByteArray := prog_1_method_17_code
def yX9_urge : MethodName := ⟨RX9, "urge", "(I)Z"⟩
abbrev cX9_urged : ByteArray := prog_1_method_18_code
def yX9_urged : MethodName := ⟨RX9, "urged", "(II)I"⟩
abbrev cX9_thin : ByteArray := prog_1_method_19_code
def yX9_thin : MethodName := ⟨RX9, "thin", "(I)I"⟩
abbrev cX9_where : ByteArray := prog_1_method_20_code
def yX9_where : MethodName := ⟨RX9, "where", "(II)I"⟩
abbrev cX9_free : ByteArray := prog_1_method_21_code
def yX9_free : MethodName := ⟨RX9, "free", "(III)I"⟩
abbrev cX9_cell : ByteArray := prog_1_method_22_code
def yX9_cell : MethodName := ⟨RX9, "cell", "(II)I"⟩
abbrev cX9_load : ByteArray := prog_1_method_23_code
def yX9_load : MethodName := ⟨RX9, "load", "(I)I"⟩
abbrev cX9_of : ByteArray := prog_1_method_24_code
def yX9_of : MethodName := ⟨RX9, "of", "(II)I"⟩
abbrev cX9_user : ByteArray := prog_1_method_25_code
def yX9_user : MethodName := ⟨RX9, "user", "(II)I"⟩
abbrev cX9_slot : ByteArray := prog_1_method_26_code
def yX9_slot : MethodName := ⟨RX9, "slot", "(II)I"⟩
abbrev cX9_queue : ByteArray := prog_1_method_27_code
def yX9_queue : MethodName := ⟨RX9, "queue", "(I)I"⟩
abbrev cX9_lends : ByteArray := prog_1_method_28_code
def yX9_lends : MethodName := ⟨RX9, "lends", "(II)I"⟩
abbrev cX9_would : ByteArray := prog_1_method_29_code
def yX9_would : MethodName := ⟨RX9, "would", "(II)I"⟩
abbrev cX9_when : ByteArray := prog_1_method_30_code
def yX9_when : MethodName := ⟨RX9, "when", "(I)I"⟩
abbrev cX9_log : ByteArray := prog_1_method_31_code
def yX9_log : MethodName := ⟨RX9, "log", "(II)I"⟩
abbrev cX9_went : ByteArray := prog_1_method_32_code
def yX9_went : MethodName := ⟨RX9, "went", "(II)I"⟩
abbrev cX9_count : ByteArray := prog_1_method_33_code
def yX9_count : MethodName := ⟨RX9, "count", "(I)I"⟩
abbrev cX9_image : ByteArray := prog_1_method_34_code
def yX9_image : MethodName := ⟨RX9, "image", "(Z)Z"⟩
abbrev cX9_look : ByteArray := prog_1_method_35_code
def yX9_look : MethodName := ⟨RX9, "look", "(I)I"⟩
abbrev cX9_wentOn : ByteArray := prog_1_method_36_code
def yX9_wentOn : MethodName := ⟨RX9, "wentOn", "(Z)Z"⟩
abbrev cX9_tallied : ByteArray := prog_1_method_37_code
def yX9_tallied : MethodName := ⟨RX9, "tallied", "(I)I"⟩
def RX10 : String := "GangMatrixModel"
def TX10 : u_T := fun k => match k with
  | 0 => ("GangMatrixModel", "told", "I", false)
  | 1 => ("GangMatrixModel", "now", "[I", true)
  | 2 => ("GangMatrixModel", "waiting", "[I", true)
  | 3 => ("GangMatrixModel", "pass", "[J", true)
  | 4 => ("GangMatrixModel", "passWaiting", "[J", true)
  | 5 => ("GangMatrixModel", "placeSlot", "I", false)
  | 6 => ("GangMatrixModel", "placeColumn", "I", false)
  | 7 => ("GangMatrixModel", "bestFirst", "I", false)
  | 8 => ("GangMatrixModel", "bestSecond", "I", false)
  | 9 => ("GangMatrixModel", "queue", "[I", true)
  | 10 => ("GangMatrixModel", "queueMany", "I", false)
  | 11 => ("GangMatrixModel", "stack", "[I", true)
  | 12 => ("GangMatrixModel", "isPacked", "[Z", true)
  | 13 => ("GangMatrixModel", "packedIn", "[I", true)
  | 14 => ("GangMatrixModel", "packedSlot", "[I", true)
  | 15 => ("GangMatrixModel", "loads", "[I", true)
  | 16 => ("GangMatrixModel", "best", "I", false)
  | 17 => ("GangMatrixModel", "saved", "I", false)
  | 18 => ("GangMatrixModel", "packTo", "[I", true)
  | 19 => ("GangMatrixModel", "isMovedNow", "[Z", true)
  | 20 => ("GangMatrixModel", "urgeSlot", "I", false)
  | 21 => ("GangMatrixModel", "urgeColumn", "I", false)
  | 22 => ("GangMatrixModel", "urgeMany", "I", false)
  | 23 => ("GangMatrixModel", "urgeLoss", "I", false)
  | 24 => ("GangMatrixModel", "lenders", "[I", true)
  | 25 => ("GangMatrixModel", "lenderMany", "I", false)
  | 26 => ("GangMatrixModel", "others", "[I", true)
  | 27 => ("GangMatrixModel", "hasImage", "Z", false)
  | 28 => ("GangMatrixModel", "images", "[I", true)
  | _ => ("GangMatrixModel", "passImages", "[J", true)
def tyX10 : Nat → FieldType := fun k => match k with
  | 0 => .int
  | 1 => .array .int
  | 2 => .array .int
  | 3 => .array .long
  | 4 => .array .long
  | 5 => .int
  | 6 => .int
  | 7 => .int
  | 8 => .int
  | 9 => .array .int
  | 10 => .int
  | 11 => .array .int
  | 12 => .array .boolean
  | 13 => .array .int
  | 14 => .array .int
  | 15 => .array .int
  | 16 => .int
  | 17 => .int
  | 18 => .array .int
  | 19 => .array .boolean
  | 20 => .int
  | 21 => .int
  | 22 => .int
  | 23 => .int
  | 24 => .array .int
  | 25 => .int
  | 26 => .array .int
  | 27 => .boolean
  | 28 => .array .int
  | _ => .array .long
abbrev wsX100 : List Cond := u_ws RX10 TX10 30
theorem nmX10 : ∀ a, a < 30 → ∀ b, b < 30 → a ≠ b → (TX10 a).2.1 ≠ (TX10 b).2.1 := by decide +kernel
theorem tyX10_ok : ∀ k, k < 30 → parseFieldDescriptor (TX10 k).2.2.1 = some (tyX10 k) := by decide +kernel
abbrev cX10_init : ByteArray := prog_12_method_1_code
def yX10_init : MethodName := ⟨RX10, "<init>", "()V"⟩
abbrev cX10_isIn : ByteArray := prog_12_method_3_code
def yX10_isIn : MethodName := ⟨RX10, "isIn", "(III)Z"⟩
abbrev cX10_ones : ByteArray := prog_12_method_4_code
def yX10_ones : MethodName := ⟨RX10, "ones", "(I)I"⟩
abbrev cX10_more : ByteArray := prog_12_method_5_code
def yX10_more : MethodName := ⟨RX10, "more", "(II)V"⟩
abbrev cX10_firstOf : ByteArray := prog_12_method_6_code
def yX10_firstOf : MethodName := ⟨RX10, "firstOf", "(I)I"⟩
abbrev cX10_settingOf : ByteArray := prog_12_method_7_code
def yX10_settingOf : MethodName := ⟨RX10, "settingOf", "(I)I"⟩
abbrev cX10_columns : ByteArray := prog_12_method_8_code
def yX10_columns : MethodName := ⟨RX10, "columns", "()I"⟩
abbrev cX10_mostOf : ByteArray := prog_12_method_9_code
def yX10_mostOf : MethodName := ⟨RX10, "mostOf", "(I)I"⟩
abbrev cX10_canSet : ByteArray := prog_12_method_10_code
def yX10_canSet : MethodName := ⟨RX10, "canSet", "(II)Z"⟩
abbrev cX10_set : ByteArray := prog_12_method_11_code
def yX10_set : MethodName := ⟨RX10, "set", "(II)Z"⟩
abbrev cX10_isUser : ByteArray := prog_12_method_12_code
def yX10_isUser : MethodName := ⟨RX10, "isUser", "(I)Z"⟩
abbrev cX10_shareOf : ByteArray := prog_12_method_13_code
def yX10_shareOf : MethodName := ⟨RX10, "shareOf", "(I)I"⟩
abbrev cX10_share : ByteArray := prog_12_method_14_code
def yX10_share : MethodName := ⟨RX10, "share", "(II)Z"⟩
abbrev cX10_at : ByteArray := prog_12_method_15_code
def yX10_at : MethodName := ⟨RX10, "at", "(II)I"⟩
abbrev cX10_lay : ByteArray := prog_12_method_16_code
def yX10_lay : MethodName := ⟨RX10, "lay", "(III)V"⟩
abbrev cX10_moreOf : ByteArray := prog_12_method_17_code
def yX10_moreOf : MethodName := ⟨RX10, "moreOf", "(III)V"⟩
abbrev cX10_isJob : ByteArray := prog_12_method_18_code
def yX10_isJob : MethodName := ⟨RX10, "isJob", "(I)Z"⟩
abbrev cX10_isPlaced : ByteArray := prog_12_method_19_code
def yX10_isPlaced : MethodName := ⟨RX10, "isPlaced", "(I)Z"⟩
abbrev cX10_slotOf : ByteArray := prog_12_method_20_code
def yX10_slotOf : MethodName := ⟨RX10, "slotOf", "(I)I"⟩
abbrev cX10_columnOf : ByteArray := prog_12_method_21_code
def yX10_columnOf : MethodName := ⟨RX10, "columnOf", "(I)I"⟩
abbrev cX10_isAt : ByteArray := prog_12_method_22_code
def yX10_isAt : MethodName := ⟨RX10, "isAt", "(II)Z"⟩
abbrev cX10_bits : ByteArray := prog_12_method_23_code
def yX10_bits : MethodName := ⟨RX10, "bits", "(II)I"⟩
abbrev cX10_blockOf : ByteArray := prog_12_method_24_code
def yX10_blockOf : MethodName := ⟨RX10, "blockOf", "(I)I"⟩
abbrev cX10_cellsOf : ByteArray := prog_12_method_25_code
def yX10_cellsOf : MethodName := ⟨RX10, "cellsOf", "(I)I"⟩
abbrev cX10_widthOf : ByteArray := prog_12_method_26_code
def yX10_widthOf : MethodName := ⟨RX10, "widthOf", "(I)I"⟩
abbrev cX10_isColumn : ByteArray := prog_12_method_27_code
def yX10_isColumn : MethodName := ⟨RX10, "isColumn", "(I)Z"⟩
abbrev cX10_isDown : ByteArray := prog_12_method_28_code
def yX10_isDown : MethodName := ⟨RX10, "isDown", "(I)Z"⟩
abbrev cX10_isSlot : ByteArray := prog_12_method_29_code
def yX10_isSlot : MethodName := ⟨RX10, "isSlot", "(I)Z"⟩
abbrev cX10_blocksIn : ByteArray := prog_12_method_30_code
def yX10_blocksIn : MethodName := ⟨RX10, "blocksIn", "(II)I"⟩
abbrev cX10_cellsIn : ByteArray := prog_12_method_31_code
def yX10_cellsIn : MethodName := ⟨RX10, "cellsIn", "(I)I"⟩
abbrev cX10_isFree : ByteArray := prog_12_method_32_code
def yX10_isFree : MethodName := ⟨RX10, "isFree", "(III)Z"⟩
abbrev cX10_loadOf : ByteArray := prog_12_method_33_code
def yX10_loadOf : MethodName := ⟨RX10, "loadOf", "(I)I"⟩
abbrev cX10_writes : ByteArray := prog_12_method_34_code
def yX10_writes : MethodName := ⟨RX10, "writes", "(IIII)V"⟩
abbrev cX10_leastPass : ByteArray := prog_12_method_35_code
def yX10_leastPass : MethodName := ⟨RX10, "leastPass", "()J"⟩
abbrev cX10_newSlot : ByteArray := prog_12_method_36_code
def yX10_newSlot : MethodName := ⟨RX10, "newSlot", "()V"⟩
abbrev cX10_jobsIn : ByteArray := prog_12_method_37_code
def yX10_jobsIn : MethodName := ⟨RX10, "jobsIn", "(I)I"⟩
abbrev cX10_dropsSlot : ByteArray := prog_12_method_38_code
def yX10_dropsSlot : MethodName := ⟨RX10, "dropsSlot", "(I)V"⟩
abbrev cX10_closes : ByteArray := prog_12_method_39_code
def yX10_closes : MethodName := ⟨RX10, "closes", "()V"⟩
abbrev cX10_isNowhere : ByteArray := prog_12_method_40_code
def yX10_isNowhere : MethodName := ⟨RX10, "isNowhere", "(II)V"⟩
abbrev cX10_roomOf : ByteArray := prog_12_method_41_code
def yX10_roomOf : MethodName := ⟨RX10, "roomOf", "(III)I"⟩
abbrev cX10_greatestIn : ByteArray := prog_12_method_42_code
def yX10_greatestIn : MethodName := ⟨RX10, "greatestIn", "(II)I"⟩
abbrev cX10_sumIn : ByteArray := prog_12_method_43_code
def yX10_sumIn : MethodName := ⟨RX10, "sumIn", "(II)I"⟩
abbrev cX10_weighs : ByteArray := prog_12_method_44_code
def yX10_weighs : MethodName := ⟨RX10, "weighs", "(III)V"⟩
abbrev cX10_finds : ByteArray := prog_12_method_45_code
def yX10_finds : MethodName := ⟨RX10, "finds", "(I)Z"⟩
abbrev cX10_places : ByteArray := prog_12_method_46_code
def yX10_places : MethodName := ⟨RX10, "places", "(II)Z"⟩
abbrev cX10_isPut : ByteArray := prog_12_method_47_code
def yX10_isPut : MethodName := ⟨RX10, "isPut", "(IIII)V"⟩
abbrev cX10_where : ByteArray := prog_12_method_48_code
def yX10_where : MethodName := ⟨RX10, "where", "(II)I"⟩
abbrev cX10_ratios : ByteArray := prog_12_method_49_code
def yX10_ratios : MethodName := ⟨RX10, "ratios", "(II)I"⟩
abbrev cX10_isAhead : ByteArray := prog_12_method_50_code
def yX10_isAhead : MethodName := ⟨RX10, "isAhead", "(II)Z"⟩
abbrev cX10_laysQueue : ByteArray := prog_12_method_51_code
def yX10_laysQueue : MethodName := ⟨RX10, "laysQueue", "()V"⟩
abbrev cX10_queue : ByteArray := prog_12_method_52_code
def yX10_queue : MethodName := ⟨RX10, "queue", "(I)I"⟩
abbrev cX10_goesOn : ByteArray := prog_12_method_53_code
def yX10_goesOn : MethodName := ⟨RX10, "goesOn", "()V"⟩
abbrev cX10_waits : ByteArray := prog_12_method_54_code
def yX10_waits : MethodName := ⟨RX10, "waits", "(I)V"⟩
abbrev cX10_canCome : ByteArray := prog_12_method_55_code
def yX10_canCome : MethodName := ⟨RX10, "canCome", "(III)Z"⟩
abbrev cX10_comes : ByteArray := prog_12_method_56_code
def yX10_comes : MethodName := ⟨RX10, "comes", "(IIII)I"⟩
abbrev cX10_job : ByteArray := prog_12_method_57_code
def yX10_job : MethodName := ⟨RX10, "job", "(IIII)I"⟩
abbrev cX10_arrivalAt : ByteArray := prog_12_method_58_code
def yX10_arrivalAt : MethodName := ⟨RX10, "arrivalAt", "(I)I"⟩
abbrev cX10_later : ByteArray := prog_12_method_59_code
def yX10_later : MethodName := ⟨RX10, "later", "(IIII)I"⟩
abbrev cX10_arrives : ByteArray := prog_12_method_60_code
def yX10_arrives : MethodName := ⟨RX10, "arrives", "()V"⟩
abbrev cX10_kills : ByteArray := prog_12_method_61_code
def yX10_kills : MethodName := ⟨RX10, "kills", "(I)I"⟩
abbrev cX10_kill : ByteArray := prog_12_method_62_code
def yX10_kill : MethodName := ⟨RX10, "kill", "(I)I"⟩
abbrev cX10_putsBack : ByteArray := prog_12_method_63_code
def yX10_putsBack : MethodName := ⟨RX10, "putsBack", "(I)V"⟩
abbrev cX10_down : ByteArray := prog_12_method_64_code
def yX10_down : MethodName := ⟨RX10, "down", "(I)Z"⟩
abbrev cX10_up : ByteArray := prog_12_method_65_code
def yX10_up : MethodName := ⟨RX10, "up", "(I)Z"⟩
abbrev cX10_unifiesOne : ByteArray := prog_12_method_66_code
def yX10_unifiesOne : MethodName := ⟨RX10, "unifiesOne", "()Z"⟩
abbrev cX10_unifies : ByteArray := prog_12_method_67_code
def yX10_unifies : MethodName := ⟨RX10, "unifies", "()I"⟩
abbrev cX10_unify : ByteArray := prog_12_method_68_code
def yX10_unify : MethodName := ⟨RX10, "unify", "()I"⟩
abbrev cX10_packsAhead : ByteArray := prog_12_method_69_code
def yX10_packsAhead : MethodName := ⟨RX10, "packsAhead", "(II)Z"⟩
abbrev cX10_nextToPack : ByteArray := prog_12_method_70_code
def yX10_nextToPack : MethodName := ⟨RX10, "nextToPack", "()I"⟩
abbrev cX10_packs : ByteArray := prog_12_method_71_code
def yX10_packs : MethodName := ⟨RX10, "packs", "()V"⟩
abbrev cX10_repack : ByteArray := prog_12_method_72_code
def yX10_repack : MethodName := ⟨RX10, "repack", "()I"⟩
abbrev cX10_stopOf : ByteArray := prog_12_method_73_code
def yX10_stopOf : MethodName := ⟨RX10, "stopOf", "(I)I"⟩
abbrev cX10_canMove : ByteArray := prog_12_method_74_code
def yX10_canMove : MethodName := ⟨RX10, "canMove", "(II)Z"⟩
abbrev cX10_isMoved : ByteArray := prog_12_method_75_code
def yX10_isMoved : MethodName := ⟨RX10, "isMoved", "(II)V"⟩
abbrev cX10_move : ByteArray := prog_12_method_76_code
def yX10_move : MethodName := ⟨RX10, "move", "(II)Z"⟩
abbrev cX10_laysLoads : ByteArray := prog_12_method_77_code
def yX10_laysLoads : MethodName := ⟨RX10, "laysLoads", "()V"⟩
abbrev cX10_loadsBy : ByteArray := prog_12_method_78_code
def yX10_loadsBy : MethodName := ⟨RX10, "loadsBy", "(III)V"⟩
abbrev cX10_greatest : ByteArray := prog_12_method_79_code
def yX10_greatest : MethodName := ⟨RX10, "greatest", "()I"⟩
abbrev cX10_leastLeft : ByteArray := prog_12_method_80_code
def yX10_leastLeft : MethodName := ⟨RX10, "leastLeft", "()I"⟩
abbrev cX10_findsBest : ByteArray := prog_12_method_81_code
def yX10_findsBest : MethodName := ⟨RX10, "findsBest", "(I)V"⟩
abbrev cX10_gain : ByteArray := prog_12_method_82_code
def yX10_gain : MethodName := ⟨RX10, "gain", "()I"⟩
abbrev cX10_cost : ByteArray := prog_12_method_83_code
def yX10_cost : MethodName := ⟨RX10, "cost", "(I)I"⟩
abbrev cX10_weigh : ByteArray := prog_12_method_84_code
def yX10_weigh : MethodName := ⟨RX10, "weigh", "(II)I"⟩
abbrev cX10_migrate : ByteArray := prog_12_method_85_code
def yX10_migrate : MethodName := ⟨RX10, "migrate", "(I)Z"⟩
abbrev cX10_thinnest : ByteArray := prog_12_method_86_code
def yX10_thinnest : MethodName := ⟨RX10, "thinnest", "(II)I"⟩
abbrev cX10_laysPack : ByteArray := prog_12_method_87_code
def yX10_laysPack : MethodName := ⟨RX10, "laysPack", "()V"⟩
abbrev cX10_isOther : ByteArray := prog_12_method_88_code
def yX10_isOther : MethodName := ⟨RX10, "isOther", "(I)Z"⟩
abbrev cX10_packedAll : ByteArray := prog_12_method_89_code
def yX10_packedAll : MethodName := ⟨RX10, "packedAll", "(I)I"⟩
abbrev cX10_pack : ByteArray := prog_12_method_90_code
def yX10_pack : MethodName := ⟨RX10, "pack", "(I)I"⟩
abbrev cX10_relay : ByteArray := prog_12_method_91_code
def yX10_relay : MethodName := ⟨RX10, "relay", "()Z"⟩
abbrev cX10_isInWay : ByteArray := prog_12_method_92_code
def yX10_isInWay : MethodName := ⟨RX10, "isInWay", "(III)Z"⟩
abbrev cX10_urgesAt : ByteArray := prog_12_method_93_code
def yX10_urgesAt : MethodName := ⟨RX10, "urgesAt", "(III)V"⟩
abbrev cX10_findsUrge : ByteArray := prog_12_method_94_code
def yX10_findsUrge : MethodName := ⟨RX10, "findsUrge", "(I)Z"⟩
abbrev cX10_urged : ByteArray := prog_12_method_95_code
def yX10_urged : MethodName := ⟨RX10, "urged", "(II)I"⟩
abbrev cX10_urge : ByteArray := prog_12_method_96_code
def yX10_urge : MethodName := ⟨RX10, "urge", "(I)Z"⟩
abbrev cX10_thinsOne : ByteArray := prog_12_method_97_code
def yX10_thinsOne : MethodName := ⟨RX10, "thinsOne", "(I)I"⟩
abbrev cX10_thinsTwo : ByteArray := prog_12_method_98_code
def yX10_thinsTwo : MethodName := ⟨RX10, "thinsTwo", "()I"⟩
abbrev cX10_thin : ByteArray := prog_12_method_99_code
def yX10_thin : MethodName := ⟨RX10, "thin", "(I)I"⟩
abbrev cX10_laysLenders : ByteArray := prog_12_method_100_code
def yX10_laysLenders : MethodName := ⟨RX10, "laysLenders", "(I)V"⟩
abbrev cX10_lends : ByteArray := prog_12_method_101_code
def yX10_lends : MethodName := ⟨RX10, "lends", "(II)I"⟩
abbrev cX10_weightOf : ByteArray := prog_12_method_102_code
def yX10_weightOf : MethodName := ⟨RX10, "weightOf", "(I)I"⟩
abbrev cX10_turnOf : ByteArray := prog_12_method_103_code
def yX10_turnOf : MethodName := ⟨RX10, "turnOf", "()I"⟩
abbrev cX10_runs : ByteArray := prog_12_method_104_code
def yX10_runs : MethodName := ⟨RX10, "runs", "(II)V"⟩
abbrev cX10_countsColumns : ByteArray := prog_12_method_105_code
def yX10_countsColumns : MethodName := ⟨RX10, "countsColumns", "(III)V"⟩
abbrev cX10_turns : ByteArray := prog_12_method_106_code
def yX10_turns : MethodName := ⟨RX10, "turns", "()V"⟩
abbrev cX10_ends : ByteArray := prog_12_method_107_code
def yX10_ends : MethodName := ⟨RX10, "ends", "()I"⟩
abbrev cX10_quanta : ByteArray := prog_12_method_108_code
def yX10_quanta : MethodName := ⟨RX10, "quanta", "(I)I"⟩
abbrev cX10_quantum : ByteArray := prog_12_method_109_code
def yX10_quantum : MethodName := ⟨RX10, "quantum", "(I)I"⟩
abbrev cX10_thinks : ByteArray := prog_12_method_110_code
def yX10_thinks : MethodName := ⟨RX10, "thinks", "()V"⟩
abbrev cX10_forgets : ByteArray := prog_12_method_111_code
def yX10_forgets : MethodName := ⟨RX10, "forgets", "()V"⟩
abbrev cX10_idle : ByteArray := prog_12_method_112_code
def yX10_idle : MethodName := ⟨RX10, "idle", "()I"⟩
abbrev cX10_manyOf : ByteArray := prog_12_method_113_code
def yX10_manyOf : MethodName := ⟨RX10, "manyOf", "(I)I"⟩
abbrev cX10_would : ByteArray := prog_12_method_114_code
def yX10_would : MethodName := ⟨RX10, "would", "(II)I"⟩
abbrev cX10_when : ByteArray := prog_12_method_115_code
def yX10_when : MethodName := ⟨RX10, "when", "(I)I"⟩
abbrev cX10_free : ByteArray := prog_12_method_116_code
def yX10_free : MethodName := ⟨RX10, "free", "(III)I"⟩
abbrev cX10_cell : ByteArray := prog_12_method_117_code
def yX10_cell : MethodName := ⟨RX10, "cell", "(II)I"⟩
abbrev cX10_load : ByteArray := prog_12_method_118_code
def yX10_load : MethodName := ⟨RX10, "load", "(I)I"⟩
abbrev cX10_of : ByteArray := prog_12_method_119_code
def yX10_of : MethodName := ⟨RX10, "of", "(II)I"⟩
abbrev cX10_usedOfAll : ByteArray := prog_12_method_120_code
def yX10_usedOfAll : MethodName := ⟨RX10, "usedOfAll", "()I"⟩
abbrev cX10_shares : ByteArray := prog_12_method_121_code
def yX10_shares : MethodName := ⟨RX10, "shares", "()I"⟩
abbrev cX10_jobsOf : ByteArray := prog_12_method_122_code
def yX10_jobsOf : MethodName := ⟨RX10, "jobsOf", "(IZ)I"⟩
abbrev cX10_waitedOf : ByteArray := prog_12_method_123_code
def yX10_waitedOf : MethodName := ⟨RX10, "waitedOf", "(I)I"⟩
abbrev cX10_user : ByteArray := prog_12_method_124_code
def yX10_user : MethodName := ⟨RX10, "user", "(II)I"⟩
abbrev cX10_slot : ByteArray := prog_12_method_125_code
def yX10_slot : MethodName := ⟨RX10, "slot", "(II)I"⟩
abbrev cX10_ringAt : ByteArray := prog_12_method_126_code
def yX10_ringAt : MethodName := ⟨RX10, "ringAt", "(II)I"⟩
abbrev cX10_log : ByteArray := prog_12_method_127_code
def yX10_log : MethodName := ⟨RX10, "log", "(II)I"⟩
abbrev cX10_went : ByteArray := prog_12_method_128_code
def yX10_went : MethodName := ⟨RX10, "went", "(II)I"⟩
abbrev cX10_count : ByteArray := prog_12_method_129_code
def yX10_count : MethodName := ⟨RX10, "count", "(I)I"⟩
abbrev cX10_firstGreatest : ByteArray := prog_12_method_130_code
def yX10_firstGreatest : MethodName := ⟨RX10, "firstGreatest", "()I"⟩
abbrev cX10_look : ByteArray := prog_12_method_131_code
def yX10_look : MethodName := ⟨RX10, "look", "(I)I"⟩
abbrev cX10_image : ByteArray := prog_12_method_132_code
def yX10_image : MethodName := ⟨RX10, "image", "(Z)Z"⟩
def RJ6 : String := "java/lang/Integer"
abbrev cJ6_bitCount_0f7a4 : ByteArray := prog_13_method_49_code
def yJ6_bitCount_0f7a4 : MethodName := ⟨RJ6, "bitCount", "(I)I"⟩
def RJ9 : String := "java/lang/Math"
abbrev cJ9_floorMod_7cf53 : ByteArray := prog_14_method_50_code
def yJ9_floorMod_7cf53 : MethodName := ⟨RJ9, "floorMod", "(II)I"⟩
abbrev cJ9_max_7cf53 : ByteArray := prog_14_method_65_code
def yJ9_max_7cf53 : MethodName := ⟨RJ9, "max", "(II)I"⟩
abbrev cJ9_min_7cf53 : ByteArray := prog_14_method_69_code
def yJ9_min_7cf53 : MethodName := ⟨RJ9, "min", "(II)I"⟩
abbrev cJ9_min_f86c9 : ByteArray := prog_14_method_70_code
def yJ9_min_f86c9 : MethodName := ⟨RJ9, "min", "(JJ)J"⟩
def RJ10 : String := "java/lang/System"
def RL : String := "GangMatrixLaw"
abbrev cL_law : ByteArray := code
def yL_law : MethodName := ⟨RL, "law", "([I)Z"⟩
/-- the classes whose objects the worlds hold: 0 GangMatrix, 1 Board, 2 Jobs, 3 Users, 4 Slots, 5 Arrivals, 6 Ring, 7 Crew, 8 Plans, 9 Model -/
abbrev gcl : List vw_C := [(RX9, TX9, 5), (RX2, TX2, 14), (RX4, TX4, 4), (RX8, TX8, 3), (RX7, TX7, 4), (RX0, TX0, 2), (RX6, TX6, 2), (RX3, TX3, 6), (RX5, TX5, 7), (RX10, TX10, 30)]
/-- the words that a callee may take over -/
def gtb : List Cond := lw_tbl.filter goodWord
theorem gtb_good {w : Cond} (h : w ∈ gtb) : (w.onTables && w.keeps) = true ∨ ∃ ty, w = .arrayClass ty := good_of_word (List.mem_filter.mp h).2
theorem gtb_at {w : Cond} (i : Nat) (h : lw_tbl[i]? = some w) (hg : goodWord w = true) : w ∈ gtb := List.mem_filter.mpr ⟨List.mem_of_getElem? h, hg⟩
theorem inX9 : ∀ w ∈ wsX90, w ∈ gtb := by decide +kernel
theorem inX2 : ∀ w ∈ wsX20, w ∈ gtb := by decide +kernel
theorem inX4 : ∀ w ∈ wsX40, w ∈ gtb := by decide +kernel
theorem inX8 : ∀ w ∈ wsX80, w ∈ gtb := by decide +kernel
theorem inX7 : ∀ w ∈ wsX70, w ∈ gtb := by decide +kernel
theorem inX0 : ∀ w ∈ wsX00, w ∈ gtb := by decide +kernel
theorem inX6 : ∀ w ∈ wsX60, w ∈ gtb := by decide +kernel
theorem inX3 : ∀ w ∈ wsX30, w ∈ gtb := by decide +kernel
theorem inX5 : ∀ w ∈ wsX50, w ∈ gtb := by decide +kernel
theorem inX10 : ∀ w ∈ wsX100, w ∈ gtb := by decide +kernel
end
section
/-! THE ABSTRACT MACHINE: what an instruction does to locals, operands and a memory of cells; a run of a method's instructions. -/
abbrev gMem : Type := (Nat → Nat → Int32) × (Nat → Nat → Int64)
abbrev gR : Type := Option Value × gMem
abbrev gL : Type := List (Option Value)
abbrev gK : Type := Nat → gL → List Value → gMem → Option gR
abbrev gI : Type := Nat → gL → List Value → gMem → gK → Option gR
abbrev gP : Type := List (Nat × Instr × Nat × gI)
/-- a layout: how many cells; the kind of each (0 n: n ints; 1 n: n longs; 2 n: n booleans; 3 n: n rows of ints, which are the next n cells; 4 k: an object of class k); where a reference field leads -/
abbrev gLay : Type := (Nat × (Nat → Nat × Nat)) × (Nat → Nat → Option Nat)
def gwI (μ : gMem) (c i : Nat) (x : Int32) : gMem := (fun c' i' => if c' = c ∧ i' = i then x else μ.1 c' i', μ.2)
def gwL (μ : gMem) (c i : Nat) (x : Int64) : gMem := (μ.1, fun c' i' => if c' = c ∧ i' = i then x else μ.2 c' i')
def gcI (μ : gMem) (a d n : Nat) : gMem := (fun c i => if c = d ∧ i < n then μ.1 a i else μ.1 c i, μ.2)
def gcL (μ : gMem) (a d n : Nat) : gMem := (μ.1, fun c i => if c = d ∧ i < n then μ.2 a i else μ.2 c i)
def g_in (i : Int32) (n : Nat) : Bool := !(decide (i < 0) || decide (n ≤ i.toNatClampNeg))
theorem g_in_vp {i : Int32} {n : Nat} : g_in i n = true ↔ vp_in i n := by
  simp [g_in, vp_in]
def gLen (L : gLay) (t c : Nat) : Nat := match Nat.blt c L.1.1 with
  | true => match L.1.2 c with
    | (a, n) => match Nat.beq a t with
      | true => n
      | false => 0
  | false => 0
def g_isO (L : gLay) (c ci : Nat) : Bool := Nat.blt c L.1.1 && (Nat.beq (L.1.2 c).1 4 && Nat.beq (L.1.2 c).2 ci)
def g_sok (lv : gL) (i : Nat) : Bool := Nat.blt i lv.length && (match i with
  | 0 => true
  | j + 1 => match lv[j]? with
    | some (some v) => Nat.beq v.category 1
    | _ => true)
def g_cok (st : List Value) : Bool := Nat.ble ((st.map fun v => v.category).sum) 8
def g_01 (x : Int32) : Bool := decide (x = 0) || decide (x = 1)
def g_ushr (x y : Int32) : Int32 := (x.toUInt32 >>> (y.toUInt32 &&& Int32.toUInt32 31)).toInt32
def g_lushr (x : Int64) (y : Int32) : Int64 := (x.toUInt64 >>> (y.toInt64.toUInt64 &&& Int64.toUInt64 63)).toInt64
-- the instructions
def i_psh (n : Nat) (v : Value) : gI := fun pc lv st μ k => k (pc + n) lv (v :: st) μ
def i_ild (n i : Nat) : gI := fun pc lv st μ k => match lv[i]? with
  | some (some (.int x)) => k (pc + n) lv (.int x :: st) μ
  | _ => none
def i_lld (n i : Nat) : gI := fun pc lv st μ k => match lv[i]? with
  | some (some (.long x)) => k (pc + n) lv (.long x :: st) μ
  | _ => none
def i_ald (n i : Nat) : gI := fun pc lv st μ k => match lv[i]? with
  | some (some (.ref x)) => k (pc + n) lv (.ref x :: st) μ
  | _ => none
def i_ist (n i : Nat) : gI := fun pc lv st μ k => match st with
  | .int x :: r => match g_sok lv i with
    | true => k (pc + n) (lv.set i (some (.int x))) r μ
    | false => none
  | _ => none
def i_ast (n i : Nat) : gI := fun pc lv st μ k => match st with
  | .ref x :: r => match g_sok lv i with
    | true => k (pc + n) (lv.set i (some (.ref x))) r μ
    | false => none
  | _ => none
def i_lst (n i : Nat) : gI := fun pc lv st μ k => match st with
  | .long x :: r => match g_sok lv i && Nat.blt (i + 1) lv.length with
    | true => k (pc + n) ((lv.set i (some (.long x))).set (i + 1) none) r μ
    | false => none
  | _ => none
def i_inc (i : Nat) (d : Int32) : gI := fun pc lv st μ k => match lv[i]? with
  | some (some (.int x)) => match g_sok lv i with
    | true => k (pc + 3) (lv.set i (some (.int (x + d)))) st μ
    | false => none
  | _ => none
def i_bin (op : Int32 → Int32 → Int32) : gI := fun pc lv st μ k => match st with
  | .int y :: .int x :: r => k (pc + 1) lv (.int (op x y) :: r) μ
  | _ => none
def i_dvr (op : Int32 → Int32 → Int32) : gI := fun pc lv st μ k => match st with
  | .int y :: .int x :: r => if y = 0 then none else k (pc + 1) lv (.int (op x y) :: r) μ
  | _ => none
def i_neg : gI := fun pc lv st μ k => match st with
  | .int x :: r => k (pc + 1) lv (.int (-x) :: r) μ
  | _ => none
def i_lbn (op : Int64 → Int64 → Int64) : gI := fun pc lv st μ k => match st with
  | .long y :: .long x :: r => k (pc + 1) lv (.long (op x y) :: r) μ
  | _ => none
def i_ldv : gI := fun pc lv st μ k => match st with
  | .long y :: .long x :: r => if y = 0 then none else k (pc + 1) lv (.long (x / y) :: r) μ
  | _ => none
def i_lsh (op : Int64 → Int32 → Int64) : gI := fun pc lv st μ k => match st with
  | .int y :: .long x :: r => k (pc + 1) lv (.long (op x y) :: r) μ
  | _ => none
def i_i2l : gI := fun pc lv st μ k => match st with
  | .int x :: r => k (pc + 1) lv (.long x.toInt64 :: r) μ
  | _ => none
def i_l2i : gI := fun pc lv st μ k => match st with
  | .long x :: r => k (pc + 1) lv (.int x.toInt32 :: r) μ
  | _ => none
def i_lcm : gI := fun pc lv st μ k => match st with
  | .long y :: .long x :: r => k (pc + 1) lv (.int (lg_cmp x y) :: r) μ
  | _ => none
def i_dup : gI := fun pc lv st μ k => match st with
  | v :: r => match Nat.beq v.category 1 with
    | true => k (pc + 1) lv (v :: v :: r) μ
    | false => none
  | _ => none
def i_du2 : gI := fun pc lv st μ k => match st with
  | v :: u :: r => match Nat.beq v.category 1 && Nat.beq u.category 1 with
    | true => k (pc + 1) lv (v :: u :: v :: u :: r) μ
    | false => none
  | _ => none
def i_pop : gI := fun pc lv st μ k => match st with
  | v :: r => match Nat.beq v.category 1 with
    | true => k (pc + 1) lv r μ
    | false => none
  | _ => none
def i_gto (t : Nat) : gI := fun _ lv st μ k => k t lv st μ
def i_feq (t : Nat) : gI := fun pc lv st μ k => match st with
  | .int x :: r => if x = 0 then k t lv r μ else k (pc + 3) lv r μ
  | _ => none
def i_fne (t : Nat) : gI := fun pc lv st μ k => match st with
  | .int x :: r => if x = 0 then k (pc + 3) lv r μ else k t lv r μ
  | _ => none
def i_flt (t : Nat) : gI := fun pc lv st μ k => match st with
  | .int x :: r => if x < 0 then k t lv r μ else k (pc + 3) lv r μ
  | _ => none
def i_fge (t : Nat) : gI := fun pc lv st μ k => match st with
  | .int x :: r => if 0 ≤ x then k t lv r μ else k (pc + 3) lv r μ
  | _ => none
def i_fgt (t : Nat) : gI := fun pc lv st μ k => match st with
  | .int x :: r => if 0 < x then k t lv r μ else k (pc + 3) lv r μ
  | _ => none
def i_fle (t : Nat) : gI := fun pc lv st μ k => match st with
  | .int x :: r => if x ≤ 0 then k t lv r μ else k (pc + 3) lv r μ
  | _ => none
def i_ceq (t : Nat) : gI := fun pc lv st μ k => match st with
  | .int y :: .int x :: r => if x = y then k t lv r μ else k (pc + 3) lv r μ
  | _ => none
def i_cne (t : Nat) : gI := fun pc lv st μ k => match st with
  | .int y :: .int x :: r => if x = y then k (pc + 3) lv r μ else k t lv r μ
  | _ => none
def i_clt (t : Nat) : gI := fun pc lv st μ k => match st with
  | .int y :: .int x :: r => if x < y then k t lv r μ else k (pc + 3) lv r μ
  | _ => none
def i_cge (t : Nat) : gI := fun pc lv st μ k => match st with
  | .int y :: .int x :: r => if y ≤ x then k t lv r μ else k (pc + 3) lv r μ
  | _ => none
def i_cgt (t : Nat) : gI := fun pc lv st μ k => match st with
  | .int y :: .int x :: r => if y < x then k t lv r μ else k (pc + 3) lv r μ
  | _ => none
def i_cle (t : Nat) : gI := fun pc lv st μ k => match st with
  | .int y :: .int x :: r => if x ≤ y then k t lv r μ else k (pc + 3) lv r μ
  | _ => none
def g_swk (k : Nat → Option gR) (x : Int32) : List (Int32 × Nat) → Nat → Option gR
  | [], d => k d
  | (v, t) :: ps, d => if x = v then k t else g_swk k x ps d
def i_swt (ps : List (Int32 × Nat)) (d : Nat) : gI := fun _ lv st μ k => match st with
  | .int x :: r => g_swk (fun t => k t lv r μ) x ps d
  | _ => none
def i_gfd (L : gLay) (ci f : Nat) : gI := fun pc lv st μ k => match st with
  | .ref c :: r => match g_isO L c ci with
    | true => match L.2 c f with
      | some t => k (pc + 3) lv (.ref t :: r) μ
      | none => k (pc + 3) lv (.int (μ.1 c f) :: r) μ
    | false => none
  | _ => none
def i_pfd (L : gLay) (ci f : Nat) : gI := fun pc lv st μ k => match st with
  | .int x :: .ref c :: r => match g_isO L c ci && (L.2 c f).isNone with
    | true => k (pc + 3) lv r (gwI μ c f x)
    | false => none
  | _ => none
def i_pfz (L : gLay) (ci f : Nat) : gI := fun pc lv st μ k => match st with
  | .int x :: .ref c :: r => match g_isO L c ci && (L.2 c f).isNone with
    | true => if g_01 x = true then k (pc + 3) lv r (gwI μ c f x) else none
    | false => none
  | _ => none
def i_gst (id : Nat) : gI := fun pc lv st μ k => k (pc + 3) lv (.ref id :: st) μ
def i_tld (id : Nat) (tb : List Int32) : gI := fun pc lv st μ k => match st with
  | .int i :: .ref c :: r => match Nat.beq c id with
    | true => if g_in i tb.length = true then k (pc + 1) lv (.int (tb.getD i.toNatClampNeg 0) :: r) μ else none
    | false => none
  | _ => none
def i_tln (id : Nat) (v : Int32) : gI := fun pc lv st μ k => match st with
  | .ref c :: r => match Nat.beq c id with
    | true => k (pc + 1) lv (.int v :: r) μ
    | false => none
  | _ => none
def i_aln (L : gLay) : gI := fun pc lv st μ k => match st with
  | .ref c :: r => match Nat.blt c L.1.1 && Nat.beq (L.1.2 c).1 0 with
    | true => k (pc + 1) lv (.int (Int32.ofNat (L.1.2 c).2) :: r) μ
    | false => none
  | _ => none
def i_iad (L : gLay) : gI := fun pc lv st μ k => match st with
  | .int i :: .ref c :: r => if g_in i (gLen L 0 c) = true then k (pc + 1) lv (.int (μ.1 c i.toNatClampNeg) :: r) μ else none
  | _ => none
def i_zad (L : gLay) : gI := fun pc lv st μ k => match st with
  | .int i :: .ref c :: r => if g_in i (gLen L 2 c) = true then k (pc + 1) lv (.int (μ.1 c i.toNatClampNeg) :: r) μ else none
  | _ => none
def i_lad (L : gLay) : gI := fun pc lv st μ k => match st with
  | .int i :: .ref c :: r => if g_in i (gLen L 1 c) = true then k (pc + 1) lv (.long (μ.2 c i.toNatClampNeg) :: r) μ else none
  | _ => none
def i_aad (L : gLay) : gI := fun pc lv st μ k => match st with
  | .int i :: .ref c :: r => if g_in i (gLen L 3 c) = true then k (pc + 1) lv (.ref (c + 1 + i.toNatClampNeg) :: r) μ else none
  | _ => none
def i_ias (L : gLay) : gI := fun pc lv st μ k => match st with
  | .int x :: .int i :: .ref c :: r => if g_in i (gLen L 0 c) = true then k (pc + 1) lv r (gwI μ c i.toNatClampNeg x) else none
  | _ => none
def i_zas (L : gLay) : gI := fun pc lv st μ k => match st with
  | .int x :: .int i :: .ref c :: r => if (g_in i (gLen L 2 c) && g_01 x) = true then k (pc + 1) lv r (gwI μ c i.toNatClampNeg x) else none
  | _ => none
def i_las (L : gLay) : gI := fun pc lv st μ k => match st with
  | .long x :: .int i :: .ref c :: r => if g_in i (gLen L 1 c) = true then k (pc + 1) lv r (gwL μ c i.toNatClampNeg x) else none
  | _ => none
def i_aci (L : gLay) : gI := fun pc lv st μ k => match st with
  | .int n :: .int dp :: .ref d :: .int sp :: .ref a :: r => match g_cok r with
    | true => if sp = 0 ∧ dp = 0 ∧ ¬ n < 0 ∧ n.toNatClampNeg ≤ gLen L 0 a ∧ n.toNatClampNeg ≤ gLen L 0 d ∧ 0 < gLen L 0 a ∧ 0 < gLen L 0 d then k (pc + 3) lv r (gcI μ a d n.toNatClampNeg) else none
    | false => none
  | _ => none
def i_acl (L : gLay) : gI := fun pc lv st μ k => match st with
  | .int n :: .int dp :: .ref d :: .int sp :: .ref a :: r => match g_cok r with
    | true => if sp = 0 ∧ dp = 0 ∧ ¬ n < 0 ∧ n.toNatClampNeg ≤ gLen L 1 a ∧ n.toNatClampNeg ≤ gLen L 1 d ∧ 0 < gLen L 1 a ∧ 0 < gLen L 1 d then k (pc + 3) lv r (gcL μ a d n.toNatClampNeg) else none
    | false => none
  | _ => none
abbrev gF : Type := List Value → gMem → Option gR
def i_cvt (L : gLay) (n ci : Nat) (m : gF) : gI := fun pc lv st μ k => match Nat.ble (n + 1) st.length && g_cok (st.drop (n + 1)) with
  | true => match (st.take (n + 1)).reverse with
    | .ref c :: as => match g_isO L c ci with
      | true => match m (.ref c :: as) μ with
        | some r => k (pc + 3) lv (r.1.toList ++ st.drop (n + 1)) r.2
        | none => none
      | false => none
    | _ => none
  | false => none
def i_cst (n : Nat) (m : gF) : gI := fun pc lv st μ k => match Nat.ble n st.length && g_cok (st.drop n) with
  | true => match m (st.take n).reverse μ with
    | some r => k (pc + 3) lv (r.1.toList ++ st.drop n) r.2
    | none => none
  | false => none
def i_irt : gI := fun _ _ st μ _ => match st with
  | [.int x] => some (some (.int x), μ)
  | _ => none
def i_zrt : gI := fun _ _ st μ _ => match st with
  | [.int x] => if g_01 x = true then some (some (.int x), μ) else none
  | _ => none
def i_lrt : gI := fun _ _ st μ _ => match st with
  | [.long x] => some (some (.long x), μ)
  | _ => none
def i_vrt : gI := fun _ _ st μ _ => match st with
  | [] => some (none, μ)
  | _ => none
/-- an instruction ends the run, or goes on at one state -/
def gDt (f : gI) : Prop := ∀ pc lv st μ, (∃ o, ∀ k, f pc lv st μ k = o) ∨ ∃ pc' lv' st' μ', ∀ k, f pc lv st μ k = k pc' lv' st' μ'
def gDts : gP → Prop
  | [] => True
  | e :: t => gDt e.2.2.2 ∧ gDts t
def g_find : gP → Nat → Option gI
  | [], _ => none
  | e :: t, pc => match Nat.beq e.1 pc with
    | true => some e.2.2.2
    | false => g_find t pc
def g_step (P : gP) (k : gK) : gK := fun pc lv st μ => match g_find P pc with
  | some f => f pc lv st μ k
  | none => none
def g_n (P : gP) : Nat → gK
  | 0 => fun _ _ _ _ => none
  | n + 1 => g_step P (g_n P n)
noncomputable def g_run (P : gP) : gK := fun pc lv st μ => (Classical.propDecidable (∃ r n, g_n P n pc lv st μ = some r)).casesOn (fun _ => none) (fun h => some (Classical.choose h))
/-- as far as the next place of 'cuts' -/
noncomputable def g_ev (P : gP) (cuts : List Nat) : Nat → gK
  | 0 => g_run P
  | n + 1 => fun pc lv st μ => match cuts.any (Nat.beq pc) with
    | true => g_run P pc lv st μ
    | false => match g_find P pc with
      | some f => f pc lv st μ (g_ev P cuts n)
      | none => none
noncomputable def g_go (P : gP) (cuts : List Nat) (n : Nat) : gK := fun pc lv st μ => match g_find P pc with
  | some f => f pc lv st μ (g_ev P cuts n)
  | none => none
def g_lv : List Value → gL
  | [] => []
  | v :: vs => match Nat.beq v.category 2 with
    | true => some v :: none :: g_lv vs
    | false => some v :: g_lv vs
def g_lvs (as : List Value) (nL : Nat) : gL := g_lv as ++ List.replicate (nL - (g_lv as).length) none
noncomputable def g_m (P : gP) (nL : Nat) : gF := fun as μ => match Nat.ble (g_lv as).length nL with
  | true => g_run P 0 (g_lvs as nL) [] μ
  | false => none
theorem g_find_dt {P : gP} (h : gDts P) {pc : Nat} {f : gI} (hf : g_find P pc = some f) : gDt f := by
  induction P with
  | nil => cases hf
  | cons e t ih =>
    unfold g_find at hf
    split at hf
    · cases hf; exact h.1
    · exact ih h.2 hf
theorem g_n_up {P : gP} (h : gDts P) : ∀ (n : Nat) {pc lv st μ r}, g_n P n pc lv st μ = some r → g_n P (n + 1) pc lv st μ = some r
  | 0, _, _, _, _, _, hr => by cases hr
  | n + 1, pc, lv, st, μ, r, hr => by
    have hr : g_step P (g_n P n) pc lv st μ = some r := hr
    show g_step P (g_n P (n + 1)) pc lv st μ = some r
    unfold g_step at hr ⊢
    split at hr
    · rename_i f hf
      rcases g_find_dt h hf pc lv st μ with ⟨o, ho⟩ | ⟨a, b, c, d, ho⟩
      · rw [ho] at hr ⊢; exact hr
      · rw [ho] at hr ⊢; exact g_n_up h n hr
    · cases hr
theorem g_n_le {P : gP} (h : gDts P) {n m : Nat} (hm : n ≤ m) {pc lv st μ r} (hr : g_n P n pc lv st μ = some r) : g_n P m pc lv st μ = some r := by
  induction hm with
  | refl => exact hr
  | step _ ih => exact g_n_up h _ ih
theorem g_run_of {P : gP} (h : gDts P) {n : Nat} {pc lv st μ r} (hr : g_n P n pc lv st μ = some r) : g_run P pc lv st μ = some r := by
  unfold g_run
  cases Classical.propDecidable (∃ r n, g_n P n pc lv st μ = some r) with
  | isFalse q => exact absurd ⟨r, n, hr⟩ q
  | isTrue q =>
    show some (Classical.choose q) = some r
    obtain ⟨m, hm⟩ := Classical.choose_spec q
    have h1 := g_n_le h (Nat.le_max_left n m) hr
    have h2 := g_n_le h (Nat.le_max_right n m) hm
    rw [h1] at h2
    exact h2.symm
theorem g_run_n {P : gP} {pc lv st μ r} (hr : g_run P pc lv st μ = some r) : ∃ n, g_n P n pc lv st μ = some r := by
  unfold g_run at hr
  cases hq : Classical.propDecidable (∃ r n, g_n P n pc lv st μ = some r) with
  | isFalse q => rw [hq] at hr; cases hr
  | isTrue q =>
    rw [hq] at hr
    have hr : some (Classical.choose q) = some r := hr
    rw [← Option.some.inj hr]
    exact Classical.choose_spec q
theorem g_run_step {P : gP} (h : gDts P) (pc lv st μ) : g_run P pc lv st μ = g_step P (g_run P) pc lv st μ := by
  cases hr : g_step P (g_run P) pc lv st μ with
  | some r =>
    unfold g_step at hr
    split at hr
    · rename_i f hf
      rcases g_find_dt h hf pc lv st μ with ⟨o, ho⟩ | ⟨a, b, c, d, ho⟩
      · refine g_run_of h (n := 1) ?_
        show g_step P (g_n P 0) pc lv st μ = some r
        unfold g_step
        rw [hf]
        show f pc lv st μ (g_n P 0) = some r
        rw [ho] at hr ⊢
        exact hr
      · rw [ho] at hr
        obtain ⟨n, hn⟩ := g_run_n hr
        refine g_run_of h (n := n + 1) ?_
        show g_step P (g_n P n) pc lv st μ = some r
        unfold g_step
        rw [hf]
        show f pc lv st μ (g_n P n) = some r
        rw [ho]
        exact hn
    · cases hr
  | none =>
    cases hq : g_run P pc lv st μ with
    | none => rfl
    | some r =>
      exfalso
      obtain ⟨n, hn⟩ := g_run_n hq
      cases n with
      | zero => cases hn
      | succ n =>
        have hn : g_step P (g_n P n) pc lv st μ = some r := hn
        unfold g_step at hn hr
        split at hn
        · rename_i f hf
          rw [hf] at hr
          have hr : f pc lv st μ (g_run P) = none := hr
          rcases g_find_dt h hf pc lv st μ with ⟨o, ho⟩ | ⟨a, b, c, d, ho⟩
          · rw [ho] at hn hr; rw [hn] at hr; cases hr
          · rw [ho] at hn hr; rw [g_run_of h hn] at hr; cases hr
        · cases hn
theorem g_ev_run {P : gP} (h : gDts P) (cuts : List Nat) : ∀ n, g_ev P cuts n = g_run P
  | 0 => rfl
  | n + 1 => by
    funext pc lv st μ
    unfold g_ev
    split
    · rfl
    · rw [g_ev_run h cuts n, g_run_step h]
      rfl
/-- the run from a place, step by step to the next places of 'cuts' -/
theorem g_cut {P : gP} (h : gDts P) (cuts : List Nat) (n : Nat) (pc lv st μ) : g_run P pc lv st μ = g_go P cuts n pc lv st μ := by
  unfold g_go
  rw [g_ev_run h cuts n, g_run_step h]
  rfl
section DT
variable {n i t d c f : Nat}
theorem dt_psh {v : Value} : gDt (i_psh n v) := fun _ _ _ _ => Or.inr ⟨_, _, _, _, fun _ => rfl⟩
theorem dt_ild : gDt (i_ild n i) := by
  intro pc lv st μ; unfold i_ild; split <;> first | exact Or.inl ⟨_, fun _ => rfl⟩ | exact Or.inr ⟨_, _, _, _, fun _ => rfl⟩
theorem dt_lld : gDt (i_lld n i) := by
  intro pc lv st μ; unfold i_lld; split <;> first | exact Or.inl ⟨_, fun _ => rfl⟩ | exact Or.inr ⟨_, _, _, _, fun _ => rfl⟩
theorem dt_ald : gDt (i_ald n i) := by
  intro pc lv st μ; unfold i_ald; split <;> first | exact Or.inl ⟨_, fun _ => rfl⟩ | exact Or.inr ⟨_, _, _, _, fun _ => rfl⟩
theorem dt_ist : gDt (i_ist n i) := by
  intro pc lv st μ; unfold i_ist; split <;> (try split) <;> first | exact Or.inl ⟨_, fun _ => rfl⟩ | exact Or.inr ⟨_, _, _, _, fun _ => rfl⟩
theorem dt_ast : gDt (i_ast n i) := by
  intro pc lv st μ; unfold i_ast; split <;> (try split) <;> first | exact Or.inl ⟨_, fun _ => rfl⟩ | exact Or.inr ⟨_, _, _, _, fun _ => rfl⟩
theorem dt_lst : gDt (i_lst n i) := by
  intro pc lv st μ; unfold i_lst; split <;> (try split) <;> first | exact Or.inl ⟨_, fun _ => rfl⟩ | exact Or.inr ⟨_, _, _, _, fun _ => rfl⟩
theorem dt_inc {x : Int32} : gDt (i_inc i x) := by
  intro pc lv st μ; unfold i_inc; split <;> (try split) <;> first | exact Or.inl ⟨_, fun _ => rfl⟩ | exact Or.inr ⟨_, _, _, _, fun _ => rfl⟩
theorem dt_bin {op} : gDt (i_bin op) := by
  intro pc lv st μ; unfold i_bin; split <;> first | exact Or.inl ⟨_, fun _ => rfl⟩ | exact Or.inr ⟨_, _, _, _, fun _ => rfl⟩
theorem dt_dvr {op} : gDt (i_dvr op) := by
  intro pc lv st μ; unfold i_dvr; split <;> (try split) <;> first | exact Or.inl ⟨_, fun _ => rfl⟩ | exact Or.inr ⟨_, _, _, _, fun _ => rfl⟩
theorem dt_neg : gDt i_neg := by
  intro pc lv st μ; unfold i_neg; split <;> first | exact Or.inl ⟨_, fun _ => rfl⟩ | exact Or.inr ⟨_, _, _, _, fun _ => rfl⟩
theorem dt_lbn {op} : gDt (i_lbn op) := by
  intro pc lv st μ; unfold i_lbn; split <;> first | exact Or.inl ⟨_, fun _ => rfl⟩ | exact Or.inr ⟨_, _, _, _, fun _ => rfl⟩
theorem dt_ldv : gDt i_ldv := by
  intro pc lv st μ; unfold i_ldv; split <;> (try split) <;> first | exact Or.inl ⟨_, fun _ => rfl⟩ | exact Or.inr ⟨_, _, _, _, fun _ => rfl⟩
theorem dt_lsh {op} : gDt (i_lsh op) := by
  intro pc lv st μ; unfold i_lsh; split <;> first | exact Or.inl ⟨_, fun _ => rfl⟩ | exact Or.inr ⟨_, _, _, _, fun _ => rfl⟩
theorem dt_i2l : gDt i_i2l := by
  intro pc lv st μ; unfold i_i2l; split <;> first | exact Or.inl ⟨_, fun _ => rfl⟩ | exact Or.inr ⟨_, _, _, _, fun _ => rfl⟩
theorem dt_l2i : gDt i_l2i := by
  intro pc lv st μ; unfold i_l2i; split <;> first | exact Or.inl ⟨_, fun _ => rfl⟩ | exact Or.inr ⟨_, _, _, _, fun _ => rfl⟩
theorem dt_lcm : gDt i_lcm := by
  intro pc lv st μ; unfold i_lcm; split <;> first | exact Or.inl ⟨_, fun _ => rfl⟩ | exact Or.inr ⟨_, _, _, _, fun _ => rfl⟩
theorem dt_dup : gDt i_dup := by
  intro pc lv st μ; unfold i_dup; split <;> (try split) <;> first | exact Or.inl ⟨_, fun _ => rfl⟩ | exact Or.inr ⟨_, _, _, _, fun _ => rfl⟩
theorem dt_du2 : gDt i_du2 := by
  intro pc lv st μ; unfold i_du2; split <;> (try split) <;> first | exact Or.inl ⟨_, fun _ => rfl⟩ | exact Or.inr ⟨_, _, _, _, fun _ => rfl⟩
theorem dt_pop : gDt i_pop := by
  intro pc lv st μ; unfold i_pop; split <;> (try split) <;> first | exact Or.inl ⟨_, fun _ => rfl⟩ | exact Or.inr ⟨_, _, _, _, fun _ => rfl⟩
theorem dt_gto : gDt (i_gto t) := fun _ _ _ _ => Or.inr ⟨_, _, _, _, fun _ => rfl⟩
theorem dt_feq : gDt (i_feq t) := by
  intro pc lv st μ; unfold i_feq; split <;> (try split) <;> first | exact Or.inl ⟨_, fun _ => rfl⟩ | exact Or.inr ⟨_, _, _, _, fun _ => rfl⟩
theorem dt_fne : gDt (i_fne t) := by
  intro pc lv st μ; unfold i_fne; split <;> (try split) <;> first | exact Or.inl ⟨_, fun _ => rfl⟩ | exact Or.inr ⟨_, _, _, _, fun _ => rfl⟩
theorem dt_flt : gDt (i_flt t) := by
  intro pc lv st μ; unfold i_flt; split <;> (try split) <;> first | exact Or.inl ⟨_, fun _ => rfl⟩ | exact Or.inr ⟨_, _, _, _, fun _ => rfl⟩
theorem dt_fge : gDt (i_fge t) := by
  intro pc lv st μ; unfold i_fge; split <;> (try split) <;> first | exact Or.inl ⟨_, fun _ => rfl⟩ | exact Or.inr ⟨_, _, _, _, fun _ => rfl⟩
theorem dt_fgt : gDt (i_fgt t) := by
  intro pc lv st μ; unfold i_fgt; split <;> (try split) <;> first | exact Or.inl ⟨_, fun _ => rfl⟩ | exact Or.inr ⟨_, _, _, _, fun _ => rfl⟩
theorem dt_fle : gDt (i_fle t) := by
  intro pc lv st μ; unfold i_fle; split <;> (try split) <;> first | exact Or.inl ⟨_, fun _ => rfl⟩ | exact Or.inr ⟨_, _, _, _, fun _ => rfl⟩
theorem dt_ceq : gDt (i_ceq t) := by
  intro pc lv st μ; unfold i_ceq; split <;> (try split) <;> first | exact Or.inl ⟨_, fun _ => rfl⟩ | exact Or.inr ⟨_, _, _, _, fun _ => rfl⟩
theorem dt_cne : gDt (i_cne t) := by
  intro pc lv st μ; unfold i_cne; split <;> (try split) <;> first | exact Or.inl ⟨_, fun _ => rfl⟩ | exact Or.inr ⟨_, _, _, _, fun _ => rfl⟩
theorem dt_clt : gDt (i_clt t) := by
  intro pc lv st μ; unfold i_clt; split <;> (try split) <;> first | exact Or.inl ⟨_, fun _ => rfl⟩ | exact Or.inr ⟨_, _, _, _, fun _ => rfl⟩
theorem dt_cge : gDt (i_cge t) := by
  intro pc lv st μ; unfold i_cge; split <;> (try split) <;> first | exact Or.inl ⟨_, fun _ => rfl⟩ | exact Or.inr ⟨_, _, _, _, fun _ => rfl⟩
theorem dt_cgt : gDt (i_cgt t) := by
  intro pc lv st μ; unfold i_cgt; split <;> (try split) <;> first | exact Or.inl ⟨_, fun _ => rfl⟩ | exact Or.inr ⟨_, _, _, _, fun _ => rfl⟩
theorem dt_cle : gDt (i_cle t) := by
  intro pc lv st μ; unfold i_cle; split <;> (try split) <;> first | exact Or.inl ⟨_, fun _ => rfl⟩ | exact Or.inr ⟨_, _, _, _, fun _ => rfl⟩
theorem dt_swk (x : Int32) (d : Nat) : ∀ ps : List (Int32 × Nat), ∃ t, ∀ k, g_swk k x ps d = k t
  | [] => ⟨d, fun _ => rfl⟩
  | (v, t) :: ps => by
    by_cases h : x = v
    · exact ⟨t, fun k => by simp [g_swk, h]⟩
    · obtain ⟨u, hu⟩ := dt_swk x d ps
      exact ⟨u, fun k => by simp only [g_swk, h, if_false]; exact hu k⟩
theorem dt_swt {ps} : gDt (i_swt ps d) := by
  intro pc lv st μ; unfold i_swt
  split
  · rename_i x r
    obtain ⟨u, hu⟩ := dt_swk x d ps
    exact Or.inr ⟨u, lv, r, μ, fun k => hu _⟩
  · exact Or.inl ⟨_, fun _ => rfl⟩
theorem dt_gfd {L} : gDt (i_gfd L c f) := by
  intro pc lv st μ; unfold i_gfd; split <;> (try split) <;> (try split) <;> first | exact Or.inl ⟨_, fun _ => rfl⟩ | exact Or.inr ⟨_, _, _, _, fun _ => rfl⟩
theorem dt_pfd {L} : gDt (i_pfd L c f) := by
  intro pc lv st μ; unfold i_pfd; split <;> (try split) <;> (try split) <;> first | exact Or.inl ⟨_, fun _ => rfl⟩ | exact Or.inr ⟨_, _, _, _, fun _ => rfl⟩
theorem dt_pfz {L} : gDt (i_pfz L c f) := by
  intro pc lv st μ; unfold i_pfz; split <;> (try split) <;> (try split) <;> first | exact Or.inl ⟨_, fun _ => rfl⟩ | exact Or.inr ⟨_, _, _, _, fun _ => rfl⟩
theorem dt_gst : gDt (i_gst n) := fun _ _ _ _ => Or.inr ⟨_, _, _, _, fun _ => rfl⟩
theorem dt_tld {tb} : gDt (i_tld n tb) := by
  intro pc lv st μ; unfold i_tld; split <;> (try split) <;> (try split) <;> first | exact Or.inl ⟨_, fun _ => rfl⟩ | exact Or.inr ⟨_, _, _, _, fun _ => rfl⟩
theorem dt_tln {v} : gDt (i_tln n v) := by
  intro pc lv st μ; unfold i_tln; split <;> (try split) <;> first | exact Or.inl ⟨_, fun _ => rfl⟩ | exact Or.inr ⟨_, _, _, _, fun _ => rfl⟩
theorem dt_aln {L} : gDt (i_aln L) := by
  intro pc lv st μ; unfold i_aln; split <;> (try split) <;> first | exact Or.inl ⟨_, fun _ => rfl⟩ | exact Or.inr ⟨_, _, _, _, fun _ => rfl⟩
theorem dt_iad {L} : gDt (i_iad L) := by
  intro pc lv st μ; unfold i_iad; split <;> (try split) <;> first | exact Or.inl ⟨_, fun _ => rfl⟩ | exact Or.inr ⟨_, _, _, _, fun _ => rfl⟩
theorem dt_zad {L} : gDt (i_zad L) := by
  intro pc lv st μ; unfold i_zad; split <;> (try split) <;> first | exact Or.inl ⟨_, fun _ => rfl⟩ | exact Or.inr ⟨_, _, _, _, fun _ => rfl⟩
theorem dt_lad {L} : gDt (i_lad L) := by
  intro pc lv st μ; unfold i_lad; split <;> (try split) <;> first | exact Or.inl ⟨_, fun _ => rfl⟩ | exact Or.inr ⟨_, _, _, _, fun _ => rfl⟩
theorem dt_aad {L} : gDt (i_aad L) := by
  intro pc lv st μ; unfold i_aad; split <;> (try split) <;> first | exact Or.inl ⟨_, fun _ => rfl⟩ | exact Or.inr ⟨_, _, _, _, fun _ => rfl⟩
theorem dt_ias {L} : gDt (i_ias L) := by
  intro pc lv st μ; unfold i_ias; split <;> (try split) <;> first | exact Or.inl ⟨_, fun _ => rfl⟩ | exact Or.inr ⟨_, _, _, _, fun _ => rfl⟩
theorem dt_zas {L} : gDt (i_zas L) := by
  intro pc lv st μ; unfold i_zas; split <;> (try split) <;> first | exact Or.inl ⟨_, fun _ => rfl⟩ | exact Or.inr ⟨_, _, _, _, fun _ => rfl⟩
theorem dt_las {L} : gDt (i_las L) := by
  intro pc lv st μ; unfold i_las; split <;> (try split) <;> first | exact Or.inl ⟨_, fun _ => rfl⟩ | exact Or.inr ⟨_, _, _, _, fun _ => rfl⟩
theorem dt_aci {L} : gDt (i_aci L) := by
  intro pc lv st μ; unfold i_aci; split <;> (try split) <;> (try split) <;> first | exact Or.inl ⟨_, fun _ => rfl⟩ | exact Or.inr ⟨_, _, _, _, fun _ => rfl⟩
theorem dt_acl {L} : gDt (i_acl L) := by
  intro pc lv st μ; unfold i_acl; split <;> (try split) <;> (try split) <;> first | exact Or.inl ⟨_, fun _ => rfl⟩ | exact Or.inr ⟨_, _, _, _, fun _ => rfl⟩
theorem dt_cvt {L m} : gDt (i_cvt L n c m) := by
  intro pc lv st μ; unfold i_cvt; split <;> (try split) <;> (try split) <;> (try split) <;> first | exact Or.inl ⟨_, fun _ => rfl⟩ | exact Or.inr ⟨_, _, _, _, fun _ => rfl⟩
theorem dt_cst {m} : gDt (i_cst n m) := by
  intro pc lv st μ; unfold i_cst; split <;> (try split) <;> first | exact Or.inl ⟨_, fun _ => rfl⟩ | exact Or.inr ⟨_, _, _, _, fun _ => rfl⟩
theorem dt_irt : gDt i_irt := fun _ _ _ _ => Or.inl ⟨_, fun _ => rfl⟩
theorem dt_zrt : gDt i_zrt := fun _ _ _ _ => Or.inl ⟨_, fun _ => rfl⟩
theorem dt_lrt : gDt i_lrt := fun _ _ _ _ => Or.inl ⟨_, fun _ => rfl⟩
theorem dt_vrt : gDt i_vrt := fun _ _ _ _ => Or.inl ⟨_, fun _ => rfl⟩
end DT
end
section
/-! THE ABSTRACT MACHINE IS SOUND: what a run of it says, the machine does. -/
def gv (ad : Nat → Nat) : Value → Value
  | .ref c => .ref (ad c)
  | v => v
theorem gv_cat (ad : Nat → Nat) (v : Value) : (gv ad v).category = v.category := by cases v <;> rfl
def g_nf (k : Nat) : Nat := match gcl[k]? with
  | some q => q.2.2
  | none => 0
/-- a world: the tables' numbers, the classes of int[], long[], boolean[], int[][], the layout, where the cells lie -/
abbrev gWo : Type := va_G × (ClassId × ClassId × ClassId × ClassId) × gLay × (Nat → Nat)
def gE (w : gWo) (μ : gMem) (c : Nat) : va_E := match w.2.2.1.1.2 c with
  | (0, n) => .inl (w.2.1.1, n, .inl (μ.1 c))
  | (1, n) => .inl (w.2.1.2.1, n, .inr (.inl (μ.2 c)))
  | (2, n) => .inl (w.2.1.2.2.1, n, .inl (μ.1 c))
  | (3, n) => .inl (w.2.1.2.2.2, n, .inr (.inr (.inr (.inr (fun i => if i < n then some (w.2.2.2 (c + 1 + i)) else none)))))
  | (_, k) => .inr (k, (List.range (g_nf k)).map (fun f => match w.2.2.1.2 c f with
    | some t => .ref (w.2.2.2 t)
    | none => .int (μ.1 c f)))
def gW (w : gWo) (μ : gMem) : va_W := (List.range w.2.2.1.1.1).map (fun c => (w.2.2.2 c, gE w μ c))
def gty (w : gWo) : List (ClassId × FieldType) := [(w.2.1.1, .int), (w.2.1.2.1, .long), (w.2.1.2.2.1, .boolean), (w.2.1.2.2.2, .array .int)]
def gInj (w : gWo) : Prop := ∀ i j, i < w.2.2.1.1.1 → j < w.2.2.1.1.1 → w.2.2.2 i = w.2.2.2 j → i = j
def gA (w : gWo) : Nat → Prop := fun q => ∃ c, c < w.2.2.1.1.1 ∧ q = w.2.2.2 c
def g_t0 : List Int32 := [-1, 0x55555555, 0x11111111, 0x01010101, 0x00010001, 1]
def g_t1 : List Int32 := [4, 1, 0, 0, 0, 0, 0, 0, 0, 0]
def g_t2 : List Int32 := [32, 8, 2, 1, 9, 99, 9, 99, 1, 1]
def gS1 (C n : String) (t : Nat) (tb : List Int32) (A : Nat → Prop) (U : State) (H : Heap) : Prop := va_Z C n "[I" (.ref t) A U H ∧ va_T .int t tb.length (fun j => .int (tb.getD j 0)) A U H
/-- the static rows, at the cells 1000, 1001, 1002 -/
def gSt (w : gWo) (U : State) (H : Heap) : Prop := gS1 "GangMatrix$Blocks" "ALIGNED" (w.2.2.2 1000) g_t0 (gA w) U H ∧ gS1 "GangMatrix$Board" "LEAST_TOLD" (w.2.2.2 1001) g_t1 (gA w) U H ∧ gS1 "GangMatrix$Board" "MOST_TOLD" (w.2.2.2 1002) g_t2 (gA w) U H
theorem gS1.moved {C n t tb A} {u U : State} {H : Heap} (hvm : u.vm.Alike U.vm) (h : gS1 C n t tb A u H) : gS1 C n t tb A U H := ⟨h.1.moved hvm, h.2.moved hvm⟩
theorem gS1.kept {C n t tb A} {U : State} {H H1 : Heap} (h : gS1 C n t tb A U H) (hq : ∀ a : Nat, a < H.size → ¬ A a → H1[a]? = H[a]?) : gS1 C n t tb A U H1 := ⟨h.1.kept hq, h.2.kept hq⟩
theorem gSt.moved {w : gWo} {u U : State} {H : Heap} (hvm : u.vm.Alike U.vm) (h : gSt w u H) : gSt w U H := ⟨h.1.moved hvm, h.2.1.moved hvm, h.2.2.moved hvm⟩
theorem gSt.kept {w : gWo} {U : State} {H H1 : Heap} (h : gSt w U H) (hq : ∀ a : Nat, a < H.size → ¬ gA w a → H1[a]? = H[a]?) : gSt w U H1 := ⟨h.1.kept hq, h.2.1.kept hq, h.2.2.kept hq⟩
theorem gW_len (w : gWo) (μ : gMem) : (gW w μ).length = w.2.2.1.1.1 := by simp [gW]
theorem gW_get {w : gWo} {μ : gMem} {c : Nat} (h : c < w.2.2.1.1.1) : (gW w μ)[c]? = some (w.2.2.2 c, gE w μ c) := by simp [gW, h]
theorem gW_D {w : gWo} {μ : gMem} (h : gInj w) : va_D (gA w) (gW w μ) := by
  have key : ∀ (i : Nat) (p : Nat × va_E), (gW w μ)[i]? = some p → i < w.2.2.1.1.1 ∧ p.1 = w.2.2.2 i := by
    intro i p hp
    have hi : i < (gW w μ).length := (List.getElem?_eq_some_iff.mp hp).1
    rw [gW_len] at hi
    rw [gW_get hi] at hp
    cases hp
    exact ⟨hi, rfl⟩
  refine ⟨fun i j p q hp hq e => ?_, fun k q hk => ?_⟩
  · obtain ⟨hi, ei⟩ := key i p hp
    obtain ⟨hj, ej⟩ := key j q hq
    exact h i j hi hj (by rw [← ei, ← ej, e])
  · obtain ⟨hi, ei⟩ := key k q hk
    exact ⟨k, hi, ei⟩
theorem gW_set {w : gWo} {μ μ' : gMem} {c : Nat} {e : va_E} (h : c < w.2.2.1.1.1) (he : gE w μ' c = e) (ho : ∀ c', c' ≠ c → gE w μ' c' = gE w μ c') : (gW w μ).set c (w.2.2.2 c, e) = gW w μ' := by
  apply List.ext_getElem?
  intro i
  rw [List.getElem?_set]
  by_cases hic : c = i
  · subst hic
    rw [if_pos rfl, if_pos (by rw [gW_len]; exact h), gW_get h, he]
  · rw [if_neg hic]
    by_cases hi : i < w.2.2.1.1.1
    · rw [gW_get hi, gW_get hi, ho i (fun q => hic q.symm)]
    · rw [List.getElem?_eq_none (by rw [gW_len]; omega), List.getElem?_eq_none (by rw [gW_len]; omega)]
theorem gE_wI {w : gWo} {μ : gMem} {c i : Nat} {x : Int32} (c' : Nat) (h : c' ≠ c) : gE w (gwI μ c i x) c' = gE w μ c' := by
  have h1 : (gwI μ c i x).1 c' = μ.1 c' := by funext j; simp [gwI, h]
  unfold gE
  split <;> first | rfl | (rw [h1]; try rfl)
theorem gE_wL {w : gWo} {μ : gMem} {c i : Nat} {x : Int64} (c' : Nat) (h : c' ≠ c) : gE w (gwL μ c i x) c' = gE w μ c' := by
  have h1 : (gwL μ c i x).2 c' = μ.2 c' := by funext j; simp [gwL, h]
  unfold gE
  split <;> first | rfl | (rw [h1]; try rfl)
theorem gE_cI {w : gWo} {μ : gMem} {a d n : Nat} (c' : Nat) (h : c' ≠ d) : gE w (gcI μ a d n) c' = gE w μ c' := by
  have h1 : (gcI μ a d n).1 c' = μ.1 c' := by funext j; simp [gcI, h]
  unfold gE
  split <;> first | rfl | (rw [h1]; try rfl)
theorem gE_cL {w : gWo} {μ : gMem} {a d n : Nat} (c' : Nat) (h : c' ≠ d) : gE w (gcL μ a d n) c' = gE w μ c' := by
  have h1 : (gcL μ a d n).2 c' = μ.2 c' := by funext j; simp [gcL, h]
  unfold gE
  split <;> first | rfl | (rw [h1]; try rfl)
theorem gLen_spec {L : gLay} {t c n : Nat} {i : Int32} (h : g_in i (gLen L t c) = true) : c < L.1.1 ∧ (L.1.2 c) = (t, gLen L t c) ∧ vp_in i (gLen L t c) := by
  have hv := g_in_vp.mp h
  have h0 : gLen L t c ≠ 0 := fun e => hv (Or.inr (by rw [e]; exact Nat.zero_le _))
  refine ⟨?_, ?_, hv⟩
  · unfold gLen at h0
    split at h0
    · rename_i hb; exact Nat.blt_eq.mp hb
    · exact absurd rfl h0
  · unfold gLen at h0 ⊢
    split at h0
    · rename_i hb
      show L.1.2 c = (t, match L.1.2 c with | (a, n) => match Nat.beq a t with | true => n | false => 0)
      rcases hk : L.1.2 c with ⟨a, n⟩
      rw [hk] at h0
      show (a, n) = (t, match Nat.beq a t with | true => n | false => 0)
      have h0 : (match Nat.beq a t with | true => n | false => 0) ≠ 0 := h0
      cases hq : Nat.beq a t with
      | false => rw [hq] at h0; exact absurd rfl h0
      | true => rw [Nat.eq_of_beq_eq_true hq]
    · exact absurd rfl h0
theorem gLen_pos {L : gLay} {t c : Nat} (h0 : 0 < gLen L t c) : c < L.1.1 ∧ (L.1.2 c) = (t, gLen L t c) := by
  have h : g_in 0 (gLen L t c) = true := by
    simp [g_in]; omega
  have := gLen_spec (n := 0) h
  exact ⟨this.1, this.2.1⟩
theorem g_isO_spec {L : gLay} {c ci : Nat} (h : g_isO L c ci = true) : c < L.1.1 ∧ L.1.2 c = (4, ci) := by
  simp only [g_isO, Bool.and_eq_true] at h
  refine ⟨Nat.blt_eq.mp h.1, ?_⟩
  rcases hk : L.1.2 c with ⟨a, n⟩
  rw [hk] at h
  have h1 : a = 4 := Nat.eq_of_beq_eq_true h.2.1
  have h2 : n = ci := Nat.eq_of_beq_eq_true h.2.2
  rw [h1, h2]
def gFs (w : gWo) (μ : gMem) (c k : Nat) : List Value := (List.range (g_nf k)).map (fun f => match w.2.2.1.2 c f with
    | some t => .ref (w.2.2.2 t)
    | none => .int (μ.1 c f))
theorem gE_obj {w : gWo} {μ : gMem} {c k : Nat} (h : w.2.2.1.1.2 c = (4, k)) : gE w μ c = .inr (k, gFs w μ c k) := by unfold gE; rw [h]; rfl
theorem gE_int {w : gWo} {μ : gMem} {c n : Nat} (h : w.2.2.1.1.2 c = (0, n)) : gE w μ c = .inl (w.2.1.1, n, .inl (μ.1 c)) := by unfold gE; rw [h]; rfl
theorem gE_lng {w : gWo} {μ : gMem} {c n : Nat} (h : w.2.2.1.1.2 c = (1, n)) : gE w μ c = .inl (w.2.1.2.1, n, .inr (.inl (μ.2 c))) := by unfold gE; rw [h]; rfl
theorem gE_bol {w : gWo} {μ : gMem} {c n : Nat} (h : w.2.2.1.1.2 c = (2, n)) : gE w μ c = .inl (w.2.1.2.2.1, n, .inl (μ.1 c)) := by unfold gE; rw [h]; rfl
theorem gE_row {w : gWo} {μ : gMem} {c n : Nat} (h : w.2.2.1.1.2 c = (3, n)) : gE w μ c = .inl (w.2.1.2.2.2, n, .inr (.inr (.inr (.inr (fun i => if i < n then some (w.2.2.2 (c + 1 + i)) else none))))) := by unfold gE; rw [h]; rfl
/-- locals -/
def gAg (ad : Nat → Nat) (nL : Nat) (lv : gL) (ls : Array Slot) : Prop := lv.length = nL ∧ ls.size = nL ∧ lv_wf ls ∧ ∀ (i : Nat) (v : Value), lv[i]? = some (some v) → ls[i]? = some (Slot.val (gv ad v))
def gPr (ad : Nat → Nat) (lv : gL) : List (Nat × Value) := (List.range lv.length).filterMap (fun i => match lv[i]? with
  | some (some v) => some (i, gv ad v)
  | _ => none)
theorem gPr_mem {ad : Nat → Nat} {lv : gL} {i : Nat} {v : Value} (h : lv[i]? = some (some v)) : (i, gv ad v) ∈ gPr ad lv := by
  refine List.mem_filterMap.mpr ⟨i, List.mem_range.mpr (List.getElem?_eq_some_iff.mp h).1, ?_⟩
  rw [h]
theorem gPr_of {ad : Nat → Nat} {lv : gL} {q : Nat × Value} (h : q ∈ gPr ad lv) : ∃ v, lv[q.1]? = some (some v) ∧ q.2 = gv ad v := by
  obtain ⟨i, -, hi⟩ := List.mem_filterMap.mp h
  split at hi
  · rename_i v hv
    cases hi
    exact ⟨v, hv, rfl⟩
  · cases hi
theorem gAg.has {ad nL lv ls} (h : gAg ad nL lv ls) : lv_has ls nL (gPr ad lv) := by
  refine ⟨h.2.1, h.2.2.1, fun q hq => ?_⟩
  obtain ⟨v, h1, h2⟩ := gPr_of hq
  rw [h2]
  exact h.2.2.2 _ _ h1
theorem g_sok_spec {lv : gL} {i : Nat} (h : g_sok lv i = true) : i < lv.length ∧ ∀ j v, j + 1 = i → lv[j]? = some (some v) → v.category = 1 := by
  simp only [g_sok, Bool.and_eq_true] at h
  refine ⟨Nat.blt_eq.mp h.1, fun j v hj hv => ?_⟩
  subst hj
  have h2 := h.2
  simp only [hv] at h2
  exact Nat.eq_of_beq_eq_true h2
theorem gAg.st1 {ad nL lv ls ls'} {i : Nat} {v : Value} (h : gAg ad nL lv ls) (hs : g_sok lv i = true) (h' : lv_has ls' nL ((i, gv ad v) :: (gPr ad lv).filter (fun q => !(q.1 == i) && !(q.1 + 1 == i && q.2.category == 2)))) : gAg ad nL (lv.set i (some v)) ls' := by
  obtain ⟨s1, s2⟩ := g_sok_spec hs
  refine ⟨by rw [List.length_set]; exact h.1, h'.1, h'.2.1, fun j u hj => ?_⟩
  rw [List.getElem?_set] at hj
  by_cases e : i = j
  · subst e
    rw [if_pos rfl, if_pos s1] at hj
    cases hj
    exact h'.2.2 (i, gv ad v) List.mem_cons_self
  · rw [if_neg e] at hj
    refine h'.2.2 (j, gv ad u) (List.mem_cons_of_mem _ (List.mem_filter.mpr ⟨gPr_mem hj, ?_⟩))
    simp only [Bool.and_eq_true, Bool.not_eq_true', beq_eq_false_iff_ne, ne_eq, Bool.and_eq_false_iff, gv_cat]
    refine ⟨fun q => e q.symm, ?_⟩
    by_cases e2 : j + 1 = i
    · right
      rw [s2 j u e2 hj]
      decide
    · exact Or.inl e2
theorem gAg.st2 {ad nL lv ls ls'} {i : Nat} {v : Value} (h : gAg ad nL lv ls) (hs : g_sok lv i = true) (hi : i + 1 < lv.length) (h' : lv_has ls' nL ((i, gv ad v) :: (gPr ad lv).filter (fun q => !(q.1 == i) && (!(q.1 == i + 1) && !(q.1 + 1 == i && q.2.category == 2))))) : gAg ad nL ((lv.set i (some v)).set (i + 1) none) ls' := by
  obtain ⟨s1, s2⟩ := g_sok_spec hs
  refine ⟨by rw [List.length_set, List.length_set]; exact h.1, h'.1, h'.2.1, fun j u hj => ?_⟩
  rw [List.getElem?_set, List.getElem?_set, List.length_set] at hj
  by_cases e1 : i + 1 = j
  · rw [if_pos e1, if_pos hi] at hj
    cases hj
  · rw [if_neg e1] at hj
    by_cases e : i = j
    · subst e
      rw [if_pos rfl, if_pos s1] at hj
      cases hj
      exact h'.2.2 (i, gv ad v) List.mem_cons_self
    · rw [if_neg e] at hj
      refine h'.2.2 (j, gv ad u) (List.mem_cons_of_mem _ (List.mem_filter.mpr ⟨gPr_mem hj, ?_⟩))
      simp only [Bool.and_eq_true, Bool.not_eq_true', beq_eq_false_iff_ne, ne_eq, Bool.and_eq_false_iff, gv_cat]
      refine ⟨fun q => e q.symm, fun q => e1 q.symm, ?_⟩
      by_cases e2 : j + 1 = i
      · right
        rw [s2 j u e2 hj]
        decide
      · exact Or.inl e2
/-- a method: its bytes, its locals, its class, what it returns, how high it stands above those that call nobody -/
abbrev gMi : Type := ByteArray × Nat × String × Option FieldType × Nat
def gRm (h : Nat) : Room := { frames := h, cells := 0, slots := 0, locals := 40 * h }
def gC (w : gWo) (M : gMi) (p : Program) (R : Room) (s : State) (m : MethodId) (args : Array Value) (meth : Method) (c : Code) : Prop :=
  p.tables.exec = Jvm.exec ∧ c.code = M.1 ∧ c.maxLocals = M.2.1 ∧ s.vm.findClass M.2.2.1 = some m.cls ∧ (∀ x ∈ gtb, x.before args s = true) ∧ meth.sig.returnType = M.2.2.2.1 ∧ meth.locks = false ∧ R = gRm M.2.2.2.2 ∧ va_K w.1 gcl (gty w) s ∧ gInj w ∧ gSt w s s.heap
def gQ (w : gWo) (r : gR) : Array Value → State → Outcome → State → Prop := fun _ st oc t => oc = .returned (r.1.map (gv w.2.2.2)) ∧ va_P w.1 gcl (gW w r.2) t.heap ∧ va_F (gA w) st t
def gG (w : gWo) (M : gMi) (p : Program) (l : Launch) (e : Env) (R : Room) (s : State) (m : MethodId) (args : Array Value) (below : List Frame) (meth : Method) (c : Code) (r : gR) (pc : Nat) (lv : gL) (st : List Value) (μ : gMem) : Prop :=
  ∀ (H : Heap) (locs : List Loc) (ls : Array Slot), va_P w.1 gcl (gW w μ) H → va_S (gA w) s.heap H locs → gAg w.2.2.2 M.2.1 lv ls → W p l e R s m args below meth c H locs 0 0 (MQ below (gQ w r) args s 0 0 (gA w)) (F0 m pc ls (st.map (gv w.2.2.2)))
/-- an instruction of the abstract machine is what the machine does there -/
def gOk (w : gWo) (l : Launch) (M : gMi) (pc : Nat) (f : gI) : Prop := ∀ (p : Program) (e : Env) (R : Room) (s : State) (m : MethodId) (args : Array Value) (below : List Frame) (meth : Method) (c : Code), gC w M p R s m args meth c →
  ∀ (r : gR) (lv : gL) (st : List Value) (μ : gMem) (k : gK), f pc lv st μ k = some r → (∀ pc' lv' st' μ', k pc' lv' st' μ' = some r → gG w M p l e R s m args below meth c r pc' lv' st' μ') → gG w M p l e R s m args below meth c r pc lv st μ
/-- a method's contract: from the memory μ with these arguments it returns r.1, and leaves the memory r.2 -/
def gMt (w : gWo) (l : Launch) (y : MethodName) (M : gMi) (as : List Value) (μ : gMem) (r : gR) : Prop :=
  Met l y (.code y M.1 M.2.1 M.2.2.2.1 :: gtb) (gRm M.2.2.2.2) (va_Pc (as.map (gv w.2.2.2)) (fun U => va_P w.1 gcl (gW w μ) U.heap ∧ va_K w.1 gcl (gty w) U ∧ gInj w ∧ gSt w U U.heap)) (gQ w r) 0 0 (gA w)
section OK1
variable {w : gWo} {l : Launch} {M : gMi} {pc : Nat}
theorem ok_iconst {n : Int} {v : Int32} (hd : decode M.1 pc = .ok (.iconst n, 1)) (hv : Int32.ofInt n = v) : gOk w l M pc (i_psh 1 (.int v)) := by
  intro p e R s m args below meth c hC r lv st μ k hf hk H locs ls hP hS hl
  exact lv_iconst hC.1 hC.2.1 hd hv (hk _ _ _ _ hf H locs ls hP hS hl)
theorem ok_bipush {n : Int} {v : Int32} (hd : decode M.1 pc = .ok (.bipush n, 2)) (hv : (Int8.ofInt n).toInt32 = v) : gOk w l M pc (i_psh 2 (.int v)) := by
  intro p e R s m args below meth c hC r lv st μ k hf hk H locs ls hP hS hl
  exact lv_bipush hC.1 hC.2.1 hd hv (hk _ _ _ _ hf H locs ls hP hS hl)
theorem ok_sipush {n : Int} {v : Int32} (hd : decode M.1 pc = .ok (.sipush n, 3)) (hv : (Int16.ofInt n).toInt32 = v) : gOk w l M pc (i_psh 3 (.int v)) := by
  intro p e R s m args below meth c hC r lv st μ k hf hk H locs ls hP hS hl
  exact lv_sipush hC.1 hC.2.1 hd hv (hk _ _ _ _ hf H locs ls hP hS hl)
theorem ok_lconst {n : Fin 2} {v : Int64} (hd : decode M.1 pc = .ok (.lconst n, 1)) (hv : Int64.ofNat (n : Nat) = v) : gOk w l M pc (i_psh 1 (.long v)) := by
  intro p e R s m args below meth c hC r lv st μ k hf hk H locs ls hP hS hl
  exact lv_lconst hC.1 hC.2.1 hd hv (hk _ _ _ _ hf H locs ls hP hS hl)
theorem ok_ldc {index : Nat} {v : Int32} (hd : decode M.1 pc = .ok (.ldc index, 2)) (hw : Cond.constant M.2.2.1 index v ∈ gtb) : gOk w l M pc (i_psh 2 (.int v)) := by
  intro p e R s m args below meth c hC r lv st μ k hf hk H locs ls hP hS hl
  exact lv_ldc hC.1 hC.2.1 hC.2.2.2.1 (hC.2.2.2.2.1 _ hw) hd (hk _ _ _ _ hf H locs ls hP hS hl)
theorem ok_ldcw {index : Nat} {v : Int32} (hd : decode M.1 pc = .ok (.ldc_w index, 3)) (hw : Cond.constant M.2.2.1 index v ∈ gtb) : gOk w l M pc (i_psh 3 (.int v)) := by
  intro p e R s m args below meth c hC r lv st μ k hf hk H locs ls hP hS hl
  exact lv_ldcw hC.1 hC.2.1 hC.2.2.2.1 (hC.2.2.2.2.1 _ hw) hd (hk _ _ _ _ hf H locs ls hP hS hl)
theorem ok_iload_n {q : Fin 4} {i : Nat} (hd : decode M.1 pc = .ok (.iload_n q, 1)) (hi : (q : Nat) = i) : gOk w l M pc (i_ild 1 i) := by
  intro p e R s m args below meth c hC r lv st μ k hf hk H locs ls hP hS hl
  unfold i_ild at hf
  split at hf
  · rename_i x hx
    exact lv_iload_n hC.1 hC.2.1 hd hi (hl.2.2.2 _ _ hx) (hk _ _ _ _ hf H locs ls hP hS hl)
  · cases hf
theorem ok_iload {i : Nat} (hd : decode M.1 pc = .ok (.iload i, 2)) : gOk w l M pc (i_ild 2 i) := by
  intro p e R s m args below meth c hC r lv st μ k hf hk H locs ls hP hS hl
  unfold i_ild at hf
  split at hf
  · rename_i x hx
    exact lv_iload hC.1 hC.2.1 hd (hl.2.2.2 _ _ hx) (hk _ _ _ _ hf H locs ls hP hS hl)
  · cases hf
theorem ok_lload_n {q : Fin 4} {i : Nat} (hd : decode M.1 pc = .ok (.lload_n q, 1)) (hi : (q : Nat) = i) : gOk w l M pc (i_lld 1 i) := by
  intro p e R s m args below meth c hC r lv st μ k hf hk H locs ls hP hS hl
  unfold i_lld at hf
  split at hf
  · rename_i x hx
    exact lv_lload_n hC.1 hC.2.1 hd hi (hl.2.2.2 _ _ hx) (hk _ _ _ _ hf H locs ls hP hS hl)
  · cases hf
theorem ok_lload {i : Nat} (hd : decode M.1 pc = .ok (.lload i, 2)) : gOk w l M pc (i_lld 2 i) := by
  intro p e R s m args below meth c hC r lv st μ k hf hk H locs ls hP hS hl
  unfold i_lld at hf
  split at hf
  · rename_i x hx
    exact lv_lload hC.1 hC.2.1 hd (hl.2.2.2 _ _ hx) (hk _ _ _ _ hf H locs ls hP hS hl)
  · cases hf
theorem ok_aload_n {q : Fin 4} {i : Nat} (hd : decode M.1 pc = .ok (.aload_n q, 1)) (hi : (q : Nat) = i) : gOk w l M pc (i_ald 1 i) := by
  intro p e R s m args below meth c hC r lv st μ k hf hk H locs ls hP hS hl
  unfold i_ald at hf
  split at hf
  · rename_i x hx
    exact lv_aload_n hC.1 hC.2.1 hd hi (hl.2.2.2 _ _ hx) (hk _ _ _ _ hf H locs ls hP hS hl)
  · cases hf
theorem ok_aload {i : Nat} (hd : decode M.1 pc = .ok (.aload i, 2)) : gOk w l M pc (i_ald 2 i) := by
  intro p e R s m args below meth c hC r lv st μ k hf hk H locs ls hP hS hl
  unfold i_ald at hf
  split at hf
  · rename_i x hx
    exact lv_aload hC.1 hC.2.1 hd (hl.2.2.2 _ _ hx) (hk _ _ _ _ hf H locs ls hP hS hl)
  · cases hf
theorem ok_istore_n {q : Fin 4} {i : Nat} (hd : decode M.1 pc = .ok (.istore_n q, 1)) (hi : (q : Nat) = i) : gOk w l M pc (i_ist 1 i) := by
  intro p e R s m args below meth c hC r lv st μ k hf hk H locs ls hP hS hl
  unfold i_ist at hf
  split at hf
  · split at hf
    · rename_i hs
      exact lv_istore_n hC.1 hC.2.1 hd hi hl.has (by rw [← hl.1]; exact (g_sok_spec hs).1) rfl (fun ls' h' => hk _ _ _ _ hf H locs ls' hP hS (hl.st1 (v := .int _) hs h'))
    · cases hf
  · cases hf
theorem ok_istore {i : Nat} (hd : decode M.1 pc = .ok (.istore i, 2)) : gOk w l M pc (i_ist 2 i) := by
  intro p e R s m args below meth c hC r lv st μ k hf hk H locs ls hP hS hl
  unfold i_ist at hf
  split at hf
  · split at hf
    · rename_i hs
      exact lv_istore hC.1 hC.2.1 hd hl.has (by rw [← hl.1]; exact (g_sok_spec hs).1) rfl (fun ls' h' => hk _ _ _ _ hf H locs ls' hP hS (hl.st1 (v := .int _) hs h'))
    · cases hf
  · cases hf
theorem ok_astore_n {q : Fin 4} {i : Nat} (hd : decode M.1 pc = .ok (.astore_n q, 1)) (hi : (q : Nat) = i) : gOk w l M pc (i_ast 1 i) := by
  intro p e R s m args below meth c hC r lv st μ k hf hk H locs ls hP hS hl
  unfold i_ast at hf
  split at hf
  · split at hf
    · rename_i hs
      exact lv_astore_n hC.1 hC.2.1 hd hi hl.has (by rw [← hl.1]; exact (g_sok_spec hs).1) rfl (fun ls' h' => hk _ _ _ _ hf H locs ls' hP hS (hl.st1 (v := .ref _) hs h'))
    · cases hf
  · cases hf
theorem ok_astore {i : Nat} (hd : decode M.1 pc = .ok (.astore i, 2)) : gOk w l M pc (i_ast 2 i) := by
  intro p e R s m args below meth c hC r lv st μ k hf hk H locs ls hP hS hl
  unfold i_ast at hf
  split at hf
  · split at hf
    · rename_i hs
      exact lv_astore hC.1 hC.2.1 hd hl.has (by rw [← hl.1]; exact (g_sok_spec hs).1) rfl (fun ls' h' => hk _ _ _ _ hf H locs ls' hP hS (hl.st1 (v := .ref _) hs h'))
    · cases hf
  · cases hf
theorem ok_lstore_n {q : Fin 4} {i : Nat} (hd : decode M.1 pc = .ok (.lstore_n q, 1)) (hi : (q : Nat) = i) : gOk w l M pc (i_lst 1 i) := by
  intro p e R s m args below meth c hC r lv st μ k hf hk H locs ls hP hS hl
  unfold i_lst at hf
  split at hf
  · split at hf
    · rename_i hs
      obtain ⟨hs, hs2⟩ := (Bool.and_eq_true _ _).mp hs
      exact lv_lstore_n hC.1 hC.2.1 hd hi hl.has (by rw [← hl.1]; exact Nat.blt_eq.mp hs2) rfl (fun ls' h' => hk _ _ _ _ hf H locs ls' hP hS (hl.st2 (v := .long _) hs (Nat.blt_eq.mp hs2) h'))
    · cases hf
  · cases hf
theorem ok_lstore {i : Nat} (hd : decode M.1 pc = .ok (.lstore i, 2)) : gOk w l M pc (i_lst 2 i) := by
  intro p e R s m args below meth c hC r lv st μ k hf hk H locs ls hP hS hl
  unfold i_lst at hf
  split at hf
  · split at hf
    · rename_i hs
      obtain ⟨hs, hs2⟩ := (Bool.and_eq_true _ _).mp hs
      exact lv_lstore hC.1 hC.2.1 hd hl.has (by rw [← hl.1]; exact Nat.blt_eq.mp hs2) rfl (fun ls' h' => hk _ _ _ _ hf H locs ls' hP hS (hl.st2 (v := .long _) hs (Nat.blt_eq.mp hs2) h'))
    · cases hf
  · cases hf
theorem ok_iinc {i : Nat} {n : Int} {d : Int32} (hd : decode M.1 pc = .ok (.iinc i n, 3)) (hn : Int32.ofInt n = d) : gOk w l M pc (i_inc i d) := by
  intro p e R s m args below meth c hC r lv st μ k hf hk H locs ls hP hS hl
  unfold i_inc at hf
  split at hf
  · rename_i x hx
    split at hf
    · rename_i hs
      obtain ⟨q, hq, hqe⟩ := List.mem_iff_getElem?.mp (gPr_mem (ad := w.2.2.2) hx) |> fun ⟨q, hq⟩ => (⟨q, hq, rfl⟩ : ∃ q, (gPr w.2.2.2 lv)[q]? = some (i, gv w.2.2.2 (.int x)) ∧ q = q)
      exact lv_iinc hC.1 hC.2.1 hd hl.has hq (by rw [hn]) (by rw [← hl.1]; exact (g_sok_spec hs).1) rfl (fun ls' h' => hk _ _ _ _ hf H locs ls' hP hS (hl.st1 (v := .int _) hs h'))
    · cases hf
  · cases hf
end OK1
end
section
/-! soundness, second half: numbers, branches, cells, calls, ends -/
section OK2
variable {w : gWo} {l : Launch} {M : gMi} {pc : Nat}
theorem ok_iadd (hd : decode M.1 pc = .ok (.iadd, 1)) : gOk w l M pc (i_bin (fun x y => x + y)) := by
  intro p e R s m args below meth c hC r lv st μ k hf hk H locs ls hP hS hl
  unfold i_bin at hf
  split at hf
  · exact lv_iadd hC.1 hC.2.1 hd (hk _ _ _ _ hf H locs ls hP hS hl)
  · cases hf
theorem ok_isub (hd : decode M.1 pc = .ok (.isub, 1)) : gOk w l M pc (i_bin (fun x y => x - y)) := by
  intro p e R s m args below meth c hC r lv st μ k hf hk H locs ls hP hS hl
  unfold i_bin at hf
  split at hf
  · exact lv_isub hC.1 hC.2.1 hd (hk _ _ _ _ hf H locs ls hP hS hl)
  · cases hf
theorem ok_imul (hd : decode M.1 pc = .ok (.imul, 1)) : gOk w l M pc (i_bin (fun x y => x * y)) := by
  intro p e R s m args below meth c hC r lv st μ k hf hk H locs ls hP hS hl
  unfold i_bin at hf
  split at hf
  · exact lv_imul hC.1 hC.2.1 hd (hk _ _ _ _ hf H locs ls hP hS hl)
  · cases hf
theorem ok_iand (hd : decode M.1 pc = .ok (.iand, 1)) : gOk w l M pc (i_bin (fun x y => x &&& y)) := by
  intro p e R s m args below meth c hC r lv st μ k hf hk H locs ls hP hS hl
  unfold i_bin at hf
  split at hf
  · exact lv_iand hC.1 hC.2.1 hd (hk _ _ _ _ hf H locs ls hP hS hl)
  · cases hf
theorem ok_ior (hd : decode M.1 pc = .ok (.ior, 1)) : gOk w l M pc (i_bin (fun x y => x ||| y)) := by
  intro p e R s m args below meth c hC r lv st μ k hf hk H locs ls hP hS hl
  unfold i_bin at hf
  split at hf
  · exact lv_ior hC.1 hC.2.1 hd (hk _ _ _ _ hf H locs ls hP hS hl)
  · cases hf
theorem ok_ixor (hd : decode M.1 pc = .ok (.ixor, 1)) : gOk w l M pc (i_bin (fun x y => x ^^^ y)) := by
  intro p e R s m args below meth c hC r lv st μ k hf hk H locs ls hP hS hl
  unfold i_bin at hf
  split at hf
  · exact lv_ixor hC.1 hC.2.1 hd (hk _ _ _ _ hf H locs ls hP hS hl)
  · cases hf
theorem ok_ishl (hd : decode M.1 pc = .ok (.ishl, 1)) : gOk w l M pc (i_bin (fun x y => x <<< (y &&& 31))) := by
  intro p e R s m args below meth c hC r lv st μ k hf hk H locs ls hP hS hl
  unfold i_bin at hf
  split at hf
  · exact lv_ishl hC.1 hC.2.1 hd (hk _ _ _ _ hf H locs ls hP hS hl)
  · cases hf
theorem ok_ishr (hd : decode M.1 pc = .ok (.ishr, 1)) : gOk w l M pc (i_bin (fun x y => x >>> (y &&& 31))) := by
  intro p e R s m args below meth c hC r lv st μ k hf hk H locs ls hP hS hl
  unfold i_bin at hf
  split at hf
  · exact lv_ishr hC.1 hC.2.1 hd (hk _ _ _ _ hf H locs ls hP hS hl)
  · cases hf
theorem ok_iushr (hd : decode M.1 pc = .ok (.iushr, 1)) : gOk w l M pc (i_bin (fun x y => g_ushr x y)) := by
  intro p e R s m args below meth c hC r lv st μ k hf hk H locs ls hP hS hl
  unfold i_bin at hf
  split at hf
  · exact lv_iushr hC.1 hC.2.1 hd rfl (hk _ _ _ _ hf H locs ls hP hS hl)
  · cases hf
theorem ok_idiv (hd : decode M.1 pc = .ok (.idiv, 1)) : gOk w l M pc (i_dvr (fun x y => x / y)) := by
  intro p e R s m args below meth c hC r lv st μ k hf hk H locs ls hP hS hl
  unfold i_dvr at hf
  split at hf
  · split at hf
    · cases hf
    · rename_i hne
      exact lv_idiv hC.1 hC.2.1 hd hne (hk _ _ _ _ hf H locs ls hP hS hl)
  · cases hf
theorem ok_irem (hd : decode M.1 pc = .ok (.irem, 1)) : gOk w l M pc (i_dvr (fun x y => x - x / y * y)) := by
  intro p e R s m args below meth c hC r lv st μ k hf hk H locs ls hP hS hl
  unfold i_dvr at hf
  split at hf
  · split at hf
    · cases hf
    · rename_i hne
      exact lv_irem hC.1 hC.2.1 hd hne (hk _ _ _ _ hf H locs ls hP hS hl)
  · cases hf
theorem ok_ineg (hd : decode M.1 pc = .ok (.ineg, 1)) : gOk w l M pc i_neg := by
  intro p e R s m args below meth c hC r lv st μ k hf hk H locs ls hP hS hl
  unfold i_neg at hf
  split at hf
  · exact lv_ineg hC.1 hC.2.1 hd (hk _ _ _ _ hf H locs ls hP hS hl)
  · cases hf
theorem ok_ladd (hd : decode M.1 pc = .ok (.ladd, 1)) : gOk w l M pc (i_lbn (fun x y => x + y)) := by
  intro p e R s m args below meth c hC r lv st μ k hf hk H locs ls hP hS hl
  unfold i_lbn at hf
  split at hf
  · exact lv_ladd hC.1 hC.2.1 hd (hk _ _ _ _ hf H locs ls hP hS hl)
  · cases hf
theorem ok_lsub (hd : decode M.1 pc = .ok (.lsub, 1)) : gOk w l M pc (i_lbn (fun x y => x - y)) := by
  intro p e R s m args below meth c hC r lv st μ k hf hk H locs ls hP hS hl
  unfold i_lbn at hf
  split at hf
  · exact lv_lsub hC.1 hC.2.1 hd (hk _ _ _ _ hf H locs ls hP hS hl)
  · cases hf
theorem ok_lmul (hd : decode M.1 pc = .ok (.lmul, 1)) : gOk w l M pc (i_lbn (fun x y => x * y)) := by
  intro p e R s m args below meth c hC r lv st μ k hf hk H locs ls hP hS hl
  unfold i_lbn at hf
  split at hf
  · exact lv_lmul hC.1 hC.2.1 hd (hk _ _ _ _ hf H locs ls hP hS hl)
  · cases hf
theorem ok_land (hd : decode M.1 pc = .ok (.land, 1)) : gOk w l M pc (i_lbn (fun x y => x &&& y)) := by
  intro p e R s m args below meth c hC r lv st μ k hf hk H locs ls hP hS hl
  unfold i_lbn at hf
  split at hf
  · exact lv_land hC.1 hC.2.1 hd (hk _ _ _ _ hf H locs ls hP hS hl)
  · cases hf
theorem ok_lor (hd : decode M.1 pc = .ok (.lor, 1)) : gOk w l M pc (i_lbn (fun x y => x ||| y)) := by
  intro p e R s m args below meth c hC r lv st μ k hf hk H locs ls hP hS hl
  unfold i_lbn at hf
  split at hf
  · exact lv_lor hC.1 hC.2.1 hd (hk _ _ _ _ hf H locs ls hP hS hl)
  · cases hf
theorem ok_ldiv (hd : decode M.1 pc = .ok (.ldiv, 1)) : gOk w l M pc i_ldv := by
  intro p e R s m args below meth c hC r lv st μ k hf hk H locs ls hP hS hl
  unfold i_ldv at hf
  split at hf
  · split at hf
    · cases hf
    · rename_i hne
      exact lv_ldiv hC.1 hC.2.1 hd hne (hk _ _ _ _ hf H locs ls hP hS hl)
  · cases hf
theorem ok_lshl (hd : decode M.1 pc = .ok (.lshl, 1)) : gOk w l M pc (i_lsh (fun x y => x <<< (y.toInt64 &&& 63))) := by
  intro p e R s m args below meth c hC r lv st μ k hf hk H locs ls hP hS hl
  unfold i_lsh at hf
  split at hf
  · exact lv_lshl hC.1 hC.2.1 hd rfl (hk _ _ _ _ hf H locs ls hP hS hl)
  · cases hf
theorem ok_lushr (hd : decode M.1 pc = .ok (.lushr, 1)) : gOk w l M pc (i_lsh (fun x y => g_lushr x y)) := by
  intro p e R s m args below meth c hC r lv st μ k hf hk H locs ls hP hS hl
  unfold i_lsh at hf
  split at hf
  · exact lv_lushr hC.1 hC.2.1 hd rfl (hk _ _ _ _ hf H locs ls hP hS hl)
  · cases hf
theorem ok_i2l (hd : decode M.1 pc = .ok (.i2l, 1)) : gOk w l M pc i_i2l := by
  intro p e R s m args below meth c hC r lv st μ k hf hk H locs ls hP hS hl
  unfold i_i2l at hf
  split at hf
  · exact lv_i2l hC.1 hC.2.1 hd rfl (hk _ _ _ _ hf H locs ls hP hS hl)
  · cases hf
theorem ok_l2i (hd : decode M.1 pc = .ok (.l2i, 1)) : gOk w l M pc i_l2i := by
  intro p e R s m args below meth c hC r lv st μ k hf hk H locs ls hP hS hl
  unfold i_l2i at hf
  split at hf
  · exact lv_l2i hC.1 hC.2.1 hd rfl (hk _ _ _ _ hf H locs ls hP hS hl)
  · cases hf
theorem ok_lcmp (hd : decode M.1 pc = .ok (.lcmp, 1)) : gOk w l M pc i_lcm := by
  intro p e R s m args below meth c hC r lv st μ k hf hk H locs ls hP hS hl
  unfold i_lcm at hf
  split at hf
  · exact W.lcmp hC.1 hC.2.1 hd (hk _ _ _ _ hf H locs ls hP hS hl)
  · cases hf
theorem ok_dup (hd : decode M.1 pc = .ok (.dup, 1)) : gOk w l M pc i_dup := by
  intro p e R s m args below meth c hC r lv st μ k hf hk H locs ls hP hS hl
  unfold i_dup at hf
  split at hf
  · split at hf
    · rename_i hv
      exact lv_dup hC.1 hC.2.1 hd (by rw [gv_cat]; exact Nat.eq_of_beq_eq_true hv) (hk _ _ _ _ hf H locs ls hP hS hl)
    · cases hf
  · cases hf
theorem ok_dup2 (hd : decode M.1 pc = .ok (.dup2, 1)) : gOk w l M pc i_du2 := by
  intro p e R s m args below meth c hC r lv st μ k hf hk H locs ls hP hS hl
  unfold i_du2 at hf
  split at hf
  · split at hf
    · rename_i hv
      obtain ⟨hv, hu⟩ := (Bool.and_eq_true _ _).mp hv
      exact lv_dup2_11 hC.1 hC.2.1 hd (by rw [gv_cat]; exact Nat.eq_of_beq_eq_true hv) (by rw [gv_cat]; exact Nat.eq_of_beq_eq_true hu) (hk _ _ _ _ hf H locs ls hP hS hl)
    · cases hf
  · cases hf
theorem ok_pop (hd : decode M.1 pc = .ok (.pop, 1)) : gOk w l M pc i_pop := by
  intro p e R s m args below meth c hC r lv st μ k hf hk H locs ls hP hS hl
  unfold i_pop at hf
  split at hf
  · split at hf
    · rename_i hv
      exact lv_pop hC.1 hC.2.1 hd (by rw [gv_cat]; exact Nat.eq_of_beq_eq_true hv) (hk _ _ _ _ hf H locs ls hP hS hl)
    · cases hf
  · cases hf
theorem ok_goto {off : Int} {t : Nat} (hd : decode M.1 pc = .ok (.goto off, 3)) (ht : (pc : Int) + off = (t : Int)) : gOk w l M pc (i_gto t) := by
  intro p e R s m args below meth c hC r lv st μ k hf hk H locs ls hP hS hl
  exact lv_goto hC.1 hC.2.1 hd ht (hk _ _ _ _ hf H locs ls hP hS hl)
theorem ok_ifeq {off : Int} {t : Nat} (hd : decode M.1 pc = .ok (.ifCond .eq off, 3)) (ht : (pc : Int) + off = (t : Int)) : gOk w l M pc (i_feq t) := by
  intro p e R s m args below meth c hC r lv st μ k hf hk H locs ls hP hS hl
  unfold i_feq at hf
  split at hf
  · exact lv_if_eq hC.1 hC.2.1 hd ht (fun hc => hk _ _ _ _ (by rw [if_pos hc] at hf; exact hf) H locs ls hP hS hl) (fun hc => hk _ _ _ _ (by rw [if_neg hc] at hf; exact hf) H locs ls hP hS hl)
  · cases hf
theorem ok_icmpeq {off : Int} {t : Nat} (hd : decode M.1 pc = .ok (.if_icmp .eq off, 3)) (ht : (pc : Int) + off = (t : Int)) : gOk w l M pc (i_ceq t) := by
  intro p e R s m args below meth c hC r lv st μ k hf hk H locs ls hP hS hl
  unfold i_ceq at hf
  split at hf
  · exact lv_icmp_eq hC.1 hC.2.1 hd ht (fun hc => hk _ _ _ _ (by rw [if_pos hc] at hf; exact hf) H locs ls hP hS hl) (fun hc => hk _ _ _ _ (by rw [if_neg hc] at hf; exact hf) H locs ls hP hS hl)
  · cases hf
theorem ok_ifne {off : Int} {t : Nat} (hd : decode M.1 pc = .ok (.ifCond .ne off, 3)) (ht : (pc : Int) + off = (t : Int)) : gOk w l M pc (i_fne t) := by
  intro p e R s m args below meth c hC r lv st μ k hf hk H locs ls hP hS hl
  unfold i_fne at hf
  split at hf
  · exact lv_if_ne hC.1 hC.2.1 hd ht (fun hc => hk _ _ _ _ (by rw [if_neg hc] at hf; exact hf) H locs ls hP hS hl) (fun hc => hk _ _ _ _ (by rw [if_pos hc] at hf; exact hf) H locs ls hP hS hl)
  · cases hf
theorem ok_icmpne {off : Int} {t : Nat} (hd : decode M.1 pc = .ok (.if_icmp .ne off, 3)) (ht : (pc : Int) + off = (t : Int)) : gOk w l M pc (i_cne t) := by
  intro p e R s m args below meth c hC r lv st μ k hf hk H locs ls hP hS hl
  unfold i_cne at hf
  split at hf
  · exact lv_icmp_ne hC.1 hC.2.1 hd ht (fun hc => hk _ _ _ _ (by rw [if_neg hc] at hf; exact hf) H locs ls hP hS hl) (fun hc => hk _ _ _ _ (by rw [if_pos hc] at hf; exact hf) H locs ls hP hS hl)
  · cases hf
theorem ok_iflt {off : Int} {t : Nat} (hd : decode M.1 pc = .ok (.ifCond .lt off, 3)) (ht : (pc : Int) + off = (t : Int)) : gOk w l M pc (i_flt t) := by
  intro p e R s m args below meth c hC r lv st μ k hf hk H locs ls hP hS hl
  unfold i_flt at hf
  split at hf
  · exact lv_if_lt hC.1 hC.2.1 hd ht (fun hc => hk _ _ _ _ (by rw [if_pos hc] at hf; exact hf) H locs ls hP hS hl) (fun hc => hk _ _ _ _ (by rw [if_neg hc] at hf; exact hf) H locs ls hP hS hl)
  · cases hf
theorem ok_icmplt {off : Int} {t : Nat} (hd : decode M.1 pc = .ok (.if_icmp .lt off, 3)) (ht : (pc : Int) + off = (t : Int)) : gOk w l M pc (i_clt t) := by
  intro p e R s m args below meth c hC r lv st μ k hf hk H locs ls hP hS hl
  unfold i_clt at hf
  split at hf
  · exact lv_icmp_lt hC.1 hC.2.1 hd ht (fun hc => hk _ _ _ _ (by rw [if_pos hc] at hf; exact hf) H locs ls hP hS hl) (fun hc => hk _ _ _ _ (by rw [if_neg hc] at hf; exact hf) H locs ls hP hS hl)
  · cases hf
theorem ok_ifge {off : Int} {t : Nat} (hd : decode M.1 pc = .ok (.ifCond .ge off, 3)) (ht : (pc : Int) + off = (t : Int)) : gOk w l M pc (i_fge t) := by
  intro p e R s m args below meth c hC r lv st μ k hf hk H locs ls hP hS hl
  unfold i_fge at hf
  split at hf
  · exact lv_if_ge hC.1 hC.2.1 hd ht (fun hc => hk _ _ _ _ (by rw [if_pos hc] at hf; exact hf) H locs ls hP hS hl) (fun hc => hk _ _ _ _ (by rw [if_neg hc] at hf; exact hf) H locs ls hP hS hl)
  · cases hf
theorem ok_icmpge {off : Int} {t : Nat} (hd : decode M.1 pc = .ok (.if_icmp .ge off, 3)) (ht : (pc : Int) + off = (t : Int)) : gOk w l M pc (i_cge t) := by
  intro p e R s m args below meth c hC r lv st μ k hf hk H locs ls hP hS hl
  unfold i_cge at hf
  split at hf
  · exact lv_icmp_ge hC.1 hC.2.1 hd ht (fun hc => hk _ _ _ _ (by rw [if_pos hc] at hf; exact hf) H locs ls hP hS hl) (fun hc => hk _ _ _ _ (by rw [if_neg hc] at hf; exact hf) H locs ls hP hS hl)
  · cases hf
theorem ok_ifgt {off : Int} {t : Nat} (hd : decode M.1 pc = .ok (.ifCond .gt off, 3)) (ht : (pc : Int) + off = (t : Int)) : gOk w l M pc (i_fgt t) := by
  intro p e R s m args below meth c hC r lv st μ k hf hk H locs ls hP hS hl
  unfold i_fgt at hf
  split at hf
  · exact lv_if_gt hC.1 hC.2.1 hd ht (fun hc => hk _ _ _ _ (by rw [if_pos hc] at hf; exact hf) H locs ls hP hS hl) (fun hc => hk _ _ _ _ (by rw [if_neg hc] at hf; exact hf) H locs ls hP hS hl)
  · cases hf
theorem ok_icmpgt {off : Int} {t : Nat} (hd : decode M.1 pc = .ok (.if_icmp .gt off, 3)) (ht : (pc : Int) + off = (t : Int)) : gOk w l M pc (i_cgt t) := by
  intro p e R s m args below meth c hC r lv st μ k hf hk H locs ls hP hS hl
  unfold i_cgt at hf
  split at hf
  · exact lv_icmp_gt hC.1 hC.2.1 hd ht (fun hc => hk _ _ _ _ (by rw [if_pos hc] at hf; exact hf) H locs ls hP hS hl) (fun hc => hk _ _ _ _ (by rw [if_neg hc] at hf; exact hf) H locs ls hP hS hl)
  · cases hf
theorem ok_ifle {off : Int} {t : Nat} (hd : decode M.1 pc = .ok (.ifCond .le off, 3)) (ht : (pc : Int) + off = (t : Int)) : gOk w l M pc (i_fle t) := by
  intro p e R s m args below meth c hC r lv st μ k hf hk H locs ls hP hS hl
  unfold i_fle at hf
  split at hf
  · exact lv_if_le hC.1 hC.2.1 hd ht (fun hc => hk _ _ _ _ (by rw [if_pos hc] at hf; exact hf) H locs ls hP hS hl) (fun hc => hk _ _ _ _ (by rw [if_neg hc] at hf; exact hf) H locs ls hP hS hl)
  · cases hf
theorem ok_icmple {off : Int} {t : Nat} (hd : decode M.1 pc = .ok (.if_icmp .le off, 3)) (ht : (pc : Int) + off = (t : Int)) : gOk w l M pc (i_cle t) := by
  intro p e R s m args below meth c hC r lv st μ k hf hk H locs ls hP hS hl
  unfold i_cle at hf
  split at hf
  · exact lv_icmp_le hC.1 hC.2.1 hd ht (fun hc => hk _ _ _ _ (by rw [if_pos hc] at hf; exact hf) H locs ls hP hS hl) (fun hc => hk _ _ _ _ (by rw [if_neg hc] at hf; exact hf) H locs ls hP hS hl)
  · cases hf
def g_swo (pc : Nat) (dflt lo : Int) : List Int → Nat → List (Int32 × Nat) → Nat → Bool
  | [], _, [], d => decide ((pc : Int) + dflt = (d : Int))
  | o :: os, j, (v, t) :: ps, d => decide (v.toInt = lo + (j : Int)) && (decide ((pc : Int) + o = (t : Int)) && g_swo pc dflt lo os (j + 1) ps d)
  | _, _, _, _ => false
theorem g_swo_spec {pc : Nat} {dflt lo : Int} {κ : Nat → Option gR} {x : Int32} {r : gR} {d : Nat} : ∀ (os : List Int) (j : Nat) (ps : List (Int32 × Nat)), g_swo pc dflt lo os j ps d = true → g_swk κ x ps d = some r →
    (κ d = some r ∧ (pc : Int) + dflt = (d : Int) ∧ (x.toInt < lo + j ∨ lo + j + os.length ≤ x.toInt)) ∨ ∃ (i t : Nat) (o : Int), κ t = some r ∧ os[i]? = some o ∧ (pc : Int) + o = (t : Int) ∧ x.toInt = lo + j + i
  | [], j, [], h, hk => Or.inl ⟨hk, of_decide_eq_true h, by simp; omega⟩
  | o :: os, j, (v, t) :: ps, h, hk => by
    simp only [g_swo, Bool.and_eq_true, decide_eq_true_eq] at h
    unfold g_swk at hk
    by_cases hx : x = v
    · rw [if_pos hx] at hk
      exact Or.inr ⟨0, t, o, hk, rfl, h.2.1, by rw [hx, h.1]; simp⟩
    · rw [if_neg hx] at hk
      have hne : ¬ x.toInt = lo + j := fun q => hx (Int32.toInt_inj.mp (by rw [q, h.1]))
      rcases g_swo_spec os (j + 1) ps h.2.2 hk with ⟨h1, h2, h3⟩ | ⟨i, t', o', h1, h2, h3, h4⟩
      · refine Or.inl ⟨h1, h2, ?_⟩
        simp only [List.length_cons]
        push_cast at h3 ⊢
        omega
      · refine Or.inr ⟨i + 1, t', o', h1, by simpa using h2, h3, ?_⟩
        push_cast at h4 ⊢
        omega
  | [], _, _ :: _, h, _ => by simp [g_swo] at h
  | _ :: _, _, [], h, _ => by simp [g_swo] at h
theorem ok_tsw {dflt lo hi : Int} {offs : Array Int} {len d : Nat} {ps : List (Int32 × Nat)} (hd : decode M.1 pc = .ok (.tableswitch dflt lo hi offs, len)) (ht : g_swo pc dflt lo offs.toList 0 ps d = true) (hn : hi = lo + offs.size - 1) : gOk w l M pc (i_swt ps d) := by
  intro p e R s m args below meth c hC r lv st μ k hf hk H locs ls hP hS hl
  unfold i_swt at hf
  split at hf
  · rename_i x rr
    rcases g_swo_spec _ _ _ ht hf with ⟨h1, h2, h3⟩ | ⟨i, t, o, h1, h2, h3, h4⟩
    · refine lv_tableOut hC.1 hC.2.1 hd ?_ h2 (hk _ _ _ _ h1 H locs ls hP hS hl)
      rw [Array.length_toList] at h3
      simp at h3
      omega
    · have hi1 : i < offs.size := by
        have := (List.getElem?_eq_some_iff.mp h2).1
        rwa [Array.length_toList] at this
      simp at h4
      refine lv_tableIn hC.1 hC.2.1 hd (by omega) (by omega) ?_ h3 (hk _ _ _ _ h1 H locs ls hP hS hl)
      rw [show (x.toInt - lo).toNat = i by omega, ← Array.getElem?_toList]
      exact h2
  · cases hf
end OK2
end
section
/-! soundness, third: fields, rows, calls, ends; a method's contract -/
theorem gFs_get {w : gWo} {μ : gMem} {c k f : Nat} (h : f < g_nf k) : (gFs w μ c k)[f]? = some (match w.2.2.1.2 c f with | some t => .ref (w.2.2.2 t) | none => .int (μ.1 c f)) := by
  simp [gFs, h]
  rfl
theorem gFs_set {w : gWo} {μ : gMem} {c k f : Nat} {x : Int32} (hn : w.2.2.1.2 c f = none) : (gFs w μ c k).set f (.int x) = gFs w (gwI μ c f x) c k := by
  apply List.ext_getElem?
  intro i
  rw [List.getElem?_set]
  by_cases hi : i < g_nf k
  · rw [gFs_get hi, gFs_get hi]
    by_cases e : f = i
    · subst e
      rw [if_pos rfl, if_pos (by simp [gFs]; exact hi), hn]
      simp [gwI]
    · rw [if_neg e]
      cases w.2.2.1.2 c i with
      | some t => rfl
      | none =>
        simp [gwI]
        exact fun q => absurd q.symm e
  · have h1 : ∀ μ, (gFs w μ c k)[i]? = none := fun μ => List.getElem?_eq_none (by simp [gFs]; omega)
    rw [h1, h1]
    split
    · rename_i e
      rw [if_neg]
      simp [gFs]; omega
    · rfl
theorem gwI_upd {μ : gMem} {c i : Nat} {x : Int32} : (gwI μ c i x).1 c = upd (μ.1 c) i x := by
  funext j; by_cases h : j = i <;> simp [gwI, upd, h]
theorem gwL_upd {μ : gMem} {c i : Nat} {x : Int64} : (gwL μ c i x).2 c = vp_updL (μ.2 c) i x := by
  funext j; by_cases h : j = i <;> simp [gwL, vp_updL, h]
theorem g_01_n {x : Int32} (h : g_01 x = true) : narrow .boolean (.int x) = .int x ∧ fits .boolean (.int x) = true ∧ vp_nar .boolean x = x := by
  simp only [g_01, Bool.or_eq_true, decide_eq_true_eq] at h
  rcases h with rfl | rfl
  · exact ⟨rfl, rfl, rfl⟩
  · exact ⟨rfl, rfl, rfl⟩
section OK3
variable {w : gWo} {l : Launch} {M : gMi} {pc : Nat}
theorem ok_getfield {ci f N index : Nat} {C : String} {T : u_T} (hd : decode M.1 pc = .ok (.getfield index, 3)) (hc : gcl[ci]? = some (C, T, N)) (hin : ∀ x ∈ u_ws C T N, x ∈ gtb) (hlt : f < N) (hw : Cond.fieldLink M.2.2.1 index (T f).1 (T f).2.1 (T f).2.2.1 ∈ gtb) : gOk w l M pc (i_gfd w.2.2.1 ci f) := by
  intro p e R s m args below meth c hC r lv st μ k hf hk H locs ls hP hS hl
  obtain ⟨hx, hb, hml, hown, hts, hr, hlk, hR, hK, hI, hZ⟩ := hC
  have hnf : f < g_nf ci := by unfold g_nf; rw [hc]; exact hlt
  unfold i_gfd at hf
  split at hf
  · split at hf
    · rename_i c0 rr _ ho
      obtain ⟨h1, h2⟩ := g_isO_spec ho
      have he := gW_get (w := w) (μ := μ) h1
      rw [gE_obj h2] at he
      have hg := gFs_get (w := w) (μ := μ) (c := c0) hnf
      split at hf
      · rename_i t ht
        rw [ht] at hg
        exact va_get hx hb hts hin hown hK hP c0 he hc f hlt (hts _ hw) (fun _ h => h) hg hd (hk _ _ _ _ hf H locs ls hP hS hl)
      · rename_i ht
        rw [ht] at hg
        exact va_get hx hb hts hin hown hK hP c0 he hc f hlt (hts _ hw) (fun _ h => h) hg hd (hk _ _ _ _ hf H locs ls hP hS hl)
    · cases hf
  · cases hf
theorem ok_putfield {ci f N index : Nat} {C : String} {T : u_T} {ty0 : Nat → FieldType} (hd : decode M.1 pc = .ok (.putfield index, 3)) (hc : gcl[ci]? = some (C, T, N)) (hin : ∀ x ∈ u_ws C T N, x ∈ gtb) (hty : ∀ k, k < N → parseFieldDescriptor (T k).2.2.1 = some (ty0 k)) (hnm : ∀ a, a < N → ∀ b, b < N → a ≠ b → (T a).2.1 ≠ (T b).2.1) (hlt : f < N) (hw : Cond.fieldLink M.2.2.1 index (T f).1 (T f).2.1 (T f).2.2.1 ∈ gtb) (hfin : (T f).2.2.2 = false) (hdd : parseFieldDescriptor (T f).2.2.1 = some .int) : gOk w l M pc (i_pfd w.2.2.1 ci f) := by
  intro p e R s m args below meth c hC r lv st μ k hf hk H locs ls hP hS hl
  obtain ⟨hx, hb, hml, hown, hts, hr, hlk, hR, hK, hI, hZ⟩ := hC
  have hnf : f < g_nf ci := by unfold g_nf; rw [hc]; exact hlt
  unfold i_pfd at hf
  split at hf
  · split at hf
    · rename_i x c0 rr _ ho
      obtain ⟨ho, hno⟩ := (Bool.and_eq_true _ _).mp ho
      have hno := Option.isNone_iff_eq_none.mp hno
      obtain ⟨h1, h2⟩ := g_isO_spec ho
      have he := gW_get (w := w) (μ := μ) h1
      rw [gE_obj h2] at he
      refine va_put hx hb hts hin ty0 hty hnm hown hK hP (gW_D hI) hS c0 he hc f hlt (hts _ hw) (fun _ h => h) hfin hdd rfl rfl (by simp [gFs]; exact hnf) hd (fun H1 locs1 hP1 _ hS1 => ?_)
      have e1 : (gW w μ).set c0 (w.2.2.2 c0, .inr (ci, (gFs w μ c0 ci).set f (.int x))) = gW w (gwI μ c0 f x) := gW_set h1 (by rw [gE_obj h2, gFs_set hno]) (fun c' hne => gE_wI c' hne)
      have hP2 : va_P w.1 gcl (gW w (gwI μ c0 f x)) H1 := e1 ▸ hP1
      exact hk _ _ _ _ hf H1 locs1 ls hP2 hS1 hl
    · cases hf
  · cases hf
theorem ok_putfieldZ {ci f N index : Nat} {C : String} {T : u_T} {ty0 : Nat → FieldType} (hd : decode M.1 pc = .ok (.putfield index, 3)) (hc : gcl[ci]? = some (C, T, N)) (hin : ∀ x ∈ u_ws C T N, x ∈ gtb) (hty : ∀ k, k < N → parseFieldDescriptor (T k).2.2.1 = some (ty0 k)) (hnm : ∀ a, a < N → ∀ b, b < N → a ≠ b → (T a).2.1 ≠ (T b).2.1) (hlt : f < N) (hw : Cond.fieldLink M.2.2.1 index (T f).1 (T f).2.1 (T f).2.2.1 ∈ gtb) (hfin : (T f).2.2.2 = false) (hdd : parseFieldDescriptor (T f).2.2.1 = some .boolean) : gOk w l M pc (i_pfz w.2.2.1 ci f) := by
  intro p e R s m args below meth c hC r lv st μ k hf hk H locs ls hP hS hl
  obtain ⟨hx, hb, hml, hown, hts, hr, hlk, hR, hK, hI, hZ⟩ := hC
  have hnf : f < g_nf ci := by unfold g_nf; rw [hc]; exact hlt
  unfold i_pfz at hf
  split at hf
  · split at hf
    · rename_i x c0 rr _ ho
      split at hf
      · rename_i h01
        obtain ⟨ho, hno⟩ := (Bool.and_eq_true _ _).mp ho
        have hno := Option.isNone_iff_eq_none.mp hno
        obtain ⟨h1, h2⟩ := g_isO_spec ho
        have he := gW_get (w := w) (μ := μ) h1
        rw [gE_obj h2] at he
        refine va_put hx hb hts hin ty0 hty hnm hown hK hP (gW_D hI) hS c0 he hc f hlt (hts _ hw) (fun _ h => h) hfin hdd (g_01_n h01).1 (g_01_n h01).2.1 (by simp [gFs]; exact hnf) hd (fun H1 locs1 hP1 _ hS1 => ?_)
        have e1 : (gW w μ).set c0 (w.2.2.2 c0, .inr (ci, (gFs w μ c0 ci).set f (.int x))) = gW w (gwI μ c0 f x) := gW_set h1 (by rw [gE_obj h2, gFs_set hno]) (fun c' hne => gE_wI c' hne)
        have hP2 : va_P w.1 gcl (gW w (gwI μ c0 f x)) H1 := e1 ▸ hP1
        exact hk _ _ _ _ hf H1 locs1 ls hP2 hS1 hl
      · cases hf
    · cases hf
  · cases hf
/-- the three static rows -/
def gSr (id : Nat) (C n : String) (tb : List Int32) : Prop := ∀ (w : gWo) (U : State) (H : Heap), gSt w U H → gS1 C n (w.2.2.2 id) tb (gA w) U H
theorem gSr0 : gSr 1000 "GangMatrix$Blocks" "ALIGNED" g_t0 := fun _ _ _ h => h.1
theorem gSr1 : gSr 1001 "GangMatrix$Board" "LEAST_TOLD" g_t1 := fun _ _ _ h => h.2.1
theorem gSr2 : gSr 1002 "GangMatrix$Board" "MOST_TOLD" g_t2 := fun _ _ _ h => h.2.2
theorem ok_getstatic {id index : Nat} {C n : String} {tb : List Int32} (hd : decode M.1 pc = .ok (.getstatic index, 3)) (hs : gSr id C n tb) (hw : Cond.fieldLink M.2.2.1 index C n "[I" ∈ gtb) : gOk w l M pc (i_gst id) := by
  intro p e R s m args below meth c hC r lv st μ k hf hk H locs ls hP hS hl
  obtain ⟨hx, hb, hml, hown, hts, hr, hlk, hR, hK, hI, hZ⟩ := hC
  exact va_gets hx hb (hs w s s.heap hZ).1 hS hown (hts _ hw) (fun _ h => h) hd (hk _ _ _ _ hf H locs ls hP hS hl)
theorem ok_tload {id : Nat} {C n : String} {tb : List Int32} (hd : decode M.1 pc = .ok (.iaload, 1)) (hs : gSr id C n tb) : gOk w l M pc (i_tld id tb) := by
  intro p e R s m args below meth c hC r lv st μ k hf hk H locs ls hP hS hl
  obtain ⟨hx, hb, hml, hown, hts, hr, hlk, hR, hK, hI, hZ⟩ := hC
  unfold i_tld at hf
  split at hf
  · split at hf
    · split at hf
      · rename_i i c0 rr _ hc0 hi
        have hc0 := Nat.eq_of_beq_eq_true hc0
        subst hc0
        exact va_ti hx hb (hs w s s.heap hZ).2 hS (g_in_vp.mp hi) rfl hd (hk _ _ _ _ hf H locs ls hP hS hl)
      · cases hf
    · cases hf
  · cases hf
theorem ok_tlen {id : Nat} {C n : String} {tb : List Int32} {v : Int32} (hd : decode M.1 pc = .ok (.arraylength, 1)) (hs : gSr id C n tb) (hv : Int32.ofNat tb.length = v) : gOk w l M pc (i_tln id v) := by
  intro p e R s m args below meth c hC r lv st μ k hf hk H locs ls hP hS hl
  obtain ⟨hx, hb, hml, hown, hts, hr, hlk, hR, hK, hI, hZ⟩ := hC
  unfold i_tln at hf
  split at hf
  · split at hf
    · rename_i c0 rr _ hc0
      have hc0 := Nat.eq_of_beq_eq_true hc0
      subst hc0
      exact va_tlen hx hb (hs w s s.heap hZ).2 hS hv hd (hk _ _ _ _ hf H locs ls hP hS hl)
    · cases hf
  · cases hf
theorem ok_alen (hd : decode M.1 pc = .ok (.arraylength, 1)) : gOk w l M pc (i_aln w.2.2.1) := by
  intro p e R s m args below meth c hC r lv st μ k hf hk H locs ls hP hS hl
  obtain ⟨hx, hb, hml, hown, hts, hr, hlk, hR, hK, hI, hZ⟩ := hC
  unfold i_aln at hf
  split at hf
  · split at hf
    · rename_i c0 rr _ ho
      obtain ⟨h1, h2⟩ := (Bool.and_eq_true _ _).mp ho
      have h1 := Nat.blt_eq.mp h1
      have h2 := Nat.eq_of_beq_eq_true h2
      have he := gW_get (w := w) (μ := μ) h1
      rw [gE_int (n := (w.2.2.1.1.2 c0).2) (by rw [← h2])] at he
      exact va_alen hx hb hK hP c0 0 he (ty := .int) rfl rfl hd (hk _ _ _ _ hf H locs ls hP hS hl)
    · cases hf
  · cases hf
theorem ok_iaload (hd : decode M.1 pc = .ok (.iaload, 1)) : gOk w l M pc (i_iad w.2.2.1) := by
  intro p e R s m args below meth c hC r lv st μ k hf hk H locs ls hP hS hl
  obtain ⟨hx, hb, hml, hown, hts, hr, hlk, hR, hK, hI, hZ⟩ := hC
  unfold i_iad at hf
  split at hf
  · split at hf
    · rename_i i c0 rr hi
      obtain ⟨h1, h2, h3⟩ := gLen_spec (n := 0) hi
      have he := gW_get (w := w) (μ := μ) h1
      rw [gE_int h2] at he
      exact va_iald hx hb hK hP c0 0 he rfl h3 hd (hk _ _ _ _ hf H locs ls hP hS hl)
    · cases hf
  · cases hf
theorem ok_baload (hd : decode M.1 pc = .ok (.baload, 1)) : gOk w l M pc (i_zad w.2.2.1) := by
  intro p e R s m args below meth c hC r lv st μ k hf hk H locs ls hP hS hl
  obtain ⟨hx, hb, hml, hown, hts, hr, hlk, hR, hK, hI, hZ⟩ := hC
  unfold i_zad at hf
  split at hf
  · split at hf
    · rename_i i c0 rr hi
      obtain ⟨h1, h2, h3⟩ := gLen_spec (n := 0) hi
      have he := gW_get (w := w) (μ := μ) h1
      rw [gE_bol h2] at he
      exact va_zald hx hb hK hP c0 2 he rfl h3 hd (hk _ _ _ _ hf H locs ls hP hS hl)
    · cases hf
  · cases hf
theorem ok_laload (hd : decode M.1 pc = .ok (.laload, 1)) : gOk w l M pc (i_lad w.2.2.1) := by
  intro p e R s m args below meth c hC r lv st μ k hf hk H locs ls hP hS hl
  obtain ⟨hx, hb, hml, hown, hts, hr, hlk, hR, hK, hI, hZ⟩ := hC
  unfold i_lad at hf
  split at hf
  · split at hf
    · rename_i i c0 rr hi
      obtain ⟨h1, h2, h3⟩ := gLen_spec (n := 0) hi
      have he := gW_get (w := w) (μ := μ) h1
      rw [gE_lng h2] at he
      exact va_lald hx hb hK hP c0 1 he rfl h3 hd (hk _ _ _ _ hf H locs ls hP hS hl)
    · cases hf
  · cases hf
theorem ok_aaload (hd : decode M.1 pc = .ok (.aaload, 1)) : gOk w l M pc (i_aad w.2.2.1) := by
  intro p e R s m args below meth c hC r lv st μ k hf hk H locs ls hP hS hl
  obtain ⟨hx, hb, hml, hown, hts, hr, hlk, hR, hK, hI, hZ⟩ := hC
  unfold i_aad at hf
  split at hf
  · split at hf
    · rename_i i c0 rr hi
      obtain ⟨h1, h2, h3⟩ := gLen_spec (n := 0) hi
      have he := gW_get (w := w) (μ := μ) h1
      rw [gE_row h2] at he
      have hlt : i.toNatClampNeg < gLen w.2.2.1 3 c0 := Nat.not_le.mp fun q => h3 (Or.inr q)
      refine W.aald (v := .ref (w.2.2.2 (c0 + 1 + i.toNatClampNeg))) (ty := .array .int) hx hb (hP c0 _ he) ((hK.2 3 _ rfl).1 (gLen w.2.2.1 3 c0) (fun j => va_rf (if j < gLen w.2.2.1 3 c0 then some (w.2.2.2 (c0 + 1 + j)) else none))) rfl (fun q => by cases q) (by show ¬ (i < 0 ∨ (arrV _ _ _).slots.size ≤ _); rw [arrV_size]; exact h3) (by show (arrV _ _ _).slots[_]? = _; rw [arrV_read _ _ hlt]; show some (va_rf (if i.toNatClampNeg < gLen w.2.2.1 3 c0 then _ else _)) = _; rw [if_pos hlt]; rfl) rfl rfl hd (hk _ _ _ _ hf H locs ls hP hS hl)
    · cases hf
  · cases hf
theorem ok_iastore (hd : decode M.1 pc = .ok (.iastore, 1)) : gOk w l M pc (i_ias w.2.2.1) := by
  intro p e R s m args below meth c hC r lv st μ k hf hk H locs ls hP hS hl
  obtain ⟨hx, hb, hml, hown, hts, hr, hlk, hR, hK, hI, hZ⟩ := hC
  unfold i_ias at hf
  split at hf
  · split at hf
    · rename_i x i c0 rr hi
      obtain ⟨h1, h2, h3⟩ := gLen_spec (n := 0) hi
      have he := gW_get (w := w) (μ := μ) h1
      rw [gE_int h2] at he
      refine va_iast hx hb hK hP (gW_D hI) hS c0 0 he rfl h3 hd (fun H1 locs1 hP1 _ hS1 => ?_)
      rw [gW_set (μ' := gwI μ c0 i.toNatClampNeg x) h1 (by rw [gE_int h2, gwI_upd]) (fun c' hne => gE_wI c' hne)] at hP1
      exact hk _ _ _ _ hf H1 locs1 ls hP1 hS1 hl
    · cases hf
  · cases hf
theorem ok_bastore (hd : decode M.1 pc = .ok (.bastore, 1)) : gOk w l M pc (i_zas w.2.2.1) := by
  intro p e R s m args below meth c hC r lv st μ k hf hk H locs ls hP hS hl
  obtain ⟨hx, hb, hml, hown, hts, hr, hlk, hR, hK, hI, hZ⟩ := hC
  unfold i_zas at hf
  split at hf
  · split at hf
    · rename_i x i c0 rr hi
      obtain ⟨hi, h01⟩ := (Bool.and_eq_true _ _).mp hi
      obtain ⟨h1, h2, h3⟩ := gLen_spec (n := 0) hi
      have he := gW_get (w := w) (μ := μ) h1
      rw [gE_bol h2] at he
      refine va_zast hx hb hK hP (gW_D hI) hS c0 2 he rfl h3 hd (fun H1 locs1 hP1 _ hS1 => ?_)
      rw [(g_01_n h01).2.2, gW_set (μ' := gwI μ c0 i.toNatClampNeg x) h1 (by rw [gE_bol h2, gwI_upd]) (fun c' hne => gE_wI c' hne)] at hP1
      exact hk _ _ _ _ hf H1 locs1 ls hP1 hS1 hl
    · cases hf
  · cases hf
theorem ok_lastore (hd : decode M.1 pc = .ok (.lastore, 1)) : gOk w l M pc (i_las w.2.2.1) := by
  intro p e R s m args below meth c hC r lv st μ k hf hk H locs ls hP hS hl
  obtain ⟨hx, hb, hml, hown, hts, hr, hlk, hR, hK, hI, hZ⟩ := hC
  unfold i_las at hf
  split at hf
  · split at hf
    · rename_i x i c0 rr hi
      obtain ⟨h1, h2, h3⟩ := gLen_spec (n := 0) hi
      have he := gW_get (w := w) (μ := μ) h1
      rw [gE_lng h2] at he
      refine va_last hx hb hK hP (gW_D hI) hS c0 1 he rfl h3 hd (fun H1 locs1 hP1 _ hS1 => ?_)
      rw [gW_set (μ' := gwL μ c0 i.toNatClampNeg x) h1 (by rw [gE_lng h2, gwL_upd]) (fun c' hne => gE_wL c' hne)] at hP1
      exact hk _ _ _ _ hf H1 locs1 ls hP1 hS1 hl
    · cases hf
  · cases hf
theorem gcI_cpy {μ : gMem} {a d n : Nat} : (gcI μ a d n).1 d = va_cpy (μ.1 a) (μ.1 d) 0 0 n := by
  funext j; simp [gcI, va_cpy]
theorem gcL_cpy {μ : gMem} {a d n : Nat} : (gcL μ a d n).2 d = va_cpy (μ.2 a) (μ.2 d) 0 0 n := by
  funext j; simp [gcL, va_cpy]
theorem g_cok_spec {st : List Value} {ad : Nat → Nat} (h : g_cok st = true) : ((st.map (gv ad)).map fun v => v.category).sum ≤ 8 := by
  have e : ((st.map (gv ad)).map fun v => v.category) = st.map fun v => v.category := by
    rw [List.map_map]; exact List.map_congr_left (fun v _ => gv_cat ad v)
  rw [e]; exact Nat.le_of_ble_eq_true h
theorem ok_copyI {index : Nat} (hd : decode M.1 pc = .ok (.invokestatic index, 3)) (hw : Cond.methodLink M.2.2.1 index arraycopyName ∈ gtb) (hw2 : Cond.native arraycopyName ∈ gtb) (hw3 : Cond.static arraycopyName ∈ gtb) (hw4 : Cond.initialized "java/lang/System" ∈ gtb) (hh : 1 ≤ M.2.2.2.2) : gOk w l M pc (i_aci w.2.2.1) := by
  intro p e R s m args below meth c hC r lv st μ k hf hk H locs ls hP hS hl
  obtain ⟨hx, hb, hml, hown, hts, hr, hlk, hR, hK, hI, hZ⟩ := hC
  unfold i_aci at hf
  split at hf
  · split at hf
    · split at hf
      · rename_i n dp d sp a rr _ hco hq
        obtain ⟨rfl, rfl, hn, ha, hd2, ha0, hd0⟩ := hq
        obtain ⟨a1, a2⟩ := gLen_pos ha0
        obtain ⟨d1, d2⟩ := gLen_pos hd0
        have ea := gW_get (w := w) (μ := μ) a1
        have ed := gW_get (w := w) (μ := μ) d1
        rw [gE_int a2] at ea
        rw [gE_int d2] at ed
        refine va_copyi hx hb (by rw [hml, hl.2.1]) hown (hts _ hw) (hts _ hw2) (hts _ hw3) (hts _ hw4) hK hP (gW_D hI) hS a d 0 0 ea ed rfl rfl rfl (by decide) (by decide) hn (by simpa using ha) (by simpa using hd2) (fun _ _ => rfl) (by rw [hR]; exact hh) ?_ hd (fun H1 locs1 hP1 _ hS1 => ?_)
        · have h8 := g_cok_spec (ad := w.2.2.2) hco
          rw [hR]
          show _ + (7 + 11) ≤ 40 * M.2.2.2.2
          omega
        · rw [gW_set (μ' := gcI μ a d n.toNatClampNeg) d1 (by rw [gE_int d2, gcI_cpy]; rfl) (fun c' hne => gE_cI c' hne)] at hP1
          exact hk _ _ _ _ hf H1 locs1 ls hP1 hS1 hl
      · cases hf
    · cases hf
  · cases hf
theorem ok_copyL {index : Nat} (hd : decode M.1 pc = .ok (.invokestatic index, 3)) (hw : Cond.methodLink M.2.2.1 index arraycopyName ∈ gtb) (hw2 : Cond.native arraycopyName ∈ gtb) (hw3 : Cond.static arraycopyName ∈ gtb) (hw4 : Cond.initialized "java/lang/System" ∈ gtb) (hh : 1 ≤ M.2.2.2.2) : gOk w l M pc (i_acl w.2.2.1) := by
  intro p e R s m args below meth c hC r lv st μ k hf hk H locs ls hP hS hl
  obtain ⟨hx, hb, hml, hown, hts, hr, hlk, hR, hK, hI, hZ⟩ := hC
  unfold i_acl at hf
  split at hf
  · split at hf
    · split at hf
      · rename_i n dp d sp a rr _ hco hq
        obtain ⟨rfl, rfl, hn, ha, hd2, ha0, hd0⟩ := hq
        obtain ⟨a1, a2⟩ := gLen_pos ha0
        obtain ⟨d1, d2⟩ := gLen_pos hd0
        have ea := gW_get (w := w) (μ := μ) a1
        have ed := gW_get (w := w) (μ := μ) d1
        rw [gE_lng a2] at ea
        rw [gE_lng d2] at ed
        refine va_copyl hx hb (by rw [hml, hl.2.1]) hown (hts _ hw) (hts _ hw2) (hts _ hw3) (hts _ hw4) hK hP (gW_D hI) hS a d 1 1 ea ed rfl rfl rfl (by decide) (by decide) hn (by simpa using ha) (by simpa using hd2) (fun _ _ => rfl) (by rw [hR]; exact hh) ?_ hd (fun H1 locs1 hP1 _ hS1 => ?_)
        · have h8 := g_cok_spec (ad := w.2.2.2) hco
          rw [hR]
          show _ + (7 + 11) ≤ 40 * M.2.2.2.2
          omega
        · rw [gW_set (μ' := gcL μ a d n.toNatClampNeg) d1 (by rw [gE_lng d2, gcL_cpy]; rfl) (fun c' hne => gE_cL c' hne)] at hP1
          exact hk _ _ _ _ hf H1 locs1 ls hP1 hS1 hl
      · cases hf
    · cases hf
  · cases hf
theorem ok_ireturn (hd : decode M.1 pc = .ok (.ireturn, 1)) (hret : M.2.2.2.1 = some .int) : gOk w l M pc i_irt := by
  intro p e R s m args below meth c hC r lv st μ k hf hk H locs ls hP hS hl
  obtain ⟨hx, hb, hml, hown, hts, hr, hlk, hR, hK, hI, hZ⟩ := hC
  unfold i_irt at hf
  split at hf
  · cases hf
    exact W.iret hx hb (by rw [hr, hret]) (fun t ht _ => ⟨rfl, by rw [ht]; exact hP, hS.F ht⟩) hS.2.2 hd hlk
  · cases hf
theorem ok_zreturn (hd : decode M.1 pc = .ok (.ireturn, 1)) (hret : M.2.2.2.1 = some .boolean) : gOk w l M pc i_zrt := by
  intro p e R s m args below meth c hC r lv st μ k hf hk H locs ls hP hS hl
  obtain ⟨hx, hb, hml, hown, hts, hr, hlk, hR, hK, hI, hZ⟩ := hC
  unfold i_zrt at hf
  split at hf
  · split at hf
    · rename_i h01
      cases hf
      exact W.zret hx hb (by rw [hr, hret]) (g_01_n h01).1 (fun t ht _ => ⟨rfl, by rw [ht]; exact hP, hS.F ht⟩) hS.2.2 hd hlk
    · cases hf
  · cases hf
theorem ok_lreturn (hd : decode M.1 pc = .ok (.lreturn, 1)) (hret : M.2.2.2.1 = some .long) : gOk w l M pc i_lrt := by
  intro p e R s m args below meth c hC r lv st μ k hf hk H locs ls hP hS hl
  obtain ⟨hx, hb, hml, hown, hts, hr, hlk, hR, hK, hI, hZ⟩ := hC
  unfold i_lrt at hf
  split at hf
  · cases hf
    exact W.lret hx hb (by rw [hr, hret]) (fun t ht _ => ⟨rfl, by rw [ht]; exact hP, hS.F ht⟩) hS.2.2 hd hlk
  · cases hf
theorem ok_vreturn (hd : decode M.1 pc = .ok (.return_, 1)) (hret : M.2.2.2.1 = none) : gOk w l M pc i_vrt := by
  intro p e R s m args below meth c hC r lv st μ k hf hk H locs ls hP hS hl
  obtain ⟨hx, hb, hml, hown, hts, hr, hlk, hR, hK, hI, hZ⟩ := hC
  unfold i_vrt at hf
  split at hf
  · cases hf
    exact W.vret hx hb (by rw [hr, hret]) (fun t ht _ => ⟨rfl, by rw [ht]; exact hP, hS.F ht⟩) hS.2.2 hd hlk
  · cases hf
end OK3
end
section
/-! calls; from a run of the abstract machine to a method's contract -/
theorem gS_Z {w : gWo} {s : State} {H : Heap} {locs : List Loc} (hS : va_S (gA w) s.heap H locs) (hZ : gSt w s s.heap) : gSt w s H := hZ.kept (fun a h1 h2 => hS.2.1 a h1 h2)
theorem g_call {w : gWo} {l : Launch} {M : gMi} {p : Program} {e : Env} {R : Room} {s : State} {m : MethodId} {args : Array Value} {below : List Frame} {meth : Method} {c : Code} {r r' : gR} {a : Array Value} {pc : Nat} {lv : gL} {rest st0 : List Value} {H : Heap} {locs : List Loc} {ls : Array Slot}
    (hS : va_S (gA w) s.heap H locs) (hl : gAg w.2.2.2 M.2.1 lv ls) 
    (hr : va_Run p l e R s m args below meth c H locs 0 0 0 0 (F0 m pc ls st0) (rest.map (gv w.2.2.2)) (gQ w r' a) (gA w))
    (hk : gG w M p l e R s m args below meth c r (pc + 3) lv (r'.1.toList ++ rest) r'.2) :
    W p l e R s m args below meth c H locs 0 0 (MQ below (gQ w r) args s 0 0 (gA w)) (F0 m pc ls st0) := by
  intro T hT X
  obtain ⟨v, st₀, t, T', L, h0, X', hL, e1, e2, ⟨hv, hP1, hz, hkeep⟩, st⟩ := hr T hT X
  have hv : v = r'.1.map (gv w.2.2.2) := by cases hv; rfl
  subst hv
  rw [h0] at hz hkeep
  obtain ⟨t2, a1, b1⟩ := hk T'.heap (locs ++ L) ls (by rw [e1]; exact hP1)
    ⟨Nat.le_trans hS.1 (by rw [e1]; exact hz), fun q h1 h2 => by rw [e1, hkeep q (Nat.lt_of_lt_of_le h1 hS.1) h2]; exact hS.2.1 q h1 h2, fun q hq => by
      rcases List.mem_append.mp hq with h | h
      · exact hS.2.2 q h
      · exact hL q h⟩ hl T' rfl X'
  refine ⟨t2, st t2 ?_, b1⟩
  have e3 : (r'.1.toList ++ rest).map (gv w.2.2.2) = (r'.1.map (gv w.2.2.2)).toList ++ rest.map (gv w.2.2.2) := by
    rw [List.map_append]
    cases r'.1 <;> rfl
  rw [e3] at a1
  exact a1
theorem g_goodIn {y : MethodName} {bytes : ByteArray} {nL : Nat} {ret : Option FieldType} (h : Cond.code y bytes nL ret ∈ gtb) : GoodIn gtb (Cond.code y bytes nL ret :: gtb) := by
  intro x hx
  have hx : x ∈ gtb := by
    rcases List.mem_cons.mp hx with rfl | hx
    · exact h
    · exact hx
  exact ⟨hx, gtb_good hx⟩
theorem ok_callV {w : gWo} {l : Launch} {M : gMi} {pc n ci N index : Nat} {C : String} {T : u_T} {y : MethodName} {M' : gMi} {m' : gF} (hd : decode M.1 pc = .ok (.invokevirtual index, 3)) (hm : ∀ as μ r, m' as μ = some r → gMt w l y M' as μ r) (hc : gcl[ci]? = some (C, T, N))
    (hw1 : Cond.methodLink M.2.2.1 index y ∈ gtb) (hw2 : Cond.instanceMethod y ∈ gtb) (hw3 : Cond.selects C y y ∈ gtb) (hw4 : Cond.initialized y.cls ∈ gtb) (hw5 : Cond.code y M'.1 M'.2.1 M'.2.2.2.1 ∈ gtb)
    (hy : y.cls ≠ "java/lang/invoke/MethodHandle" ∧ y.cls ≠ "java/lang/invoke/VarHandle" ∧ (parseMethodDescriptor y.desc).map (fun d => d.parameters.length) = some n) (hh : M'.2.2.2.2 + 1 ≤ M.2.2.2.2 ∧ M'.2.1 ≤ 21) : gOk w l M pc (i_cvt w.2.2.1 n ci m') := by
  intro p e R s m args below meth c hC r lv st μ k hf hk H locs ls hP hS hl
  obtain ⟨hx, hb, hml, hown, hts, hr, hlk, hR, hK, hI, hZ⟩ := hC
  unfold i_cvt at hf
  split at hf
  · rename_i hlc
    obtain ⟨hlen, hco⟩ := (Bool.and_eq_true _ _).mp hlc
    have hlen := Nat.le_of_ble_eq_true hlen
    split at hf
    · rename_i c0 as has
      split at hf
      · rename_i ho
        split at hf
        · rename_i r' hr'
          have hM := hm _ _ _ hr'
          obtain ⟨h1, h2⟩ := g_isO_spec ho
          have he := gW_get (w := w) (μ := μ) h1
          rw [gE_obj h2] at he
          have hst : st = as.reverse ++ .ref c0 :: st.drop (n + 1) := by
            have e1 : st.take (n + 1) = as.reverse ++ [.ref c0] := by
              have := congrArg List.reverse has
              rw [List.reverse_reverse] at this
              rw [this, List.reverse_cons]
            calc st = st.take (n + 1) ++ st.drop (n + 1) := (List.take_append_drop _ _).symm
              _ = _ := by rw [e1, List.append_assoc]; rfl
          have hasl : as.length = n := by
            have e1 := congrArg List.length has
            rw [List.length_reverse, List.length_take] at e1
            simp at e1
            omega
          refine g_call (a := (Value.ref (w.2.2.2 c0) :: as.map (gv w.2.2.2)).toArray) (lv := lv) (rest := st.drop (n + 1)) hS hl ?_ (hk _ _ _ _ hf)
          refine va_runV (Ts := gtb) (As := as.map (gv w.2.2.2)) (b := w.2.2.2 c0) (C := C) ⟨hx, hb, hml, hown, hts⟩ hM ⟨callB_of n hts (g_goodIn hw5) rfl rfl rfl (hts _ hw4) (hts _ hw1) hy ?_, hts _ hw2, hts _ hw3⟩ ⟨?_, va_recv hK hP hc he, ?_⟩ rfl (by rw [List.length_map]; exact hasl) hl.2.1 ?_ (lv_room (g_cok_spec hco)) hd (by rw [hR]; exact ⟨Nat.le_refl _, Nat.le_refl _⟩)
          · rw [hR]
            show M'.2.2.2.2 + 1 ≤ M.2.2.2.2 ∧ 8 + (M'.2.1 + 11) + 40 * M'.2.2.2.2 ≤ 40 * M.2.2.2.2
            omega
          · intro a U g mk q
            obtain ⟨q0, q1, q2, q3, q4⟩ := q
            exact ⟨q0, q1, va_K.moved (u := U) (U := U.calling g mk a) (Vm.Alike.refl U.vm) q2, q3, gSt.moved (u := U) (U := U.calling g mk a) (Vm.Alike.refl U.vm) q4⟩
          · intro U hU hW
            exact ⟨rfl, by rw [hU]; exact hP, va_K.moved hW.alike hK, hI, by rw [hU]; exact (gS_Z hS hZ).moved hW.alike⟩
          · show st.map (gv w.2.2.2) = (as.map (gv w.2.2.2)).reverse ++ .ref (w.2.2.2 c0) :: (st.drop (n + 1)).map (gv w.2.2.2)
            have h9 := congrArg (List.map (gv w.2.2.2)) hst
            rw [List.map_append, List.map_cons, List.map_reverse] at h9
            exact h9
        · cases hf
      · cases hf
    · cases hf
  · cases hf
theorem ok_callS {w : gWo} {l : Launch} {M : gMi} {pc n index : Nat} {y : MethodName} {M' : gMi} {m' : gF} (hd : decode M.1 pc = .ok (.invokestatic index, 3)) (hm : ∀ as μ r, m' as μ = some r → gMt w l y M' as μ r)
    (hw1 : Cond.methodLink M.2.2.1 index y ∈ gtb) (hw2 : Cond.static y ∈ gtb) (hw4 : Cond.initialized y.cls ∈ gtb) (hw5 : Cond.code y M'.1 M'.2.1 M'.2.2.2.1 ∈ gtb)
    (hy : y.cls ≠ "java/lang/invoke/MethodHandle" ∧ y.cls ≠ "java/lang/invoke/VarHandle" ∧ (parseMethodDescriptor y.desc).map (fun d => d.parameters.length) = some n) (hh : M'.2.2.2.2 + 1 ≤ M.2.2.2.2 ∧ M'.2.1 ≤ 21) : gOk w l M pc (i_cst n m') := by
  intro p e R s m args below meth c hC r lv st μ k hf hk H locs ls hP hS hl
  obtain ⟨hx, hb, hml, hown, hts, hr, hlk, hR, hK, hI, hZ⟩ := hC
  unfold i_cst at hf
  split at hf
  · rename_i hlc
    obtain ⟨hlen, hco⟩ := (Bool.and_eq_true _ _).mp hlc
    have hlen := Nat.le_of_ble_eq_true hlen
    split at hf
    · rename_i r' hr'
      have hM := hm _ _ _ hr'
      generalize has : (st.take n).reverse = as at *
      have hst : st = as.reverse ++ st.drop n := by
        rw [← has, List.reverse_reverse, List.take_append_drop]
      have hasl : as.length = n := by
        rw [← has, List.length_reverse, List.length_take]
        omega
      refine g_call (a := (as.map (gv w.2.2.2)).toArray) (lv := lv) (rest := st.drop n) hS hl ?_ (hk _ _ _ _ hf)
      refine va_runS (Ts := gtb) (As := as.map (gv w.2.2.2)) ⟨hx, hb, hml, hown, hts⟩ hM ⟨callB_of n hts (g_goodIn hw5) rfl rfl rfl (hts _ hw4) (hts _ hw1) hy ?_, hts _ hw2⟩ ⟨?_, ?_⟩ rfl (by rw [List.length_map]; exact hasl) hl.2.1 ?_ (lv_room (g_cok_spec hco)) hd (by rw [hR]; exact ⟨Nat.le_refl _, Nat.le_refl _⟩)
      · rw [hR]
        show M'.2.2.2.2 + 1 ≤ M.2.2.2.2 ∧ 8 + (M'.2.1 + 11) + 40 * M'.2.2.2.2 ≤ 40 * M.2.2.2.2
        omega
      · intro a U g mk q
        obtain ⟨q0, q1, q2, q3, q4⟩ := q
        exact ⟨q0, q1, va_K.moved (u := U) (U := U.calling g mk a) (Vm.Alike.refl U.vm) q2, q3, gSt.moved (u := U) (U := U.calling g mk a) (Vm.Alike.refl U.vm) q4⟩
      · intro U hU hW
        exact ⟨rfl, by rw [hU]; exact hP, va_K.moved hW.alike hK, hI, by rw [hU]; exact (gS_Z hS hZ).moved hW.alike⟩
      · show st.map (gv w.2.2.2) = (as.map (gv w.2.2.2)).reverse ++ (st.drop n).map (gv w.2.2.2)
        have h9 := congrArg (List.map (gv w.2.2.2)) hst
        rw [List.map_append, List.map_reverse] at h9
        exact h9
    · cases hf
  · cases hf
def gOks (w : gWo) (l : Launch) (M : gMi) : gP → Prop
  | [] => True
  | e :: t => (decode M.1 e.1 = .ok (e.2.1, e.2.2.1) → gOk w l M e.1 e.2.2.2) ∧ gOks w l M t
def gDec (M : gMi) (P : gP) : Prop := ∀ e ∈ P, decode M.1 e.1 = .ok (e.2.1, e.2.2.1)
theorem g_find_ok {w : gWo} {l : Launch} {M : gMi} {P : gP} (hd : gDec M P) (h : gOks w l M P) {pc : Nat} {f : gI} (hf : g_find P pc = some f) : gOk w l M pc f := by
  induction P with
  | nil => cases hf
  | cons e t ih =>
    unfold g_find at hf
    split at hf
    · rename_i he
      cases hf
      have he := Nat.eq_of_beq_eq_true he
      subst he
      exact h.1 (hd e List.mem_cons_self)
    · exact ih (fun x hx => hd x (List.mem_cons_of_mem _ hx)) h.2 hf
theorem g_snd {w : gWo} {l : Launch} {M : gMi} {P : gP} (hd : gDec M P) (h : gOks w l M P) {p : Program} {e : Env} {R : Room} {s : State} {m : MethodId} {args : Array Value} {below : List Frame} {meth : Method} {c : Code} (hC : gC w M p R s m args meth c) (r : gR) : ∀ (n : Nat) (pc : Nat) (lv : gL) (st : List Value) (μ : gMem), g_n P n pc lv st μ = some r → gG w M p l e R s m args below meth c r pc lv st μ
  | 0, _, _, _, _, hr => by cases hr
  | n + 1, pc, lv, st, μ, hr => by
    have hr : g_step P (g_n P n) pc lv st μ = some r := hr
    unfold g_step at hr
    split at hr
    · rename_i f hf
      exact g_find_ok hd h hf p e R s m args below meth c hC r lv st μ _ hr (fun pc' lv' st' μ' h' => g_snd hd h hC r n pc' lv' st' μ' h')
    · cases hr
theorem g_lv_args {ad : Nat → Nat} : ∀ (as : List Value) (k i : Nat) (v : Value), (g_lv as)[i]? = some (some v) → (k + i, gv ad v) ∈ lv_args k (as.map (gv ad))
  | [], _, _, _, h => by simp [g_lv] at h
  | a :: as, k, i, v, h => by
    unfold g_lv at h
    rw [List.map_cons]
    by_cases h2 : a.category = 2
    · rw [h2] at h
      have h : (some a :: none :: g_lv as)[i]? = some (some v) := h
      match i, h with
      | 0, h => cases h; simp [lv_args, gv_cat, h2]
      | 1, h => cases h
      | i + 2, h =>
        have := g_lv_args (ad := ad) as (k + 2) i v (by simpa using h)
        simp only [lv_args, gv_cat, h2]
        simp only [if_true]
        refine List.mem_cons_of_mem _ ?_
        rw [show k + (i + 2) = k + 2 + i by omega]
        exact this
    · have h1 : a.category = 1 := by rcases lv_cat a with q | q; exact q; exact absurd q h2
      rw [h1] at h
      have h : (some a :: g_lv as)[i]? = some (some v) := h
      match i, h with
      | 0, h => cases h; simp [lv_args, gv_cat, h1]
      | i + 1, h =>
        have := g_lv_args (ad := ad) as (k + 1) i v (by simpa using h)
        simp only [lv_args, gv_cat, h1]
        simp only [show ¬ ((1 : Nat) = 2) by decide, if_false]
        refine List.mem_cons_of_mem _ ?_
        rw [show k + (i + 1) = k + 1 + i by omega]
        exact this
theorem g_lv_sl {ad : Nat → Nat} : ∀ as : List Value, (lg_sl (as.map (gv ad))).length = (g_lv as).length
  | [] => rfl
  | a :: as => by
    have ih := g_lv_sl (ad := ad) as
    unfold lg_sl at ih ⊢
    rw [List.map_cons, List.flatMap_cons, List.length_append, ih, gv_cat]
    by_cases h2 : a.category = 2
    · rw [if_pos h2]
      rw [show g_lv (a :: as) = some a :: none :: g_lv as by rw [g_lv, h2]]
      simp; omega
    · have h1 : a.category = 1 := by rcases lv_cat a with q | q; exact q; exact absurd q h2
      rw [if_neg h2]
      rw [show g_lv (a :: as) = some a :: g_lv as by rw [g_lv, h1]]
      simp; omega
/-- THE CONTRACT of a method, out of a run of its instructions in the abstract machine -/
theorem gMt_of {w : gWo} {l : Launch} {y : MethodName} {M : gMi} {P : gP} {as : List Value} {μ : gMem} {r : gR} (hy : plainFor y = true) (hown : M.2.2.1 = y.cls) (hd : gDec M P) (hok : gOks w l M P) (hr : g_m P M.2.1 as μ = some r) : gMt w l y M as μ r := by
  unfold g_m at hr
  split at hr
  case h_2 => cases hr
  rename_i hlen
  have hlen := Nat.le_of_ble_eq_true hlen
  obtain ⟨n, hn⟩ := g_run_n hr
  refine va_MetF (cc := M.1) (maxL := M.2.1) (ret := M.2.2.2.1) hy rfl ?_
  intro p e s m args below meth c s₁ B hml hv
  obtain ⟨rfl, hP, hK, hI, hZ⟩ := hv
  have hts := atoms_spec (ws := .code y M.1 M.2.1 M.2.2.2.1 :: gtb) B.pre
  have hown2 : s.vm.findClass M.2.2.1 = some m.cls := by rw [hown]; exact findClass_of_methodNamed B.named
  have hC : gC w M p (headSpec (.code y M.1 M.2.1 M.2.2.2.1 :: gtb) (gRm M.2.2.2.2)).room s m (as.map (gv w.2.2.2)).toArray meth c := ⟨B.exec, B.bytes, hml, hown2, fun x hx => hts x (List.mem_cons_of_mem _ hx), B.returns, B.notSynchronized, rfl, hK, hI, hZ⟩
  have hl := lv_entry (as.map (gv w.2.2.2)) (n := M.2.1) (by rw [g_lv_sl]; exact hlen)
  rw [lg_entry_eq]
  generalize (lg_sl (as.map (gv w.2.2.2)) ++ List.replicate (M.2.1 - (lg_sl (as.map (gv w.2.2.2))).length) Slot.unset).toArray = ls at hl ⊢
  refine g_snd hd hok hC r n 0 (g_lvs as M.2.1) [] μ hn s.heap [] ls hP va_S.rf ⟨?_, hl.1, hl.2.1, fun i v hi => ?_⟩
  · unfold g_lvs
    rw [List.length_append, List.length_replicate]
    omega
  · refine hl.2.2 (i, gv w.2.2.2 v) ?_
    unfold g_lvs at hi
    by_cases hlt : i < (g_lv as).length
    · rw [List.getElem?_append_left hlt] at hi
      have := g_lv_args (ad := w.2.2.2) as 0 i v hi
      rwa [Nat.zero_add] at this
    · rw [List.getElem?_append_right (by omega), List.getElem?_replicate] at hi
      split at hi <;> cases hi
end
section
/-! typed calls, dead locals, the three groups of cells, a group's contract in a larger world -/
def g_ci (o : Option gR) (k : Int32 → gMem → Option gR) : Option gR := match o with
  | some (some (.int v), μ) => k v μ
  | _ => none
def g_cl (o : Option gR) (k : Int64 → gMem → Option gR) : Option gR := match o with
  | some (some (.long v), μ) => k v μ
  | _ => none
def g_cv (o : Option gR) (k : gMem → Option gR) : Option gR := match o with
  | some (none, μ) => k μ
  | _ => none
theorem g_ci_some {v μ k} : g_ci (some (some (.int v), μ)) k = k v μ := rfl
theorem g_cl_some {v μ k} : g_cl (some (some (.long v), μ)) k = k v μ := rfl
theorem g_cv_some {μ k} : g_cv (some (none, μ)) k = k μ := rfl
def i_cvi (L : gLay) (n ci : Nat) (m : gF) : gI := fun pc lv st μ k => match Nat.ble (n + 1) st.length && g_cok (st.drop (n + 1)) with
  | true => match (st.take (n + 1)).reverse with
    | .ref c :: as => match g_isO L c ci with
      | true => g_ci (m (.ref c :: as) μ) (fun v μ' => k (pc + 3) lv (.int v :: st.drop (n + 1)) μ')
      | false => none
    | _ => none
  | false => none
def i_cvl (L : gLay) (n ci : Nat) (m : gF) : gI := fun pc lv st μ k => match Nat.ble (n + 1) st.length && g_cok (st.drop (n + 1)) with
  | true => match (st.take (n + 1)).reverse with
    | .ref c :: as => match g_isO L c ci with
      | true => g_cl (m (.ref c :: as) μ) (fun v μ' => k (pc + 3) lv (.long v :: st.drop (n + 1)) μ')
      | false => none
    | _ => none
  | false => none
def i_cvv (L : gLay) (n ci : Nat) (m : gF) : gI := fun pc lv st μ k => match Nat.ble (n + 1) st.length && g_cok (st.drop (n + 1)) with
  | true => match (st.take (n + 1)).reverse with
    | .ref c :: as => match g_isO L c ci with
      | true => g_cv (m (.ref c :: as) μ) (fun μ' => k (pc + 3) lv (st.drop (n + 1)) μ')
      | false => none
    | _ => none
  | false => none
def i_csi (n : Nat) (m : gF) : gI := fun pc lv st μ k => match Nat.ble n st.length && g_cok (st.drop n) with
  | true => g_ci (m (st.take n).reverse μ) (fun v μ' => k (pc + 3) lv (.int v :: st.drop n) μ')
  | false => none
def i_csl (n : Nat) (m : gF) : gI := fun pc lv st μ k => match Nat.ble n st.length && g_cok (st.drop n) with
  | true => g_cl (m (st.take n).reverse μ) (fun v μ' => k (pc + 3) lv (.long v :: st.drop n) μ')
  | false => none
def i_csv (n : Nat) (m : gF) : gI := fun pc lv st μ k => match Nat.ble n st.length && g_cok (st.drop n) with
  | true => g_cv (m (st.take n).reverse μ) (fun μ' => k (pc + 3) lv (st.drop n) μ')
  | false => none
theorem g_ci_inv {o k r} (h : g_ci o k = some r) : ∃ v μ, o = some (some (.int v), μ) ∧ k v μ = some r := by
  unfold g_ci at h
  split at h
  · exact ⟨_, _, rfl, h⟩
  · cases h
theorem g_cl_inv {o k r} (h : g_cl o k = some r) : ∃ v μ, o = some (some (.long v), μ) ∧ k v μ = some r := by
  unfold g_cl at h
  split at h
  · exact ⟨_, _, rfl, h⟩
  · cases h
theorem g_cv_inv {o k r} (h : g_cv o k = some r) : ∃ μ, o = some (none, μ) ∧ k μ = some r := by
  unfold g_cv at h
  split at h
  · exact ⟨_, rfl, h⟩
  · cases h
theorem g_ci_dt (o : Option gR) (pc : Nat) (lv : gL) (st : List Value) : (∃ x : Option gR, ∀ k : gK, g_ci o (fun v μ => k pc lv (.int v :: st) μ) = x) ∨ ∃ pc' lv' st' μ', ∀ k : gK, g_ci o (fun v μ => k pc lv (.int v :: st) μ) = k pc' lv' st' μ' := by
  unfold g_ci
  split <;> first | exact Or.inl ⟨_, fun _ => rfl⟩ | exact Or.inr ⟨_, _, _, _, fun _ => rfl⟩
theorem g_cl_dt (o : Option gR) (pc : Nat) (lv : gL) (st : List Value) : (∃ x : Option gR, ∀ k : gK, g_cl o (fun v μ => k pc lv (.long v :: st) μ) = x) ∨ ∃ pc' lv' st' μ', ∀ k : gK, g_cl o (fun v μ => k pc lv (.long v :: st) μ) = k pc' lv' st' μ' := by
  unfold g_cl
  split <;> first | exact Or.inl ⟨_, fun _ => rfl⟩ | exact Or.inr ⟨_, _, _, _, fun _ => rfl⟩
theorem g_cv_dt (o : Option gR) (pc : Nat) (lv : gL) (st : List Value) : (∃ x : Option gR, ∀ k : gK, g_cv o (fun μ => k pc lv st μ) = x) ∨ ∃ pc' lv' st' μ', ∀ k : gK, g_cv o (fun μ => k pc lv st μ) = k pc' lv' st' μ' := by
  unfold g_cv
  split <;> first | exact Or.inl ⟨_, fun _ => rfl⟩ | exact Or.inr ⟨_, _, _, _, fun _ => rfl⟩
theorem dt_cvi {L n c m} : gDt (i_cvi L n c m) := by
  intro pc lv st μ; unfold i_cvi; split <;> (try split) <;> (try split) <;> first | exact g_ci_dt _ _ _ _ | exact Or.inl ⟨_, fun _ => rfl⟩
theorem dt_cvl {L n c m} : gDt (i_cvl L n c m) := by
  intro pc lv st μ; unfold i_cvl; split <;> (try split) <;> (try split) <;> first | exact g_cl_dt _ _ _ _ | exact Or.inl ⟨_, fun _ => rfl⟩
theorem dt_cvv {L n c m} : gDt (i_cvv L n c m) := by
  intro pc lv st μ; unfold i_cvv; split <;> (try split) <;> (try split) <;> first | exact g_cv_dt _ _ _ _ | exact Or.inl ⟨_, fun _ => rfl⟩
theorem dt_csi {n m} : gDt (i_csi n m) := by
  intro pc lv st μ; unfold i_csi; split <;> first | exact g_ci_dt _ _ _ _ | exact Or.inl ⟨_, fun _ => rfl⟩
theorem dt_csl {n m} : gDt (i_csl n m) := by
  intro pc lv st μ; unfold i_csl; split <;> first | exact g_cl_dt _ _ _ _ | exact Or.inl ⟨_, fun _ => rfl⟩
theorem dt_csv {n m} : gDt (i_csv n m) := by
  intro pc lv st μ; unfold i_csv; split <;> first | exact g_cv_dt _ _ _ _ | exact Or.inl ⟨_, fun _ => rfl⟩
theorem gOk.mono {w : gWo} {l : Launch} {M : gMi} {pc : Nat} {f f' : gI} (h : gOk w l M pc f) (hf : ∀ lv st μ k r, f' pc lv st μ k = some r → f pc lv st μ k = some r) : gOk w l M pc f' :=
  fun p e R s m args below meth c hC r lv st μ k hr hk => h p e R s m args below meth c hC r lv st μ k (hf _ _ _ _ _ hr) hk
theorem ok_cvi {w : gWo} {l : Launch} {M : gMi} {pc n ci : Nat} {L : gLay} {m' : gF} (h : gOk w l M pc (i_cvt L n ci m')) : gOk w l M pc (i_cvi L n ci m') := h.mono (by
  intro lv st μ k r hr
  unfold i_cvi at hr
  unfold i_cvt
  split at hr
  · split at hr
    · split at hr
      · obtain ⟨v, μ', h1, h2⟩ := g_ci_inv hr
        simp only [*]
        exact h2
      · cases hr
    · cases hr
  · cases hr)
theorem ok_cvl {w : gWo} {l : Launch} {M : gMi} {pc n ci : Nat} {L : gLay} {m' : gF} (h : gOk w l M pc (i_cvt L n ci m')) : gOk w l M pc (i_cvl L n ci m') := h.mono (by
  intro lv st μ k r hr
  unfold i_cvl at hr
  unfold i_cvt
  split at hr
  · split at hr
    · split at hr
      · obtain ⟨v, μ', h1, h2⟩ := g_cl_inv hr
        simp only [*]
        exact h2
      · cases hr
    · cases hr
  · cases hr)
theorem ok_cvv {w : gWo} {l : Launch} {M : gMi} {pc n ci : Nat} {L : gLay} {m' : gF} (h : gOk w l M pc (i_cvt L n ci m')) : gOk w l M pc (i_cvv L n ci m') := h.mono (by
  intro lv st μ k r hr
  unfold i_cvv at hr
  unfold i_cvt
  split at hr
  · split at hr
    · split at hr
      · obtain ⟨μ', h1, h2⟩ := g_cv_inv hr
        simp only [*]
        exact h2
      · cases hr
    · cases hr
  · cases hr)
theorem ok_csi {w : gWo} {l : Launch} {M : gMi} {pc n : Nat} {m' : gF} (h : gOk w l M pc (i_cst n m')) : gOk w l M pc (i_csi n m') := h.mono (by
  intro lv st μ k r hr
  unfold i_csi at hr
  unfold i_cst
  split at hr
  · obtain ⟨v, μ', h1, h2⟩ := g_ci_inv hr
    simp only [*]
    exact h2
  · cases hr)
theorem ok_csl {w : gWo} {l : Launch} {M : gMi} {pc n : Nat} {m' : gF} (h : gOk w l M pc (i_cst n m')) : gOk w l M pc (i_csl n m') := h.mono (by
  intro lv st μ k r hr
  unfold i_csl at hr
  unfold i_cst
  split at hr
  · obtain ⟨v, μ', h1, h2⟩ := g_cl_inv hr
    simp only [*]
    exact h2
  · cases hr)
theorem ok_csv {w : gWo} {l : Launch} {M : gMi} {pc n : Nat} {m' : gF} (h : gOk w l M pc (i_cst n m')) : gOk w l M pc (i_csv n m') := h.mono (by
  intro lv st μ k r hr
  unfold i_csv at hr
  unfold i_cst
  split at hr
  · obtain ⟨μ', h1, h2⟩ := g_cv_inv hr
    simp only [*]
    exact h2
  · cases hr)
/-- rows and places whose index is a constant -/
def i_aak (L : gLay) (J : Int32) (j t : Nat) : gI := fun pc lv st μ k => match st with
  | .int i :: .ref c :: r => match (decide (i = J) && Nat.beq (c + 1 + j) t) && g_in i (gLen L 3 c) with
    | true => k (pc + 1) lv (.ref t :: r) μ
    | false => none
  | _ => none
def i_iak (L : gLay) (J : Int32) (j : Nat) : gI := fun pc lv st μ k => match st with
  | .int i :: .ref c :: r => match decide (i = J) && g_in i (gLen L 0 c) with
    | true => k (pc + 1) lv (.int (μ.1 c j) :: r) μ
    | false => none
  | _ => none
def i_lak (L : gLay) (J : Int32) (j : Nat) : gI := fun pc lv st μ k => match st with
  | .int i :: .ref c :: r => match decide (i = J) && g_in i (gLen L 1 c) with
    | true => k (pc + 1) lv (.long (μ.2 c j) :: r) μ
    | false => none
  | _ => none
def i_isk (L : gLay) (J : Int32) (j : Nat) : gI := fun pc lv st μ k => match st with
  | .int x :: .int i :: .ref c :: r => match decide (i = J) && g_in i (gLen L 0 c) with
    | true => k (pc + 1) lv r (gwI μ c j x)
    | false => none
  | _ => none
theorem dt_aak {L J j t} : gDt (i_aak L J j t) := by
  intro pc lv st μ; unfold i_aak; split <;> (try split) <;> first | exact Or.inl ⟨_, fun _ => rfl⟩ | exact Or.inr ⟨_, _, _, _, fun _ => rfl⟩
theorem dt_iak {L J j} : gDt (i_iak L J j) := by
  intro pc lv st μ; unfold i_iak; split <;> (try split) <;> first | exact Or.inl ⟨_, fun _ => rfl⟩ | exact Or.inr ⟨_, _, _, _, fun _ => rfl⟩
theorem dt_lak {L J j} : gDt (i_lak L J j) := by
  intro pc lv st μ; unfold i_lak; split <;> (try split) <;> first | exact Or.inl ⟨_, fun _ => rfl⟩ | exact Or.inr ⟨_, _, _, _, fun _ => rfl⟩
theorem dt_isk {L J j} : gDt (i_isk L J j) := by
  intro pc lv st μ; unfold i_isk; split <;> (try split) <;> first | exact Or.inl ⟨_, fun _ => rfl⟩ | exact Or.inr ⟨_, _, _, _, fun _ => rfl⟩
theorem ok_aak {w : gWo} {l : Launch} {M : gMi} {pc : Nat} {L : gLay} {J : Int32} {j t : Nat} (h : gOk w l M pc (i_aad L)) (hJ : J.toNatClampNeg = j) : gOk w l M pc (i_aak L J j t) := h.mono (by
  intro lv st μ k r hr
  unfold i_aak at hr
  unfold i_aad
  split at hr
  · split at hr
    · rename_i h1
      simp only [Bool.and_eq_true, decide_eq_true_eq] at h1
      obtain ⟨⟨h1, h2⟩, h3⟩ := h1
      subst h1
      have h2 := Nat.eq_of_beq_eq_true h2
      simp only [h3, if_true, hJ, h2]
      exact hr
    · cases hr
  · cases hr)
theorem ok_iak {w : gWo} {l : Launch} {M : gMi} {pc : Nat} {L : gLay} {J : Int32} {j : Nat} (h : gOk w l M pc (i_iad L)) (hJ : J.toNatClampNeg = j) : gOk w l M pc (i_iak L J j) := h.mono (by
  intro lv st μ k r hr
  unfold i_iak at hr
  unfold i_iad
  split at hr
  · split at hr
    · rename_i h1
      simp only [Bool.and_eq_true, decide_eq_true_eq] at h1
      obtain ⟨h1, h3⟩ := h1
      subst h1
      simp only [h3, if_true, hJ]
      exact hr
    · cases hr
  · cases hr)
theorem ok_lak {w : gWo} {l : Launch} {M : gMi} {pc : Nat} {L : gLay} {J : Int32} {j : Nat} (h : gOk w l M pc (i_lad L)) (hJ : J.toNatClampNeg = j) : gOk w l M pc (i_lak L J j) := h.mono (by
  intro lv st μ k r hr
  unfold i_lak at hr
  unfold i_lad
  split at hr
  · split at hr
    · rename_i h1
      simp only [Bool.and_eq_true, decide_eq_true_eq] at h1
      obtain ⟨h1, h3⟩ := h1
      subst h1
      simp only [h3, if_true, hJ]
      exact hr
    · cases hr
  · cases hr)
theorem ok_isk {w : gWo} {l : Launch} {M : gMi} {pc : Nat} {L : gLay} {J : Int32} {j : Nat} (h : gOk w l M pc (i_ias L)) (hJ : J.toNatClampNeg = j) : gOk w l M pc (i_isk L J j) := h.mono (by
  intro lv st μ k r hr
  unfold i_isk at hr
  unfold i_ias
  split at hr
  · split at hr
    · rename_i h1
      simp only [Bool.and_eq_true, decide_eq_true_eq] at h1
      obtain ⟨h1, h3⟩ := h1
      subst h1
      simp only [h3, if_true, hJ]
      exact hr
    · cases hr
  · cases hr)
/-- locals that are dead behind an instruction -/
def g_kl : List Nat → gL → gL
  | [], lv => lv
  | i :: is, lv => g_kl is (lv.set i none)
def i_kll (ks : List Nat) (f : gI) : gI := fun pc lv st μ k => f pc lv st μ (fun pc' lv' st' μ' => k pc' (g_kl ks lv') st' μ')
theorem dt_kll {ks f} (h : gDt f) : gDt (i_kll ks f) := by
  intro pc lv st μ
  rcases h pc lv st μ with ⟨o, ho⟩ | ⟨a, b, c, d, ho⟩
  · exact Or.inl ⟨o, fun k => ho _⟩
  · exact Or.inr ⟨a, g_kl ks b, c, d, fun k => ho _⟩
theorem g_kl_ag {ad nL ls} : ∀ (ks : List Nat) (lv : gL), gAg ad nL lv ls → gAg ad nL (g_kl ks lv) ls
  | [], _, h => h
  | i :: is, lv, h => g_kl_ag is _ ⟨by rw [List.length_set]; exact h.1, h.2.1, h.2.2.1, fun j v hj => by
      rw [List.getElem?_set] at hj
      split at hj
      · split at hj <;> cases hj
      · exact h.2.2.2 j v hj⟩
theorem ok_kll {w : gWo} {l : Launch} {M : gMi} {pc : Nat} {f : gI} {ks : List Nat} (h : gOk w l M pc f) : gOk w l M pc (i_kll ks f) := by
  intro p e R s m args below meth c hC r lv st μ k hr hk
  refine h p e R s m args below meth c hC r lv st μ _ hr (fun pc' lv' st' μ' h' => ?_)
  intro H locs ls hP hS hl
  exact hk pc' _ st' μ' h' H locs ls hP hS (g_kl_ag ks lv' hl)
/-- the cells of a board -/
def LB_k : Nat → Nat × Nat
  | 0 => (4, 1)
  | 1 => (0, 10)
  | 2 => (0, 11)
  | 3 => (4, 2)
  | 4 => (3, 19)
  | 25 => (4, 3)
  | 26 => (0, 6)
  | 27 => (0, 6)
  | 28 => (0, 6)
  | 29 => (4, 4)
  | 30 => (1, 8)
  | 31 => (0, 8)
  | 32 => (0, 8)
  | 33 => (4, 5)
  | 34 => (3, 4)
  | 39 => (4, 6)
  | 40 => (3, 5)
  | 46 => (4, 6)
  | 47 => (3, 5)
  | 53 => (4, 7)
  | 58 => (0, 32)
  | _ => (0, 60)
def LB_r : Nat → Nat → Option Nat
  | 0, 0 => some 1
  | 0, 1 => some 2
  | 0, 2 => some 3
  | 0, 3 => some 25
  | 0, 4 => some 29
  | 0, 5 => some 33
  | 0, 6 => some 39
  | 0, 7 => some 46
  | 0, 8 => some 53
  | 0, 9 => some 56
  | 0, 10 => some 57
  | 0, 11 => some 58
  | 3, 0 => some 4
  | 3, 1 => some 24
  | 25, 0 => some 26
  | 25, 1 => some 27
  | 25, 2 => some 28
  | 29, 0 => some 30
  | 29, 1 => some 31
  | 29, 2 => some 32
  | 33, 0 => some 34
  | 39, 0 => some 40
  | 46, 0 => some 47
  | 53, 0 => some 54
  | 53, 1 => some 55
  | _, _ => none
abbrev LB : gLay := ((59, LB_k), LB_r)
/-- the cells of the reference -/
def LM_k : Nat → Nat × Nat
  | 0 => (4, 9)
  | 1 => (0, 2030)
  | 2 => (0, 2030)
  | 3 => (1, 9)
  | 4 => (1, 9)
  | 5 => (0, 60)
  | 6 => (0, 61)
  | 7 => (2, 60)
  | 8 => (0, 61)
  | 9 => (0, 60)
  | 10 => (0, 32)
  | 11 => (0, 60)
  | 12 => (2, 60)
  | 13 => (0, 60)
  | 14 => (0, 60)
  | 15 => (0, 2030)
  | _ => (1, 9)
def LM_r : Nat → Nat → Option Nat
  | 0, 1 => some 1
  | 0, 2 => some 2
  | 0, 3 => some 3
  | 0, 4 => some 4
  | 0, 9 => some 5
  | 0, 11 => some 6
  | 0, 12 => some 7
  | 0, 13 => some 8
  | 0, 14 => some 9
  | 0, 15 => some 10
  | 0, 18 => some 11
  | 0, 19 => some 12
  | 0, 24 => some 13
  | 0, 26 => some 14
  | 0, 28 => some 15
  | 0, 29 => some 16
  | _, _ => none
abbrev LM : gLay := ((17, LM_k), LM_r)
/-- the cells of the class: its board, its image, its thought, itself, its plans -/
def LC_k (c : Nat) : Nat × Nat := match Nat.blt c 59 with
  | true => LB_k c
  | false => match Nat.blt c 118 with
    | true => LB_k (c - 59)
    | false => match Nat.blt c 177 with
      | true => LB_k (c - 118)
      | false => match c with
        | 177 => (4, 0)
        | 178 => (4, 8)
        | 179 => (0, 32)
        | _ => (0, 60)
def LC_r (c f : Nat) : Option Nat := match Nat.blt c 59 with
  | true => LB_r c f
  | false => match Nat.blt c 118 with
    | true => (LB_r (c - 59) f).map (59 + ·)
    | false => match Nat.blt c 177 with
      | true => (LB_r (c - 118) f).map (118 + ·)
      | false => match c, f with
        | 177, 0 => some 0
        | 177, 1 => some 59
        | 177, 2 => some 118
        | 177, 3 => some 178
        | 178, 0 => some 0
        | 178, 1 => some 3
        | 178, 2 => some 29
        | 178, 3 => some 179
        | 178, 4 => some 180
        | 178, 5 => some 181
        | _, _ => none
abbrev LC : gLay := ((182, LC_k), LC_r)
/-- a board's part of the class's memory -/
def g_vw (o : Nat) (μ : gMem) : gMem := (fun c i => μ.1 (o + c) i, fun c i => μ.2 (o + c) i)
def g_pt (o : Nat) (μ ν : gMem) : gMem := (fun c i => if o ≤ c ∧ c < o + 59 then ν.1 (c - o) i else μ.1 c i, fun c i => if o ≤ c ∧ c < o + 59 then ν.2 (c - o) i else μ.2 c i)
def g_sb (o : Nat) : Value → Value
  | .ref c => .ref (c - o)
  | v => v
def g_ib (o : Nat) : Value → Bool
  | .ref c => Nat.ble o c && Nat.blt c (o + 59)
  | _ => true
def g_nr : Option Value → Bool
  | some (.ref _) => false
  | _ => true
def g_lf (o : Nat) (m : gF) : gF := fun as μ => match as.all (g_ib o) with
  | true => match m (as.map (g_sb o)) (g_vw o μ) with
    | some r => match g_nr r.1 with
      | true => some (r.1, g_pt o μ r.2)
      | false => none
    | none => none
  | false => none
end
section
/-! a board's contract serves in the class's world -/
theorem Met.cons {l : Launch} {y : MethodName} {ws : List Cond} {rm : Room} {Pc Pc' : Array Value → State → Prop} {Qc Qc' : Array Value → State → Outcome → State → Prop} {mc ms : Nat} {free free' : Addr → Prop} (h : Met l y ws rm Pc Qc mc ms free) (hP : ∀ a s, Pc' a s → Pc a s) (hQ : ∀ a s o t, Pc' a s → Qc a s o t → Qc' a s o t) (hF : ∀ q, free q → free' q) : Met l y ws rm Pc' Qc' mc ms free' := by
  intro p e ha hc hk s m args below hf happ hp hK
  obtain ⟨n, o, h1, h2, h3, h4, L, h5, h6⟩ := h p e ha hc hk s m args below hf happ (hP _ _ hp) hK
  exact ⟨n, o, h1, h2, h3, hQ _ _ _ _ hp h4, L, h5, fun q hq => hF _ (h6 q hq)⟩
theorem LC_k_eq : ∀ o, (o = 0 ∨ o = 59 ∨ o = 118) → ∀ k, k < 59 → LC_k (o + k) = LB_k k := by
  intro o ho
  rcases ho with rfl | rfl | rfl <;> decide +kernel
theorem LC_r_eq (o : Nat) (ho : o = 0 ∨ o = 59 ∨ o = 118) (k : Nat) (hk : k < 59) (f : Nat) : LC_r (o + k) f = (LB_r k f).map (o + ·) := by
  rcases ho with rfl | rfl | rfl
  · unfold LC_r
    rw [show Nat.blt (0 + k) 59 = true from Nat.blt_eq.mpr (by omega)]
    rw [Nat.zero_add]
    cases LB_r k f <;> simp
  · unfold LC_r
    rw [show Nat.blt (59 + k) 59 = false from Bool.eq_false_iff.mpr (fun q => by have := Nat.blt_eq.mp q; omega), show Nat.blt (59 + k) 118 = true from Nat.blt_eq.mpr (by omega)]
    rw [show 59 + k - 59 = k by omega]
  · unfold LC_r
    rw [show Nat.blt (118 + k) 59 = false from Bool.eq_false_iff.mpr (fun q => by have := Nat.blt_eq.mp q; omega), show Nat.blt (118 + k) 118 = false from Bool.eq_false_iff.mpr (fun q => by have := Nat.blt_eq.mp q; omega), show Nat.blt (118 + k) 177 = true from Nat.blt_eq.mpr (by omega)]
    rw [show 118 + k - 118 = k by omega]
theorem LB_r_lt {k f t : Nat} (h : LB_r k f = some t) : t < 59 := by
  unfold LB_r at h
  split at h <;> first | (cases h; decide) | cases h
theorem LB_k_row : ∀ k, k < 59 → (LB_k k).1 = 3 → k + 1 + (LB_k k).2 ≤ 59 := by decide +kernel
def g_ad (o : Nat) (ad : Nat → Nat) : Nat → Nat := fun k => if k < 59 then ad (o + k) else ad k
theorem g_ad_lt {o : Nat} {ad : Nat → Nat} {k : Nat} (h : k < 59) : g_ad o ad k = ad (o + k) := by simp [g_ad, h]
theorem gE_lift {D : va_G} {τ : ClassId × ClassId × ClassId × ClassId} {ad : Nat → Nat} {o : Nat} (ho : o = 0 ∨ o = 59 ∨ o = 118) (μ : gMem) {k : Nat} (hk : k < 59) : gE (D, τ, LB, g_ad o ad) (g_vw o μ) k = gE (D, τ, LC, ad) μ (o + k) := by
  have e1 : LC_k (o + k) = LB_k k := LC_k_eq o ho k hk
  rcases hkk : LB_k k with ⟨a, n⟩
  have hB : (D, τ, LB, g_ad o ad).2.2.1.1.2 k = (a, n) := hkk
  have hC : (D, τ, LC, ad).2.2.1.1.2 (o + k) = (a, n) := e1.trans hkk
  have hrow := LB_k_row k hk
  rw [hkk] at hrow
  match a, hB, hC, hrow with
  | 0, hB, hC, _ => rw [gE_int hB, gE_int hC]; rfl
  | 1, hB, hC, _ => rw [gE_lng hB, gE_lng hC]; rfl
  | 2, hB, hC, _ => rw [gE_bol hB, gE_bol hC]; rfl
  | 3, hB, hC, hrow =>
    rw [gE_row hB, gE_row hC]
    have hrow : k + 1 + n ≤ 59 := hrow rfl
    have : (fun i => if i < n then some (g_ad o ad (k + 1 + i)) else none) = (fun i => if i < n then some (ad (o + k + 1 + i)) else none) := by
      funext i
      by_cases hi : i < n
      · rw [if_pos hi, if_pos hi, g_ad_lt (by omega)]
        congr 2
        omega
      · rw [if_neg hi, if_neg hi]
    show Sum.inl (τ.2.2.2, n, Sum.inr (Sum.inr (Sum.inr (Sum.inr (fun i => if i < n then some (g_ad o ad (k + 1 + i)) else none))))) = Sum.inl (τ.2.2.2, n, Sum.inr (Sum.inr (Sum.inr (Sum.inr (fun i => if i < n then some (ad (o + k + 1 + i)) else none)))))
    rw [this]
  | a + 4, hB, hC, _ =>
    have e2 : ∀ (w : gWo) (μ : gMem) (c : Nat), w.2.2.1.1.2 c = (a + 4, n) → gE w μ c = .inr (n, gFs w μ c n) := by
      intro w μ c h
      unfold gE
      rw [h]
      rfl
    rw [e2 _ _ _ hB, e2 _ _ _ hC]
    have : gFs (D, τ, LB, g_ad o ad) (g_vw o μ) k n = gFs (D, τ, LC, ad) μ (o + k) n := by
      unfold gFs
      apply List.map_congr_left
      intro f _
      show (match LB_r k f with | some t => Value.ref (g_ad o ad t) | none => Value.int (μ.1 (o + k) f)) = (match LC_r (o + k) f with | some t => Value.ref (ad t) | none => Value.int (μ.1 (o + k) f))
      rw [LC_r_eq o ho k hk f]
      cases hr : LB_r k f with
      | none => rfl
      | some t => show Value.ref (g_ad o ad t) = Value.ref (ad (o + t)); rw [g_ad_lt (LB_r_lt hr)]
    rw [this]
theorem g_lift {l : Launch} {y : MethodName} {M : gMi} {o : Nat} {m : gF} (ho : o = 0 ∨ o = 59 ∨ o = 118) (hm : ∀ D τ ad as μ r, m as μ = some r → gMt (D, τ, LB, ad) l y M as μ r) (D : va_G) (τ : ClassId × ClassId × ClassId × ClassId) (ad : Nat → Nat) : ∀ as μ r, g_lf o m as μ = some r → gMt (D, τ, LC, ad) l y M as μ r := by
  intro as μ r hr
  have ho59 : o + 59 ≤ 182 := by rcases ho with rfl | rfl | rfl <;> decide
  unfold g_lf at hr
  split at hr
  case h_2 => cases hr
  rename_i hall
  split at hr
  case h_2 => cases hr
  rename_i r0 hr0
  split at hr
  case h_2 => cases hr
  rename_i hnr
  cases hr
  have hM := hm D τ (g_ad o ad) _ _ _ hr0
  have hargs : (as.map (g_sb o)).map (gv (g_ad o ad)) = as.map (gv ad) := by
    rw [List.map_map]
    apply List.map_congr_left
    intro v hv
    have h1 := List.all_eq_true.mp hall v hv
    cases v with
    | ref c =>
      simp only [g_ib, Bool.and_eq_true] at h1
      have a1 := Nat.le_of_ble_eq_true h1.1
      have a2 := Nat.blt_eq.mp h1.2
      show Value.ref (g_ad o ad (c - o)) = Value.ref (ad c)
      rw [g_ad_lt (by omega), show o + (c - o) = c by omega]
    | _ => rfl
  have hsub : ∀ q, gA (D, τ, LB, g_ad o ad) q → gA (D, τ, LC, ad) q := by
    rintro q ⟨k, hk, rfl⟩
    have hk : k < 59 := hk
    exact ⟨o + k, by show o + k < 182; omega, g_ad_lt hk⟩
  have hPP : ∀ (ν : gMem) (H : Heap), va_P D gcl (gW (D, τ, LC, ad) ν) H → va_P D gcl (gW (D, τ, LB, g_ad o ad) (g_vw o ν)) H := by
    intro ν H hP k q hq
    have hk : k < 59 := by
      have := (List.getElem?_eq_some_iff.mp hq).1
      rw [gW_len] at this
      exact this
    rw [gW_get (w := (D, τ, LB, g_ad o ad)) hk, gE_lift ho ν hk] at hq
    cases hq
    have := hP (o + k) _ (gW_get (w := (D, τ, LC, ad)) (by show o + k < 182; omega))
    show va_at D gcl (g_ad o ad k, _) H
    rw [g_ad_lt hk]
    exact this
  refine Met.cons hM ?_ ?_ hsub
  · rintro a s ⟨h1, hP, hK, hI, hZ⟩
    refine ⟨by rw [hargs]; exact h1, hPP μ _ hP, hK, ?_, ?_⟩
    · intro i j hi hj he
      have hi : i < 59 := hi
      have hj : j < 59 := hj
      have he : g_ad o ad i = g_ad o ad j := he
      rw [g_ad_lt hi, g_ad_lt hj] at he
      have := hI (o + i) (o + j) (by show o + i < 182; omega) (by show o + j < 182; omega) he
      omega
    · obtain ⟨z0, z1, z2⟩ := hZ
      exact ⟨⟨z0.1.narrow hsub, z0.2.narrow hsub⟩, ⟨z1.1.narrow hsub, z1.2.narrow hsub⟩, ⟨z2.1.narrow hsub, z2.2.narrow hsub⟩⟩
  · rintro a s oc t ⟨h1, hP, hK, hI, hZ⟩ ⟨q1, q2, q3, q4⟩
    refine ⟨?_, ?_, q3, fun q h1 h2 => q4 q h1 (fun z => h2 (hsub q z))⟩
    · rw [q1]
      show Outcome.returned (r0.1.map (gv (g_ad o ad))) = Outcome.returned (r0.1.map (gv ad))
      congr 1
      cases h9 : r0.1 with
      | none => rfl
      | some v =>
        cases v with
        | ref c => rw [h9] at hnr; cases hnr
        | _ => rfl
    · intro c q hq
      have hc : c < 182 := by
        have := (List.getElem?_eq_some_iff.mp hq).1
        rw [gW_len] at this
        exact this
      rw [gW_get (w := (D, τ, LC, ad)) hc] at hq
      cases hq
      by_cases hin : o ≤ c ∧ c < o + 59
      · have hk : c - o < 59 := by omega
        have hv : g_vw o (g_pt o μ r0.2) = (fun c' => if c' < 59 then r0.2.1 c' else μ.1 (o + c'), fun c' => if c' < 59 then r0.2.2 c' else μ.2 (o + c')) := by
          unfold g_vw g_pt
          congr 1
          · funext c' i
            by_cases h9 : c' < 59
            · simp [h9]
            · simp [h9]
          · funext c' i
            by_cases h9 : c' < 59
            · simp [h9]
            · simp [h9]
        have e1 : gE (D, τ, LC, ad) (g_pt o μ r0.2) c = gE (D, τ, LB, g_ad o ad) r0.2 (c - o) := by
          have e2 := gE_lift (D := D) (τ := τ) (ad := ad) ho (g_pt o μ r0.2) hk
          rw [show o + (c - o) = c by omega] at e2
          rw [← e2, hv]
          unfold gE
          simp only [hk, if_true]
        have := q2 (c - o) _ (gW_get (w := (D, τ, LB, g_ad o ad)) (μ := r0.2) hk)
        have e3 : (D, τ, LB, g_ad o ad).2.2.2 (c - o) = ad c := by
          show g_ad o ad (c - o) = ad c
          rw [g_ad_lt hk, show o + (c - o) = c by omega]
        rw [e3, ← e1] at this
        exact this
      · have h9 := hP c _ (gW_get (w := (D, τ, LC, ad)) (μ := μ) hc)
        have e1 : gE (D, τ, LC, ad) (g_pt o μ r0.2) c = gE (D, τ, LC, ad) μ c := by
          have f1 : (g_pt o μ r0.2).1 c = μ.1 c := by funext i; simp [g_pt, hin]
          have f2 : (g_pt o μ r0.2).2 c = μ.2 c := by funext i; simp [g_pt, hin]
          unfold gE
          rw [f1, f2]
        rw [e1]
        refine h9.kept (q4 _ h9.lt ?_)
        rintro ⟨k, hk, he⟩
        have hk : k < 59 := hk
        have he : ad c = g_ad o ad k := he
        rw [g_ad_lt hk] at he
        have := hI c (o + k) hc (by show o + k < 182; omega) he
        omega
end
section
/-! the words that are used, by their places -/
theorem gtb_1 {w : Cond} (h : w ∈ tables_1) (hg : goodWord w = true) : w ∈ gtb := List.mem_filter.mpr ⟨List.mem_append_right _ h, hg⟩
theorem gtb_t1 {w : Cond} (i : Nat) (h : tables_1_1[i]? = some w) (hg : goodWord w = true) : w ∈ gtb := gtb_1 (List.mem_append_left _ (List.mem_of_getElem? h)) hg
theorem gtb_t2 {w : Cond} (i : Nat) (h : tables_1_2[i]? = some w) (hg : goodWord w = true) : w ∈ gtb := gtb_1 (List.mem_append_right _ (List.mem_append_left _ (List.mem_of_getElem? h))) hg
theorem gtb_t3 {w : Cond} (i : Nat) (h : tables_1_3[i]? = some w) (hg : goodWord w = true) : w ∈ gtb := gtb_1 (List.mem_append_right _ (List.mem_append_right _ (List.mem_append_left _ (List.mem_of_getElem? h)))) hg
theorem gtb_t4 {w : Cond} (i : Nat) (h : tables_1_4[i]? = some w) (hg : goodWord w = true) : w ∈ gtb := gtb_1 (List.mem_append_right _ (List.mem_append_right _ (List.mem_append_right _ (List.mem_append_left _ (List.mem_of_getElem? h))))) hg
theorem gtb_t5 {w : Cond} (i : Nat) (h : tables_1_5[i]? = some w) (hg : goodWord w = true) : w ∈ gtb := gtb_1 (List.mem_append_right _ (List.mem_append_right _ (List.mem_append_right _ (List.mem_append_right _ (List.mem_append_left _ (List.mem_of_getElem? h)))))) hg
theorem gtb_t6 {w : Cond} (i : Nat) (h : tables_1_6[i]? = some w) (hg : goodWord w = true) : w ∈ gtb := gtb_1 (List.mem_append_right _ (List.mem_append_right _ (List.mem_append_right _ (List.mem_append_right _ (List.mem_append_right _ (List.mem_append_left _ (List.mem_of_getElem? h))))))) hg
theorem gtb_t7 {w : Cond} (i : Nat) (h : tables_1_7[i]? = some w) (hg : goodWord w = true) : w ∈ gtb := gtb_1 (List.mem_append_right _ (List.mem_append_right _ (List.mem_append_right _ (List.mem_append_right _ (List.mem_append_right _ (List.mem_append_right _ (List.mem_of_getElem? h))))))) hg
theorem q0 : (.selects RX9 yX9_wentOn yX9_wentOn : Cond) ∈ gtb := gtb_at 0 rfl rfl
theorem q1 : (.selects RX2 yX2_tryPlace yX2_tryPlace : Cond) ∈ gtb := gtb_at 1 rfl rfl
theorem q2 : (.selects RX2 yX2_canStand yX2_canStand : Cond) ∈ gtb := gtb_at 2 rfl rfl
theorem q3 : (.selects RX2 yX2_rankedStart yX2_rankedStart : Cond) ∈ gtb := gtb_at 3 rfl rfl
theorem q4 : (.selects RX2 yX2_roomOf yX2_roomOf : Cond) ∈ gtb := gtb_at 4 rfl rfl
theorem q5 : (.selects RX2 yX2_loadRank yX2_loadRank : Cond) ∈ gtb := gtb_at 5 rfl rfl
theorem q6 : (.selects RX2 yX2_end yX2_end : Cond) ∈ gtb := gtb_at 6 rfl rfl
theorem q7 : (.selects RX2 yX2_dropSlot yX2_dropSlot : Cond) ∈ gtb := gtb_at 7 rfl rfl
theorem q8 : (.selects RX2 yX2_nextHeldBy yX2_nextHeldBy : Cond) ∈ gtb := gtb_at 8 rfl rfl
theorem q9 : (.selects RX2 yX2_bringArrivals yX2_bringArrivals : Cond) ∈ gtb := gtb_at 9 rfl rfl
theorem q10 : (.selects RX2 yX2_takeTurn yX2_takeTurn : Cond) ∈ gtb := gtb_at 10 rfl rfl
theorem q11 : (.selects RX3 yX3_sort yX3_sort : Cond) ∈ gtb := gtb_at 11 rfl rfl
theorem q12 : (.selects RX3 yX3_lendTo yX3_lendTo : Cond) ∈ gtb := gtb_at 12 rfl rfl
theorem q13 : (.selects RX2 yX2_run yX2_run : Cond) ∈ gtb := gtb_at 13 rfl rfl
theorem q14 : (.selects RX2 yX2_restStopped yX2_restStopped : Cond) ∈ gtb := gtb_at 14 rfl rfl
theorem q15 : (.selects RX2 yX2_countColumns yX2_countColumns : Cond) ∈ gtb := gtb_at 15 rfl rfl
theorem q16 : (.selects RX2 yX2_endJobs yX2_endJobs : Cond) ∈ gtb := gtb_at 16 rfl rfl
theorem q17 : (.selects RX2 yX2_wakeHeld yX2_wakeHeld : Cond) ∈ gtb := gtb_at 17 rfl rfl
theorem q18 : (.selects RX2 yX2_isOver yX2_isOver : Cond) ∈ gtb := gtb_at 18 rfl rfl
theorem q19 : (.selects RX2 yX2_unifyFirst yX2_unifyFirst : Cond) ∈ gtb := gtb_at 19 rfl rfl
theorem q20 : (.selects RX2 yX2_unite yX2_unite : Cond) ∈ gtb := gtb_at 20 rfl rfl
theorem q21 : (.selects RX2 yX2_sortForRepack yX2_sortForRepack : Cond) ∈ gtb := gtb_at 21 rfl rfl
theorem q22 : (.selects RX5 yX5_isUp yX5_isUp : Cond) ∈ gtb := gtb_at 22 rfl rfl
theorem q23 : (.selects RX5 yX5_hasRoom yX5_hasRoom : Cond) ∈ gtb := gtb_at 23 rfl rfl
theorem q24 : (.selects RX5 yX5_stop yX5_stop : Cond) ∈ gtb := gtb_at 24 rfl rfl
theorem q25 : (.selects RX5 yX5_stopOf yX5_stopOf : Cond) ∈ gtb := gtb_at 25 rfl rfl
theorem q26 : (.selects RX5 yX5_bestColumn yX5_bestColumn : Cond) ∈ gtb := gtb_at 26 rfl rfl
theorem q27 : (.selects RX5 yX5_addLoad yX5_addLoad : Cond) ∈ gtb := gtb_at 27 rfl rfl
theorem q28 : (.selects RX5 yX5_greatestLoad yX5_greatestLoad : Cond) ∈ gtb := gtb_at 28 rfl rfl
theorem q29 : (.selects RX5 yX5_gain yX5_gain : Cond) ∈ gtb := gtb_at 29 rfl rfl
theorem q30 : (.selects RX5 yX5_costOf yX5_costOf : Cond) ∈ gtb := gtb_at 30 rfl rfl
theorem q31 : (.selects RX5 yX5_layAnew yX5_layAnew : Cond) ∈ gtb := gtb_at 31 rfl rfl
theorem q32 : (.selects RX5 yX5_sortByWidth yX5_sortByWidth : Cond) ∈ gtb := gtb_at 32 rfl rfl
theorem q33 : (.selects RX5 yX5_layColumn yX5_layColumn : Cond) ∈ gtb := gtb_at 33 rfl rfl
theorem q34 : (.selects RX5 yX5_laidElsewhere yX5_laidElsewhere : Cond) ∈ gtb := gtb_at 34 rfl rfl
theorem q35 : (.selects RX5 yX5_isLaidElsewhere yX5_isLaidElsewhere : Cond) ∈ gtb := gtb_at 35 rfl rfl
theorem q36 : (.selects RX5 yX5_layingCost yX5_layingCost : Cond) ∈ gtb := gtb_at 36 rfl rfl
theorem q37 : (.selects RX5 yX5_urgeSpot yX5_urgeSpot : Cond) ∈ gtb := gtb_at 37 rfl rfl
theorem q38 : (.selects RX5 yX5_lossAt yX5_lossAt : Cond) ∈ gtb := gtb_at 38 rfl rfl
theorem q39 : (.selects RX5 yX5_hitAt yX5_hitAt : Cond) ∈ gtb := gtb_at 39 rfl rfl
theorem q40 : (.selects RX5 yX5_leastPeakBy yX5_leastPeakBy : Cond) ∈ gtb := gtb_at 40 rfl rfl
theorem q41 : (.selects RX5 yX5_leastPeakByTwo yX5_leastPeakByTwo : Cond) ∈ gtb := gtb_at 41 rfl rfl
theorem q42 : (.selects RX5 yX5_leastPeakByLater yX5_leastPeakByLater : Cond) ∈ gtb := gtb_at 42 rfl rfl
theorem q43 : (.selects RX9 yX9_tallied yX9_tallied : Cond) ∈ gtb := gtb_at 43 rfl rfl
theorem q44 : (.selects RX10 yX10_canSet yX10_canSet : Cond) ∈ gtb := gtb_at 44 rfl rfl
theorem q45 : (.selects RX10 yX10_isIn yX10_isIn : Cond) ∈ gtb := gtb_at 45 rfl rfl
theorem q46 : (.selects RX10 yX10_mostOf yX10_mostOf : Cond) ∈ gtb := gtb_at 46 rfl rfl
theorem q47 : (.selects RX10 yX10_firstOf yX10_firstOf : Cond) ∈ gtb := gtb_at 47 rfl rfl
theorem q48 : (.selects RX10 yX10_goesOn yX10_goesOn : Cond) ∈ gtb := gtb_at 48 rfl rfl
theorem q49 : (.selects RX10 yX10_laysQueue yX10_laysQueue : Cond) ∈ gtb := gtb_at 49 rfl rfl
theorem q50 : (.selects RX10 yX10_at yX10_at : Cond) ∈ gtb := gtb_at 50 rfl rfl
theorem q51 : (.selects RX10 yX10_isAhead yX10_isAhead : Cond) ∈ gtb := gtb_at 51 rfl rfl
theorem q52 : (.selects RX10 yX10_settingOf yX10_settingOf : Cond) ∈ gtb := gtb_at 52 rfl rfl
theorem q53 : (.selects RX10 yX10_ratios yX10_ratios : Cond) ∈ gtb := gtb_at 53 rfl rfl
theorem q54 : (.selects RX10 yX10_shareOf yX10_shareOf : Cond) ∈ gtb := gtb_at 54 rfl rfl
theorem q55 : (.selects RX10 yX10_places yX10_places : Cond) ∈ gtb := gtb_at 55 rfl rfl
theorem q56 : (.selects RX10 yX10_finds yX10_finds : Cond) ∈ gtb := gtb_at 56 rfl rfl
theorem q57 : (.selects RX10 yX10_columns yX10_columns : Cond) ∈ gtb := gtb_at 57 rfl rfl
theorem q58 : (.selects RX10 yX10_isFree yX10_isFree : Cond) ∈ gtb := gtb_at 58 rfl rfl
theorem q59 : (.selects RX10 yX10_blocksIn yX10_blocksIn : Cond) ∈ gtb := gtb_at 59 rfl rfl
theorem q60 : (.selects RX10 yX10_isAt yX10_isAt : Cond) ∈ gtb := gtb_at 60 rfl rfl
theorem q61 : (.selects RX10 yX10_isPlaced yX10_isPlaced : Cond) ∈ gtb := gtb_at 61 rfl rfl
theorem q62 : (.selects RX10 yX10_slotOf yX10_slotOf : Cond) ∈ gtb := gtb_at 62 rfl rfl
theorem q63 : (.selects RX10 yX10_blockOf yX10_blockOf : Cond) ∈ gtb := gtb_at 63 rfl rfl
theorem q64 : (.selects RX10 yX10_columnOf yX10_columnOf : Cond) ∈ gtb := gtb_at 64 rfl rfl
theorem q65 : (.selects RX10 yX10_bits yX10_bits : Cond) ∈ gtb := gtb_at 65 rfl rfl
theorem q66 : (.selects RX10 yX10_weighs yX10_weighs : Cond) ∈ gtb := gtb_at 66 rfl rfl
theorem q67 : (.selects RX10 yX10_roomOf yX10_roomOf : Cond) ∈ gtb := gtb_at 67 rfl rfl
theorem q68 : (.selects RX10 yX10_greatestIn yX10_greatestIn : Cond) ∈ gtb := gtb_at 68 rfl rfl
theorem q69 : (.selects RX10 yX10_loadOf yX10_loadOf : Cond) ∈ gtb := gtb_at 69 rfl rfl
theorem q70 : (.selects RX10 yX10_sumIn yX10_sumIn : Cond) ∈ gtb := gtb_at 70 rfl rfl
theorem q71 : (.selects RX10 yX10_newSlot yX10_newSlot : Cond) ∈ gtb := gtb_at 71 rfl rfl
theorem q72 : (.selects RX10 yX10_leastPass yX10_leastPass : Cond) ∈ gtb := gtb_at 72 rfl rfl
theorem q73 : (.selects RX10 yX10_more yX10_more : Cond) ∈ gtb := gtb_at 73 rfl rfl
theorem q74 : (.selects RX10 yX10_isPut yX10_isPut : Cond) ∈ gtb := gtb_at 74 rfl rfl
theorem q75 : (.selects RX10 yX10_lay yX10_lay : Cond) ∈ gtb := gtb_at 75 rfl rfl
theorem q76 : (.selects RX10 yX10_writes yX10_writes : Cond) ∈ gtb := gtb_at 76 rfl rfl
theorem q77 : (.selects RX10 yX10_moreOf yX10_moreOf : Cond) ∈ gtb := gtb_at 77 rfl rfl
theorem q78 : (.selects RX10 yX10_isUser yX10_isUser : Cond) ∈ gtb := gtb_at 78 rfl rfl
theorem q79 : (.selects RX10 yX10_widthOf yX10_widthOf : Cond) ∈ gtb := gtb_at 79 rfl rfl
theorem q80 : (.selects RX10 yX10_canCome yX10_canCome : Cond) ∈ gtb := gtb_at 80 rfl rfl
theorem q81 : (.selects RX10 yX10_isJob yX10_isJob : Cond) ∈ gtb := gtb_at 81 rfl rfl
theorem q82 : (.selects RX10 yX10_comes yX10_comes : Cond) ∈ gtb := gtb_at 82 rfl rfl
theorem q83 : (.selects RX10 yX10_waits yX10_waits : Cond) ∈ gtb := gtb_at 83 rfl rfl
theorem q84 : (.selects RX10 yX10_arrivalAt yX10_arrivalAt : Cond) ∈ gtb := gtb_at 84 rfl rfl
theorem q85 : (.selects RX10 yX10_kills yX10_kills : Cond) ∈ gtb := gtb_at 85 rfl rfl
theorem q86 : (.selects RX10 yX10_isNowhere yX10_isNowhere : Cond) ∈ gtb := gtb_at 86 rfl rfl
theorem q87 : (.selects RX10 yX10_closes yX10_closes : Cond) ∈ gtb := gtb_at 87 rfl rfl
theorem q88 : (.selects RX10 yX10_jobsIn yX10_jobsIn : Cond) ∈ gtb := gtb_at 88 rfl rfl
theorem q89 : (.selects RX10 yX10_dropsSlot yX10_dropsSlot : Cond) ∈ gtb := gtb_at 89 rfl rfl
theorem q90 : (.selects RX10 yX10_isColumn yX10_isColumn : Cond) ∈ gtb := gtb_at 90 rfl rfl
theorem q91 : (.selects RX10 yX10_isDown yX10_isDown : Cond) ∈ gtb := gtb_at 91 rfl rfl
theorem q92 : (.selects RX10 yX10_putsBack yX10_putsBack : Cond) ∈ gtb := gtb_at 92 rfl rfl
theorem q93 : (.selects RX10 yX10_unifies yX10_unifies : Cond) ∈ gtb := gtb_at 93 rfl rfl
theorem q94 : (.selects RX10 yX10_unifiesOne yX10_unifiesOne : Cond) ∈ gtb := gtb_at 94 rfl rfl
theorem q95 : (.selects RX10 yX10_packs yX10_packs : Cond) ∈ gtb := gtb_at 95 rfl rfl
theorem q96 : (.selects RX10 yX10_nextToPack yX10_nextToPack : Cond) ∈ gtb := gtb_at 96 rfl rfl
theorem q97 : (.selects RX10 yX10_packsAhead yX10_packsAhead : Cond) ∈ gtb := gtb_at 97 rfl rfl
theorem q98 : (.selects RX10 yX10_canMove yX10_canMove : Cond) ∈ gtb := gtb_at 98 rfl rfl
theorem q99 : (.selects RX10 yX10_isMoved yX10_isMoved : Cond) ∈ gtb := gtb_at 99 rfl rfl
theorem q100 : (.selects RX10 yX10_stopOf yX10_stopOf : Cond) ∈ gtb := gtb_at 100 rfl rfl
theorem q101 : (.selects RX10 yX10_findsBest yX10_findsBest : Cond) ∈ gtb := gtb_at 101 rfl rfl
theorem q102 : (.selects RX10 yX10_laysLoads yX10_laysLoads : Cond) ∈ gtb := gtb_at 102 rfl rfl
theorem q103 : (.selects RX10 yX10_greatest yX10_greatest : Cond) ∈ gtb := gtb_at 103 rfl rfl
theorem q104 : (.selects RX10 yX10_loadsBy yX10_loadsBy : Cond) ∈ gtb := gtb_at 104 rfl rfl
theorem q105 : (.selects RX10 yX10_gain yX10_gain : Cond) ∈ gtb := gtb_at 105 rfl rfl
theorem q106 : (.selects RX10 yX10_leastLeft yX10_leastLeft : Cond) ∈ gtb := gtb_at 106 rfl rfl
theorem q107 : (.selects RX10 yX10_cost yX10_cost : Cond) ∈ gtb := gtb_at 107 rfl rfl
theorem q108 : (.selects RX10 yX10_packedAll yX10_packedAll : Cond) ∈ gtb := gtb_at 108 rfl rfl
theorem q109 : (.selects RX10 yX10_laysPack yX10_laysPack : Cond) ∈ gtb := gtb_at 109 rfl rfl
theorem q110 : (.selects RX10 yX10_thinnest yX10_thinnest : Cond) ∈ gtb := gtb_at 110 rfl rfl
theorem q111 : (.selects RX10 yX10_isOther yX10_isOther : Cond) ∈ gtb := gtb_at 111 rfl rfl
theorem q112 : (.selects RX10 yX10_findsUrge yX10_findsUrge : Cond) ∈ gtb := gtb_at 112 rfl rfl
theorem q113 : (.selects RX10 yX10_urgesAt yX10_urgesAt : Cond) ∈ gtb := gtb_at 113 rfl rfl
theorem q114 : (.selects RX10 yX10_isInWay yX10_isInWay : Cond) ∈ gtb := gtb_at 114 rfl rfl
theorem q115 : (.selects RX10 yX10_manyOf yX10_manyOf : Cond) ∈ gtb := gtb_at 115 rfl rfl
theorem q116 : (.selects RX10 yX10_thinsOne yX10_thinsOne : Cond) ∈ gtb := gtb_at 116 rfl rfl
theorem q117 : (.selects RX10 yX10_thinsTwo yX10_thinsTwo : Cond) ∈ gtb := gtb_at 117 rfl rfl
theorem q118 : (.selects RX10 yX10_isSlot yX10_isSlot : Cond) ∈ gtb := gtb_at 118 rfl rfl
theorem q119 : (.selects RX10 yX10_laysLenders yX10_laysLenders : Cond) ∈ gtb := gtb_at 119 rfl rfl
theorem q120 : (.selects RX10 yX10_cellsOf yX10_cellsOf : Cond) ∈ gtb := gtb_at 120 rfl rfl
theorem q121 : (.selects RX10 yX10_quanta yX10_quanta : Cond) ∈ gtb := gtb_at 121 rfl rfl
theorem q122 : (.selects RX10 yX10_arrives yX10_arrives : Cond) ∈ gtb := gtb_at 122 rfl rfl
theorem q123 : (.selects RX10 yX10_turns yX10_turns : Cond) ∈ gtb := gtb_at 123 rfl rfl
theorem q124 : (.selects RX10 yX10_turnOf yX10_turnOf : Cond) ∈ gtb := gtb_at 124 rfl rfl
theorem q125 : (.selects RX10 yX10_weightOf yX10_weightOf : Cond) ∈ gtb := gtb_at 125 rfl rfl
theorem q126 : (.selects RX10 yX10_runs yX10_runs : Cond) ∈ gtb := gtb_at 126 rfl rfl
theorem q127 : (.selects RX10 yX10_cellsIn yX10_cellsIn : Cond) ∈ gtb := gtb_at 127 rfl rfl
theorem q128 : (.selects RX10 yX10_countsColumns yX10_countsColumns : Cond) ∈ gtb := gtb_at 128 rfl rfl
theorem q129 : (.selects RX10 yX10_ones yX10_ones : Cond) ∈ gtb := gtb_at 129 rfl rfl
theorem q130 : (.selects RX10 yX10_ends yX10_ends : Cond) ∈ gtb := gtb_at 130 rfl rfl
theorem q131 : (.selects RX10 yX10_thinks yX10_thinks : Cond) ∈ gtb := gtb_at 131 rfl rfl
theorem q132 : (.selects RX10 yX10_idle yX10_idle : Cond) ∈ gtb := gtb_at 132 rfl rfl
theorem q133 : (.selects RX10 yX10_forgets yX10_forgets : Cond) ∈ gtb := gtb_at 133 rfl rfl
theorem q134 : (.selects RX10 yX10_jobsOf yX10_jobsOf : Cond) ∈ gtb := gtb_at 134 rfl rfl
theorem q135 : (.selects RX10 yX10_waitedOf yX10_waitedOf : Cond) ∈ gtb := gtb_at 135 rfl rfl
theorem q136 : (.selects RX10 yX10_usedOfAll yX10_usedOfAll : Cond) ∈ gtb := gtb_at 136 rfl rfl
theorem q137 : (.selects RX10 yX10_shares yX10_shares : Cond) ∈ gtb := gtb_at 137 rfl rfl
theorem q138 : (.selects RX10 yX10_ringAt yX10_ringAt : Cond) ∈ gtb := gtb_at 138 rfl rfl
theorem q139 : (.selects RX10 yX10_firstGreatest yX10_firstGreatest : Cond) ∈ gtb := gtb_at 139 rfl rfl
theorem q141 : (.initialized RX9 : Cond) ∈ gtb := gtb_t1 1 rfl rfl
theorem q142 : (.initialized RX2 : Cond) ∈ gtb := gtb_t1 2 rfl rfl
theorem q143 : (.initialized RX4 : Cond) ∈ gtb := gtb_t1 3 rfl rfl
theorem q144 : (.initialized RX8 : Cond) ∈ gtb := gtb_t1 4 rfl rfl
theorem q145 : (.initialized RX7 : Cond) ∈ gtb := gtb_t1 5 rfl rfl
theorem q146 : (.initialized RX0 : Cond) ∈ gtb := gtb_t1 6 rfl rfl
theorem q147 : (.initialized RX6 : Cond) ∈ gtb := gtb_t1 7 rfl rfl
theorem q148 : (.initialized RX3 : Cond) ∈ gtb := gtb_t1 8 rfl rfl
theorem q149 : (.initialized RX5 : Cond) ∈ gtb := gtb_t1 9 rfl rfl
theorem q150 : (.initialized RX10 : Cond) ∈ gtb := gtb_t1 10 rfl rfl
theorem q151 : (.initialized RX1 : Cond) ∈ gtb := gtb_t1 11 rfl rfl
theorem q152 : (.initialized RJ10 : Cond) ∈ gtb := gtb_t1 12 rfl rfl
theorem q153 : (.initialized RJ6 : Cond) ∈ gtb := gtb_t1 13 rfl rfl
theorem q154 : (.initialized RJ9 : Cond) ∈ gtb := gtb_t1 14 rfl rfl
theorem q177 : (.fieldLink RX4 13 "GangMatrix$Jobs" "row" "[[I" : Cond) ∈ gtb := gtb_t1 37 rfl rfl
theorem q178 : (.fieldLink RX5 44 "GangMatrix$Jobs" "row" "[[I" : Cond) ∈ gtb := gtb_t1 38 rfl rfl
theorem q179 : (.fieldLink RX3 43 "GangMatrix$Jobs" "row" "[[I" : Cond) ∈ gtb := gtb_t1 39 rfl rfl
theorem q180 : (.fieldLink RX2 130 "GangMatrix$Jobs" "row" "[[I" : Cond) ∈ gtb := gtb_t1 40 rfl rfl
theorem q181 : (.fieldLink RX9 204 "GangMatrix$Jobs" "row" "[[I" : Cond) ∈ gtb := gtb_t1 41 rfl rfl
theorem q182 : (.fieldLink RX4 16 "GangMatrix$Jobs" "line" "[I" : Cond) ∈ gtb := gtb_t1 42 rfl rfl
theorem q183 : (.fieldLink RX2 193 "GangMatrix$Jobs" "line" "[I" : Cond) ∈ gtb := gtb_t1 43 rfl rfl
theorem q184 : (.fieldLink RX4 20 "GangMatrix$Jobs" "came" "I" : Cond) ∈ gtb := gtb_t1 44 rfl rfl
theorem q185 : (.fieldLink RX3 36 "GangMatrix$Jobs" "came" "I" : Cond) ∈ gtb := gtb_t1 45 rfl rfl
theorem q186 : (.fieldLink RX2 124 "GangMatrix$Jobs" "came" "I" : Cond) ∈ gtb := gtb_t1 46 rfl rfl
theorem q187 : (.fieldLink RX5 152 "GangMatrix$Jobs" "came" "I" : Cond) ∈ gtb := gtb_t1 47 rfl rfl
theorem q188 : (.fieldLink RX9 301 "GangMatrix$Jobs" "came" "I" : Cond) ∈ gtb := gtb_t1 48 rfl rfl
theorem q189 : (.fieldLink RX4 34 "GangMatrix$Jobs" "waiting" "I" : Cond) ∈ gtb := gtb_t1 49 rfl rfl
theorem q190 : (.fieldLink RX2 196 "GangMatrix$Jobs" "waiting" "I" : Cond) ∈ gtb := gtb_t1 50 rfl rfl
theorem q191 : (.fieldLink RX9 280 "GangMatrix$Jobs" "waiting" "I" : Cond) ∈ gtb := gtb_t1 51 rfl rfl
theorem q208 : (.fieldLink RX8 7 "GangMatrix$Users" "share" "[I" : Cond) ∈ gtb := gtb_t1 68 rfl rfl
theorem q209 : (.fieldLink RX2 246 "GangMatrix$Users" "share" "[I" : Cond) ∈ gtb := gtb_t1 69 rfl rfl
theorem q210 : (.fieldLink RX9 209 "GangMatrix$Users" "share" "[I" : Cond) ∈ gtb := gtb_t1 70 rfl rfl
theorem q211 : (.fieldLink RX8 13 "GangMatrix$Users" "used" "[I" : Cond) ∈ gtb := gtb_t1 71 rfl rfl
theorem q212 : (.fieldLink RX9 213 "GangMatrix$Users" "used" "[I" : Cond) ∈ gtb := gtb_t1 72 rfl rfl
theorem q213 : (.fieldLink RX2 335 "GangMatrix$Users" "used" "[I" : Cond) ∈ gtb := gtb_t1 73 rfl rfl
theorem q214 : (.fieldLink RX8 16 "GangMatrix$Users" "rank" "[I" : Cond) ∈ gtb := gtb_t1 74 rfl rfl
theorem q215 : (.fieldLink RX3 63 "GangMatrix$Users" "rank" "[I" : Cond) ∈ gtb := gtb_t1 75 rfl rfl
theorem q216 : (.fieldLink RX2 202 "GangMatrix$Users" "rank" "[I" : Cond) ∈ gtb := gtb_t1 76 rfl rfl
theorem q230 : (.fieldLink RX7 11 "GangMatrix$Slots" "pass" "[J" : Cond) ∈ gtb := gtb_t1 90 rfl rfl
theorem q231 : (.fieldLink RX9 232 "GangMatrix$Slots" "pass" "[J" : Cond) ∈ gtb := gtb_t1 91 rfl rfl
theorem q232 : (.fieldLink RX2 309 "GangMatrix$Slots" "pass" "[J" : Cond) ∈ gtb := gtb_t1 92 rfl rfl
theorem q233 : (.fieldLink RX7 15 "GangMatrix$Slots" "turns" "[I" : Cond) ∈ gtb := gtb_t1 93 rfl rfl
theorem q234 : (.fieldLink RX9 240 "GangMatrix$Slots" "turns" "[I" : Cond) ∈ gtb := gtb_t1 94 rfl rfl
theorem q235 : (.fieldLink RX2 317 "GangMatrix$Slots" "turns" "[I" : Cond) ∈ gtb := gtb_t1 95 rfl rfl
theorem q236 : (.fieldLink RX7 19 "GangMatrix$Slots" "busy" "[I" : Cond) ∈ gtb := gtb_t1 96 rfl rfl
theorem q237 : (.fieldLink RX2 111 "GangMatrix$Slots" "busy" "[I" : Cond) ∈ gtb := gtb_t1 97 rfl rfl
theorem q238 : (.fieldLink RX5 117 "GangMatrix$Slots" "busy" "[I" : Cond) ∈ gtb := gtb_t1 98 rfl rfl
theorem q239 : (.fieldLink RX9 243 "GangMatrix$Slots" "busy" "[I" : Cond) ∈ gtb := gtb_t1 99 rfl rfl
theorem q240 : (.fieldLink RX7 22 "GangMatrix$Slots" "rows" "I" : Cond) ∈ gtb := gtb_t1 100 rfl rfl
theorem q241 : (.fieldLink RX5 114 "GangMatrix$Slots" "rows" "I" : Cond) ∈ gtb := gtb_t1 101 rfl rfl
theorem q242 : (.fieldLink RX9 128 "GangMatrix$Slots" "rows" "I" : Cond) ∈ gtb := gtb_t1 102 rfl rfl
theorem q243 : (.fieldLink RX2 160 "GangMatrix$Slots" "rows" "I" : Cond) ∈ gtb := gtb_t1 103 rfl rfl
theorem q261 : (.fieldLink RX0 13 "GangMatrix$Arrivals" "value" "[[I" : Cond) ∈ gtb := gtb_t1 121 rfl rfl
theorem q262 : (.fieldLink RX0 16 "GangMatrix$Arrivals" "ahead" "I" : Cond) ∈ gtb := gtb_t1 122 rfl rfl
theorem q263 : (.fieldLink RX9 88 "GangMatrix$Arrivals" "ahead" "I" : Cond) ∈ gtb := gtb_t1 123 rfl rfl
theorem q264 : (.fieldLink RX2 127 "GangMatrix$Arrivals" "ahead" "I" : Cond) ∈ gtb := gtb_t1 124 rfl rfl
theorem q277 : (.fieldLink RX6 13 "GangMatrix$Ring" "value" "[[I" : Cond) ∈ gtb := gtb_t1 137 rfl rfl
theorem q278 : (.fieldLink RX6 16 "GangMatrix$Ring" "total" "I" : Cond) ∈ gtb := gtb_t1 138 rfl rfl
theorem q279 : (.fieldLink RX9 310 "GangMatrix$Ring" "total" "I" : Cond) ∈ gtb := gtb_t1 139 rfl rfl
theorem q291 : (.fieldLink RX3 11 "GangMatrix$Crew" "runner" "[I" : Cond) ∈ gtb := gtb_t1 151 rfl rfl
theorem q292 : (.fieldLink RX2 326 "GangMatrix$Crew" "runner" "[I" : Cond) ∈ gtb := gtb_t1 152 rfl rfl
theorem q293 : (.fieldLink RX3 17 "GangMatrix$Crew" "ready" "[I" : Cond) ∈ gtb := gtb_t1 153 rfl rfl
theorem q294 : (.fieldLink RX3 33 "GangMatrix$Crew" "readies" "I" : Cond) ∈ gtb := gtb_t1 154 rfl rfl
theorem q295 : (.fieldLink RX3 20 "GangMatrix$Crew" "own" "I" : Cond) ∈ gtb := gtb_t1 155 rfl rfl
theorem q296 : (.fieldLink RX2 267 "GangMatrix$Crew" "own" "I" : Cond) ∈ gtb := gtb_t1 156 rfl rfl
theorem q297 : (.fieldLink RX3 24 "GangMatrix$Crew" "lent" "I" : Cond) ∈ gtb := gtb_t1 157 rfl rfl
theorem q298 : (.fieldLink RX2 270 "GangMatrix$Crew" "lent" "I" : Cond) ∈ gtb := gtb_t1 158 rfl rfl
theorem q299 : (.fieldLink RX9 265 "GangMatrix$Crew" "lent" "I" : Cond) ∈ gtb := gtb_t1 159 rfl rfl
theorem q300 : (.fieldLink RX3 27 "GangMatrix$Crew" "cells" "I" : Cond) ∈ gtb := gtb_t1 160 rfl rfl
theorem q301 : (.fieldLink RX2 273 "GangMatrix$Crew" "cells" "I" : Cond) ∈ gtb := gtb_t1 161 rfl rfl
theorem q315 : (.fieldLink RX2 9 "GangMatrix$Board" "told" "[I" : Cond) ∈ gtb := gtb_t1 175 rfl rfl
theorem q316 : (.fieldLink RX5 41 "GangMatrix$Board" "told" "[I" : Cond) ∈ gtb := gtb_t1 176 rfl rfl
theorem q317 : (.fieldLink RX9 298 "GangMatrix$Board" "told" "[I" : Cond) ∈ gtb := gtb_t1 177 rfl rfl
theorem q318 : (.fieldLink RX2 15 "GangMatrix$Board" "tally" "[I" : Cond) ∈ gtb := gtb_t1 178 rfl rfl
theorem q319 : (.fieldLink RX5 79 "GangMatrix$Board" "tally" "[I" : Cond) ∈ gtb := gtb_t1 179 rfl rfl
theorem q320 : (.fieldLink RX9 295 "GangMatrix$Board" "tally" "[I" : Cond) ∈ gtb := gtb_t1 180 rfl rfl
theorem q322 : (.fieldLink RX2 21 "GangMatrix$Board" "jobs" "LGangMatrix$Jobs;" : Cond) ∈ gtb := gtb_t1 182 rfl rfl
theorem q323 : (.fieldLink RX9 56 "GangMatrix$Board" "jobs" "LGangMatrix$Jobs;" : Cond) ∈ gtb := gtb_t1 183 rfl rfl
theorem q324 : (.fieldLink RX2 28 "GangMatrix$Board" "users" "LGangMatrix$Users;" : Cond) ∈ gtb := gtb_t1 184 rfl rfl
theorem q325 : (.fieldLink RX9 43 "GangMatrix$Board" "users" "LGangMatrix$Users;" : Cond) ∈ gtb := gtb_t1 185 rfl rfl
theorem q327 : (.fieldLink RX2 35 "GangMatrix$Board" "slots" "LGangMatrix$Slots;" : Cond) ∈ gtb := gtb_t1 187 rfl rfl
theorem q328 : (.fieldLink RX9 124 "GangMatrix$Board" "slots" "LGangMatrix$Slots;" : Cond) ∈ gtb := gtb_t1 188 rfl rfl
theorem q329 : (.fieldLink RX2 42 "GangMatrix$Board" "arrivals" "LGangMatrix$Arrivals;" : Cond) ∈ gtb := gtb_t1 189 rfl rfl
theorem q330 : (.fieldLink RX9 78 "GangMatrix$Board" "arrivals" "LGangMatrix$Arrivals;" : Cond) ∈ gtb := gtb_t1 190 rfl rfl
theorem q331 : (.fieldLink RX2 49 "GangMatrix$Board" "lines" "LGangMatrix$Ring;" : Cond) ∈ gtb := gtb_t1 191 rfl rfl
theorem q332 : (.fieldLink RX9 283 "GangMatrix$Board" "lines" "LGangMatrix$Ring;" : Cond) ∈ gtb := gtb_t1 192 rfl rfl
theorem q333 : (.fieldLink RX2 53 "GangMatrix$Board" "gone" "LGangMatrix$Ring;" : Cond) ∈ gtb := gtb_t1 193 rfl rfl
theorem q334 : (.fieldLink RX9 292 "GangMatrix$Board" "gone" "LGangMatrix$Ring;" : Cond) ∈ gtb := gtb_t1 194 rfl rfl
theorem q335 : (.fieldLink RX2 59 "GangMatrix$Board" "crew" "LGangMatrix$Crew;" : Cond) ∈ gtb := gtb_t1 195 rfl rfl
theorem q336 : (.fieldLink RX9 255 "GangMatrix$Board" "crew" "LGangMatrix$Crew;" : Cond) ∈ gtb := gtb_t1 196 rfl rfl
theorem q337 : (.fieldLink RX2 63 "GangMatrix$Board" "order" "[I" : Cond) ∈ gtb := gtb_t1 197 rfl rfl
theorem q338 : (.fieldLink RX9 252 "GangMatrix$Board" "order" "[I" : Cond) ∈ gtb := gtb_t1 198 rfl rfl
theorem q339 : (.fieldLink RX2 66 "GangMatrix$Board" "key" "[I" : Cond) ∈ gtb := gtb_t1 199 rfl rfl
theorem q340 : (.fieldLink RX2 71 "GangMatrix$Board" "load" "[I" : Cond) ∈ gtb := gtb_t1 200 rfl rfl
theorem q341 : (.fieldLink RX2 96 "GangMatrix$Board" "time" "I" : Cond) ∈ gtb := gtb_t1 201 rfl rfl
theorem q342 : (.fieldLink RX9 73 "GangMatrix$Board" "time" "I" : Cond) ∈ gtb := gtb_t1 202 rfl rfl
theorem q343 : (.fieldLink RX2 100 "GangMatrix$Board" "downs" "I" : Cond) ∈ gtb := gtb_t1 203 rfl rfl
theorem q344 : (.fieldLink RX5 71 "GangMatrix$Board" "downs" "I" : Cond) ∈ gtb := gtb_t1 204 rfl rfl
theorem q345 : (.fieldLink RX9 115 "GangMatrix$Board" "downs" "I" : Cond) ∈ gtb := gtb_t1 205 rfl rfl
theorem q381 : (.fieldLink RX5 25 "GangMatrix$Plans" "board" "LGangMatrix$Board;" : Cond) ∈ gtb := gtb_t2 1 rfl rfl
theorem q382 : (.fieldLink RX5 35 "GangMatrix$Plans" "jobs" "LGangMatrix$Jobs;" : Cond) ∈ gtb := gtb_t2 2 rfl rfl
theorem q383 : (.fieldLink RX5 40 "GangMatrix$Plans" "slots" "LGangMatrix$Slots;" : Cond) ∈ gtb := gtb_t2 3 rfl rfl
theorem q384 : (.fieldLink RX5 11 "GangMatrix$Plans" "load" "[I" : Cond) ∈ gtb := gtb_t2 4 rfl rfl
theorem q385 : (.fieldLink RX5 19 "GangMatrix$Plans" "laid" "[I" : Cond) ∈ gtb := gtb_t2 5 rfl rfl
theorem q386 : (.fieldLink RX5 22 "GangMatrix$Plans" "key" "[I" : Cond) ∈ gtb := gtb_t2 6 rfl rfl
theorem q387 : (.fieldLink RX5 58 "GangMatrix$Plans" "peak" "I" : Cond) ∈ gtb := gtb_t2 7 rfl rfl
theorem q403 : (.fieldLink RX9 12 "GangMatrix" "board" "LGangMatrix$Board;" : Cond) ∈ gtb := gtb_t2 23 rfl rfl
theorem q404 : (.fieldLink RX9 16 "GangMatrix" "image" "LGangMatrix$Board;" : Cond) ∈ gtb := gtb_t2 24 rfl rfl
theorem q405 : (.fieldLink RX9 19 "GangMatrix" "thought" "LGangMatrix$Board;" : Cond) ∈ gtb := gtb_t2 25 rfl rfl
theorem q406 : (.fieldLink RX9 27 "GangMatrix" "plans" "LGangMatrix$Plans;" : Cond) ∈ gtb := gtb_t2 26 rfl rfl
theorem q407 : (.fieldLink RX9 31 "GangMatrix" "imageTaken" "Z" : Cond) ∈ gtb := gtb_t2 27 rfl rfl
theorem q423 : (.methodLink RX9 35 yX2_tell : Cond) ∈ gtb := gtb_t2 43 rfl rfl
theorem q424 : (.instanceMethod yX2_tell : Cond) ∈ gtb := gtb_t2 44 rfl rfl
theorem q425 : (.selects RX2 yX2_tell yX2_tell : Cond) ∈ gtb := gtb_t2 45 rfl rfl
theorem q426 : (.code yX2_tell cX2_tell 3 (some .boolean) : Cond) ∈ gtb := gtb_t2 46 rfl rfl
theorem q427 : (.fieldLink RX2 114 "GangMatrix$Board" "LEAST_TOLD" "[I" : Cond) ∈ gtb := gtb_t2 47 rfl rfl
theorem q429 : (.fieldLink RX2 117 "GangMatrix$Board" "MOST_TOLD" "[I" : Cond) ∈ gtb := gtb_t2 49 rfl rfl
theorem q431 : (.methodLink RX2 120 yX1_widthOf : Cond) ∈ gtb := gtb_t2 51 rfl rfl
theorem q432 : (.static yX1_widthOf : Cond) ∈ gtb := gtb_t2 52 rfl rfl
theorem q433 : (.code yX1_widthOf cX1_widthOf 2 (some .int) : Cond) ∈ gtb := gtb_t2 53 rfl rfl
theorem q434 : (.methodLink RX9 39 yX9_wentOn : Cond) ∈ gtb := gtb_t2 54 rfl rfl
theorem q436 : (.instanceMethod yX9_wentOn : Cond) ∈ gtb := gtb_t2 56 rfl rfl
theorem q437 : (.code yX9_wentOn cX9_wentOn 2 (some .boolean) : Cond) ∈ gtb := gtb_t2 57 rfl rfl
theorem q438 : (.methodLink RX9 70 yX2_goOn : Cond) ∈ gtb := gtb_t2 58 rfl rfl
theorem q439 : (.instanceMethod yX2_goOn : Cond) ∈ gtb := gtb_t2 59 rfl rfl
theorem q440 : (.selects RX2 yX2_goOn yX2_goOn : Cond) ∈ gtb := gtb_t2 60 rfl rfl
theorem q441 : (.code yX2_goOn cX2_goOn 6 (none) : Cond) ∈ gtb := gtb_t2 61 rfl rfl
theorem q442 : (.methodLink RX2 205 yX2_lineUp : Cond) ∈ gtb := gtb_t2 62 rfl rfl
theorem q443 : (.instanceMethod yX2_lineUp : Cond) ∈ gtb := gtb_t2 63 rfl rfl
theorem q444 : (.selects RX2 yX2_lineUp yX2_lineUp : Cond) ∈ gtb := gtb_t2 64 rfl rfl
theorem q445 : (.code yX2_lineUp cX2_lineUp 4 (some .int) : Cond) ∈ gtb := gtb_t2 65 rfl rfl
theorem q446 : (.methodLink RX2 74 arraycopyName : Cond) ∈ gtb := gtb_t2 66 rfl rfl
theorem q447 : (.static arraycopyName : Cond) ∈ gtb := gtb_t2 67 rfl rfl
theorem q448 : (.native arraycopyName : Cond) ∈ gtb := gtb_t2 68 rfl rfl
theorem q449 : (.methodLink RX2 199 yX8_rankAll : Cond) ∈ gtb := gtb_t2 69 rfl rfl
theorem q450 : (.instanceMethod yX8_rankAll : Cond) ∈ gtb := gtb_t2 70 rfl rfl
theorem q451 : (.selects RX8 yX8_rankAll yX8_rankAll : Cond) ∈ gtb := gtb_t2 71 rfl rfl
theorem q452 : (.code yX8_rankAll cX8_rankAll 3 (none) : Cond) ∈ gtb := gtb_t2 72 rfl rfl
theorem q453 : (.methodLink RX2 208 yX2_tryPlace : Cond) ∈ gtb := gtb_t2 73 rfl rfl
theorem q455 : (.instanceMethod yX2_tryPlace : Cond) ∈ gtb := gtb_t2 75 rfl rfl
theorem q456 : (.code yX2_tryPlace cX2_tryPlace 4 (some .boolean) : Cond) ∈ gtb := gtb_t2 76 rfl rfl
theorem q457 : (.methodLink RX2 212 yX2_spotFor : Cond) ∈ gtb := gtb_t2 77 rfl rfl
theorem q458 : (.instanceMethod yX2_spotFor : Cond) ∈ gtb := gtb_t2 78 rfl rfl
theorem q459 : (.selects RX2 yX2_spotFor yX2_spotFor : Cond) ∈ gtb := gtb_t2 79 rfl rfl
theorem q460 : (.code yX2_spotFor cX2_spotFor 7 (some .int) : Cond) ∈ gtb := gtb_t2 80 rfl rfl
theorem q461 : (.methodLink RX2 152 yX2_canStand : Cond) ∈ gtb := gtb_t2 81 rfl rfl
theorem q463 : (.instanceMethod yX2_canStand : Cond) ∈ gtb := gtb_t2 83 rfl rfl
theorem q464 : (.code yX2_canStand cX2_canStand 4 (some .boolean) : Cond) ∈ gtb := gtb_t2 84 rfl rfl
theorem q465 : (.methodLink RX2 107 yX2_ups : Cond) ∈ gtb := gtb_t2 85 rfl rfl
theorem q466 : (.instanceMethod yX2_ups : Cond) ∈ gtb := gtb_t2 86 rfl rfl
theorem q467 : (.selects RX2 yX2_ups yX2_ups : Cond) ∈ gtb := gtb_t2 87 rfl rfl
theorem q468 : (.code yX2_ups cX2_ups 1 (some .int) : Cond) ∈ gtb := gtb_t2 88 rfl rfl
theorem q469 : (.methodLink RX2 103 yX1_bits : Cond) ∈ gtb := gtb_t2 89 rfl rfl
theorem q470 : (.static yX1_bits : Cond) ∈ gtb := gtb_t2 90 rfl rfl
theorem q471 : (.code yX1_bits cX1_bits 2 (some .int) : Cond) ∈ gtb := gtb_t2 91 rfl rfl
theorem q472 : (.methodLink RX2 172 yX1_starts : Cond) ∈ gtb := gtb_t2 92 rfl rfl
theorem q473 : (.static yX1_starts : Cond) ∈ gtb := gtb_t2 93 rfl rfl
theorem q474 : (.code yX1_starts cX1_starts 5 (some .int) : Cond) ∈ gtb := gtb_t2 94 rfl rfl
theorem q475 : (.fieldLink RX1 11 "GangMatrix$Blocks" "ALIGNED" "[I" : Cond) ∈ gtb := gtb_t2 95 rfl rfl
theorem q477 : (.methodLink RX2 156 yX7_loadsInto : Cond) ∈ gtb := gtb_t2 97 rfl rfl
theorem q478 : (.instanceMethod yX7_loadsInto : Cond) ∈ gtb := gtb_t2 98 rfl rfl
theorem q479 : (.selects RX7 yX7_loadsInto yX7_loadsInto : Cond) ∈ gtb := gtb_t2 99 rfl rfl
theorem q480 : (.code yX7_loadsInto cX7_loadsInto 3 (none) : Cond) ∈ gtb := gtb_t2 100 rfl rfl
theorem q481 : (.methodLink RX7 36 yX7_loadOf : Cond) ∈ gtb := gtb_t2 101 rfl rfl
theorem q482 : (.instanceMethod yX7_loadOf : Cond) ∈ gtb := gtb_t2 102 rfl rfl
theorem q483 : (.selects RX7 yX7_loadOf yX7_loadOf : Cond) ∈ gtb := gtb_t2 103 rfl rfl
theorem q484 : (.code yX7_loadOf cX7_loadOf 4 (some .int) : Cond) ∈ gtb := gtb_t2 104 rfl rfl
theorem q485 : (.methodLink RX2 163 yX2_freeIn : Cond) ∈ gtb := gtb_t2 105 rfl rfl
theorem q486 : (.instanceMethod yX2_freeIn : Cond) ∈ gtb := gtb_t2 106 rfl rfl
theorem q487 : (.selects RX2 yX2_freeIn yX2_freeIn : Cond) ∈ gtb := gtb_t2 107 rfl rfl
theorem q488 : (.code yX2_freeIn cX2_freeIn 2 (some .int) : Cond) ∈ gtb := gtb_t2 108 rfl rfl
theorem q489 : (.methodLink RX2 166 yX2_rankedStart : Cond) ∈ gtb := gtb_t2 109 rfl rfl
theorem q491 : (.instanceMethod yX2_rankedStart : Cond) ∈ gtb := gtb_t2 111 rfl rfl
theorem q492 : (.code yX2_rankedStart cX2_rankedStart 8 (some .int) : Cond) ∈ gtb := gtb_t2 112 rfl rfl
theorem q493 : (.methodLink RX2 175 yX1_lowest : Cond) ∈ gtb := gtb_t2 113 rfl rfl
theorem q494 : (.static yX1_lowest : Cond) ∈ gtb := gtb_t2 114 rfl rfl
theorem q495 : (.code yX1_lowest cX1_lowest 1 (some .int) : Cond) ∈ gtb := gtb_t2 115 rfl rfl
theorem q496 : (.methodLink RX1 15 yJ6_bitCount_0f7a4 : Cond) ∈ gtb := gtb_t2 116 rfl rfl
theorem q497 : (.static yJ6_bitCount_0f7a4 : Cond) ∈ gtb := gtb_t2 117 rfl rfl
theorem q498 : (.code yJ6_bitCount_0f7a4 cJ6_bitCount_0f7a4 1 (some .int) : Cond) ∈ gtb := gtb_t2 118 rfl rfl
theorem q499 : (.constant RJ6 265 (1431655765) : Cond) ∈ gtb := gtb_t2 119 rfl rfl
theorem q500 : (.constant RJ6 266 (858993459) : Cond) ∈ gtb := gtb_t2 120 rfl rfl
theorem q501 : (.constant RJ6 267 (252645135) : Cond) ∈ gtb := gtb_t2 121 rfl rfl
theorem q502 : (.methodLink RX2 178 yX2_roomOf : Cond) ∈ gtb := gtb_t2 122 rfl rfl
theorem q504 : (.instanceMethod yX2_roomOf : Cond) ∈ gtb := gtb_t2 124 rfl rfl
theorem q505 : (.code yX2_roomOf cX2_roomOf 7 (some .int) : Cond) ∈ gtb := gtb_t2 125 rfl rfl
theorem q506 : (.methodLink RX2 182 yX2_loadRank : Cond) ∈ gtb := gtb_t2 126 rfl rfl
theorem q508 : (.instanceMethod yX2_loadRank : Cond) ∈ gtb := gtb_t2 128 rfl rfl
theorem q509 : (.code yX2_loadRank cX2_loadRank 6 (some .int) : Cond) ∈ gtb := gtb_t2 129 rfl rfl
theorem q510 : (.methodLink RX2 190 yJ9_max_7cf53 : Cond) ∈ gtb := gtb_t2 130 rfl rfl
theorem q511 : (.static yJ9_max_7cf53 : Cond) ∈ gtb := gtb_t2 131 rfl rfl
theorem q512 : (.code yJ9_max_7cf53 cJ9_max_7cf53 2 (some .int) : Cond) ∈ gtb := gtb_t2 132 rfl rfl
theorem q513 : (.methodLink RX2 185 yJ9_min_7cf53 : Cond) ∈ gtb := gtb_t2 133 rfl rfl
theorem q514 : (.static yJ9_min_7cf53 : Cond) ∈ gtb := gtb_t2 134 rfl rfl
theorem q515 : (.code yJ9_min_7cf53 cJ9_min_7cf53 2 (some .int) : Cond) ∈ gtb := gtb_t2 135 rfl rfl
theorem q516 : (.methodLink RX2 169 yX1_spot : Cond) ∈ gtb := gtb_t2 136 rfl rfl
theorem q517 : (.static yX1_spot : Cond) ∈ gtb := gtb_t2 137 rfl rfl
theorem q518 : (.code yX1_spot cX1_spot 2 (some .int) : Cond) ∈ gtb := gtb_t2 138 rfl rfl
theorem q519 : (.methodLink RX2 215 yX2_placeAt : Cond) ∈ gtb := gtb_t2 139 rfl rfl
theorem q520 : (.instanceMethod yX2_placeAt : Cond) ∈ gtb := gtb_t2 140 rfl rfl
theorem q521 : (.selects RX2 yX2_placeAt yX2_placeAt : Cond) ∈ gtb := gtb_t2 141 rfl rfl
theorem q522 : (.code yX2_placeAt cX2_placeAt 4 (none) : Cond) ∈ gtb := gtb_t2 142 rfl rfl
theorem q523 : (.methodLink RX2 219 yX4_fromLine : Cond) ∈ gtb := gtb_t2 143 rfl rfl
theorem q524 : (.instanceMethod yX4_fromLine : Cond) ∈ gtb := gtb_t2 144 rfl rfl
theorem q525 : (.selects RX4 yX4_fromLine yX4_fromLine : Cond) ∈ gtb := gtb_t2 145 rfl rfl
theorem q526 : (.code yX4_fromLine cX4_fromLine 4 (none) : Cond) ∈ gtb := gtb_t2 146 rfl rfl
theorem q527 : (.methodLink RX2 222 yX1_slotOf : Cond) ∈ gtb := gtb_t2 147 rfl rfl
theorem q528 : (.static yX1_slotOf : Cond) ∈ gtb := gtb_t2 148 rfl rfl
theorem q529 : (.code yX1_slotOf cX1_slotOf 1 (some .int) : Cond) ∈ gtb := gtb_t2 149 rfl rfl
theorem q530 : (.methodLink RX2 225 yX1_columnOf : Cond) ∈ gtb := gtb_t2 150 rfl rfl
theorem q531 : (.static yX1_columnOf : Cond) ∈ gtb := gtb_t2 151 rfl rfl
theorem q532 : (.code yX1_columnOf cX1_columnOf 1 (some .int) : Cond) ∈ gtb := gtb_t2 152 rfl rfl
theorem q533 : (.methodLink RX2 228 yX2_settle : Cond) ∈ gtb := gtb_t2 153 rfl rfl
theorem q534 : (.instanceMethod yX2_settle : Cond) ∈ gtb := gtb_t2 154 rfl rfl
theorem q535 : (.selects RX2 yX2_settle yX2_settle : Cond) ∈ gtb := gtb_t2 155 rfl rfl
theorem q536 : (.code yX2_settle cX2_settle 4 (none) : Cond) ∈ gtb := gtb_t2 156 rfl rfl
theorem q537 : (.methodLink RX2 231 yX7_open : Cond) ∈ gtb := gtb_t2 157 rfl rfl
theorem q538 : (.instanceMethod yX7_open : Cond) ∈ gtb := gtb_t2 158 rfl rfl
theorem q539 : (.selects RX7 yX7_open yX7_open : Cond) ∈ gtb := gtb_t2 159 rfl rfl
theorem q540 : (.code yX7_open cX7_open 1 (none) : Cond) ∈ gtb := gtb_t2 160 rfl rfl
theorem q541 : (.methodLink RX7 26 yX7_leastPass : Cond) ∈ gtb := gtb_t2 161 rfl rfl
theorem q542 : (.instanceMethod yX7_leastPass : Cond) ∈ gtb := gtb_t2 162 rfl rfl
theorem q543 : (.selects RX7 yX7_leastPass yX7_leastPass : Cond) ∈ gtb := gtb_t2 163 rfl rfl
theorem q544 : (.code yX7_leastPass cX7_leastPass 4 (some .long) : Cond) ∈ gtb := gtb_t2 164 rfl rfl
theorem q545 : (.methodLink RX2 234 yX7_has : Cond) ∈ gtb := gtb_t2 165 rfl rfl
theorem q546 : (.instanceMethod yX7_has : Cond) ∈ gtb := gtb_t2 166 rfl rfl
theorem q547 : (.selects RX7 yX7_has yX7_has : Cond) ∈ gtb := gtb_t2 167 rfl rfl
theorem q548 : (.code yX7_has cX7_has 2 (some .boolean) : Cond) ∈ gtb := gtb_t2 168 rfl rfl
theorem q549 : (.methodLink RX2 237 yX4_block : Cond) ∈ gtb := gtb_t2 169 rfl rfl
theorem q550 : (.instanceMethod yX4_block : Cond) ∈ gtb := gtb_t2 170 rfl rfl
theorem q551 : (.selects RX4 yX4_block yX4_block : Cond) ∈ gtb := gtb_t2 171 rfl rfl
theorem q552 : (.code yX4_block cX4_block 2 (some .int) : Cond) ∈ gtb := gtb_t2 172 rfl rfl
theorem q553 : (.methodLink RX4 37 yX1_bits : Cond) ∈ gtb := gtb_t2 173 rfl rfl
theorem q554 : (.methodLink RX2 148 yX2_note : Cond) ∈ gtb := gtb_t2 174 rfl rfl
theorem q555 : (.instanceMethod yX2_note : Cond) ∈ gtb := gtb_t2 175 rfl rfl
theorem q556 : (.selects RX2 yX2_note yX2_note : Cond) ∈ gtb := gtb_t2 176 rfl rfl
theorem q557 : (.code yX2_note cX2_note 3 (none) : Cond) ∈ gtb := gtb_t2 177 rfl rfl
theorem q558 : (.methodLink RX2 134 yX6_add : Cond) ∈ gtb := gtb_t2 178 rfl rfl
theorem q559 : (.instanceMethod yX6_add : Cond) ∈ gtb := gtb_t2 179 rfl rfl
theorem q560 : (.selects RX6 yX6_add yX6_add : Cond) ∈ gtb := gtb_t2 180 rfl rfl
theorem q561 : (.code yX6_add cX6_add 7 (none) : Cond) ∈ gtb := gtb_t2 181 rfl rfl
theorem q562 : (.methodLink RX6 20 yJ9_floorMod_7cf53 : Cond) ∈ gtb := gtb_t2 182 rfl rfl
theorem q563 : (.static yJ9_floorMod_7cf53 : Cond) ∈ gtb := gtb_t2 183 rfl rfl
theorem q564 : (.code yJ9_floorMod_7cf53 cJ9_floorMod_7cf53 3 (some .int) : Cond) ∈ gtb := gtb_t2 184 rfl rfl
theorem q569 : (.methodLink RX9 47 yX8_promise : Cond) ∈ gtb := gtb_t2 189 rfl rfl
theorem q570 : (.instanceMethod yX8_promise : Cond) ∈ gtb := gtb_t2 190 rfl rfl
theorem q571 : (.selects RX8 yX8_promise yX8_promise : Cond) ∈ gtb := gtb_t2 191 rfl rfl
theorem q572 : (.code yX8_promise cX8_promise 3 (some .boolean) : Cond) ∈ gtb := gtb_t2 192 rfl rfl
theorem q577 : (.methodLink RX9 52 yX2_canCome : Cond) ∈ gtb := gtb_t2 197 rfl rfl
theorem q578 : (.instanceMethod yX2_canCome : Cond) ∈ gtb := gtb_t2 198 rfl rfl
theorem q579 : (.selects RX2 yX2_canCome yX2_canCome : Cond) ∈ gtb := gtb_t2 199 rfl rfl
theorem q580 : (.code yX2_canCome cX2_canCome 4 (some .boolean) : Cond) ∈ gtb := gtb_t2 200 rfl rfl
theorem q581 : (.methodLink RX9 60 yX4_canFollow : Cond) ∈ gtb := gtb_t2 201 rfl rfl
theorem q582 : (.instanceMethod yX4_canFollow : Cond) ∈ gtb := gtb_t2 202 rfl rfl
theorem q583 : (.selects RX4 yX4_canFollow yX4_canFollow : Cond) ∈ gtb := gtb_t2 203 rfl rfl
theorem q584 : (.code yX4_canFollow cX4_canFollow 2 (some .boolean) : Cond) ∈ gtb := gtb_t2 204 rfl rfl
theorem q585 : (.methodLink RX4 24 yX4_has : Cond) ∈ gtb := gtb_t2 205 rfl rfl
theorem q586 : (.instanceMethod yX4_has : Cond) ∈ gtb := gtb_t2 206 rfl rfl
theorem q587 : (.selects RX4 yX4_has yX4_has : Cond) ∈ gtb := gtb_t2 207 rfl rfl
theorem q588 : (.code yX4_has cX4_has 2 (some .boolean) : Cond) ∈ gtb := gtb_t2 208 rfl rfl
theorem q589 : (.methodLink RX9 66 yX2_come : Cond) ∈ gtb := gtb_t2 209 rfl rfl
theorem q590 : (.instanceMethod yX2_come : Cond) ∈ gtb := gtb_t2 210 rfl rfl
theorem q591 : (.selects RX2 yX2_come yX2_come : Cond) ∈ gtb := gtb_t2 211 rfl rfl
theorem q592 : (.code yX2_come cX2_come 6 (some .int) : Cond) ∈ gtb := gtb_t2 212 rfl rfl
theorem q593 : (.methodLink RX2 138 yX4_add : Cond) ∈ gtb := gtb_t2 213 rfl rfl
theorem q594 : (.instanceMethod yX4_add : Cond) ∈ gtb := gtb_t2 214 rfl rfl
theorem q595 : (.selects RX4 yX4_add yX4_add : Cond) ∈ gtb := gtb_t2 215 rfl rfl
theorem q596 : (.code yX4_add cX4_add 8 (some .int) : Cond) ∈ gtb := gtb_t2 216 rfl rfl
theorem q597 : (.methodLink RX4 28 yX1_widthOf : Cond) ∈ gtb := gtb_t2 217 rfl rfl
theorem q598 : (.methodLink RX2 141 yX4_state : Cond) ∈ gtb := gtb_t2 218 rfl rfl
theorem q599 : (.instanceMethod yX4_state : Cond) ∈ gtb := gtb_t2 219 rfl rfl
theorem q600 : (.selects RX4 yX4_state yX4_state : Cond) ∈ gtb := gtb_t2 220 rfl rfl
theorem q601 : (.code yX4_state cX4_state 2 (some .int) : Cond) ∈ gtb := gtb_t2 221 rfl rfl
theorem q602 : (.methodLink RX2 144 yX4_toLine : Cond) ∈ gtb := gtb_t2 222 rfl rfl
theorem q603 : (.instanceMethod yX4_toLine : Cond) ∈ gtb := gtb_t2 223 rfl rfl
theorem q604 : (.selects RX4 yX4_toLine yX4_toLine : Cond) ∈ gtb := gtb_t2 224 rfl rfl
theorem q605 : (.code yX4_toLine cX4_toLine 2 (none) : Cond) ∈ gtb := gtb_t2 225 rfl rfl
theorem q610 : (.constant RX9 77 (99999) : Cond) ∈ gtb := gtb_t2 230 rfl rfl
theorem q611 : (.methodLink RX9 82 yX0_add : Cond) ∈ gtb := gtb_t2 231 rfl rfl
theorem q612 : (.instanceMethod yX0_add : Cond) ∈ gtb := gtb_t2 232 rfl rfl
theorem q613 : (.selects RX0 yX0_add yX0_add : Cond) ∈ gtb := gtb_t2 233 rfl rfl
theorem q614 : (.code yX0_add cX0_add 5 (none) : Cond) ∈ gtb := gtb_t2 234 rfl rfl
theorem q619 : (.methodLink RX9 91 yX4_has : Cond) ∈ gtb := gtb_t2 239 rfl rfl
theorem q620 : (.methodLink RX9 94 yX4_state : Cond) ∈ gtb := gtb_t3 0 rfl rfl
theorem q621 : (.methodLink RX9 98 yX2_killWithHeld : Cond) ∈ gtb := gtb_t3 1 rfl rfl
theorem q622 : (.instanceMethod yX2_killWithHeld : Cond) ∈ gtb := gtb_t3 2 rfl rfl
theorem q623 : (.selects RX2 yX2_killWithHeld yX2_killWithHeld : Cond) ∈ gtb := gtb_t3 3 rfl rfl
theorem q624 : (.code yX2_killWithHeld cX2_killWithHeld 7 (some .int) : Cond) ∈ gtb := gtb_t3 4 rfl rfl
theorem q625 : (.methodLink RX2 380 yX2_end : Cond) ∈ gtb := gtb_t3 5 rfl rfl
theorem q627 : (.instanceMethod yX2_end : Cond) ∈ gtb := gtb_t3 7 rfl rfl
theorem q628 : (.code yX2_end cX2_end 2 (none) : Cond) ∈ gtb := gtb_t3 8 rfl rfl
theorem q629 : (.methodLink RX2 344 yX2_takeOut : Cond) ∈ gtb := gtb_t3 9 rfl rfl
theorem q630 : (.instanceMethod yX2_takeOut : Cond) ∈ gtb := gtb_t3 10 rfl rfl
theorem q631 : (.selects RX2 yX2_takeOut yX2_takeOut : Cond) ∈ gtb := gtb_t3 11 rfl rfl
theorem q632 : (.code yX2_takeOut cX2_takeOut 3 (none) : Cond) ∈ gtb := gtb_t3 12 rfl rfl
theorem q633 : (.methodLink RX2 347 yX2_dropEmpty : Cond) ∈ gtb := gtb_t3 13 rfl rfl
theorem q634 : (.instanceMethod yX2_dropEmpty : Cond) ∈ gtb := gtb_t3 14 rfl rfl
theorem q635 : (.selects RX2 yX2_dropEmpty yX2_dropEmpty : Cond) ∈ gtb := gtb_t3 15 rfl rfl
theorem q636 : (.code yX2_dropEmpty cX2_dropEmpty 2 (none) : Cond) ∈ gtb := gtb_t3 16 rfl rfl
theorem q637 : (.methodLink RX2 240 yX2_dropSlot : Cond) ∈ gtb := gtb_t3 17 rfl rfl
theorem q639 : (.instanceMethod yX2_dropSlot : Cond) ∈ gtb := gtb_t3 19 rfl rfl
theorem q640 : (.code yX2_dropSlot cX2_dropSlot 4 (none) : Cond) ∈ gtb := gtb_t3 20 rfl rfl
theorem q641 : (.methodLink RX2 243 yX7_drop : Cond) ∈ gtb := gtb_t3 21 rfl rfl
theorem q642 : (.instanceMethod yX7_drop : Cond) ∈ gtb := gtb_t3 22 rfl rfl
theorem q643 : (.selects RX7 yX7_drop yX7_drop : Cond) ∈ gtb := gtb_t3 23 rfl rfl
theorem q644 : (.code yX7_drop cX7_drop 3 (none) : Cond) ∈ gtb := gtb_t3 24 rfl rfl
theorem q645 : (.methodLink RX2 383 yX2_nextHeldBy : Cond) ∈ gtb := gtb_t3 25 rfl rfl
theorem q647 : (.instanceMethod yX2_nextHeldBy : Cond) ∈ gtb := gtb_t3 27 rfl rfl
theorem q648 : (.code yX2_nextHeldBy cX2_nextHeldBy 4 (some .int) : Cond) ∈ gtb := gtb_t3 28 rfl rfl
theorem q653 : (.methodLink RX9 101 yX2_runOne : Cond) ∈ gtb := gtb_t3 33 rfl rfl
theorem q654 : (.instanceMethod yX2_runOne : Cond) ∈ gtb := gtb_t3 34 rfl rfl
theorem q655 : (.selects RX2 yX2_runOne yX2_runOne : Cond) ∈ gtb := gtb_t3 35 rfl rfl
theorem q656 : (.code yX2_runOne cX2_runOne 3 (some .int) : Cond) ∈ gtb := gtb_t3 36 rfl rfl
theorem q657 : (.methodLink RX2 249 yX2_bringArrivals : Cond) ∈ gtb := gtb_t3 37 rfl rfl
theorem q659 : (.instanceMethod yX2_bringArrivals : Cond) ∈ gtb := gtb_t3 39 rfl rfl
theorem q660 : (.code yX2_bringArrivals cX2_bringArrivals 2 (none) : Cond) ∈ gtb := gtb_t3 40 rfl rfl
theorem q661 : (.methodLink RX2 290 yX0_isDue : Cond) ∈ gtb := gtb_t3 41 rfl rfl
theorem q662 : (.instanceMethod yX0_isDue : Cond) ∈ gtb := gtb_t3 42 rfl rfl
theorem q663 : (.selects RX0 yX0_isDue yX0_isDue : Cond) ∈ gtb := gtb_t3 43 rfl rfl
theorem q664 : (.code yX0_isDue cX0_isDue 3 (some .boolean) : Cond) ∈ gtb := gtb_t3 44 rfl rfl
theorem q665 : (.methodLink RX2 293 yX0_size : Cond) ∈ gtb := gtb_t3 45 rfl rfl
theorem q666 : (.instanceMethod yX0_size : Cond) ∈ gtb := gtb_t3 46 rfl rfl
theorem q667 : (.selects RX0 yX0_size yX0_size : Cond) ∈ gtb := gtb_t3 47 rfl rfl
theorem q668 : (.code yX0_size cX0_size 2 (some .int) : Cond) ∈ gtb := gtb_t3 48 rfl rfl
theorem q669 : (.methodLink RX2 296 yX0_work : Cond) ∈ gtb := gtb_t3 49 rfl rfl
theorem q670 : (.instanceMethod yX0_work : Cond) ∈ gtb := gtb_t3 50 rfl rfl
theorem q671 : (.selects RX0 yX0_work yX0_work : Cond) ∈ gtb := gtb_t3 51 rfl rfl
theorem q672 : (.code yX0_work cX0_work 2 (some .int) : Cond) ∈ gtb := gtb_t3 52 rfl rfl
theorem q673 : (.methodLink RX2 299 yX0_who : Cond) ∈ gtb := gtb_t3 53 rfl rfl
theorem q674 : (.instanceMethod yX0_who : Cond) ∈ gtb := gtb_t3 54 rfl rfl
theorem q675 : (.selects RX0 yX0_who yX0_who : Cond) ∈ gtb := gtb_t3 55 rfl rfl
theorem q676 : (.code yX0_who cX0_who 2 (some .int) : Cond) ∈ gtb := gtb_t3 56 rfl rfl
theorem q677 : (.methodLink RX2 302 yX2_come : Cond) ∈ gtb := gtb_t3 57 rfl rfl
theorem q678 : (.methodLink RX2 306 yX0_dropDue : Cond) ∈ gtb := gtb_t3 58 rfl rfl
theorem q679 : (.instanceMethod yX0_dropDue : Cond) ∈ gtb := gtb_t3 59 rfl rfl
theorem q680 : (.selects RX0 yX0_dropDue yX0_dropDue : Cond) ∈ gtb := gtb_t3 60 rfl rfl
theorem q681 : (.code yX0_dropDue cX0_dropDue 5 (none) : Cond) ∈ gtb := gtb_t3 61 rfl rfl
theorem q682 : (.methodLink RX0 20 yX0_isDue : Cond) ∈ gtb := gtb_t3 62 rfl rfl
theorem q683 : (.methodLink RX2 252 yX2_goOn : Cond) ∈ gtb := gtb_t3 63 rfl rfl
theorem q684 : (.methodLink RX2 255 yX3_clear : Cond) ∈ gtb := gtb_t3 64 rfl rfl
theorem q685 : (.instanceMethod yX3_clear : Cond) ∈ gtb := gtb_t3 65 rfl rfl
theorem q686 : (.selects RX3 yX3_clear yX3_clear : Cond) ∈ gtb := gtb_t3 66 rfl rfl
theorem q687 : (.code yX3_clear cX3_clear 1 (none) : Cond) ∈ gtb := gtb_t3 67 rfl rfl
theorem q688 : (.methodLink RX2 258 yX7_next : Cond) ∈ gtb := gtb_t3 68 rfl rfl
theorem q689 : (.instanceMethod yX7_next : Cond) ∈ gtb := gtb_t3 69 rfl rfl
theorem q690 : (.selects RX7 yX7_next yX7_next : Cond) ∈ gtb := gtb_t3 70 rfl rfl
theorem q691 : (.code yX7_next cX7_next 3 (some .int) : Cond) ∈ gtb := gtb_t3 71 rfl rfl
theorem q692 : (.methodLink RX2 261 yX2_takeTurn : Cond) ∈ gtb := gtb_t3 72 rfl rfl
theorem q694 : (.instanceMethod yX2_takeTurn : Cond) ∈ gtb := gtb_t3 74 rfl rfl
theorem q695 : (.code yX2_takeTurn cX2_takeTurn 3 (none) : Cond) ∈ gtb := gtb_t3 75 rfl rfl
theorem q696 : (.constant RX2 313 (1000000) : Cond) ∈ gtb := gtb_t3 76 rfl rfl
theorem q697 : (.methodLink RX2 314 yX2_weightOf : Cond) ∈ gtb := gtb_t3 77 rfl rfl
theorem q698 : (.instanceMethod yX2_weightOf : Cond) ∈ gtb := gtb_t3 78 rfl rfl
theorem q699 : (.selects RX2 yX2_weightOf yX2_weightOf : Cond) ∈ gtb := gtb_t3 79 rfl rfl
theorem q700 : (.code yX2_weightOf cX2_weightOf 4 (some .int) : Cond) ∈ gtb := gtb_t3 80 rfl rfl
theorem q701 : (.methodLink RX2 320 yX3_choose : Cond) ∈ gtb := gtb_t3 81 rfl rfl
theorem q702 : (.instanceMethod yX3_choose : Cond) ∈ gtb := gtb_t3 82 rfl rfl
theorem q703 : (.selects RX3 yX3_choose yX3_choose : Cond) ∈ gtb := gtb_t3 83 rfl rfl
theorem q704 : (.code yX3_choose cX3_choose 6 (none) : Cond) ∈ gtb := gtb_t3 84 rfl rfl
theorem q705 : (.methodLink RX3 30 yX3_clear : Cond) ∈ gtb := gtb_t3 85 rfl rfl
theorem q706 : (.methodLink RX3 39 yX4_isPlaced : Cond) ∈ gtb := gtb_t3 86 rfl rfl
theorem q707 : (.instanceMethod yX4_isPlaced : Cond) ∈ gtb := gtb_t3 87 rfl rfl
theorem q708 : (.selects RX4 yX4_isPlaced yX4_isPlaced : Cond) ∈ gtb := gtb_t3 88 rfl rfl
theorem q709 : (.code yX4_isPlaced cX4_isPlaced 2 (some .boolean) : Cond) ∈ gtb := gtb_t3 89 rfl rfl
theorem q710 : (.methodLink RX3 47 yX3_sort : Cond) ∈ gtb := gtb_t3 90 rfl rfl
theorem q712 : (.instanceMethod yX3_sort : Cond) ∈ gtb := gtb_t3 92 rfl rfl
theorem q713 : (.code yX3_sort cX3_sort 4 (none) : Cond) ∈ gtb := gtb_t3 93 rfl rfl
theorem q714 : (.methodLink RX3 60 yX4_cells : Cond) ∈ gtb := gtb_t3 94 rfl rfl
theorem q715 : (.instanceMethod yX4_cells : Cond) ∈ gtb := gtb_t3 95 rfl rfl
theorem q716 : (.selects RX4 yX4_cells yX4_cells : Cond) ∈ gtb := gtb_t3 96 rfl rfl
theorem q717 : (.code yX4_cells cX4_cells 2 (some .int) : Cond) ∈ gtb := gtb_t3 97 rfl rfl
theorem q718 : (.methodLink RX3 51 yX8_rankAll : Cond) ∈ gtb := gtb_t3 98 rfl rfl
theorem q719 : (.methodLink RX3 56 yX3_lendTo : Cond) ∈ gtb := gtb_t3 99 rfl rfl
theorem q721 : (.instanceMethod yX3_lendTo : Cond) ∈ gtb := gtb_t3 101 rfl rfl
theorem q722 : (.code yX3_lendTo cX3_lendTo 7 (none) : Cond) ∈ gtb := gtb_t3 102 rfl rfl
theorem q723 : (.methodLink RX2 324 yX3_size : Cond) ∈ gtb := gtb_t3 103 rfl rfl
theorem q724 : (.instanceMethod yX3_size : Cond) ∈ gtb := gtb_t3 104 rfl rfl
theorem q725 : (.selects RX3 yX3_size yX3_size : Cond) ∈ gtb := gtb_t3 105 rfl rfl
theorem q726 : (.code yX3_size cX3_size 1 (some .int) : Cond) ∈ gtb := gtb_t3 106 rfl rfl
theorem q727 : (.methodLink RX2 329 yX2_run : Cond) ∈ gtb := gtb_t3 107 rfl rfl
theorem q729 : (.instanceMethod yX2_run : Cond) ∈ gtb := gtb_t3 109 rfl rfl
theorem q730 : (.code yX2_run cX2_run 4 (none) : Cond) ∈ gtb := gtb_t3 110 rfl rfl
theorem q731 : (.methodLink RX2 332 yX2_restStopped : Cond) ∈ gtb := gtb_t3 111 rfl rfl
theorem q733 : (.instanceMethod yX2_restStopped : Cond) ∈ gtb := gtb_t3 113 rfl rfl
theorem q734 : (.code yX2_restStopped cX2_restStopped 2 (none) : Cond) ∈ gtb := gtb_t3 114 rfl rfl
theorem q735 : (.methodLink RX2 338 yX4_isPlaced : Cond) ∈ gtb := gtb_t3 115 rfl rfl
theorem q736 : (.methodLink RX2 264 yX2_countColumns : Cond) ∈ gtb := gtb_t3 116 rfl rfl
theorem q738 : (.instanceMethod yX2_countColumns : Cond) ∈ gtb := gtb_t3 118 rfl rfl
theorem q739 : (.code yX2_countColumns cX2_countColumns 5 (none) : Cond) ∈ gtb := gtb_t3 119 rfl rfl
theorem q740 : (.methodLink RX2 341 yX4_cellsIn : Cond) ∈ gtb := gtb_t3 120 rfl rfl
theorem q741 : (.instanceMethod yX4_cellsIn : Cond) ∈ gtb := gtb_t3 121 rfl rfl
theorem q742 : (.selects RX4 yX4_cellsIn yX4_cellsIn : Cond) ∈ gtb := gtb_t3 122 rfl rfl
theorem q743 : (.code yX4_cellsIn cX4_cellsIn 4 (some .int) : Cond) ∈ gtb := gtb_t3 123 rfl rfl
theorem q744 : (.methodLink RX4 44 yX4_cells : Cond) ∈ gtb := gtb_t3 124 rfl rfl
theorem q745 : (.methodLink RX2 276 yJ6_bitCount_0f7a4 : Cond) ∈ gtb := gtb_t3 125 rfl rfl
theorem q746 : (.methodLink RX2 281 yX2_endJobs : Cond) ∈ gtb := gtb_t3 126 rfl rfl
theorem q748 : (.instanceMethod yX2_endJobs : Cond) ∈ gtb := gtb_t3 128 rfl rfl
theorem q749 : (.code yX2_endJobs cX2_endJobs 3 (some .int) : Cond) ∈ gtb := gtb_t3 129 rfl rfl
theorem q750 : (.methodLink RX2 284 yX2_wakeHeld : Cond) ∈ gtb := gtb_t3 130 rfl rfl
theorem q752 : (.instanceMethod yX2_wakeHeld : Cond) ∈ gtb := gtb_t3 132 rfl rfl
theorem q753 : (.code yX2_wakeHeld cX2_wakeHeld 2 (none) : Cond) ∈ gtb := gtb_t3 133 rfl rfl
theorem q754 : (.methodLink RX2 350 yX2_isOver : Cond) ∈ gtb := gtb_t3 134 rfl rfl
theorem q756 : (.instanceMethod yX2_isOver : Cond) ∈ gtb := gtb_t3 136 rfl rfl
theorem q757 : (.code yX2_isOver cX2_isOver 2 (some .boolean) : Cond) ∈ gtb := gtb_t3 137 rfl rfl
theorem q758 : (.methodLink RX2 353 yX4_has : Cond) ∈ gtb := gtb_t3 138 rfl rfl
theorem q759 : (.methodLink RX2 287 yX2_unifyAll : Cond) ∈ gtb := gtb_t3 139 rfl rfl
theorem q760 : (.instanceMethod yX2_unifyAll : Cond) ∈ gtb := gtb_t3 140 rfl rfl
theorem q761 : (.selects RX2 yX2_unifyAll yX2_unifyAll : Cond) ∈ gtb := gtb_t3 141 rfl rfl
theorem q762 : (.code yX2_unifyAll cX2_unifyAll 2 (some .int) : Cond) ∈ gtb := gtb_t3 142 rfl rfl
theorem q763 : (.methodLink RX2 354 yX2_unifyFirst : Cond) ∈ gtb := gtb_t3 143 rfl rfl
theorem q765 : (.instanceMethod yX2_unifyFirst : Cond) ∈ gtb := gtb_t3 145 rfl rfl
theorem q766 : (.code yX2_unifyFirst cX2_unifyFirst 3 (some .boolean) : Cond) ∈ gtb := gtb_t3 146 rfl rfl
theorem q767 : (.methodLink RX2 358 yX2_unite : Cond) ∈ gtb := gtb_t3 147 rfl rfl
theorem q769 : (.instanceMethod yX2_unite : Cond) ∈ gtb := gtb_t3 149 rfl rfl
theorem q770 : (.code yX2_unite cX2_unite 5 (none) : Cond) ∈ gtb := gtb_t3 150 rfl rfl
theorem q771 : (.methodLink RX2 361 yX7_unite : Cond) ∈ gtb := gtb_t3 151 rfl rfl
theorem q772 : (.instanceMethod yX7_unite : Cond) ∈ gtb := gtb_t3 152 rfl rfl
theorem q773 : (.selects RX7 yX7_unite yX7_unite : Cond) ∈ gtb := gtb_t3 153 rfl rfl
theorem q774 : (.code yX7_unite cX7_unite 3 (none) : Cond) ∈ gtb := gtb_t3 154 rfl rfl
theorem q775 : (.methodLink RX7 30 yJ9_min_f86c9 : Cond) ∈ gtb := gtb_t3 155 rfl rfl
theorem q776 : (.static yJ9_min_f86c9 : Cond) ∈ gtb := gtb_t3 156 rfl rfl
theorem q777 : (.code yJ9_min_f86c9 cJ9_min_f86c9 4 (some .long) : Cond) ∈ gtb := gtb_t3 157 rfl rfl
theorem q782 : (.methodLink RX9 105 yX2_hasColumn : Cond) ∈ gtb := gtb_t3 162 rfl rfl
theorem q783 : (.instanceMethod yX2_hasColumn : Cond) ∈ gtb := gtb_t3 163 rfl rfl
theorem q784 : (.selects RX2 yX2_hasColumn yX2_hasColumn : Cond) ∈ gtb := gtb_t3 164 rfl rfl
theorem q785 : (.code yX2_hasColumn cX2_hasColumn 2 (some .boolean) : Cond) ∈ gtb := gtb_t3 165 rfl rfl
theorem q786 : (.methodLink RX9 108 yX2_isDown : Cond) ∈ gtb := gtb_t3 166 rfl rfl
theorem q787 : (.instanceMethod yX2_isDown : Cond) ∈ gtb := gtb_t3 167 rfl rfl
theorem q788 : (.selects RX2 yX2_isDown yX2_isDown : Cond) ∈ gtb := gtb_t3 168 rfl rfl
theorem q789 : (.code yX2_isDown cX2_isDown 2 (some .boolean) : Cond) ∈ gtb := gtb_t3 169 rfl rfl
theorem q790 : (.methodLink RX9 111 yX2_fail : Cond) ∈ gtb := gtb_t3 170 rfl rfl
theorem q791 : (.instanceMethod yX2_fail : Cond) ∈ gtb := gtb_t3 171 rfl rfl
theorem q792 : (.selects RX2 yX2_fail yX2_fail : Cond) ∈ gtb := gtb_t3 172 rfl rfl
theorem q793 : (.code yX2_fail cX2_fail 2 (none) : Cond) ∈ gtb := gtb_t3 173 rfl rfl
theorem q794 : (.methodLink RX2 386 yX2_putBack : Cond) ∈ gtb := gtb_t3 174 rfl rfl
theorem q795 : (.instanceMethod yX2_putBack : Cond) ∈ gtb := gtb_t3 175 rfl rfl
theorem q796 : (.selects RX2 yX2_putBack yX2_putBack : Cond) ∈ gtb := gtb_t3 176 rfl rfl
theorem q797 : (.code yX2_putBack cX2_putBack 4 (none) : Cond) ∈ gtb := gtb_t3 177 rfl rfl
theorem q798 : (.methodLink RX2 389 yX2_stands : Cond) ∈ gtb := gtb_t3 178 rfl rfl
theorem q799 : (.instanceMethod yX2_stands : Cond) ∈ gtb := gtb_t3 179 rfl rfl
theorem q800 : (.selects RX2 yX2_stands yX2_stands : Cond) ∈ gtb := gtb_t3 180 rfl rfl
theorem q801 : (.code yX2_stands cX2_stands 3 (some .boolean) : Cond) ∈ gtb := gtb_t3 181 rfl rfl
theorem q802 : (.methodLink RX2 392 yX4_lossOf : Cond) ∈ gtb := gtb_t3 182 rfl rfl
theorem q803 : (.instanceMethod yX4_lossOf : Cond) ∈ gtb := gtb_t3 183 rfl rfl
theorem q804 : (.selects RX4 yX4_lossOf yX4_lossOf : Cond) ∈ gtb := gtb_t3 184 rfl rfl
theorem q805 : (.code yX4_lossOf cX4_lossOf 2 (some .int) : Cond) ∈ gtb := gtb_t3 185 rfl rfl
theorem q814 : (.methodLink RX9 118 yX2_unifyAll : Cond) ∈ gtb := gtb_t3 194 rfl rfl
theorem q819 : (.methodLink RX9 121 yX2_repackAll : Cond) ∈ gtb := gtb_t3 199 rfl rfl
theorem q820 : (.instanceMethod yX2_repackAll : Cond) ∈ gtb := gtb_t3 200 rfl rfl
theorem q821 : (.selects RX2 yX2_repackAll yX2_repackAll : Cond) ∈ gtb := gtb_t3 201 rfl rfl
theorem q822 : (.code yX2_repackAll cX2_repackAll 6 (none) : Cond) ∈ gtb := gtb_t3 202 rfl rfl
theorem q823 : (.methodLink RX2 362 yX7_leastPass : Cond) ∈ gtb := gtb_t3 203 rfl rfl
theorem q824 : (.methodLink RX2 366 yX2_sortForRepack : Cond) ∈ gtb := gtb_t3 204 rfl rfl
theorem q826 : (.instanceMethod yX2_sortForRepack : Cond) ∈ gtb := gtb_t3 206 rfl rfl
theorem q827 : (.code yX2_sortForRepack cX2_sortForRepack 5 (some .int) : Cond) ∈ gtb := gtb_t3 207 rfl rfl
theorem q828 : (.methodLink RX2 376 yX2_sortKeys : Cond) ∈ gtb := gtb_t3 208 rfl rfl
theorem q829 : (.static yX2_sortKeys : Cond) ∈ gtb := gtb_t3 209 rfl rfl
theorem q830 : (.code yX2_sortKeys cX2_sortKeys 5 (none) : Cond) ∈ gtb := gtb_t3 210 rfl rfl
theorem q831 : (.methodLink RX2 369 yX7_firstClear : Cond) ∈ gtb := gtb_t3 211 rfl rfl
theorem q832 : (.instanceMethod yX7_firstClear : Cond) ∈ gtb := gtb_t3 212 rfl rfl
theorem q833 : (.selects RX7 yX7_firstClear yX7_firstClear : Cond) ∈ gtb := gtb_t3 213 rfl rfl
theorem q834 : (.code yX7_firstClear cX7_firstClear 3 (some .int) : Cond) ∈ gtb := gtb_t3 214 rfl rfl
theorem q835 : (.methodLink RX2 372 yX7_passAllAt : Cond) ∈ gtb := gtb_t3 215 rfl rfl
theorem q836 : (.instanceMethod yX7_passAllAt : Cond) ∈ gtb := gtb_t3 216 rfl rfl
theorem q837 : (.selects RX7 yX7_passAllAt yX7_passAllAt : Cond) ∈ gtb := gtb_t3 217 rfl rfl
theorem q838 : (.code yX7_passAllAt cX7_passAllAt 4 (none) : Cond) ∈ gtb := gtb_t3 218 rfl rfl
theorem q843 : (.methodLink RX9 133 yX4_isPlaced : Cond) ∈ gtb := gtb_t3 223 rfl rfl
theorem q844 : (.methodLink RX9 136 yX5_moveTo : Cond) ∈ gtb := gtb_t3 224 rfl rfl
theorem q845 : (.instanceMethod yX5_moveTo : Cond) ∈ gtb := gtb_t3 225 rfl rfl
theorem q846 : (.selects RX5 yX5_moveTo yX5_moveTo : Cond) ∈ gtb := gtb_t3 226 rfl rfl
theorem q847 : (.code yX5_moveTo cX5_moveTo 4 (some .boolean) : Cond) ∈ gtb := gtb_t3 227 rfl rfl
theorem q848 : (.methodLink RX5 82 yX2_hasColumn : Cond) ∈ gtb := gtb_t3 228 rfl rfl
theorem q849 : (.methodLink RX5 74 yJ9_max_7cf53 : Cond) ∈ gtb := gtb_t3 229 rfl rfl
theorem q850 : (.methodLink RX5 86 yX5_isUp : Cond) ∈ gtb := gtb_t3 230 rfl rfl
theorem q852 : (.instanceMethod yX5_isUp : Cond) ∈ gtb := gtb_t3 232 rfl rfl
theorem q853 : (.code yX5_isUp cX5_isUp 3 (some .boolean) : Cond) ∈ gtb := gtb_t3 233 rfl rfl
theorem q854 : (.methodLink RX5 67 yX1_bits : Cond) ∈ gtb := gtb_t3 234 rfl rfl
theorem q855 : (.methodLink RX5 90 yX5_hasRoom : Cond) ∈ gtb := gtb_t3 235 rfl rfl
theorem q857 : (.instanceMethod yX5_hasRoom : Cond) ∈ gtb := gtb_t3 237 rfl rfl
theorem q858 : (.code yX5_hasRoom cX5_hasRoom 6 (some .boolean) : Cond) ∈ gtb := gtb_t3 238 rfl rfl
theorem q859 : (.methodLink RX5 120 yX4_block : Cond) ∈ gtb := gtb_t3 239 rfl rfl
theorem q860 : (.methodLink RX5 93 yX2_takeOut : Cond) ∈ gtb := gtb_t4 0 rfl rfl
theorem q861 : (.methodLink RX5 97 yX2_dropEmpty : Cond) ∈ gtb := gtb_t4 1 rfl rfl
theorem q862 : (.methodLink RX5 100 yX7_firstClear : Cond) ∈ gtb := gtb_t4 2 rfl rfl
theorem q863 : (.methodLink RX5 103 yX2_settle : Cond) ∈ gtb := gtb_t4 3 rfl rfl
theorem q864 : (.methodLink RX5 107 yX5_stop : Cond) ∈ gtb := gtb_t4 4 rfl rfl
theorem q866 : (.instanceMethod yX5_stop : Cond) ∈ gtb := gtb_t4 6 rfl rfl
theorem q867 : (.code yX5_stop cX5_stop 2 (none) : Cond) ∈ gtb := gtb_t4 7 rfl rfl
theorem q868 : (.methodLink RX5 48 yX5_stopOf : Cond) ∈ gtb := gtb_t4 8 rfl rfl
theorem q870 : (.instanceMethod yX5_stopOf : Cond) ∈ gtb := gtb_t4 10 rfl rfl
theorem q871 : (.code yX5_stopOf cX5_stopOf 2 (some .int) : Cond) ∈ gtb := gtb_t4 11 rfl rfl
theorem q872 : (.methodLink RX5 110 yX2_note : Cond) ∈ gtb := gtb_t4 12 rfl rfl
theorem q877 : (.methodLink RX9 139 yX5_migrateToBest : Cond) ∈ gtb := gtb_t4 17 rfl rfl
theorem q878 : (.instanceMethod yX5_migrateToBest : Cond) ∈ gtb := gtb_t4 18 rfl rfl
theorem q879 : (.selects RX5 yX5_migrateToBest yX5_migrateToBest : Cond) ∈ gtb := gtb_t4 19 rfl rfl
theorem q880 : (.code yX5_migrateToBest cX5_migrateToBest 3 (some .boolean) : Cond) ∈ gtb := gtb_t4 20 rfl rfl
theorem q881 : (.methodLink RX5 133 yX5_bestColumn : Cond) ∈ gtb := gtb_t4 21 rfl rfl
theorem q883 : (.instanceMethod yX5_bestColumn : Cond) ∈ gtb := gtb_t4 23 rfl rfl
theorem q884 : (.code yX5_bestColumn cX5_bestColumn 8 (some .int) : Cond) ∈ gtb := gtb_t4 24 rfl rfl
theorem q885 : (.methodLink RX5 123 yX7_loadsInto : Cond) ∈ gtb := gtb_t4 25 rfl rfl
theorem q886 : (.methodLink RX5 127 yX5_addLoad : Cond) ∈ gtb := gtb_t4 26 rfl rfl
theorem q888 : (.instanceMethod yX5_addLoad : Cond) ∈ gtb := gtb_t4 28 rfl rfl
theorem q889 : (.code yX5_addLoad cX5_addLoad 5 (none) : Cond) ∈ gtb := gtb_t4 29 rfl rfl
theorem q890 : (.methodLink RX5 61 yX2_p : Cond) ∈ gtb := gtb_t4 30 rfl rfl
theorem q891 : (.instanceMethod yX2_p : Cond) ∈ gtb := gtb_t4 31 rfl rfl
theorem q892 : (.selects RX2 yX2_p yX2_p : Cond) ∈ gtb := gtb_t4 32 rfl rfl
theorem q893 : (.code yX2_p cX2_p 1 (some .int) : Cond) ∈ gtb := gtb_t4 33 rfl rfl
theorem q894 : (.methodLink RX5 130 yX5_greatestLoad : Cond) ∈ gtb := gtb_t4 34 rfl rfl
theorem q896 : (.instanceMethod yX5_greatestLoad : Cond) ∈ gtb := gtb_t4 36 rfl rfl
theorem q897 : (.code yX5_greatestLoad cX5_greatestLoad 5 (some .int) : Cond) ∈ gtb := gtb_t4 37 rfl rfl
theorem q898 : (.methodLink RX5 137 yX5_gain : Cond) ∈ gtb := gtb_t4 38 rfl rfl
theorem q900 : (.instanceMethod yX5_gain : Cond) ∈ gtb := gtb_t4 40 rfl rfl
theorem q901 : (.code yX5_gain cX5_gain 1 (some .int) : Cond) ∈ gtb := gtb_t4 41 rfl rfl
theorem q902 : (.methodLink RX5 52 yX7_peak : Cond) ∈ gtb := gtb_t4 42 rfl rfl
theorem q903 : (.instanceMethod yX7_peak : Cond) ∈ gtb := gtb_t4 43 rfl rfl
theorem q904 : (.selects RX7 yX7_peak yX7_peak : Cond) ∈ gtb := gtb_t4 44 rfl rfl
theorem q905 : (.code yX7_peak cX7_peak 1 (some .int) : Cond) ∈ gtb := gtb_t4 45 rfl rfl
theorem q906 : (.methodLink RX7 42 yX7_peakColumn : Cond) ∈ gtb := gtb_t4 46 rfl rfl
theorem q907 : (.instanceMethod yX7_peakColumn : Cond) ∈ gtb := gtb_t4 47 rfl rfl
theorem q908 : (.selects RX7 yX7_peakColumn yX7_peakColumn : Cond) ∈ gtb := gtb_t4 48 rfl rfl
theorem q909 : (.code yX7_peakColumn cX7_peakColumn 3 (some .int) : Cond) ∈ gtb := gtb_t4 49 rfl rfl
theorem q910 : (.methodLink RX5 64 yX4_leastLeft : Cond) ∈ gtb := gtb_t4 50 rfl rfl
theorem q911 : (.instanceMethod yX4_leastLeft : Cond) ∈ gtb := gtb_t4 51 rfl rfl
theorem q912 : (.selects RX4 yX4_leastLeft yX4_leastLeft : Cond) ∈ gtb := gtb_t4 52 rfl rfl
theorem q913 : (.code yX4_leastLeft cX4_leastLeft 3 (some .int) : Cond) ∈ gtb := gtb_t4 53 rfl rfl
theorem q914 : (.methodLink RX4 47 yJ9_max_7cf53 : Cond) ∈ gtb := gtb_t4 54 rfl rfl
theorem q915 : (.methodLink RX5 140 yX5_costOf : Cond) ∈ gtb := gtb_t4 55 rfl rfl
theorem q917 : (.instanceMethod yX5_costOf : Cond) ∈ gtb := gtb_t4 57 rfl rfl
theorem q918 : (.code yX5_costOf cX5_costOf 2 (some .int) : Cond) ∈ gtb := gtb_t4 58 rfl rfl
theorem q919 : (.methodLink RX5 143 yX2_repackAll : Cond) ∈ gtb := gtb_t4 59 rfl rfl
theorem q924 : (.methodLink RX9 142 yX5_weighed : Cond) ∈ gtb := gtb_t4 64 rfl rfl
theorem q925 : (.instanceMethod yX5_weighed : Cond) ∈ gtb := gtb_t4 65 rfl rfl
theorem q926 : (.selects RX5 yX5_weighed yX5_weighed : Cond) ∈ gtb := gtb_t4 66 rfl rfl
theorem q927 : (.code yX5_weighed cX5_weighed 4 (some .int) : Cond) ∈ gtb := gtb_t4 67 rfl rfl
theorem q928 : (.constant RX5 136 (-1000000000) : Cond) ∈ gtb := gtb_t4 68 rfl rfl
theorem q929 : (.constant RX9 146 (-1000000000) : Cond) ∈ gtb := gtb_t4 69 rfl rfl
theorem q934 : (.methodLink RX9 147 yX5_packed : Cond) ∈ gtb := gtb_t4 74 rfl rfl
theorem q935 : (.instanceMethod yX5_packed : Cond) ∈ gtb := gtb_t4 75 rfl rfl
theorem q936 : (.selects RX5 yX5_packed yX5_packed : Cond) ∈ gtb := gtb_t4 76 rfl rfl
theorem q937 : (.code yX5_packed cX5_packed 2 (some .int) : Cond) ∈ gtb := gtb_t4 77 rfl rfl
theorem q938 : (.methodLink RX5 165 yX5_layAnew : Cond) ∈ gtb := gtb_t4 78 rfl rfl
theorem q940 : (.instanceMethod yX5_layAnew : Cond) ∈ gtb := gtb_t4 80 rfl rfl
theorem q941 : (.code yX5_layAnew cX5_layAnew 4 (none) : Cond) ∈ gtb := gtb_t4 81 rfl rfl
theorem q942 : (.methodLink RX5 146 yX5_sortByWidth : Cond) ∈ gtb := gtb_t4 82 rfl rfl
theorem q944 : (.instanceMethod yX5_sortByWidth : Cond) ∈ gtb := gtb_t4 84 rfl rfl
theorem q945 : (.code yX5_sortByWidth cX5_sortByWidth 3 (some .int) : Cond) ∈ gtb := gtb_t4 85 rfl rfl
theorem q946 : (.methodLink RX5 155 yX4_isPlaced : Cond) ∈ gtb := gtb_t4 86 rfl rfl
theorem q947 : (.methodLink RX5 158 yX2_sortKeys : Cond) ∈ gtb := gtb_t4 87 rfl rfl
theorem q948 : (.methodLink RX5 149 yX5_layColumn : Cond) ∈ gtb := gtb_t4 88 rfl rfl
theorem q950 : (.instanceMethod yX5_layColumn : Cond) ∈ gtb := gtb_t4 90 rfl rfl
theorem q951 : (.code yX5_layColumn cX5_layColumn 6 (some .int) : Cond) ∈ gtb := gtb_t4 91 rfl rfl
theorem q952 : (.methodLink RX5 168 yX5_laidElsewhere : Cond) ∈ gtb := gtb_t4 92 rfl rfl
theorem q954 : (.instanceMethod yX5_laidElsewhere : Cond) ∈ gtb := gtb_t4 94 rfl rfl
theorem q955 : (.code yX5_laidElsewhere cX5_laidElsewhere 3 (some .int) : Cond) ∈ gtb := gtb_t4 95 rfl rfl
theorem q956 : (.methodLink RX5 162 yX5_isLaidElsewhere : Cond) ∈ gtb := gtb_t4 96 rfl rfl
theorem q958 : (.instanceMethod yX5_isLaidElsewhere : Cond) ∈ gtb := gtb_t4 98 rfl rfl
theorem q959 : (.code yX5_isLaidElsewhere cX5_isLaidElsewhere 2 (some .boolean) : Cond) ∈ gtb := gtb_t4 99 rfl rfl
theorem q960 : (.methodLink RX5 171 yX5_layingCost : Cond) ∈ gtb := gtb_t4 100 rfl rfl
theorem q962 : (.instanceMethod yX5_layingCost : Cond) ∈ gtb := gtb_t4 102 rfl rfl
theorem q963 : (.code yX5_layingCost cX5_layingCost 3 (some .int) : Cond) ∈ gtb := gtb_t4 103 rfl rfl
theorem q968 : (.methodLink RX9 150 yX5_relayAll : Cond) ∈ gtb := gtb_t4 108 rfl rfl
theorem q969 : (.instanceMethod yX5_relayAll : Cond) ∈ gtb := gtb_t4 109 rfl rfl
theorem q970 : (.selects RX5 yX5_relayAll yX5_relayAll : Cond) ∈ gtb := gtb_t4 110 rfl rfl
theorem q971 : (.code yX5_relayAll cX5_relayAll 4 (some .boolean) : Cond) ∈ gtb := gtb_t4 111 rfl rfl
theorem q976 : (.methodLink RX9 154 yX4_isWaiting : Cond) ∈ gtb := gtb_t4 116 rfl rfl
theorem q977 : (.instanceMethod yX4_isWaiting : Cond) ∈ gtb := gtb_t4 117 rfl rfl
theorem q978 : (.selects RX4 yX4_isWaiting yX4_isWaiting : Cond) ∈ gtb := gtb_t4 118 rfl rfl
theorem q979 : (.code yX4_isWaiting cX4_isWaiting 2 (some .boolean) : Cond) ∈ gtb := gtb_t4 119 rfl rfl
theorem q980 : (.methodLink RX9 157 yX5_urgeIn : Cond) ∈ gtb := gtb_t4 120 rfl rfl
theorem q981 : (.instanceMethod yX5_urgeIn : Cond) ∈ gtb := gtb_t4 121 rfl rfl
theorem q982 : (.selects RX5 yX5_urgeIn yX5_urgeIn : Cond) ∈ gtb := gtb_t4 122 rfl rfl
theorem q983 : (.code yX5_urgeIn cX5_urgeIn 4 (some .boolean) : Cond) ∈ gtb := gtb_t4 123 rfl rfl
theorem q984 : (.methodLink RX5 189 yX5_urgeSpot : Cond) ∈ gtb := gtb_t4 124 rfl rfl
theorem q986 : (.instanceMethod yX5_urgeSpot : Cond) ∈ gtb := gtb_t4 126 rfl rfl
theorem q987 : (.code yX5_urgeSpot cX5_urgeSpot 11 (some .int) : Cond) ∈ gtb := gtb_t4 127 rfl rfl
theorem q988 : (.methodLink RX5 174 yX5_lossAt : Cond) ∈ gtb := gtb_t4 128 rfl rfl
theorem q990 : (.instanceMethod yX5_lossAt : Cond) ∈ gtb := gtb_t4 130 rfl rfl
theorem q991 : (.code yX5_lossAt cX5_lossAt 5 (some .int) : Cond) ∈ gtb := gtb_t4 131 rfl rfl
theorem q992 : (.methodLink RX5 183 yX2_stands : Cond) ∈ gtb := gtb_t4 132 rfl rfl
theorem q993 : (.methodLink RX5 186 yX4_lossOf : Cond) ∈ gtb := gtb_t4 133 rfl rfl
theorem q994 : (.methodLink RX5 177 yX5_hitAt : Cond) ∈ gtb := gtb_t4 134 rfl rfl
theorem q996 : (.instanceMethod yX5_hitAt : Cond) ∈ gtb := gtb_t4 136 rfl rfl
theorem q997 : (.code yX5_hitAt cX5_hitAt 5 (some .int) : Cond) ∈ gtb := gtb_t4 137 rfl rfl
theorem q998 : (.methodLink RX5 180 yX1_spot : Cond) ∈ gtb := gtb_t4 138 rfl rfl
theorem q999 : (.methodLink RX5 195 yX1_columnOf : Cond) ∈ gtb := gtb_t4 139 rfl rfl
theorem q1000 : (.methodLink RX5 192 yX1_slotOf : Cond) ∈ gtb := gtb_t4 140 rfl rfl
theorem q1001 : (.methodLink RX5 198 yX2_putBack : Cond) ∈ gtb := gtb_t4 141 rfl rfl
theorem q1002 : (.methodLink RX5 201 yX2_placeAt : Cond) ∈ gtb := gtb_t4 142 rfl rfl
theorem q1007 : (.methodLink RX9 160 yX5_urgedWhat : Cond) ∈ gtb := gtb_t4 147 rfl rfl
theorem q1008 : (.instanceMethod yX5_urgedWhat : Cond) ∈ gtb := gtb_t4 148 rfl rfl
theorem q1009 : (.selects RX5 yX5_urgedWhat yX5_urgedWhat : Cond) ∈ gtb := gtb_t4 149 rfl rfl
theorem q1010 : (.code yX5_urgedWhat cX5_urgedWhat 7 (some .int) : Cond) ∈ gtb := gtb_t4 150 rfl rfl
theorem q1015 : (.methodLink RX9 163 yX5_thinned : Cond) ∈ gtb := gtb_t4 155 rfl rfl
theorem q1016 : (.instanceMethod yX5_thinned : Cond) ∈ gtb := gtb_t4 156 rfl rfl
theorem q1017 : (.selects RX5 yX5_thinned yX5_thinned : Cond) ∈ gtb := gtb_t4 157 rfl rfl
theorem q1018 : (.code yX5_thinned cX5_thinned 4 (some .int) : Cond) ∈ gtb := gtb_t4 158 rfl rfl
theorem q1019 : (.methodLink RX5 204 yX4_inState : Cond) ∈ gtb := gtb_t4 159 rfl rfl
theorem q1020 : (.instanceMethod yX4_inState : Cond) ∈ gtb := gtb_t4 160 rfl rfl
theorem q1021 : (.selects RX4 yX4_inState yX4_inState : Cond) ∈ gtb := gtb_t4 161 rfl rfl
theorem q1022 : (.code yX4_inState cX4_inState 4 (some .int) : Cond) ∈ gtb := gtb_t4 162 rfl rfl
theorem q1023 : (.methodLink RX5 207 yX5_leastPeakBy : Cond) ∈ gtb := gtb_t4 163 rfl rfl
theorem q1025 : (.instanceMethod yX5_leastPeakBy : Cond) ∈ gtb := gtb_t4 165 rfl rfl
theorem q1026 : (.code yX5_leastPeakBy cX5_leastPeakBy 6 (some .int) : Cond) ∈ gtb := gtb_t4 166 rfl rfl
theorem q1027 : (.methodLink RX5 213 yJ9_min_7cf53 : Cond) ∈ gtb := gtb_t4 167 rfl rfl
theorem q1028 : (.methodLink RX5 210 yX5_leastPeakByTwo : Cond) ∈ gtb := gtb_t4 168 rfl rfl
theorem q1030 : (.instanceMethod yX5_leastPeakByTwo : Cond) ∈ gtb := gtb_t4 170 rfl rfl
theorem q1031 : (.code yX5_leastPeakByTwo cX5_leastPeakByTwo 6 (some .int) : Cond) ∈ gtb := gtb_t4 171 rfl rfl
theorem q1032 : (.methodLink RX5 216 yX5_leastPeakByLater : Cond) ∈ gtb := gtb_t4 172 rfl rfl
theorem q1034 : (.instanceMethod yX5_leastPeakByLater : Cond) ∈ gtb := gtb_t4 174 rfl rfl
theorem q1035 : (.code yX5_leastPeakByLater cX5_leastPeakByLater 4 (some .int) : Cond) ∈ gtb := gtb_t4 175 rfl rfl
theorem q1040 : (.methodLink RX9 166 yX2_p : Cond) ∈ gtb := gtb_t4 180 rfl rfl
theorem q1041 : (.methodLink RX9 169 yX1_widthOf : Cond) ∈ gtb := gtb_t4 181 rfl rfl
theorem q1042 : (.methodLink RX9 174 yX2_spotFor : Cond) ∈ gtb := gtb_t4 182 rfl rfl
theorem q1043 : (.methodLink RX9 177 yX1_slotOf : Cond) ∈ gtb := gtb_t4 183 rfl rfl
theorem q1044 : (.methodLink RX9 180 yX1_columnOf : Cond) ∈ gtb := gtb_t4 184 rfl rfl
theorem q1049 : (.methodLink RX9 183 yX7_has : Cond) ∈ gtb := gtb_t4 189 rfl rfl
theorem q1050 : (.methodLink RX9 184 yX2_freeIn : Cond) ∈ gtb := gtb_t4 190 rfl rfl
theorem q1051 : (.methodLink RX9 187 yX1_starts : Cond) ∈ gtb := gtb_t4 191 rfl rfl
theorem q1052 : (.methodLink RX9 190 yJ6_bitCount_0f7a4 : Cond) ∈ gtb := gtb_t4 192 rfl rfl
theorem q1053 : (.methodLink RX9 195 yX1_lowest : Cond) ∈ gtb := gtb_t4 193 rfl rfl
theorem q1058 : (.methodLink RX9 198 yX4_inBlock : Cond) ∈ gtb := gtb_t4 198 rfl rfl
theorem q1059 : (.instanceMethod yX4_inBlock : Cond) ∈ gtb := gtb_t4 199 rfl rfl
theorem q1060 : (.selects RX4 yX4_inBlock yX4_inBlock : Cond) ∈ gtb := gtb_t4 200 rfl rfl
theorem q1061 : (.code yX4_inBlock cX4_inBlock 4 (some .int) : Cond) ∈ gtb := gtb_t4 201 rfl rfl
theorem q1062 : (.methodLink RX4 41 yX4_block : Cond) ∈ gtb := gtb_t4 202 rfl rfl
theorem q1067 : (.methodLink RX9 201 yX7_loadOf : Cond) ∈ gtb := gtb_t4 207 rfl rfl
theorem q1076 : (.constant RX9 208 (-100000000) : Cond) ∈ gtb := gtb_t4 216 rfl rfl
theorem q1077 : (.methodLink RX9 216 yX4_ofUser : Cond) ∈ gtb := gtb_t4 217 rfl rfl
theorem q1078 : (.instanceMethod yX4_ofUser : Cond) ∈ gtb := gtb_t4 218 rfl rfl
theorem q1079 : (.selects RX4 yX4_ofUser yX4_ofUser : Cond) ∈ gtb := gtb_t4 219 rfl rfl
theorem q1080 : (.code yX4_ofUser cX4_ofUser 6 (some .int) : Cond) ∈ gtb := gtb_t4 220 rfl rfl
theorem q1081 : (.methodLink RX9 220 yX4_waitedOf : Cond) ∈ gtb := gtb_t4 221 rfl rfl
theorem q1082 : (.instanceMethod yX4_waitedOf : Cond) ∈ gtb := gtb_t4 222 rfl rfl
theorem q1083 : (.selects RX4 yX4_waitedOf yX4_waitedOf : Cond) ∈ gtb := gtb_t4 223 rfl rfl
theorem q1084 : (.code yX4_waitedOf cX4_waitedOf 4 (some .int) : Cond) ∈ gtb := gtb_t4 224 rfl rfl
theorem q1085 : (.methodLink RX9 223 yX8_owed : Cond) ∈ gtb := gtb_t4 225 rfl rfl
theorem q1086 : (.instanceMethod yX8_owed : Cond) ∈ gtb := gtb_t4 226 rfl rfl
theorem q1087 : (.selects RX8 yX8_owed yX8_owed : Cond) ∈ gtb := gtb_t4 227 rfl rfl
theorem q1088 : (.code yX8_owed cX8_owed 8 (some .int) : Cond) ∈ gtb := gtb_t4 228 rfl rfl
theorem q1093 : (.methodLink RX9 226 yX4_inSlot : Cond) ∈ gtb := gtb_t4 233 rfl rfl
theorem q1094 : (.instanceMethod yX4_inSlot : Cond) ∈ gtb := gtb_t4 234 rfl rfl
theorem q1095 : (.selects RX4 yX4_inSlot yX4_inSlot : Cond) ∈ gtb := gtb_t4 235 rfl rfl
theorem q1096 : (.code yX4_inSlot cX4_inSlot 4 (some .int) : Cond) ∈ gtb := gtb_t4 236 rfl rfl
theorem q1097 : (.methodLink RX9 229 yX2_weightOf : Cond) ∈ gtb := gtb_t4 237 rfl rfl
theorem q1098 : (.methodLink RX9 236 yX7_leastPass : Cond) ∈ gtb := gtb_t4 238 rfl rfl
theorem q1099 : (.methodLink RX9 246 yX4_cellsIn : Cond) ∈ gtb := gtb_t4 239 rfl rfl
theorem q1104 : (.methodLink RX9 249 yX2_lineUp : Cond) ∈ gtb := gtb_t5 4 rfl rfl
theorem q1109 : (.methodLink RX9 259 yX3_choose : Cond) ∈ gtb := gtb_t5 9 rfl rfl
theorem q1110 : (.methodLink RX9 268 yX3_lentAt : Cond) ∈ gtb := gtb_t5 10 rfl rfl
theorem q1111 : (.instanceMethod yX3_lentAt : Cond) ∈ gtb := gtb_t5 11 rfl rfl
theorem q1112 : (.selects RX3 yX3_lentAt yX3_lentAt : Cond) ∈ gtb := gtb_t5 12 rfl rfl
theorem q1113 : (.code yX3_lentAt cX3_lentAt 2 (some .int) : Cond) ∈ gtb := gtb_t5 13 rfl rfl
theorem q1118 : (.methodLink RX9 271 yX2_copyFrom : Cond) ∈ gtb := gtb_t5 18 rfl rfl
theorem q1119 : (.instanceMethod yX2_copyFrom : Cond) ∈ gtb := gtb_t5 19 rfl rfl
theorem q1120 : (.selects RX2 yX2_copyFrom yX2_copyFrom : Cond) ∈ gtb := gtb_t5 20 rfl rfl
theorem q1121 : (.code yX2_copyFrom cX2_copyFrom 2 (none) : Cond) ∈ gtb := gtb_t5 21 rfl rfl
theorem q1122 : (.methodLink RX2 80 yX4_copyFrom : Cond) ∈ gtb := gtb_t5 22 rfl rfl
theorem q1123 : (.instanceMethod yX4_copyFrom : Cond) ∈ gtb := gtb_t5 23 rfl rfl
theorem q1124 : (.selects RX4 yX4_copyFrom yX4_copyFrom : Cond) ∈ gtb := gtb_t5 24 rfl rfl
theorem q1125 : (.code yX4_copyFrom cX4_copyFrom 3 (none) : Cond) ∈ gtb := gtb_t5 25 rfl rfl
theorem q1126 : (.methodLink RX4 52 arraycopyName : Cond) ∈ gtb := gtb_t5 26 rfl rfl
theorem q1127 : (.methodLink RX2 84 yX8_copyFrom : Cond) ∈ gtb := gtb_t5 27 rfl rfl
theorem q1128 : (.instanceMethod yX8_copyFrom : Cond) ∈ gtb := gtb_t5 28 rfl rfl
theorem q1129 : (.selects RX8 yX8_copyFrom yX8_copyFrom : Cond) ∈ gtb := gtb_t5 29 rfl rfl
theorem q1130 : (.code yX8_copyFrom cX8_copyFrom 2 (none) : Cond) ∈ gtb := gtb_t5 30 rfl rfl
theorem q1131 : (.methodLink RX8 19 arraycopyName : Cond) ∈ gtb := gtb_t5 31 rfl rfl
theorem q1132 : (.methodLink RX2 87 yX7_copyFrom : Cond) ∈ gtb := gtb_t5 32 rfl rfl
theorem q1133 : (.instanceMethod yX7_copyFrom : Cond) ∈ gtb := gtb_t5 33 rfl rfl
theorem q1134 : (.selects RX7 yX7_copyFrom yX7_copyFrom : Cond) ∈ gtb := gtb_t5 34 rfl rfl
theorem q1135 : (.code yX7_copyFrom cX7_copyFrom 2 (none) : Cond) ∈ gtb := gtb_t5 35 rfl rfl
theorem q1136 : (.methodLink RX7 46 arraycopyName : Cond) ∈ gtb := gtb_t5 36 rfl rfl
theorem q1137 : (.methodLink RX2 90 yX0_copyFrom : Cond) ∈ gtb := gtb_t5 37 rfl rfl
theorem q1138 : (.instanceMethod yX0_copyFrom : Cond) ∈ gtb := gtb_t5 38 rfl rfl
theorem q1139 : (.selects RX0 yX0_copyFrom yX0_copyFrom : Cond) ∈ gtb := gtb_t5 39 rfl rfl
theorem q1140 : (.code yX0_copyFrom cX0_copyFrom 3 (none) : Cond) ∈ gtb := gtb_t5 40 rfl rfl
theorem q1141 : (.methodLink RX0 24 arraycopyName : Cond) ∈ gtb := gtb_t5 41 rfl rfl
theorem q1142 : (.methodLink RX2 93 yX6_copyFrom : Cond) ∈ gtb := gtb_t5 42 rfl rfl
theorem q1143 : (.instanceMethod yX6_copyFrom : Cond) ∈ gtb := gtb_t5 43 rfl rfl
theorem q1144 : (.selects RX6 yX6_copyFrom yX6_copyFrom : Cond) ∈ gtb := gtb_t5 44 rfl rfl
theorem q1145 : (.code yX6_copyFrom cX6_copyFrom 3 (none) : Cond) ∈ gtb := gtb_t5 45 rfl rfl
theorem q1146 : (.methodLink RX6 29 arraycopyName : Cond) ∈ gtb := gtb_t5 46 rfl rfl
theorem q1147 : (.methodLink RX9 274 yX4_inState : Cond) ∈ gtb := gtb_t5 47 rfl rfl
theorem q1148 : (.methodLink RX9 277 yX9_tallied : Cond) ∈ gtb := gtb_t5 48 rfl rfl
theorem q1150 : (.instanceMethod yX9_tallied : Cond) ∈ gtb := gtb_t5 50 rfl rfl
theorem q1151 : (.code yX9_tallied cX9_tallied 2 (some .int) : Cond) ∈ gtb := gtb_t5 51 rfl rfl
theorem q1160 : (.methodLink RX9 287 yX6_valueAt : Cond) ∈ gtb := gtb_t5 60 rfl rfl
theorem q1161 : (.instanceMethod yX6_valueAt : Cond) ∈ gtb := gtb_t5 61 rfl rfl
theorem q1162 : (.selects RX6 yX6_valueAt yX6_valueAt : Cond) ∈ gtb := gtb_t5 62 rfl rfl
theorem q1163 : (.code yX6_valueAt cX6_valueAt 4 (some .int) : Cond) ∈ gtb := gtb_t5 63 rfl rfl
theorem q1164 : (.methodLink RX6 26 yJ9_min_7cf53 : Cond) ∈ gtb := gtb_t5 64 rfl rfl
theorem q1181 : (.methodLink RX9 304 yX7_peak : Cond) ∈ gtb := gtb_t5 81 rfl rfl
theorem q1182 : (.methodLink RX9 307 yX7_peakColumn : Cond) ∈ gtb := gtb_t5 82 rfl rfl
theorem q1189 : (.fieldLink RX10 60 "GangMatrixModel" "told" "I" : Cond) ∈ gtb := gtb_t5 89 rfl rfl
theorem q1190 : (.fieldLink RX10 7 "GangMatrixModel" "now" "[I" : Cond) ∈ gtb := gtb_t5 90 rfl rfl
theorem q1191 : (.fieldLink RX10 13 "GangMatrixModel" "waiting" "[I" : Cond) ∈ gtb := gtb_t5 91 rfl rfl
theorem q1192 : (.fieldLink RX10 16 "GangMatrixModel" "pass" "[J" : Cond) ∈ gtb := gtb_t5 92 rfl rfl
theorem q1193 : (.fieldLink RX10 20 "GangMatrixModel" "passWaiting" "[J" : Cond) ∈ gtb := gtb_t5 93 rfl rfl
theorem q1194 : (.fieldLink RX10 159 "GangMatrixModel" "placeSlot" "I" : Cond) ∈ gtb := gtb_t5 94 rfl rfl
theorem q1195 : (.fieldLink RX10 168 "GangMatrixModel" "placeColumn" "I" : Cond) ∈ gtb := gtb_t5 95 rfl rfl
theorem q1196 : (.fieldLink RX10 162 "GangMatrixModel" "bestFirst" "I" : Cond) ∈ gtb := gtb_t5 96 rfl rfl
theorem q1197 : (.fieldLink RX10 165 "GangMatrixModel" "bestSecond" "I" : Cond) ∈ gtb := gtb_t5 97 rfl rfl
theorem q1198 : (.fieldLink RX10 23 "GangMatrixModel" "queue" "[I" : Cond) ∈ gtb := gtb_t5 98 rfl rfl
theorem q1199 : (.fieldLink RX10 196 "GangMatrixModel" "queueMany" "I" : Cond) ∈ gtb := gtb_t5 99 rfl rfl
theorem q1200 : (.fieldLink RX10 26 "GangMatrixModel" "stack" "[I" : Cond) ∈ gtb := gtb_t5 100 rfl rfl
theorem q1201 : (.fieldLink RX10 29 "GangMatrixModel" "isPacked" "[Z" : Cond) ∈ gtb := gtb_t5 101 rfl rfl
theorem q1202 : (.fieldLink RX10 33 "GangMatrixModel" "packedIn" "[I" : Cond) ∈ gtb := gtb_t5 102 rfl rfl
theorem q1203 : (.fieldLink RX10 36 "GangMatrixModel" "packedSlot" "[I" : Cond) ∈ gtb := gtb_t5 103 rfl rfl
theorem q1204 : (.fieldLink RX10 39 "GangMatrixModel" "loads" "[I" : Cond) ∈ gtb := gtb_t5 104 rfl rfl
theorem q1205 : (.fieldLink RX10 274 "GangMatrixModel" "best" "I" : Cond) ∈ gtb := gtb_t5 105 rfl rfl
theorem q1206 : (.fieldLink RX10 280 "GangMatrixModel" "saved" "I" : Cond) ∈ gtb := gtb_t5 106 rfl rfl
theorem q1207 : (.fieldLink RX10 42 "GangMatrixModel" "packTo" "[I" : Cond) ∈ gtb := gtb_t5 107 rfl rfl
theorem q1208 : (.fieldLink RX10 45 "GangMatrixModel" "isMovedNow" "[Z" : Cond) ∈ gtb := gtb_t5 108 rfl rfl
theorem q1209 : (.fieldLink RX10 311 "GangMatrixModel" "urgeSlot" "I" : Cond) ∈ gtb := gtb_t5 109 rfl rfl
theorem q1210 : (.fieldLink RX10 320 "GangMatrixModel" "urgeColumn" "I" : Cond) ∈ gtb := gtb_t5 110 rfl rfl
theorem q1211 : (.fieldLink RX10 317 "GangMatrixModel" "urgeMany" "I" : Cond) ∈ gtb := gtb_t5 111 rfl rfl
theorem q1212 : (.fieldLink RX10 314 "GangMatrixModel" "urgeLoss" "I" : Cond) ∈ gtb := gtb_t5 112 rfl rfl
theorem q1213 : (.fieldLink RX10 48 "GangMatrixModel" "lenders" "[I" : Cond) ∈ gtb := gtb_t5 113 rfl rfl
theorem q1214 : (.fieldLink RX10 338 "GangMatrixModel" "lenderMany" "I" : Cond) ∈ gtb := gtb_t5 114 rfl rfl
theorem q1215 : (.fieldLink RX10 51 "GangMatrixModel" "others" "[I" : Cond) ∈ gtb := gtb_t5 115 rfl rfl
theorem q1216 : (.fieldLink RX10 407 "GangMatrixModel" "hasImage" "Z" : Cond) ∈ gtb := gtb_t5 116 rfl rfl
theorem q1217 : (.fieldLink RX10 54 "GangMatrixModel" "images" "[I" : Cond) ∈ gtb := gtb_t5 117 rfl rfl
theorem q1218 : (.fieldLink RX10 57 "GangMatrixModel" "passImages" "[J" : Cond) ∈ gtb := gtb_t5 118 rfl rfl
theorem q1285 : (.methodLink RX10 78 yX10_canSet : Cond) ∈ gtb := gtb_t5 185 rfl rfl
theorem q1287 : (.instanceMethod yX10_canSet : Cond) ∈ gtb := gtb_t5 187 rfl rfl
theorem q1288 : (.code yX10_canSet cX10_canSet 3 (some .boolean) : Cond) ∈ gtb := gtb_t5 188 rfl rfl
theorem q1289 : (.methodLink RX10 71 yX10_isIn : Cond) ∈ gtb := gtb_t5 189 rfl rfl
theorem q1291 : (.instanceMethod yX10_isIn : Cond) ∈ gtb := gtb_t5 191 rfl rfl
theorem q1292 : (.code yX10_isIn cX10_isIn 4 (some .boolean) : Cond) ∈ gtb := gtb_t5 192 rfl rfl
theorem q1293 : (.methodLink RX10 75 yX10_mostOf : Cond) ∈ gtb := gtb_t5 193 rfl rfl
theorem q1295 : (.instanceMethod yX10_mostOf : Cond) ∈ gtb := gtb_t5 195 rfl rfl
theorem q1296 : (.code yX10_mostOf cX10_mostOf 2 (some .int) : Cond) ∈ gtb := gtb_t5 196 rfl rfl
theorem q1297 : (.methodLink RX10 64 yX10_firstOf : Cond) ∈ gtb := gtb_t5 197 rfl rfl
theorem q1299 : (.instanceMethod yX10_firstOf : Cond) ∈ gtb := gtb_t5 199 rfl rfl
theorem q1300 : (.code yX10_firstOf cX10_firstOf 2 (some .int) : Cond) ∈ gtb := gtb_t5 200 rfl rfl
theorem q1301 : (.methodLink RX10 82 yX10_goesOn : Cond) ∈ gtb := gtb_t5 201 rfl rfl
theorem q1303 : (.instanceMethod yX10_goesOn : Cond) ∈ gtb := gtb_t5 203 rfl rfl
theorem q1304 : (.code yX10_goesOn cX10_goesOn 6 (none) : Cond) ∈ gtb := gtb_t5 204 rfl rfl
theorem q1305 : (.methodLink RX10 202 yX10_laysQueue : Cond) ∈ gtb := gtb_t5 205 rfl rfl
theorem q1307 : (.instanceMethod yX10_laysQueue : Cond) ∈ gtb := gtb_t5 207 rfl rfl
theorem q1308 : (.code yX10_laysQueue cX10_laysQueue 3 (none) : Cond) ∈ gtb := gtb_t5 208 rfl rfl
theorem q1309 : (.methodLink RX10 89 yX10_at : Cond) ∈ gtb := gtb_t5 209 rfl rfl
theorem q1311 : (.instanceMethod yX10_at : Cond) ∈ gtb := gtb_t5 211 rfl rfl
theorem q1312 : (.code yX10_at cX10_at 3 (some .int) : Cond) ∈ gtb := gtb_t5 212 rfl rfl
theorem q1313 : (.methodLink RX10 199 yX10_isAhead : Cond) ∈ gtb := gtb_t5 213 rfl rfl
theorem q1315 : (.instanceMethod yX10_isAhead : Cond) ∈ gtb := gtb_t5 215 rfl rfl
theorem q1316 : (.code yX10_isAhead cX10_isAhead 4 (some .boolean) : Cond) ∈ gtb := gtb_t5 216 rfl rfl
theorem q1317 : (.methodLink RX10 68 yX10_settingOf : Cond) ∈ gtb := gtb_t5 217 rfl rfl
theorem q1319 : (.instanceMethod yX10_settingOf : Cond) ∈ gtb := gtb_t5 219 rfl rfl
theorem q1320 : (.code yX10_settingOf cX10_settingOf 2 (some .int) : Cond) ∈ gtb := gtb_t5 220 rfl rfl
theorem q1321 : (.methodLink RX10 193 yX10_ratios : Cond) ∈ gtb := gtb_t5 221 rfl rfl
theorem q1323 : (.instanceMethod yX10_ratios : Cond) ∈ gtb := gtb_t5 223 rfl rfl
theorem q1324 : (.code yX10_ratios cX10_ratios 3 (some .int) : Cond) ∈ gtb := gtb_t5 224 rfl rfl
theorem q1325 : (.methodLink RX10 190 yX10_shareOf : Cond) ∈ gtb := gtb_t5 225 rfl rfl
theorem q1327 : (.instanceMethod yX10_shareOf : Cond) ∈ gtb := gtb_t5 227 rfl rfl
theorem q1328 : (.code yX10_shareOf cX10_shareOf 2 (some .int) : Cond) ∈ gtb := gtb_t5 228 rfl rfl
theorem q1329 : (.methodLink RX10 205 yX10_places : Cond) ∈ gtb := gtb_t5 229 rfl rfl
theorem q1331 : (.instanceMethod yX10_places : Cond) ∈ gtb := gtb_t5 231 rfl rfl
theorem q1332 : (.code yX10_places cX10_places 3 (some .boolean) : Cond) ∈ gtb := gtb_t5 232 rfl rfl
theorem q1333 : (.methodLink RX10 174 yX10_finds : Cond) ∈ gtb := gtb_t5 233 rfl rfl
theorem q1335 : (.instanceMethod yX10_finds : Cond) ∈ gtb := gtb_t5 235 rfl rfl
theorem q1336 : (.code yX10_finds cX10_finds 4 (some .boolean) : Cond) ∈ gtb := gtb_t5 236 rfl rfl
theorem q1337 : (.methodLink RX10 109 yX10_columns : Cond) ∈ gtb := gtb_t5 237 rfl rfl
theorem q1339 : (.instanceMethod yX10_columns : Cond) ∈ gtb := gtb_t5 239 rfl rfl
theorem q1340 : (.code yX10_columns cX10_columns 1 (some .int) : Cond) ∈ gtb := gtb_t6 0 rfl rfl
theorem q1341 : (.methodLink RX10 143 yX10_isFree : Cond) ∈ gtb := gtb_t6 1 rfl rfl
theorem q1343 : (.instanceMethod yX10_isFree : Cond) ∈ gtb := gtb_t6 3 rfl rfl
theorem q1344 : (.code yX10_isFree cX10_isFree 4 (some .boolean) : Cond) ∈ gtb := gtb_t6 4 rfl rfl
theorem q1345 : (.methodLink RX10 122 yX10_blocksIn : Cond) ∈ gtb := gtb_t6 5 rfl rfl
theorem q1347 : (.instanceMethod yX10_blocksIn : Cond) ∈ gtb := gtb_t6 7 rfl rfl
theorem q1348 : (.code yX10_blocksIn cX10_blocksIn 5 (some .int) : Cond) ∈ gtb := gtb_t6 8 rfl rfl
theorem q1349 : (.methodLink RX10 113 yX10_isAt : Cond) ∈ gtb := gtb_t6 9 rfl rfl
theorem q1351 : (.instanceMethod yX10_isAt : Cond) ∈ gtb := gtb_t6 11 rfl rfl
theorem q1352 : (.code yX10_isAt cX10_isAt 3 (some .boolean) : Cond) ∈ gtb := gtb_t6 12 rfl rfl
theorem q1353 : (.methodLink RX10 97 yX10_isPlaced : Cond) ∈ gtb := gtb_t6 13 rfl rfl
theorem q1355 : (.instanceMethod yX10_isPlaced : Cond) ∈ gtb := gtb_t6 15 rfl rfl
theorem q1356 : (.code yX10_isPlaced cX10_isPlaced 2 (some .boolean) : Cond) ∈ gtb := gtb_t6 16 rfl rfl
theorem q1357 : (.methodLink RX10 100 yX10_slotOf : Cond) ∈ gtb := gtb_t6 17 rfl rfl
theorem q1359 : (.instanceMethod yX10_slotOf : Cond) ∈ gtb := gtb_t6 19 rfl rfl
theorem q1360 : (.code yX10_slotOf cX10_slotOf 2 (some .int) : Cond) ∈ gtb := gtb_t6 20 rfl rfl
theorem q1361 : (.methodLink RX10 116 yX10_blockOf : Cond) ∈ gtb := gtb_t6 21 rfl rfl
theorem q1363 : (.instanceMethod yX10_blockOf : Cond) ∈ gtb := gtb_t6 23 rfl rfl
theorem q1364 : (.code yX10_blockOf cX10_blockOf 2 (some .int) : Cond) ∈ gtb := gtb_t6 24 rfl rfl
theorem q1365 : (.methodLink RX10 103 yX10_columnOf : Cond) ∈ gtb := gtb_t6 25 rfl rfl
theorem q1367 : (.instanceMethod yX10_columnOf : Cond) ∈ gtb := gtb_t6 27 rfl rfl
theorem q1368 : (.code yX10_columnOf cX10_columnOf 2 (some .int) : Cond) ∈ gtb := gtb_t6 28 rfl rfl
theorem q1369 : (.methodLink RX10 106 yX10_bits : Cond) ∈ gtb := gtb_t6 29 rfl rfl
theorem q1371 : (.instanceMethod yX10_bits : Cond) ∈ gtb := gtb_t6 31 rfl rfl
theorem q1372 : (.code yX10_bits cX10_bits 3 (some .int) : Cond) ∈ gtb := gtb_t6 32 rfl rfl
theorem q1373 : (.methodLink RX10 171 yX10_weighs : Cond) ∈ gtb := gtb_t6 33 rfl rfl
theorem q1375 : (.instanceMethod yX10_weighs : Cond) ∈ gtb := gtb_t6 35 rfl rfl
theorem q1376 : (.code yX10_weighs cX10_weighs 7 (none) : Cond) ∈ gtb := gtb_t6 36 rfl rfl
theorem q1377 : (.methodLink RX10 149 yX10_roomOf : Cond) ∈ gtb := gtb_t6 37 rfl rfl
theorem q1379 : (.instanceMethod yX10_roomOf : Cond) ∈ gtb := gtb_t6 39 rfl rfl
theorem q1380 : (.code yX10_roomOf cX10_roomOf 6 (some .int) : Cond) ∈ gtb := gtb_t6 40 rfl rfl
theorem q1381 : (.methodLink RX10 153 yX10_greatestIn : Cond) ∈ gtb := gtb_t6 41 rfl rfl
theorem q1383 : (.instanceMethod yX10_greatestIn : Cond) ∈ gtb := gtb_t6 43 rfl rfl
theorem q1384 : (.code yX10_greatestIn cX10_greatestIn 6 (some .int) : Cond) ∈ gtb := gtb_t6 44 rfl rfl
theorem q1385 : (.methodLink RX10 146 yX10_loadOf : Cond) ∈ gtb := gtb_t6 45 rfl rfl
theorem q1387 : (.instanceMethod yX10_loadOf : Cond) ∈ gtb := gtb_t6 47 rfl rfl
theorem q1388 : (.code yX10_loadOf cX10_loadOf 4 (some .int) : Cond) ∈ gtb := gtb_t6 48 rfl rfl
theorem q1389 : (.methodLink RX10 156 yX10_sumIn : Cond) ∈ gtb := gtb_t6 49 rfl rfl
theorem q1391 : (.instanceMethod yX10_sumIn : Cond) ∈ gtb := gtb_t6 51 rfl rfl
theorem q1392 : (.code yX10_sumIn cX10_sumIn 5 (some .int) : Cond) ∈ gtb := gtb_t6 52 rfl rfl
theorem q1393 : (.methodLink RX10 177 yX10_newSlot : Cond) ∈ gtb := gtb_t6 53 rfl rfl
theorem q1395 : (.instanceMethod yX10_newSlot : Cond) ∈ gtb := gtb_t6 55 rfl rfl
theorem q1396 : (.code yX10_newSlot cX10_newSlot 1 (none) : Cond) ∈ gtb := gtb_t6 56 rfl rfl
theorem q1397 : (.methodLink RX10 129 yX10_leastPass : Cond) ∈ gtb := gtb_t6 57 rfl rfl
theorem q1399 : (.instanceMethod yX10_leastPass : Cond) ∈ gtb := gtb_t6 59 rfl rfl
theorem q1400 : (.code yX10_leastPass cX10_leastPass 4 (some .long) : Cond) ∈ gtb := gtb_t6 60 rfl rfl
theorem q1401 : (.methodLink RX10 125 yX10_more : Cond) ∈ gtb := gtb_t6 61 rfl rfl
theorem q1403 : (.instanceMethod yX10_more : Cond) ∈ gtb := gtb_t6 63 rfl rfl
theorem q1404 : (.code yX10_more cX10_more 3 (none) : Cond) ∈ gtb := gtb_t6 64 rfl rfl
theorem q1405 : (.methodLink RX10 180 yX10_isPut : Cond) ∈ gtb := gtb_t6 65 rfl rfl
theorem q1407 : (.instanceMethod yX10_isPut : Cond) ∈ gtb := gtb_t6 67 rfl rfl
theorem q1408 : (.code yX10_isPut cX10_isPut 5 (none) : Cond) ∈ gtb := gtb_t6 68 rfl rfl
theorem q1409 : (.methodLink RX10 93 yX10_lay : Cond) ∈ gtb := gtb_t6 69 rfl rfl
theorem q1411 : (.instanceMethod yX10_lay : Cond) ∈ gtb := gtb_t6 71 rfl rfl
theorem q1412 : (.code yX10_lay cX10_lay 4 (none) : Cond) ∈ gtb := gtb_t6 72 rfl rfl
theorem q1413 : (.methodLink RX10 184 yX10_writes : Cond) ∈ gtb := gtb_t6 73 rfl rfl
theorem q1415 : (.instanceMethod yX10_writes : Cond) ∈ gtb := gtb_t6 75 rfl rfl
theorem q1416 : (.code yX10_writes cX10_writes 6 (none) : Cond) ∈ gtb := gtb_t6 76 rfl rfl
theorem q1417 : (.methodLink RX10 133 yX10_moreOf : Cond) ∈ gtb := gtb_t6 77 rfl rfl
theorem q1419 : (.instanceMethod yX10_moreOf : Cond) ∈ gtb := gtb_t6 79 rfl rfl
theorem q1420 : (.code yX10_moreOf cX10_moreOf 4 (none) : Cond) ∈ gtb := gtb_t6 80 rfl rfl
theorem q1425 : (.methodLink RX10 85 yX10_isUser : Cond) ∈ gtb := gtb_t6 85 rfl rfl
theorem q1427 : (.instanceMethod yX10_isUser : Cond) ∈ gtb := gtb_t6 87 rfl rfl
theorem q1428 : (.code yX10_isUser cX10_isUser 2 (some .boolean) : Cond) ∈ gtb := gtb_t6 88 rfl rfl
theorem q1433 : (.methodLink RX10 187 yX10_widthOf : Cond) ∈ gtb := gtb_t6 93 rfl rfl
theorem q1435 : (.instanceMethod yX10_widthOf : Cond) ∈ gtb := gtb_t6 95 rfl rfl
theorem q1436 : (.code yX10_widthOf cX10_widthOf 3 (some .int) : Cond) ∈ gtb := gtb_t6 96 rfl rfl
theorem q1445 : (.methodLink RX10 211 yX10_canCome : Cond) ∈ gtb := gtb_t6 105 rfl rfl
theorem q1447 : (.instanceMethod yX10_canCome : Cond) ∈ gtb := gtb_t6 107 rfl rfl
theorem q1448 : (.code yX10_canCome cX10_canCome 4 (some .boolean) : Cond) ∈ gtb := gtb_t6 108 rfl rfl
theorem q1449 : (.methodLink RX10 214 yX10_isJob : Cond) ∈ gtb := gtb_t6 109 rfl rfl
theorem q1451 : (.instanceMethod yX10_isJob : Cond) ∈ gtb := gtb_t6 111 rfl rfl
theorem q1452 : (.code yX10_isJob cX10_isJob 2 (some .boolean) : Cond) ∈ gtb := gtb_t6 112 rfl rfl
theorem q1453 : (.methodLink RX10 217 yX10_comes : Cond) ∈ gtb := gtb_t6 113 rfl rfl
theorem q1455 : (.instanceMethod yX10_comes : Cond) ∈ gtb := gtb_t6 115 rfl rfl
theorem q1456 : (.code yX10_comes cX10_comes 7 (some .int) : Cond) ∈ gtb := gtb_t6 116 rfl rfl
theorem q1457 : (.methodLink RX10 208 yX10_waits : Cond) ∈ gtb := gtb_t6 117 rfl rfl
theorem q1459 : (.instanceMethod yX10_waits : Cond) ∈ gtb := gtb_t6 119 rfl rfl
theorem q1460 : (.code yX10_waits cX10_waits 2 (none) : Cond) ∈ gtb := gtb_t6 120 rfl rfl
theorem q1465 : (.constant RX10 221 (99999) : Cond) ∈ gtb := gtb_t6 125 rfl rfl
theorem q1466 : (.methodLink RX10 222 yX10_arrivalAt : Cond) ∈ gtb := gtb_t6 126 rfl rfl
theorem q1468 : (.instanceMethod yX10_arrivalAt : Cond) ∈ gtb := gtb_t6 128 rfl rfl
theorem q1469 : (.code yX10_arrivalAt cX10_arrivalAt 2 (some .int) : Cond) ∈ gtb := gtb_t6 129 rfl rfl
theorem q1474 : (.methodLink RX10 228 yX10_kills : Cond) ∈ gtb := gtb_t6 134 rfl rfl
theorem q1476 : (.instanceMethod yX10_kills : Cond) ∈ gtb := gtb_t6 136 rfl rfl
theorem q1477 : (.code yX10_kills cX10_kills 6 (some .int) : Cond) ∈ gtb := gtb_t6 137 rfl rfl
theorem q1478 : (.methodLink RX10 225 yX10_isNowhere : Cond) ∈ gtb := gtb_t6 138 rfl rfl
theorem q1480 : (.instanceMethod yX10_isNowhere : Cond) ∈ gtb := gtb_t6 140 rfl rfl
theorem q1481 : (.code yX10_isNowhere cX10_isNowhere 3 (none) : Cond) ∈ gtb := gtb_t6 141 rfl rfl
theorem q1482 : (.methodLink RX10 231 yX10_closes : Cond) ∈ gtb := gtb_t6 142 rfl rfl
theorem q1484 : (.instanceMethod yX10_closes : Cond) ∈ gtb := gtb_t6 144 rfl rfl
theorem q1485 : (.code yX10_closes cX10_closes 2 (none) : Cond) ∈ gtb := gtb_t6 145 rfl rfl
theorem q1486 : (.methodLink RX10 136 yX10_jobsIn : Cond) ∈ gtb := gtb_t6 146 rfl rfl
theorem q1488 : (.instanceMethod yX10_jobsIn : Cond) ∈ gtb := gtb_t6 148 rfl rfl
theorem q1489 : (.code yX10_jobsIn cX10_jobsIn 4 (some .int) : Cond) ∈ gtb := gtb_t6 149 rfl rfl
theorem q1490 : (.methodLink RX10 139 yX10_dropsSlot : Cond) ∈ gtb := gtb_t6 150 rfl rfl
theorem q1492 : (.instanceMethod yX10_dropsSlot : Cond) ∈ gtb := gtb_t6 152 rfl rfl
theorem q1493 : (.code yX10_dropsSlot cX10_dropsSlot 3 (none) : Cond) ∈ gtb := gtb_t6 153 rfl rfl
theorem q1498 : (.methodLink RX10 234 yX10_isColumn : Cond) ∈ gtb := gtb_t6 158 rfl rfl
theorem q1500 : (.instanceMethod yX10_isColumn : Cond) ∈ gtb := gtb_t6 160 rfl rfl
theorem q1501 : (.code yX10_isColumn cX10_isColumn 2 (some .boolean) : Cond) ∈ gtb := gtb_t6 161 rfl rfl
theorem q1502 : (.methodLink RX10 237 yX10_isDown : Cond) ∈ gtb := gtb_t6 162 rfl rfl
theorem q1504 : (.instanceMethod yX10_isDown : Cond) ∈ gtb := gtb_t6 164 rfl rfl
theorem q1505 : (.code yX10_isDown cX10_isDown 2 (some .boolean) : Cond) ∈ gtb := gtb_t6 165 rfl rfl
theorem q1506 : (.methodLink RX10 240 yX10_putsBack : Cond) ∈ gtb := gtb_t6 166 rfl rfl
theorem q1508 : (.instanceMethod yX10_putsBack : Cond) ∈ gtb := gtb_t6 168 rfl rfl
theorem q1509 : (.code yX10_putsBack cX10_putsBack 3 (none) : Cond) ∈ gtb := gtb_t6 169 rfl rfl
theorem q1518 : (.methodLink RX10 247 yX10_unifies : Cond) ∈ gtb := gtb_t6 178 rfl rfl
theorem q1520 : (.instanceMethod yX10_unifies : Cond) ∈ gtb := gtb_t6 180 rfl rfl
theorem q1521 : (.code yX10_unifies cX10_unifies 2 (some .int) : Cond) ∈ gtb := gtb_t6 181 rfl rfl
theorem q1522 : (.methodLink RX10 243 yX10_unifiesOne : Cond) ∈ gtb := gtb_t6 182 rfl rfl
theorem q1524 : (.instanceMethod yX10_unifiesOne : Cond) ∈ gtb := gtb_t6 184 rfl rfl
theorem q1525 : (.code yX10_unifiesOne cX10_unifiesOne 4 (some .boolean) : Cond) ∈ gtb := gtb_t6 185 rfl rfl
theorem q1530 : (.methodLink RX10 256 yX10_packs : Cond) ∈ gtb := gtb_t6 190 rfl rfl
theorem q1532 : (.instanceMethod yX10_packs : Cond) ∈ gtb := gtb_t6 192 rfl rfl
theorem q1533 : (.code yX10_packs cX10_packs 6 (none) : Cond) ∈ gtb := gtb_t6 193 rfl rfl
theorem q1534 : (.methodLink RX10 253 yX10_nextToPack : Cond) ∈ gtb := gtb_t6 194 rfl rfl
theorem q1536 : (.instanceMethod yX10_nextToPack : Cond) ∈ gtb := gtb_t6 196 rfl rfl
theorem q1537 : (.code yX10_nextToPack cX10_nextToPack 3 (some .int) : Cond) ∈ gtb := gtb_t6 197 rfl rfl
theorem q1538 : (.methodLink RX10 250 yX10_packsAhead : Cond) ∈ gtb := gtb_t6 198 rfl rfl
theorem q1540 : (.instanceMethod yX10_packsAhead : Cond) ∈ gtb := gtb_t6 200 rfl rfl
theorem q1541 : (.code yX10_packsAhead cX10_packsAhead 3 (some .boolean) : Cond) ∈ gtb := gtb_t6 201 rfl rfl
theorem q1546 : (.methodLink RX10 262 yX10_canMove : Cond) ∈ gtb := gtb_t6 206 rfl rfl
theorem q1548 : (.instanceMethod yX10_canMove : Cond) ∈ gtb := gtb_t6 208 rfl rfl
theorem q1549 : (.code yX10_canMove cX10_canMove 4 (some .boolean) : Cond) ∈ gtb := gtb_t6 209 rfl rfl
theorem q1550 : (.methodLink RX10 265 yX10_isMoved : Cond) ∈ gtb := gtb_t6 210 rfl rfl
theorem q1552 : (.instanceMethod yX10_isMoved : Cond) ∈ gtb := gtb_t6 212 rfl rfl
theorem q1553 : (.code yX10_isMoved cX10_isMoved 3 (none) : Cond) ∈ gtb := gtb_t6 213 rfl rfl
theorem q1554 : (.methodLink RX10 259 yX10_stopOf : Cond) ∈ gtb := gtb_t6 214 rfl rfl
theorem q1556 : (.instanceMethod yX10_stopOf : Cond) ∈ gtb := gtb_t6 216 rfl rfl
theorem q1557 : (.code yX10_stopOf cX10_stopOf 2 (some .int) : Cond) ∈ gtb := gtb_t6 217 rfl rfl
theorem q1562 : (.constant RX10 286 (-1000000000) : Cond) ∈ gtb := gtb_t6 222 rfl rfl
theorem q1563 : (.methodLink RX10 287 yX10_findsBest : Cond) ∈ gtb := gtb_t6 223 rfl rfl
theorem q1565 : (.instanceMethod yX10_findsBest : Cond) ∈ gtb := gtb_t6 225 rfl rfl
theorem q1566 : (.code yX10_findsBest cX10_findsBest 6 (none) : Cond) ∈ gtb := gtb_t6 226 rfl rfl
theorem q1567 : (.methodLink RX10 268 yX10_laysLoads : Cond) ∈ gtb := gtb_t6 227 rfl rfl
theorem q1569 : (.instanceMethod yX10_laysLoads : Cond) ∈ gtb := gtb_t6 229 rfl rfl
theorem q1570 : (.code yX10_laysLoads cX10_laysLoads 2 (none) : Cond) ∈ gtb := gtb_t6 230 rfl rfl
theorem q1571 : (.methodLink RX10 271 yX10_greatest : Cond) ∈ gtb := gtb_t6 231 rfl rfl
theorem q1573 : (.instanceMethod yX10_greatest : Cond) ∈ gtb := gtb_t6 233 rfl rfl
theorem q1574 : (.code yX10_greatest cX10_greatest 3 (some .int) : Cond) ∈ gtb := gtb_t6 234 rfl rfl
theorem q1575 : (.methodLink RX10 277 yX10_loadsBy : Cond) ∈ gtb := gtb_t6 235 rfl rfl
theorem q1577 : (.instanceMethod yX10_loadsBy : Cond) ∈ gtb := gtb_t6 237 rfl rfl
theorem q1578 : (.code yX10_loadsBy cX10_loadsBy 5 (none) : Cond) ∈ gtb := gtb_t6 238 rfl rfl
theorem q1579 : (.methodLink RX10 290 yX10_gain : Cond) ∈ gtb := gtb_t6 239 rfl rfl
theorem q1581 : (.instanceMethod yX10_gain : Cond) ∈ gtb := gtb_t7 1 rfl rfl
theorem q1582 : (.code yX10_gain cX10_gain 1 (some .int) : Cond) ∈ gtb := gtb_t7 2 rfl rfl
theorem q1583 : (.methodLink RX10 283 yX10_leastLeft : Cond) ∈ gtb := gtb_t7 3 rfl rfl
theorem q1585 : (.instanceMethod yX10_leastLeft : Cond) ∈ gtb := gtb_t7 5 rfl rfl
theorem q1586 : (.code yX10_leastLeft cX10_leastLeft 3 (some .int) : Cond) ∈ gtb := gtb_t7 6 rfl rfl
theorem q1587 : (.methodLink RX10 293 yX10_cost : Cond) ∈ gtb := gtb_t7 7 rfl rfl
theorem q1589 : (.instanceMethod yX10_cost : Cond) ∈ gtb := gtb_t7 9 rfl rfl
theorem q1590 : (.code yX10_cost cX10_cost 2 (some .int) : Cond) ∈ gtb := gtb_t7 10 rfl rfl
theorem q1599 : (.methodLink RX10 305 yX10_packedAll : Cond) ∈ gtb := gtb_t7 19 rfl rfl
theorem q1601 : (.instanceMethod yX10_packedAll : Cond) ∈ gtb := gtb_t7 21 rfl rfl
theorem q1602 : (.code yX10_packedAll cX10_packedAll 7 (some .int) : Cond) ∈ gtb := gtb_t7 22 rfl rfl
theorem q1603 : (.methodLink RX10 299 yX10_laysPack : Cond) ∈ gtb := gtb_t7 23 rfl rfl
theorem q1605 : (.instanceMethod yX10_laysPack : Cond) ∈ gtb := gtb_t7 25 rfl rfl
theorem q1606 : (.code yX10_laysPack cX10_laysPack 3 (none) : Cond) ∈ gtb := gtb_t7 26 rfl rfl
theorem q1607 : (.methodLink RX10 296 yX10_thinnest : Cond) ∈ gtb := gtb_t7 27 rfl rfl
theorem q1609 : (.instanceMethod yX10_thinnest : Cond) ∈ gtb := gtb_t7 29 rfl rfl
theorem q1610 : (.code yX10_thinnest cX10_thinnest 8 (some .int) : Cond) ∈ gtb := gtb_t7 30 rfl rfl
theorem q1611 : (.methodLink RX10 302 yX10_isOther : Cond) ∈ gtb := gtb_t7 31 rfl rfl
theorem q1613 : (.instanceMethod yX10_isOther : Cond) ∈ gtb := gtb_t7 33 rfl rfl
theorem q1614 : (.code yX10_isOther cX10_isOther 2 (some .boolean) : Cond) ∈ gtb := gtb_t7 34 rfl rfl
theorem q1623 : (.methodLink RX10 326 yX10_findsUrge : Cond) ∈ gtb := gtb_t7 43 rfl rfl
theorem q1625 : (.instanceMethod yX10_findsUrge : Cond) ∈ gtb := gtb_t7 45 rfl rfl
theorem q1626 : (.code yX10_findsUrge cX10_findsUrge 5 (some .boolean) : Cond) ∈ gtb := gtb_t7 46 rfl rfl
theorem q1627 : (.methodLink RX10 323 yX10_urgesAt : Cond) ∈ gtb := gtb_t7 47 rfl rfl
theorem q1629 : (.instanceMethod yX10_urgesAt : Cond) ∈ gtb := gtb_t7 49 rfl rfl
theorem q1630 : (.code yX10_urgesAt cX10_urgesAt 7 (none) : Cond) ∈ gtb := gtb_t7 50 rfl rfl
theorem q1631 : (.methodLink RX10 308 yX10_isInWay : Cond) ∈ gtb := gtb_t7 51 rfl rfl
theorem q1633 : (.instanceMethod yX10_isInWay : Cond) ∈ gtb := gtb_t7 53 rfl rfl
theorem q1634 : (.code yX10_isInWay cX10_isInWay 4 (some .boolean) : Cond) ∈ gtb := gtb_t7 54 rfl rfl
theorem q1643 : (.methodLink RX10 332 yX10_manyOf : Cond) ∈ gtb := gtb_t7 63 rfl rfl
theorem q1645 : (.instanceMethod yX10_manyOf : Cond) ∈ gtb := gtb_t7 65 rfl rfl
theorem q1646 : (.code yX10_manyOf cX10_manyOf 4 (some .int) : Cond) ∈ gtb := gtb_t7 66 rfl rfl
theorem q1647 : (.methodLink RX10 329 yX10_thinsOne : Cond) ∈ gtb := gtb_t7 67 rfl rfl
theorem q1649 : (.instanceMethod yX10_thinsOne : Cond) ∈ gtb := gtb_t7 69 rfl rfl
theorem q1650 : (.code yX10_thinsOne cX10_thinsOne 7 (some .int) : Cond) ∈ gtb := gtb_t7 70 rfl rfl
theorem q1651 : (.methodLink RX10 335 yX10_thinsTwo : Cond) ∈ gtb := gtb_t7 71 rfl rfl
theorem q1653 : (.instanceMethod yX10_thinsTwo : Cond) ∈ gtb := gtb_t7 73 rfl rfl
theorem q1654 : (.code yX10_thinsTwo cX10_thinsTwo 6 (some .int) : Cond) ∈ gtb := gtb_t7 74 rfl rfl
theorem q1659 : (.methodLink RX10 341 yX10_isSlot : Cond) ∈ gtb := gtb_t7 79 rfl rfl
theorem q1661 : (.instanceMethod yX10_isSlot : Cond) ∈ gtb := gtb_t7 81 rfl rfl
theorem q1662 : (.code yX10_isSlot cX10_isSlot 2 (some .boolean) : Cond) ∈ gtb := gtb_t7 82 rfl rfl
theorem q1663 : (.methodLink RX10 344 yX10_laysLenders : Cond) ∈ gtb := gtb_t7 83 rfl rfl
theorem q1665 : (.instanceMethod yX10_laysLenders : Cond) ∈ gtb := gtb_t7 85 rfl rfl
theorem q1666 : (.code yX10_laysLenders cX10_laysLenders 6 (none) : Cond) ∈ gtb := gtb_t7 86 rfl rfl
theorem q1667 : (.methodLink RX10 119 yX10_cellsOf : Cond) ∈ gtb := gtb_t7 87 rfl rfl
theorem q1669 : (.instanceMethod yX10_cellsOf : Cond) ∈ gtb := gtb_t7 89 rfl rfl
theorem q1670 : (.code yX10_cellsOf cX10_cellsOf 2 (some .int) : Cond) ∈ gtb := gtb_t7 90 rfl rfl
theorem q1675 : (.methodLink RX10 375 yX10_quanta : Cond) ∈ gtb := gtb_t7 95 rfl rfl
theorem q1677 : (.instanceMethod yX10_quanta : Cond) ∈ gtb := gtb_t7 97 rfl rfl
theorem q1678 : (.code yX10_quanta cX10_quanta 4 (some .int) : Cond) ∈ gtb := gtb_t7 98 rfl rfl
theorem q1679 : (.methodLink RX10 366 yX10_arrives : Cond) ∈ gtb := gtb_t7 99 rfl rfl
theorem q1681 : (.instanceMethod yX10_arrives : Cond) ∈ gtb := gtb_t7 101 rfl rfl
theorem q1682 : (.code yX10_arrives cX10_arrives 6 (none) : Cond) ∈ gtb := gtb_t7 102 rfl rfl
theorem q1683 : (.methodLink RX10 369 yX10_turns : Cond) ∈ gtb := gtb_t7 103 rfl rfl
theorem q1685 : (.instanceMethod yX10_turns : Cond) ∈ gtb := gtb_t7 105 rfl rfl
theorem q1686 : (.code yX10_turns cX10_turns 5 (none) : Cond) ∈ gtb := gtb_t7 106 rfl rfl
theorem q1687 : (.methodLink RX10 350 yX10_turnOf : Cond) ∈ gtb := gtb_t7 107 rfl rfl
theorem q1689 : (.instanceMethod yX10_turnOf : Cond) ∈ gtb := gtb_t7 109 rfl rfl
theorem q1690 : (.code yX10_turnOf cX10_turnOf 3 (some .int) : Cond) ∈ gtb := gtb_t7 110 rfl rfl
theorem q1691 : (.constant RX10 353 (1000000) : Cond) ∈ gtb := gtb_t7 111 rfl rfl
theorem q1692 : (.methodLink RX10 354 yX10_weightOf : Cond) ∈ gtb := gtb_t7 112 rfl rfl
theorem q1694 : (.instanceMethod yX10_weightOf : Cond) ∈ gtb := gtb_t7 114 rfl rfl
theorem q1695 : (.code yX10_weightOf cX10_weightOf 4 (some .int) : Cond) ∈ gtb := gtb_t7 115 rfl rfl
theorem q1696 : (.methodLink RX10 357 yX10_runs : Cond) ∈ gtb := gtb_t7 116 rfl rfl
theorem q1698 : (.instanceMethod yX10_runs : Cond) ∈ gtb := gtb_t7 118 rfl rfl
theorem q1699 : (.code yX10_runs cX10_runs 4 (none) : Cond) ∈ gtb := gtb_t7 119 rfl rfl
theorem q1700 : (.methodLink RX10 360 yX10_cellsIn : Cond) ∈ gtb := gtb_t7 120 rfl rfl
theorem q1702 : (.instanceMethod yX10_cellsIn : Cond) ∈ gtb := gtb_t7 122 rfl rfl
theorem q1703 : (.code yX10_cellsIn cX10_cellsIn 4 (some .int) : Cond) ∈ gtb := gtb_t7 123 rfl rfl
theorem q1704 : (.methodLink RX10 363 yX10_countsColumns : Cond) ∈ gtb := gtb_t7 124 rfl rfl
theorem q1706 : (.instanceMethod yX10_countsColumns : Cond) ∈ gtb := gtb_t7 126 rfl rfl
theorem q1707 : (.code yX10_countsColumns cX10_countsColumns 5 (none) : Cond) ∈ gtb := gtb_t7 127 rfl rfl
theorem q1708 : (.methodLink RX10 347 yX10_ones : Cond) ∈ gtb := gtb_t7 128 rfl rfl
theorem q1710 : (.instanceMethod yX10_ones : Cond) ∈ gtb := gtb_t7 130 rfl rfl
theorem q1711 : (.code yX10_ones cX10_ones 4 (some .int) : Cond) ∈ gtb := gtb_t7 131 rfl rfl
theorem q1712 : (.methodLink RX10 372 yX10_ends : Cond) ∈ gtb := gtb_t7 132 rfl rfl
theorem q1714 : (.instanceMethod yX10_ends : Cond) ∈ gtb := gtb_t7 134 rfl rfl
theorem q1715 : (.code yX10_ends cX10_ends 3 (some .int) : Cond) ∈ gtb := gtb_t7 135 rfl rfl
theorem q1720 : (.methodLink RX10 378 yX10_thinks : Cond) ∈ gtb := gtb_t7 140 rfl rfl
theorem q1722 : (.instanceMethod yX10_thinks : Cond) ∈ gtb := gtb_t7 142 rfl rfl
theorem q1723 : (.code yX10_thinks cX10_thinks 2 (none) : Cond) ∈ gtb := gtb_t7 143 rfl rfl
theorem q1724 : (.methodLink RX10 381 yX10_idle : Cond) ∈ gtb := gtb_t7 144 rfl rfl
theorem q1726 : (.instanceMethod yX10_idle : Cond) ∈ gtb := gtb_t7 146 rfl rfl
theorem q1727 : (.code yX10_idle cX10_idle 1 (some .int) : Cond) ∈ gtb := gtb_t7 147 rfl rfl
theorem q1728 : (.methodLink RX10 384 yX10_forgets : Cond) ∈ gtb := gtb_t7 148 rfl rfl
theorem q1730 : (.instanceMethod yX10_forgets : Cond) ∈ gtb := gtb_t7 150 rfl rfl
theorem q1731 : (.code yX10_forgets cX10_forgets 2 (none) : Cond) ∈ gtb := gtb_t7 151 rfl rfl
theorem q1756 : (.constant RX10 387 (-100000000) : Cond) ∈ gtb := gtb_t7 176 rfl rfl
theorem q1757 : (.methodLink RX10 388 yX10_jobsOf : Cond) ∈ gtb := gtb_t7 177 rfl rfl
theorem q1759 : (.instanceMethod yX10_jobsOf : Cond) ∈ gtb := gtb_t7 179 rfl rfl
theorem q1760 : (.code yX10_jobsOf cX10_jobsOf 5 (some .int) : Cond) ∈ gtb := gtb_t7 180 rfl rfl
theorem q1761 : (.methodLink RX10 392 yX10_waitedOf : Cond) ∈ gtb := gtb_t7 181 rfl rfl
theorem q1763 : (.instanceMethod yX10_waitedOf : Cond) ∈ gtb := gtb_t7 183 rfl rfl
theorem q1764 : (.code yX10_waitedOf cX10_waitedOf 4 (some .int) : Cond) ∈ gtb := gtb_t7 184 rfl rfl
theorem q1765 : (.methodLink RX10 395 yX10_usedOfAll : Cond) ∈ gtb := gtb_t7 185 rfl rfl
theorem q1767 : (.instanceMethod yX10_usedOfAll : Cond) ∈ gtb := gtb_t7 187 rfl rfl
theorem q1768 : (.code yX10_usedOfAll cX10_usedOfAll 3 (some .int) : Cond) ∈ gtb := gtb_t7 188 rfl rfl
theorem q1769 : (.methodLink RX10 398 yX10_shares : Cond) ∈ gtb := gtb_t7 189 rfl rfl
theorem q1771 : (.instanceMethod yX10_shares : Cond) ∈ gtb := gtb_t7 191 rfl rfl
theorem q1772 : (.code yX10_shares cX10_shares 3 (some .int) : Cond) ∈ gtb := gtb_t7 192 rfl rfl
theorem q1781 : (.methodLink RX10 401 yX10_ringAt : Cond) ∈ gtb := gtb_t7 201 rfl rfl
theorem q1783 : (.instanceMethod yX10_ringAt : Cond) ∈ gtb := gtb_t7 203 rfl rfl
theorem q1784 : (.code yX10_ringAt cX10_ringAt 3 (some .int) : Cond) ∈ gtb := gtb_t7 204 rfl rfl
theorem q1797 : (.methodLink RX10 404 yX10_firstGreatest : Cond) ∈ gtb := gtb_t7 217 rfl rfl
theorem q1799 : (.instanceMethod yX10_firstGreatest : Cond) ∈ gtb := gtb_t7 219 rfl rfl
theorem q1800 : (.code yX10_firstGreatest cX10_firstGreatest 2 (some .int) : Cond) ∈ gtb := gtb_t7 220 rfl rfl
end
section
/-! GangMatrix$Blocks.bits(II)I (-) -/
abbrev MX1_bits : gMi := (cX1_bits, 2, RX1, some .int, 1)
noncomputable def PX1_bits : gP := [(0, .lconst 1, 1, i_psh 1 (.long 1)), (1, .iload_n 1, 1, i_ild 1 1), (2, .lshl, 1, i_lsh (fun x y => x <<< (y.toInt64 &&& 63))), (3, .lconst 1, 1, i_psh 1 (.long 1)), (4, .lsub, 1, i_lbn (fun x y => x - y)), (5, .iload_n 0, 1, i_ild 1 0), (6, .lshl, 1, i_lsh (fun x y => x <<< (y.toInt64 &&& 63))), (7, .l2i, 1, i_l2i), (8, .ireturn, 1, i_irt)]
noncomputable def mX1_bits : gF := g_m PX1_bits 2
set_option maxRecDepth 20000 in
theorem dtX1_bits : gDts PX1_bits := ⟨dt_psh, dt_ild, dt_lsh, dt_psh, dt_lbn, dt_ild, dt_lsh, dt_l2i, dt_irt, trivial⟩
set_option maxRecDepth 20000 in
theorem dcX1_bits : gDec MX1_bits PX1_bits := by unfold gDec PX1_bits; decide +kernel
set_option maxRecDepth 20000 in
theorem okX1_bits (l : Launch) (w : gWo) : gOks w l MX1_bits PX1_bits := ⟨fun d => ok_lconst d (by decide), fun d => ok_iload_n d rfl, fun d => ok_lshl d, fun d => ok_lconst d (by decide), fun d => ok_lsub d, fun d => ok_iload_n d rfl, fun d => ok_lshl d, fun d => ok_l2i d, fun d => ok_ireturn d rfl, trivial⟩
theorem tX1_bits (l : Launch) (w : gWo) : ∀ as μ r, mX1_bits as μ = some r → gMt w l yX1_bits MX1_bits as μ r := fun _ _ _ h => gMt_of (plainFor_of_name (by decide +kernel)) rfl dcX1_bits (okX1_bits l w) h
/-! GangMatrix$Blocks.widthOf(I)I (-) -/
abbrev MX1_widthOf : gMi := (cX1_widthOf, 2, RX1, some .int, 1)
noncomputable def PX1_widthOf : gP := [(0, .iconst 1, 1, i_psh 1 (.int 1)), (1, .istore_n 1, 1, i_ist 1 1), (2, .iload_n 1, 1, i_ild 1 1), (3, .iload_n 0, 1, i_ild 1 0), (4, .if_icmp .ge 16, 3, i_cge 20), (7, .iload_n 1, 1, i_ild 1 1), (8, .bipush 32, 2, i_psh 2 (.int 32)), (10, .if_icmp .ge 10, 3, i_cge 20), (13, .iload_n 1, 1, i_ild 1 1), (14, .iconst 2, 1, i_psh 1 (.int 2)), (15, .imul, 1, i_bin (fun x y => (x * y))), (16, .istore_n 1, 1, i_ist 1 1), (17, .goto (-15), 3, i_gto 2), (20, .iload_n 1, 1, i_ild 1 1), (21, .ireturn, 1, i_irt)]
noncomputable def mX1_widthOf : gF := g_m PX1_widthOf 2
set_option maxRecDepth 20000 in
theorem dtX1_widthOf : gDts PX1_widthOf := ⟨dt_psh, dt_ist, dt_ild, dt_ild, dt_cge, dt_ild, dt_psh, dt_cge, dt_ild, dt_psh, dt_bin, dt_ist, dt_gto, dt_ild, dt_irt, trivial⟩
set_option maxRecDepth 20000 in
theorem dcX1_widthOf : gDec MX1_widthOf PX1_widthOf := by unfold gDec PX1_widthOf; decide +kernel
set_option maxRecDepth 20000 in
theorem okX1_widthOf (l : Launch) (w : gWo) : gOks w l MX1_widthOf PX1_widthOf := ⟨fun d => ok_iconst d (by decide), fun d => ok_istore_n d rfl, fun d => ok_iload_n d rfl, fun d => ok_iload_n d rfl, fun d => ok_icmpge d (by decide), fun d => ok_iload_n d rfl, fun d => ok_bipush d (by decide), fun d => ok_icmpge d (by decide), fun d => ok_iload_n d rfl, fun d => ok_iconst d (by decide), fun d => ok_imul d, fun d => ok_istore_n d rfl, fun d => ok_goto d (by decide), fun d => ok_iload_n d rfl, fun d => ok_ireturn d rfl, trivial⟩
theorem tX1_widthOf (l : Launch) (w : gWo) : ∀ as μ r, mX1_widthOf as μ = some r → gMt w l yX1_widthOf MX1_widthOf as μ r := fun _ _ _ h => gMt_of (plainFor_of_name (by decide +kernel)) rfl dcX1_widthOf (okX1_widthOf l w) h
/-! GangMatrix$Blocks.starts(II)I (-) -/
abbrev MX1_starts : gMi := (cX1_starts, 5, RX1, some .int, 1)
noncomputable def PX1_starts : gP := [(0, .iload_n 0, 1, i_ild 1 0), (1, .istore_n 2, 1, i_ist 1 2), (2, .iconst 1, 1, i_psh 1 (.int 1)), (3, .istore_n 3, 1, i_ist 1 3), (4, .iconst 1, 1, i_psh 1 (.int 1)), (5, .istore 4, 2, i_kll [0] (i_ist 2 4)), (7, .iload 4, 2, i_ild 2 4), (9, .getstatic 11, 3, i_gst 1000), (12, .arraylength, 1, i_tln 1000 6), (13, .if_icmp .ge 31, 3, i_cge 44), (16, .iload_n 3, 1, i_ild 1 3), (17, .iload_n 1, 1, i_ild 1 1), (18, .if_icmp .ge 26, 3, i_cge 44), (21, .iload_n 2, 1, i_ild 1 2), (22, .iload_n 2, 1, i_ild 1 2), (23, .iload_n 3, 1, i_ild 1 3), (24, .iushr, 1, i_bin (fun x y => (g_ushr x y))), (25, .iand, 1, i_bin (fun x y => (x &&& y))), (26, .getstatic 11, 3, i_gst 1000), (29, .iload 4, 2, i_ild 2 4), (31, .iaload, 1, i_tld 1000 g_t0), (32, .iand, 1, i_bin (fun x y => (x &&& y))), (33, .istore_n 2, 1, i_ist 1 2), (34, .iload_n 3, 1, i_ild 1 3), (35, .iconst 2, 1, i_psh 1 (.int 2)), (36, .imul, 1, i_bin (fun x y => (x * y))), (37, .istore_n 3, 1, i_ist 1 3), (38, .iinc 4 1, 3, i_inc 4 1), (41, .goto (-34), 3, i_kll [0] (i_gto 7)), (44, .iload_n 2, 1, i_ild 1 2), (45, .ireturn, 1, i_irt)]
noncomputable def mX1_starts : gF := g_m PX1_starts 5
set_option maxRecDepth 20000 in
theorem dtX1_starts : gDts PX1_starts := ⟨dt_ild, dt_ist, dt_psh, dt_ist, dt_psh, dt_kll dt_ist, dt_ild, dt_gst, dt_tln, dt_cge, dt_ild, dt_ild, dt_cge, dt_ild, dt_ild, dt_ild, dt_bin, dt_bin, dt_gst, dt_ild, dt_tld, dt_bin, dt_ist, dt_ild, dt_psh, dt_bin, dt_ist, dt_inc, dt_kll dt_gto, dt_ild, dt_irt, trivial⟩
set_option maxRecDepth 20000 in
theorem dcX1_starts : gDec MX1_starts PX1_starts := by unfold gDec PX1_starts; decide +kernel
set_option maxRecDepth 20000 in
theorem okX1_starts (l : Launch) (w : gWo) : gOks w l MX1_starts PX1_starts := ⟨fun d => ok_iload_n d rfl, fun d => ok_istore_n d rfl, fun d => ok_iconst d (by decide), fun d => ok_istore_n d rfl, fun d => ok_iconst d (by decide), fun d => ok_kll (ok_istore d), fun d => ok_iload d, fun d => ok_getstatic d gSr0 q475, fun d => ok_tlen d gSr0 (by decide), fun d => ok_icmpge d (by decide), fun d => ok_iload_n d rfl, fun d => ok_iload_n d rfl, fun d => ok_icmpge d (by decide), fun d => ok_iload_n d rfl, fun d => ok_iload_n d rfl, fun d => ok_iload_n d rfl, fun d => ok_iushr d, fun d => ok_iand d, fun d => ok_getstatic d gSr0 q475, fun d => ok_iload d, fun d => ok_tload d gSr0, fun d => ok_iand d, fun d => ok_istore_n d rfl, fun d => ok_iload_n d rfl, fun d => ok_iconst d (by decide), fun d => ok_imul d, fun d => ok_istore_n d rfl, fun d => ok_iinc d (by decide), fun d => ok_kll (ok_goto d (by decide)), fun d => ok_iload_n d rfl, fun d => ok_ireturn d rfl, trivial⟩
theorem tX1_starts (l : Launch) (w : gWo) : ∀ as μ r, mX1_starts as μ = some r → gMt w l yX1_starts MX1_starts as μ r := fun _ _ _ h => gMt_of (plainFor_of_name (by decide +kernel)) rfl dcX1_starts (okX1_starts l w) h
/-! java/lang/Integer.bitCount(I)I (-) -/
abbrev MJ6_bitCount_0f7a4 : gMi := (cJ6_bitCount_0f7a4, 1, RJ6, some .int, 1)
noncomputable def PJ6_bitCount_0f7a4 : gP := [(0, .iload_n 0, 1, i_ild 1 0), (1, .iload_n 0, 1, i_ild 1 0), (2, .iconst 1, 1, i_psh 1 (.int 1)), (3, .iushr, 1, i_bin (fun x y => (g_ushr x y))), (4, .ldc_w 265, 3, i_psh 3 (.int 1431655765)), (7, .iand, 1, i_bin (fun x y => (x &&& y))), (8, .isub, 1, i_bin (fun x y => (x - y))), (9, .istore_n 0, 1, i_ist 1 0), (10, .iload_n 0, 1, i_ild 1 0), (11, .ldc_w 266, 3, i_psh 3 (.int 858993459)), (14, .iand, 1, i_bin (fun x y => (x &&& y))), (15, .iload_n 0, 1, i_ild 1 0), (16, .iconst 2, 1, i_psh 1 (.int 2)), (17, .iushr, 1, i_bin (fun x y => (g_ushr x y))), (18, .ldc_w 266, 3, i_psh 3 (.int 858993459)), (21, .iand, 1, i_bin (fun x y => (x &&& y))), (22, .iadd, 1, i_bin (fun x y => (x + y))), (23, .istore_n 0, 1, i_ist 1 0), (24, .iload_n 0, 1, i_ild 1 0), (25, .iload_n 0, 1, i_ild 1 0), (26, .iconst 4, 1, i_psh 1 (.int 4)), (27, .iushr, 1, i_bin (fun x y => (g_ushr x y))), (28, .iadd, 1, i_bin (fun x y => (x + y))), (29, .ldc_w 267, 3, i_psh 3 (.int 252645135)), (32, .iand, 1, i_bin (fun x y => (x &&& y))), (33, .istore_n 0, 1, i_ist 1 0), (34, .iload_n 0, 1, i_ild 1 0), (35, .iload_n 0, 1, i_ild 1 0), (36, .bipush 8, 2, i_psh 2 (.int 8)), (38, .iushr, 1, i_bin (fun x y => (g_ushr x y))), (39, .iadd, 1, i_bin (fun x y => (x + y))), (40, .istore_n 0, 1, i_ist 1 0), (41, .iload_n 0, 1, i_ild 1 0), (42, .iload_n 0, 1, i_ild 1 0), (43, .bipush 16, 2, i_psh 2 (.int 16)), (45, .iushr, 1, i_bin (fun x y => (g_ushr x y))), (46, .iadd, 1, i_bin (fun x y => (x + y))), (47, .istore_n 0, 1, i_ist 1 0), (48, .iload_n 0, 1, i_ild 1 0), (49, .bipush 63, 2, i_psh 2 (.int 63)), (51, .iand, 1, i_bin (fun x y => (x &&& y))), (52, .ireturn, 1, i_irt)]
noncomputable def mJ6_bitCount_0f7a4 : gF := g_m PJ6_bitCount_0f7a4 1
set_option maxRecDepth 20000 in
theorem dtJ6_bitCount_0f7a4 : gDts PJ6_bitCount_0f7a4 := ⟨dt_ild, dt_ild, dt_psh, dt_bin, dt_psh, dt_bin, dt_bin, dt_ist, dt_ild, dt_psh, dt_bin, dt_ild, dt_psh, dt_bin, dt_psh, dt_bin, dt_bin, dt_ist, dt_ild, dt_ild, dt_psh, dt_bin, dt_bin, dt_psh, dt_bin, dt_ist, dt_ild, dt_ild, dt_psh, dt_bin, dt_bin, dt_ist, dt_ild, dt_ild, dt_psh, dt_bin, dt_bin, dt_ist, dt_ild, dt_psh, dt_bin, dt_irt, trivial⟩
set_option maxRecDepth 20000 in
theorem dcJ6_bitCount_0f7a4 : gDec MJ6_bitCount_0f7a4 PJ6_bitCount_0f7a4 := by unfold gDec PJ6_bitCount_0f7a4; decide +kernel
set_option maxRecDepth 20000 in
theorem okJ6_bitCount_0f7a4 (l : Launch) (w : gWo) : gOks w l MJ6_bitCount_0f7a4 PJ6_bitCount_0f7a4 := ⟨fun d => ok_iload_n d rfl, fun d => ok_iload_n d rfl, fun d => ok_iconst d (by decide), fun d => ok_iushr d, fun d => ok_ldcw d q499, fun d => ok_iand d, fun d => ok_isub d, fun d => ok_istore_n d rfl, fun d => ok_iload_n d rfl, fun d => ok_ldcw d q500, fun d => ok_iand d, fun d => ok_iload_n d rfl, fun d => ok_iconst d (by decide), fun d => ok_iushr d, fun d => ok_ldcw d q500, fun d => ok_iand d, fun d => ok_iadd d, fun d => ok_istore_n d rfl, fun d => ok_iload_n d rfl, fun d => ok_iload_n d rfl, fun d => ok_iconst d (by decide), fun d => ok_iushr d, fun d => ok_iadd d, fun d => ok_ldcw d q501, fun d => ok_iand d, fun d => ok_istore_n d rfl, fun d => ok_iload_n d rfl, fun d => ok_iload_n d rfl, fun d => ok_bipush d (by decide), fun d => ok_iushr d, fun d => ok_iadd d, fun d => ok_istore_n d rfl, fun d => ok_iload_n d rfl, fun d => ok_iload_n d rfl, fun d => ok_bipush d (by decide), fun d => ok_iushr d, fun d => ok_iadd d, fun d => ok_istore_n d rfl, fun d => ok_iload_n d rfl, fun d => ok_bipush d (by decide), fun d => ok_iand d, fun d => ok_ireturn d rfl, trivial⟩
theorem tJ6_bitCount_0f7a4 (l : Launch) (w : gWo) : ∀ as μ r, mJ6_bitCount_0f7a4 as μ = some r → gMt w l yJ6_bitCount_0f7a4 MJ6_bitCount_0f7a4 as μ r := fun _ _ _ h => gMt_of (by decide +kernel) rfl dcJ6_bitCount_0f7a4 (okJ6_bitCount_0f7a4 l w) h
/-! GangMatrix$Blocks.lowest(I)I (-) -/
abbrev MX1_lowest : gMi := (cX1_lowest, 1, RX1, some .int, 2)
noncomputable def PX1_lowest : gP := [(0, .iload_n 0, 1, i_ild 1 0), (1, .ifCond .ne 7, 3, i_fne 8), (4, .iconst (-1), 1, i_psh 1 (.int (-1))), (5, .goto 12, 3, i_gto 17), (8, .iload_n 0, 1, i_ild 1 0), (9, .iload_n 0, 1, i_ild 1 0), (10, .ineg, 1, i_neg), (11, .iand, 1, i_bin (fun x y => (x &&& y))), (12, .iconst 1, 1, i_psh 1 (.int 1)), (13, .isub, 1, i_bin (fun x y => (x - y))), (14, .invokestatic 15, 3, i_csi 1 mJ6_bitCount_0f7a4), (17, .ireturn, 1, i_irt)]
noncomputable def mX1_lowest : gF := g_m PX1_lowest 1
set_option maxRecDepth 20000 in
theorem dtX1_lowest : gDts PX1_lowest := ⟨dt_ild, dt_fne, dt_psh, dt_gto, dt_ild, dt_ild, dt_neg, dt_bin, dt_psh, dt_bin, dt_csi, dt_irt, trivial⟩
set_option maxRecDepth 20000 in
theorem dcX1_lowest : gDec MX1_lowest PX1_lowest := by unfold gDec PX1_lowest; decide +kernel
set_option maxRecDepth 20000 in
theorem okX1_lowest (l : Launch) (w : gWo) : gOks w l MX1_lowest PX1_lowest := ⟨fun d => ok_iload_n d rfl, fun d => ok_ifne d (by decide), fun d => ok_iconst d (by decide), fun d => ok_goto d (by decide), fun d => ok_iload_n d rfl, fun d => ok_iload_n d rfl, fun d => ok_ineg d, fun d => ok_iand d, fun d => ok_iconst d (by decide), fun d => ok_isub d, fun d => ok_csi (ok_callS (M' := MJ6_bitCount_0f7a4) d (tJ6_bitCount_0f7a4 l _) q496 q497 q153 q498 (by decide +kernel) (by decide)), fun d => ok_ireturn d rfl, trivial⟩
theorem tX1_lowest (l : Launch) (w : gWo) : ∀ as μ r, mX1_lowest as μ = some r → gMt w l yX1_lowest MX1_lowest as μ r := fun _ _ _ h => gMt_of (plainFor_of_name (by decide +kernel)) rfl dcX1_lowest (okX1_lowest l w) h
/-! GangMatrix$Blocks.spot(II)I (-) -/
abbrev MX1_spot : gMi := (cX1_spot, 2, RX1, some .int, 1)
noncomputable def PX1_spot : gP := [(0, .iload_n 0, 1, i_ild 1 0), (1, .bipush 32, 2, i_psh 2 (.int 32)), (3, .imul, 1, i_bin (fun x y => (x * y))), (4, .iload_n 1, 1, i_ild 1 1), (5, .iadd, 1, i_bin (fun x y => (x + y))), (6, .ireturn, 1, i_irt)]
noncomputable def mX1_spot : gF := g_m PX1_spot 2
set_option maxRecDepth 20000 in
theorem dtX1_spot : gDts PX1_spot := ⟨dt_ild, dt_psh, dt_bin, dt_ild, dt_bin, dt_irt, trivial⟩
set_option maxRecDepth 20000 in
theorem dcX1_spot : gDec MX1_spot PX1_spot := by unfold gDec PX1_spot; decide +kernel
set_option maxRecDepth 20000 in
theorem okX1_spot (l : Launch) (w : gWo) : gOks w l MX1_spot PX1_spot := ⟨fun d => ok_iload_n d rfl, fun d => ok_bipush d (by decide), fun d => ok_imul d, fun d => ok_iload_n d rfl, fun d => ok_iadd d, fun d => ok_ireturn d rfl, trivial⟩
theorem tX1_spot (l : Launch) (w : gWo) : ∀ as μ r, mX1_spot as μ = some r → gMt w l yX1_spot MX1_spot as μ r := fun _ _ _ h => gMt_of (plainFor_of_name (by decide +kernel)) rfl dcX1_spot (okX1_spot l w) h
/-! GangMatrix$Blocks.slotOf(I)I (-) -/
abbrev MX1_slotOf : gMi := (cX1_slotOf, 1, RX1, some .int, 1)
noncomputable def PX1_slotOf : gP := [(0, .iload_n 0, 1, i_ild 1 0), (1, .bipush 32, 2, i_psh 2 (.int 32)), (3, .idiv, 1, i_dvr (fun x y => (x / y))), (4, .ireturn, 1, i_irt)]
noncomputable def mX1_slotOf : gF := g_m PX1_slotOf 1
set_option maxRecDepth 20000 in
theorem dtX1_slotOf : gDts PX1_slotOf := ⟨dt_ild, dt_psh, dt_dvr, dt_irt, trivial⟩
set_option maxRecDepth 20000 in
theorem dcX1_slotOf : gDec MX1_slotOf PX1_slotOf := by unfold gDec PX1_slotOf; decide +kernel
set_option maxRecDepth 20000 in
theorem okX1_slotOf (l : Launch) (w : gWo) : gOks w l MX1_slotOf PX1_slotOf := ⟨fun d => ok_iload_n d rfl, fun d => ok_bipush d (by decide), fun d => ok_idiv d, fun d => ok_ireturn d rfl, trivial⟩
theorem tX1_slotOf (l : Launch) (w : gWo) : ∀ as μ r, mX1_slotOf as μ = some r → gMt w l yX1_slotOf MX1_slotOf as μ r := fun _ _ _ h => gMt_of (plainFor_of_name (by decide +kernel)) rfl dcX1_slotOf (okX1_slotOf l w) h
/-! GangMatrix$Blocks.columnOf(I)I (-) -/
abbrev MX1_columnOf : gMi := (cX1_columnOf, 1, RX1, some .int, 1)
noncomputable def PX1_columnOf : gP := [(0, .iload_n 0, 1, i_ild 1 0), (1, .bipush 32, 2, i_psh 2 (.int 32)), (3, .irem, 1, i_dvr (fun x y => (x - x / y * y))), (4, .ireturn, 1, i_irt)]
noncomputable def mX1_columnOf : gF := g_m PX1_columnOf 1
set_option maxRecDepth 20000 in
theorem dtX1_columnOf : gDts PX1_columnOf := ⟨dt_ild, dt_psh, dt_dvr, dt_irt, trivial⟩
set_option maxRecDepth 20000 in
theorem dcX1_columnOf : gDec MX1_columnOf PX1_columnOf := by unfold gDec PX1_columnOf; decide +kernel
set_option maxRecDepth 20000 in
theorem okX1_columnOf (l : Launch) (w : gWo) : gOks w l MX1_columnOf PX1_columnOf := ⟨fun d => ok_iload_n d rfl, fun d => ok_bipush d (by decide), fun d => ok_irem d, fun d => ok_ireturn d rfl, trivial⟩
theorem tX1_columnOf (l : Launch) (w : gWo) : ∀ as μ r, mX1_columnOf as μ = some r → gMt w l yX1_columnOf MX1_columnOf as μ r := fun _ _ _ h => gMt_of (plainFor_of_name (by decide +kernel)) rfl dcX1_columnOf (okX1_columnOf l w) h
/-! java/lang/Math.floorMod(II)I (-) -/
abbrev MJ9_floorMod_7cf53 : gMi := (cJ9_floorMod_7cf53, 3, RJ9, some .int, 1)
noncomputable def PJ9_floorMod_7cf53 : gP := [(0, .iload_n 0, 1, i_ild 1 0), (1, .iload_n 1, 1, i_ild 1 1), (2, .irem, 1, i_dvr (fun x y => (x - x / y * y))), (3, .istore_n 2, 1, i_ist 1 2), (4, .iload_n 0, 1, i_ild 1 0), (5, .iload_n 1, 1, i_ild 1 1), (6, .ixor, 1, i_bin (fun x y => (x ^^^ y))), (7, .ifCond .ge 11, 3, i_fge 18), (10, .iload_n 2, 1, i_ild 1 2), (11, .ifCond .eq 7, 3, i_feq 18), (14, .iload_n 2, 1, i_ild 1 2), (15, .iload_n 1, 1, i_ild 1 1), (16, .iadd, 1, i_bin (fun x y => (x + y))), (17, .ireturn, 1, i_irt), (18, .iload_n 2, 1, i_ild 1 2), (19, .ireturn, 1, i_irt)]
noncomputable def mJ9_floorMod_7cf53 : gF := g_m PJ9_floorMod_7cf53 3
set_option maxRecDepth 20000 in
theorem dtJ9_floorMod_7cf53 : gDts PJ9_floorMod_7cf53 := ⟨dt_ild, dt_ild, dt_dvr, dt_ist, dt_ild, dt_ild, dt_bin, dt_fge, dt_ild, dt_feq, dt_ild, dt_ild, dt_bin, dt_irt, dt_ild, dt_irt, trivial⟩
set_option maxRecDepth 20000 in
theorem dcJ9_floorMod_7cf53 : gDec MJ9_floorMod_7cf53 PJ9_floorMod_7cf53 := by unfold gDec PJ9_floorMod_7cf53; decide +kernel
set_option maxRecDepth 20000 in
theorem okJ9_floorMod_7cf53 (l : Launch) (w : gWo) : gOks w l MJ9_floorMod_7cf53 PJ9_floorMod_7cf53 := ⟨fun d => ok_iload_n d rfl, fun d => ok_iload_n d rfl, fun d => ok_irem d, fun d => ok_istore_n d rfl, fun d => ok_iload_n d rfl, fun d => ok_iload_n d rfl, fun d => ok_ixor d, fun d => ok_ifge d (by decide), fun d => ok_iload_n d rfl, fun d => ok_ifeq d (by decide), fun d => ok_iload_n d rfl, fun d => ok_iload_n d rfl, fun d => ok_iadd d, fun d => ok_ireturn d rfl, fun d => ok_iload_n d rfl, fun d => ok_ireturn d rfl, trivial⟩
theorem tJ9_floorMod_7cf53 (l : Launch) (w : gWo) : ∀ as μ r, mJ9_floorMod_7cf53 as μ = some r → gMt w l yJ9_floorMod_7cf53 MJ9_floorMod_7cf53 as μ r := fun _ _ _ h => gMt_of (by decide +kernel) rfl dcJ9_floorMod_7cf53 (okJ9_floorMod_7cf53 l w) h
/-! java/lang/Math.max(II)I (-) -/
abbrev MJ9_max_7cf53 : gMi := (cJ9_max_7cf53, 2, RJ9, some .int, 1)
noncomputable def PJ9_max_7cf53 : gP := [(0, .iload_n 0, 1, i_ild 1 0), (1, .iload_n 1, 1, i_ild 1 1), (2, .if_icmp .lt 7, 3, i_clt 9), (5, .iload_n 0, 1, i_ild 1 0), (6, .goto 4, 3, i_gto 10), (9, .iload_n 1, 1, i_ild 1 1), (10, .ireturn, 1, i_irt)]
noncomputable def mJ9_max_7cf53 : gF := g_m PJ9_max_7cf53 2
set_option maxRecDepth 20000 in
theorem dtJ9_max_7cf53 : gDts PJ9_max_7cf53 := ⟨dt_ild, dt_ild, dt_clt, dt_ild, dt_gto, dt_ild, dt_irt, trivial⟩
set_option maxRecDepth 20000 in
theorem dcJ9_max_7cf53 : gDec MJ9_max_7cf53 PJ9_max_7cf53 := by unfold gDec PJ9_max_7cf53; decide +kernel
set_option maxRecDepth 20000 in
theorem okJ9_max_7cf53 (l : Launch) (w : gWo) : gOks w l MJ9_max_7cf53 PJ9_max_7cf53 := ⟨fun d => ok_iload_n d rfl, fun d => ok_iload_n d rfl, fun d => ok_icmplt d (by decide), fun d => ok_iload_n d rfl, fun d => ok_goto d (by decide), fun d => ok_iload_n d rfl, fun d => ok_ireturn d rfl, trivial⟩
theorem tJ9_max_7cf53 (l : Launch) (w : gWo) : ∀ as μ r, mJ9_max_7cf53 as μ = some r → gMt w l yJ9_max_7cf53 MJ9_max_7cf53 as μ r := fun _ _ _ h => gMt_of (by decide +kernel) rfl dcJ9_max_7cf53 (okJ9_max_7cf53 l w) h
/-! java/lang/Math.min(II)I (-) -/
abbrev MJ9_min_7cf53 : gMi := (cJ9_min_7cf53, 2, RJ9, some .int, 1)
noncomputable def PJ9_min_7cf53 : gP := [(0, .iload_n 0, 1, i_ild 1 0), (1, .iload_n 1, 1, i_ild 1 1), (2, .if_icmp .gt 7, 3, i_cgt 9), (5, .iload_n 0, 1, i_ild 1 0), (6, .goto 4, 3, i_gto 10), (9, .iload_n 1, 1, i_ild 1 1), (10, .ireturn, 1, i_irt)]
noncomputable def mJ9_min_7cf53 : gF := g_m PJ9_min_7cf53 2
set_option maxRecDepth 20000 in
theorem dtJ9_min_7cf53 : gDts PJ9_min_7cf53 := ⟨dt_ild, dt_ild, dt_cgt, dt_ild, dt_gto, dt_ild, dt_irt, trivial⟩
set_option maxRecDepth 20000 in
theorem dcJ9_min_7cf53 : gDec MJ9_min_7cf53 PJ9_min_7cf53 := by unfold gDec PJ9_min_7cf53; decide +kernel
set_option maxRecDepth 20000 in
theorem okJ9_min_7cf53 (l : Launch) (w : gWo) : gOks w l MJ9_min_7cf53 PJ9_min_7cf53 := ⟨fun d => ok_iload_n d rfl, fun d => ok_iload_n d rfl, fun d => ok_icmpgt d (by decide), fun d => ok_iload_n d rfl, fun d => ok_goto d (by decide), fun d => ok_iload_n d rfl, fun d => ok_ireturn d rfl, trivial⟩
theorem tJ9_min_7cf53 (l : Launch) (w : gWo) : ∀ as μ r, mJ9_min_7cf53 as μ = some r → gMt w l yJ9_min_7cf53 MJ9_min_7cf53 as μ r := fun _ _ _ h => gMt_of (by decide +kernel) rfl dcJ9_min_7cf53 (okJ9_min_7cf53 l w) h
/-! java/lang/Math.min(JJ)J (-) -/
abbrev MJ9_min_f86c9 : gMi := (cJ9_min_f86c9, 4, RJ9, some .long, 1)
noncomputable def PJ9_min_f86c9 : gP := [(0, .lload_n 0, 1, i_lld 1 0), (1, .lload_n 2, 1, i_lld 1 2), (2, .lcmp, 1, i_lcm), (3, .ifCond .gt 7, 3, i_fgt 10), (6, .lload_n 0, 1, i_lld 1 0), (7, .goto 4, 3, i_gto 11), (10, .lload_n 2, 1, i_lld 1 2), (11, .lreturn, 1, i_lrt)]
noncomputable def mJ9_min_f86c9 : gF := g_m PJ9_min_f86c9 4
set_option maxRecDepth 20000 in
theorem dtJ9_min_f86c9 : gDts PJ9_min_f86c9 := ⟨dt_lld, dt_lld, dt_lcm, dt_fgt, dt_lld, dt_gto, dt_lld, dt_lrt, trivial⟩
set_option maxRecDepth 20000 in
theorem dcJ9_min_f86c9 : gDec MJ9_min_f86c9 PJ9_min_f86c9 := by unfold gDec PJ9_min_f86c9; decide +kernel
set_option maxRecDepth 20000 in
theorem okJ9_min_f86c9 (l : Launch) (w : gWo) : gOks w l MJ9_min_f86c9 PJ9_min_f86c9 := ⟨fun d => ok_lload_n d rfl, fun d => ok_lload_n d rfl, fun d => ok_lcmp d, fun d => ok_ifgt d (by decide), fun d => ok_lload_n d rfl, fun d => ok_goto d (by decide), fun d => ok_lload_n d rfl, fun d => ok_lreturn d rfl, trivial⟩
theorem tJ9_min_f86c9 (l : Launch) (w : gWo) : ∀ as μ r, mJ9_min_f86c9 as μ = some r → gMt w l yJ9_min_f86c9 MJ9_min_f86c9 as μ r := fun _ _ _ h => gMt_of (by decide +kernel) rfl dcJ9_min_f86c9 (okJ9_min_f86c9 l w) h
end
section
/-! GangMatrix$Arrivals.add(IIII)V (LB) -/
abbrev MX0_add : gMi := (cX0_add, 5, RX0, none, 1)
noncomputable def PX0_add : gP := [(0, .aload_n 0, 1, i_ald 1 0), (1, .getfield 16, 3, i_gfd LB 5 1), (4, .bipush 60, 2, i_psh 2 (.int 60)), (6, .if_icmp .ge 62, 3, i_cge 68), (9, .aload_n 0, 1, i_ald 1 0), (10, .getfield 13, 3, i_gfd LB 5 0), (13, .iconst 0, 1, i_psh 1 (.int 0)), (14, .aaload, 1, i_aak LB 0 0 35), (15, .aload_n 0, 1, i_ald 1 0), (16, .getfield 16, 3, i_gfd LB 5 1), (19, .iload_n 1, 1, i_ild 1 1), (20, .iastore, 1, i_ias LB), (21, .aload_n 0, 1, i_ald 1 0), (22, .getfield 13, 3, i_gfd LB 5 0), (25, .iconst 1, 1, i_psh 1 (.int 1)), (26, .aaload, 1, i_aak LB 1 1 36), (27, .aload_n 0, 1, i_ald 1 0), (28, .getfield 16, 3, i_gfd LB 5 1), (31, .iload_n 2, 1, i_ild 1 2), (32, .iastore, 1, i_ias LB), (33, .aload_n 0, 1, i_ald 1 0), (34, .getfield 13, 3, i_gfd LB 5 0), (37, .iconst 2, 1, i_psh 1 (.int 2)), (38, .aaload, 1, i_aak LB 2 2 37), (39, .aload_n 0, 1, i_ald 1 0), (40, .getfield 16, 3, i_gfd LB 5 1), (43, .iload_n 3, 1, i_ild 1 3), (44, .iastore, 1, i_ias LB), (45, .aload_n 0, 1, i_ald 1 0), (46, .getfield 13, 3, i_gfd LB 5 0), (49, .iconst 3, 1, i_psh 1 (.int 3)), (50, .aaload, 1, i_aak LB 3 3 38), (51, .aload_n 0, 1, i_ald 1 0), (52, .getfield 16, 3, i_gfd LB 5 1), (55, .iload 4, 2, i_ild 2 4), (57, .iastore, 1, i_ias LB), (58, .aload_n 0, 1, i_ald 1 0), (59, .dup, 1, i_dup), (60, .getfield 16, 3, i_gfd LB 5 1), (63, .iconst 1, 1, i_psh 1 (.int 1)), (64, .iadd, 1, i_bin (fun x y => (x + y))), (65, .putfield 16, 3, i_pfd LB 5 1), (68, .return_, 1, i_vrt)]
noncomputable def mX0_add : gF := g_m PX0_add 5
set_option maxRecDepth 20000 in
theorem dtX0_add : gDts PX0_add := ⟨dt_ald, dt_gfd, dt_psh, dt_cge, dt_ald, dt_gfd, dt_psh, dt_aak, dt_ald, dt_gfd, dt_ild, dt_ias, dt_ald, dt_gfd, dt_psh, dt_aak, dt_ald, dt_gfd, dt_ild, dt_ias, dt_ald, dt_gfd, dt_psh, dt_aak, dt_ald, dt_gfd, dt_ild, dt_ias, dt_ald, dt_gfd, dt_psh, dt_aak, dt_ald, dt_gfd, dt_ild, dt_ias, dt_ald, dt_dup, dt_gfd, dt_psh, dt_bin, dt_pfd, dt_vrt, trivial⟩
set_option maxRecDepth 20000 in
theorem dcX0_add : gDec MX0_add PX0_add := by unfold gDec PX0_add; decide +kernel
set_option maxRecDepth 20000 in
theorem okX0_add (l : Launch) (D : va_G) (τ : ClassId × ClassId × ClassId × ClassId) (ad : Nat → Nat) : gOks (D, τ, LB, ad) l MX0_add PX0_add := ⟨fun d => ok_aload_n d rfl, fun d => ok_getfield (ci := 5) (f := 1) (N := 2) (C := RX0) (T := TX0) d rfl inX0 (by decide) q262, fun d => ok_bipush d (by decide), fun d => ok_icmpge d (by decide), fun d => ok_aload_n d rfl, fun d => ok_getfield (ci := 5) (f := 0) (N := 2) (C := RX0) (T := TX0) d rfl inX0 (by decide) q261, fun d => ok_iconst d (by decide), fun d => ok_aak (ok_aaload d) (by decide), fun d => ok_aload_n d rfl, fun d => ok_getfield (ci := 5) (f := 1) (N := 2) (C := RX0) (T := TX0) d rfl inX0 (by decide) q262, fun d => ok_iload_n d rfl, fun d => ok_iastore d, fun d => ok_aload_n d rfl, fun d => ok_getfield (ci := 5) (f := 0) (N := 2) (C := RX0) (T := TX0) d rfl inX0 (by decide) q261, fun d => ok_iconst d (by decide), fun d => ok_aak (ok_aaload d) (by decide), fun d => ok_aload_n d rfl, fun d => ok_getfield (ci := 5) (f := 1) (N := 2) (C := RX0) (T := TX0) d rfl inX0 (by decide) q262, fun d => ok_iload_n d rfl, fun d => ok_iastore d, fun d => ok_aload_n d rfl, fun d => ok_getfield (ci := 5) (f := 0) (N := 2) (C := RX0) (T := TX0) d rfl inX0 (by decide) q261, fun d => ok_iconst d (by decide), fun d => ok_aak (ok_aaload d) (by decide), fun d => ok_aload_n d rfl, fun d => ok_getfield (ci := 5) (f := 1) (N := 2) (C := RX0) (T := TX0) d rfl inX0 (by decide) q262, fun d => ok_iload_n d rfl, fun d => ok_iastore d, fun d => ok_aload_n d rfl, fun d => ok_getfield (ci := 5) (f := 0) (N := 2) (C := RX0) (T := TX0) d rfl inX0 (by decide) q261, fun d => ok_iconst d (by decide), fun d => ok_aak (ok_aaload d) (by decide), fun d => ok_aload_n d rfl, fun d => ok_getfield (ci := 5) (f := 1) (N := 2) (C := RX0) (T := TX0) d rfl inX0 (by decide) q262, fun d => ok_iload d, fun d => ok_iastore d, fun d => ok_aload_n d rfl, fun d => ok_dup d, fun d => ok_getfield (ci := 5) (f := 1) (N := 2) (C := RX0) (T := TX0) d rfl inX0 (by decide) q262, fun d => ok_iconst d (by decide), fun d => ok_iadd d, fun d => ok_putfield (ci := 5) (f := 1) (N := 2) (C := RX0) (T := TX0) d rfl inX0 tyX0_ok nmX0 (by decide) q262 rfl (by decide), fun d => ok_vreturn d rfl, trivial⟩
theorem tX0_add (l : Launch) (D : va_G) (τ : ClassId × ClassId × ClassId × ClassId) (ad : Nat → Nat) : ∀ as μ r, mX0_add as μ = some r → gMt (D, τ, LB, ad) l yX0_add MX0_add as μ r := fun _ _ _ h => gMt_of (plainFor_of_name (by decide +kernel)) rfl dcX0_add (okX0_add l D τ ad) h
/-! GangMatrix$Arrivals.isDue(II)Z (LB) -/
abbrev MX0_isDue : gMi := (cX0_isDue, 3, RX0, some .boolean, 1)
noncomputable def PX0_isDue : gP := [(0, .aload_n 0, 1, i_ald 1 0), (1, .getfield 13, 3, i_gfd LB 5 0), (4, .iconst 0, 1, i_psh 1 (.int 0)), (5, .aaload, 1, i_aak LB 0 0 35), (6, .iload_n 1, 1, i_ild 1 1), (7, .iaload, 1, i_iad LB), (8, .iload_n 2, 1, i_ild 1 2), (9, .if_icmp .gt 7, 3, i_cgt 16), (12, .iconst 1, 1, i_psh 1 (.int 1)), (13, .goto 4, 3, i_gto 17), (16, .iconst 0, 1, i_psh 1 (.int 0)), (17, .ireturn, 1, i_zrt)]
noncomputable def mX0_isDue : gF := g_m PX0_isDue 3
set_option maxRecDepth 20000 in
theorem dtX0_isDue : gDts PX0_isDue := ⟨dt_ald, dt_gfd, dt_psh, dt_aak, dt_ild, dt_iad, dt_ild, dt_cgt, dt_psh, dt_gto, dt_psh, dt_zrt, trivial⟩
set_option maxRecDepth 20000 in
theorem dcX0_isDue : gDec MX0_isDue PX0_isDue := by unfold gDec PX0_isDue; decide +kernel
set_option maxRecDepth 20000 in
theorem okX0_isDue (l : Launch) (D : va_G) (τ : ClassId × ClassId × ClassId × ClassId) (ad : Nat → Nat) : gOks (D, τ, LB, ad) l MX0_isDue PX0_isDue := ⟨fun d => ok_aload_n d rfl, fun d => ok_getfield (ci := 5) (f := 0) (N := 2) (C := RX0) (T := TX0) d rfl inX0 (by decide) q261, fun d => ok_iconst d (by decide), fun d => ok_aak (ok_aaload d) (by decide), fun d => ok_iload_n d rfl, fun d => ok_iaload d, fun d => ok_iload_n d rfl, fun d => ok_icmpgt d (by decide), fun d => ok_iconst d (by decide), fun d => ok_goto d (by decide), fun d => ok_iconst d (by decide), fun d => ok_zreturn d rfl, trivial⟩
theorem tX0_isDue (l : Launch) (D : va_G) (τ : ClassId × ClassId × ClassId × ClassId) (ad : Nat → Nat) : ∀ as μ r, mX0_isDue as μ = some r → gMt (D, τ, LB, ad) l yX0_isDue MX0_isDue as μ r := fun _ _ _ h => gMt_of (plainFor_of_name (by decide +kernel)) rfl dcX0_isDue (okX0_isDue l D τ ad) h
/-! GangMatrix$Arrivals.size(I)I (LB) -/
abbrev MX0_size : gMi := (cX0_size, 2, RX0, some .int, 1)
noncomputable def PX0_size : gP := [(0, .aload_n 0, 1, i_ald 1 0), (1, .getfield 13, 3, i_gfd LB 5 0), (4, .iconst 1, 1, i_psh 1 (.int 1)), (5, .aaload, 1, i_aak LB 1 1 36), (6, .iload_n 1, 1, i_ild 1 1), (7, .iaload, 1, i_iad LB), (8, .ireturn, 1, i_irt)]
noncomputable def mX0_size : gF := g_m PX0_size 2
set_option maxRecDepth 20000 in
theorem dtX0_size : gDts PX0_size := ⟨dt_ald, dt_gfd, dt_psh, dt_aak, dt_ild, dt_iad, dt_irt, trivial⟩
set_option maxRecDepth 20000 in
theorem dcX0_size : gDec MX0_size PX0_size := by unfold gDec PX0_size; decide +kernel
set_option maxRecDepth 20000 in
theorem okX0_size (l : Launch) (D : va_G) (τ : ClassId × ClassId × ClassId × ClassId) (ad : Nat → Nat) : gOks (D, τ, LB, ad) l MX0_size PX0_size := ⟨fun d => ok_aload_n d rfl, fun d => ok_getfield (ci := 5) (f := 0) (N := 2) (C := RX0) (T := TX0) d rfl inX0 (by decide) q261, fun d => ok_iconst d (by decide), fun d => ok_aak (ok_aaload d) (by decide), fun d => ok_iload_n d rfl, fun d => ok_iaload d, fun d => ok_ireturn d rfl, trivial⟩
theorem tX0_size (l : Launch) (D : va_G) (τ : ClassId × ClassId × ClassId × ClassId) (ad : Nat → Nat) : ∀ as μ r, mX0_size as μ = some r → gMt (D, τ, LB, ad) l yX0_size MX0_size as μ r := fun _ _ _ h => gMt_of (plainFor_of_name (by decide +kernel)) rfl dcX0_size (okX0_size l D τ ad) h
/-! GangMatrix$Arrivals.work(I)I (LB) -/
abbrev MX0_work : gMi := (cX0_work, 2, RX0, some .int, 1)
noncomputable def PX0_work : gP := [(0, .aload_n 0, 1, i_ald 1 0), (1, .getfield 13, 3, i_gfd LB 5 0), (4, .iconst 2, 1, i_psh 1 (.int 2)), (5, .aaload, 1, i_aak LB 2 2 37), (6, .iload_n 1, 1, i_ild 1 1), (7, .iaload, 1, i_iad LB), (8, .ireturn, 1, i_irt)]
noncomputable def mX0_work : gF := g_m PX0_work 2
set_option maxRecDepth 20000 in
theorem dtX0_work : gDts PX0_work := ⟨dt_ald, dt_gfd, dt_psh, dt_aak, dt_ild, dt_iad, dt_irt, trivial⟩
set_option maxRecDepth 20000 in
theorem dcX0_work : gDec MX0_work PX0_work := by unfold gDec PX0_work; decide +kernel
set_option maxRecDepth 20000 in
theorem okX0_work (l : Launch) (D : va_G) (τ : ClassId × ClassId × ClassId × ClassId) (ad : Nat → Nat) : gOks (D, τ, LB, ad) l MX0_work PX0_work := ⟨fun d => ok_aload_n d rfl, fun d => ok_getfield (ci := 5) (f := 0) (N := 2) (C := RX0) (T := TX0) d rfl inX0 (by decide) q261, fun d => ok_iconst d (by decide), fun d => ok_aak (ok_aaload d) (by decide), fun d => ok_iload_n d rfl, fun d => ok_iaload d, fun d => ok_ireturn d rfl, trivial⟩
theorem tX0_work (l : Launch) (D : va_G) (τ : ClassId × ClassId × ClassId × ClassId) (ad : Nat → Nat) : ∀ as μ r, mX0_work as μ = some r → gMt (D, τ, LB, ad) l yX0_work MX0_work as μ r := fun _ _ _ h => gMt_of (plainFor_of_name (by decide +kernel)) rfl dcX0_work (okX0_work l D τ ad) h
/-! GangMatrix$Arrivals.who(I)I (LB) -/
abbrev MX0_who : gMi := (cX0_who, 2, RX0, some .int, 1)
noncomputable def PX0_who : gP := [(0, .aload_n 0, 1, i_ald 1 0), (1, .getfield 13, 3, i_gfd LB 5 0), (4, .iconst 3, 1, i_psh 1 (.int 3)), (5, .aaload, 1, i_aak LB 3 3 38), (6, .iload_n 1, 1, i_ild 1 1), (7, .iaload, 1, i_iad LB), (8, .ireturn, 1, i_irt)]
noncomputable def mX0_who : gF := g_m PX0_who 2
set_option maxRecDepth 20000 in
theorem dtX0_who : gDts PX0_who := ⟨dt_ald, dt_gfd, dt_psh, dt_aak, dt_ild, dt_iad, dt_irt, trivial⟩
set_option maxRecDepth 20000 in
theorem dcX0_who : gDec MX0_who PX0_who := by unfold gDec PX0_who; decide +kernel
set_option maxRecDepth 20000 in
theorem okX0_who (l : Launch) (D : va_G) (τ : ClassId × ClassId × ClassId × ClassId) (ad : Nat → Nat) : gOks (D, τ, LB, ad) l MX0_who PX0_who := ⟨fun d => ok_aload_n d rfl, fun d => ok_getfield (ci := 5) (f := 0) (N := 2) (C := RX0) (T := TX0) d rfl inX0 (by decide) q261, fun d => ok_iconst d (by decide), fun d => ok_aak (ok_aaload d) (by decide), fun d => ok_iload_n d rfl, fun d => ok_iaload d, fun d => ok_ireturn d rfl, trivial⟩
theorem tX0_who (l : Launch) (D : va_G) (τ : ClassId × ClassId × ClassId × ClassId) (ad : Nat → Nat) : ∀ as μ r, mX0_who as μ = some r → gMt (D, τ, LB, ad) l yX0_who MX0_who as μ r := fun _ _ _ h => gMt_of (plainFor_of_name (by decide +kernel)) rfl dcX0_who (okX0_who l D τ ad) h
/-! GangMatrix$Arrivals.dropDue(I)V (LB) -/
abbrev MX0_dropDue : gMi := (cX0_dropDue, 5, RX0, none, 2)
noncomputable def PX0_dropDue : gP := [(0, .iconst 0, 1, i_psh 1 (.int 0)), (1, .istore_n 2, 1, i_ist 1 2), (2, .iconst 0, 1, i_psh 1 (.int 0)), (3, .istore_n 3, 1, i_kll [4] (i_ist 1 3)), (4, .iload_n 3, 1, i_ild 1 3), (5, .aload_n 0, 1, i_ald 1 0), (6, .getfield 16, 3, i_gfd LB 5 1), (9, .if_icmp .ge 54, 3, i_cge 63), (12, .aload_n 0, 1, i_ald 1 0), (13, .iload_n 3, 1, i_ild 1 3), (14, .iload_n 1, 1, i_ild 1 1), (15, .invokevirtual 20, 3, i_cvi LB 2 5 mX0_isDue), (18, .ifCond .ne 39, 3, i_fne 57), (21, .iconst 0, 1, i_psh 1 (.int 0)), (22, .istore 4, 2, i_ist 2 4), (24, .iload 4, 2, i_ild 2 4), (26, .iconst 4, 1, i_psh 1 (.int 4)), (27, .if_icmp .ge 27, 3, i_cge 54), (30, .aload_n 0, 1, i_ald 1 0), (31, .getfield 13, 3, i_gfd LB 5 0), (34, .iload 4, 2, i_ild 2 4), (36, .aaload, 1, i_aad LB), (37, .iload_n 2, 1, i_ild 1 2), (38, .aload_n 0, 1, i_ald 1 0), (39, .getfield 13, 3, i_gfd LB 5 0), (42, .iload 4, 2, i_ild 2 4), (44, .aaload, 1, i_aad LB), (45, .iload_n 3, 1, i_ild 1 3), (46, .iaload, 1, i_iad LB), (47, .iastore, 1, i_ias LB), (48, .iinc 4 1, 3, i_inc 4 1), (51, .goto (-27), 3, i_gto 24), (54, .iinc 2 1, 3, i_inc 2 1), (57, .iinc 3 1, 3, i_inc 3 1), (60, .goto (-56), 3, i_kll [4] (i_gto 4)), (63, .aload_n 0, 1, i_ald 1 0), (64, .iload_n 2, 1, i_ild 1 2), (65, .putfield 16, 3, i_pfd LB 5 1), (68, .return_, 1, i_vrt)]
noncomputable def mX0_dropDue : gF := g_m PX0_dropDue 5
set_option maxRecDepth 20000 in
theorem dtX0_dropDue : gDts PX0_dropDue := ⟨dt_psh, dt_ist, dt_psh, dt_kll dt_ist, dt_ild, dt_ald, dt_gfd, dt_cge, dt_ald, dt_ild, dt_ild, dt_cvi, dt_fne, dt_psh, dt_ist, dt_ild, dt_psh, dt_cge, dt_ald, dt_gfd, dt_ild, dt_aad, dt_ild, dt_ald, dt_gfd, dt_ild, dt_aad, dt_ild, dt_iad, dt_ias, dt_inc, dt_gto, dt_inc, dt_inc, dt_kll dt_gto, dt_ald, dt_ild, dt_pfd, dt_vrt, trivial⟩
set_option maxRecDepth 20000 in
theorem dcX0_dropDue : gDec MX0_dropDue PX0_dropDue := by unfold gDec PX0_dropDue; decide +kernel
set_option maxRecDepth 20000 in
theorem okX0_dropDue (l : Launch) (D : va_G) (τ : ClassId × ClassId × ClassId × ClassId) (ad : Nat → Nat) : gOks (D, τ, LB, ad) l MX0_dropDue PX0_dropDue := ⟨fun d => ok_iconst d (by decide), fun d => ok_istore_n d rfl, fun d => ok_iconst d (by decide), fun d => ok_kll (ok_istore_n d rfl), fun d => ok_iload_n d rfl, fun d => ok_aload_n d rfl, fun d => ok_getfield (ci := 5) (f := 1) (N := 2) (C := RX0) (T := TX0) d rfl inX0 (by decide) q262, fun d => ok_icmpge d (by decide), fun d => ok_aload_n d rfl, fun d => ok_iload_n d rfl, fun d => ok_iload_n d rfl, fun d => ok_cvi (ok_callV (M' := MX0_isDue) (ci := 5) (C := RX0) (T := TX0) (N := 2) d (tX0_isDue l D τ ad) rfl q682 q662 q663 q146 q664 (by decide +kernel) (by decide)), fun d => ok_ifne d (by decide), fun d => ok_iconst d (by decide), fun d => ok_istore d, fun d => ok_iload d, fun d => ok_iconst d (by decide), fun d => ok_icmpge d (by decide), fun d => ok_aload_n d rfl, fun d => ok_getfield (ci := 5) (f := 0) (N := 2) (C := RX0) (T := TX0) d rfl inX0 (by decide) q261, fun d => ok_iload d, fun d => ok_aaload d, fun d => ok_iload_n d rfl, fun d => ok_aload_n d rfl, fun d => ok_getfield (ci := 5) (f := 0) (N := 2) (C := RX0) (T := TX0) d rfl inX0 (by decide) q261, fun d => ok_iload d, fun d => ok_aaload d, fun d => ok_iload_n d rfl, fun d => ok_iaload d, fun d => ok_iastore d, fun d => ok_iinc d (by decide), fun d => ok_goto d (by decide), fun d => ok_iinc d (by decide), fun d => ok_iinc d (by decide), fun d => ok_kll (ok_goto d (by decide)), fun d => ok_aload_n d rfl, fun d => ok_iload_n d rfl, fun d => ok_putfield (ci := 5) (f := 1) (N := 2) (C := RX0) (T := TX0) d rfl inX0 tyX0_ok nmX0 (by decide) q262 rfl (by decide), fun d => ok_vreturn d rfl, trivial⟩
theorem tX0_dropDue (l : Launch) (D : va_G) (τ : ClassId × ClassId × ClassId × ClassId) (ad : Nat → Nat) : ∀ as μ r, mX0_dropDue as μ = some r → gMt (D, τ, LB, ad) l yX0_dropDue MX0_dropDue as μ r := fun _ _ _ h => gMt_of (plainFor_of_name (by decide +kernel)) rfl dcX0_dropDue (okX0_dropDue l D τ ad) h
/-! GangMatrix$Board.p()I (LB) -/
abbrev MX2_p : gMi := (cX2_p, 1, RX2, some .int, 1)
noncomputable def PX2_p : gP := [(0, .aload_n 0, 1, i_ald 1 0), (1, .getfield 9, 3, i_gfd LB 1 0), (4, .iconst 0, 1, i_psh 1 (.int 0)), (5, .iaload, 1, i_iak LB 0 0), (6, .ireturn, 1, i_irt)]
noncomputable def mX2_p : gF := g_m PX2_p 1
set_option maxRecDepth 20000 in
theorem dtX2_p : gDts PX2_p := ⟨dt_ald, dt_gfd, dt_psh, dt_iak, dt_irt, trivial⟩
set_option maxRecDepth 20000 in
theorem dcX2_p : gDec MX2_p PX2_p := by unfold gDec PX2_p; decide +kernel
set_option maxRecDepth 20000 in
theorem okX2_p (l : Launch) (D : va_G) (τ : ClassId × ClassId × ClassId × ClassId) (ad : Nat → Nat) : gOks (D, τ, LB, ad) l MX2_p PX2_p := ⟨fun d => ok_aload_n d rfl, fun d => ok_getfield (ci := 1) (f := 0) (N := 14) (C := RX2) (T := TX2) d rfl inX2 (by decide) q315, fun d => ok_iconst d (by decide), fun d => ok_iak (ok_iaload d) (by decide), fun d => ok_ireturn d rfl, trivial⟩
theorem tX2_p (l : Launch) (D : va_G) (τ : ClassId × ClassId × ClassId × ClassId) (ad : Nat → Nat) : ∀ as μ r, mX2_p as μ = some r → gMt (D, τ, LB, ad) l yX2_p MX2_p as μ r := fun _ _ _ h => gMt_of (plainFor_of_name (by decide +kernel)) rfl dcX2_p (okX2_p l D τ ad) h
/-! GangMatrix$Board.ups()I (LB) -/
abbrev MX2_ups : gMi := (cX2_ups, 1, RX2, some .int, 2)
noncomputable def PX2_ups : gP := [(0, .iconst 0, 1, i_psh 1 (.int 0)), (1, .aload_n 0, 1, i_ald 1 0), (2, .getfield 9, 3, i_gfd LB 1 0), (5, .iconst 0, 1, i_psh 1 (.int 0)), (6, .iaload, 1, i_iak LB 0 0), (7, .invokestatic 103, 3, i_csi 2 mX1_bits), (10, .aload_n 0, 1, i_ald 1 0), (11, .getfield 100, 3, i_gfd LB 1 13), (14, .iconst (-1), 1, i_psh 1 (.int (-1))), (15, .ixor, 1, i_bin (fun x y => (x ^^^ y))), (16, .iand, 1, i_bin (fun x y => (x &&& y))), (17, .ireturn, 1, i_irt)]
noncomputable def mX2_ups : gF := g_m PX2_ups 1
set_option maxRecDepth 20000 in
theorem dtX2_ups : gDts PX2_ups := ⟨dt_psh, dt_ald, dt_gfd, dt_psh, dt_iak, dt_csi, dt_ald, dt_gfd, dt_psh, dt_bin, dt_bin, dt_irt, trivial⟩
set_option maxRecDepth 20000 in
theorem dcX2_ups : gDec MX2_ups PX2_ups := by unfold gDec PX2_ups; decide +kernel
set_option maxRecDepth 20000 in
theorem okX2_ups (l : Launch) (D : va_G) (τ : ClassId × ClassId × ClassId × ClassId) (ad : Nat → Nat) : gOks (D, τ, LB, ad) l MX2_ups PX2_ups := ⟨fun d => ok_iconst d (by decide), fun d => ok_aload_n d rfl, fun d => ok_getfield (ci := 1) (f := 0) (N := 14) (C := RX2) (T := TX2) d rfl inX2 (by decide) q315, fun d => ok_iconst d (by decide), fun d => ok_iak (ok_iaload d) (by decide), fun d => ok_csi (ok_callS (M' := MX1_bits) d (tX1_bits l _) q469 q470 q151 q471 (by decide +kernel) (by decide)), fun d => ok_aload_n d rfl, fun d => ok_getfield (ci := 1) (f := 13) (N := 14) (C := RX2) (T := TX2) d rfl inX2 (by decide) q343, fun d => ok_iconst d (by decide), fun d => ok_ixor d, fun d => ok_iand d, fun d => ok_ireturn d rfl, trivial⟩
theorem tX2_ups (l : Launch) (D : va_G) (τ : ClassId × ClassId × ClassId × ClassId) (ad : Nat → Nat) : ∀ as μ r, mX2_ups as μ = some r → gMt (D, τ, LB, ad) l yX2_ups MX2_ups as μ r := fun _ _ _ h => gMt_of (plainFor_of_name (by decide +kernel)) rfl dcX2_ups (okX2_ups l D τ ad) h
/-! GangMatrix$Board.hasColumn(I)Z (LB) -/
abbrev MX2_hasColumn : gMi := (cX2_hasColumn, 2, RX2, some .boolean, 1)
noncomputable def PX2_hasColumn : gP := [(0, .iload_n 1, 1, i_ild 1 1), (1, .ifCond .lt 17, 3, i_flt 18), (4, .iload_n 1, 1, i_ild 1 1), (5, .aload_n 0, 1, i_ald 1 0), (6, .getfield 9, 3, i_gfd LB 1 0), (9, .iconst 0, 1, i_psh 1 (.int 0)), (10, .iaload, 1, i_iak LB 0 0), (11, .if_icmp .ge 7, 3, i_cge 18), (14, .iconst 1, 1, i_psh 1 (.int 1)), (15, .goto 4, 3, i_gto 19), (18, .iconst 0, 1, i_psh 1 (.int 0)), (19, .ireturn, 1, i_zrt)]
noncomputable def mX2_hasColumn : gF := g_m PX2_hasColumn 2
set_option maxRecDepth 20000 in
theorem dtX2_hasColumn : gDts PX2_hasColumn := ⟨dt_ild, dt_flt, dt_ild, dt_ald, dt_gfd, dt_psh, dt_iak, dt_cge, dt_psh, dt_gto, dt_psh, dt_zrt, trivial⟩
set_option maxRecDepth 20000 in
theorem dcX2_hasColumn : gDec MX2_hasColumn PX2_hasColumn := by unfold gDec PX2_hasColumn; decide +kernel
set_option maxRecDepth 20000 in
theorem okX2_hasColumn (l : Launch) (D : va_G) (τ : ClassId × ClassId × ClassId × ClassId) (ad : Nat → Nat) : gOks (D, τ, LB, ad) l MX2_hasColumn PX2_hasColumn := ⟨fun d => ok_iload_n d rfl, fun d => ok_iflt d (by decide), fun d => ok_iload_n d rfl, fun d => ok_aload_n d rfl, fun d => ok_getfield (ci := 1) (f := 0) (N := 14) (C := RX2) (T := TX2) d rfl inX2 (by decide) q315, fun d => ok_iconst d (by decide), fun d => ok_iak (ok_iaload d) (by decide), fun d => ok_icmpge d (by decide), fun d => ok_iconst d (by decide), fun d => ok_goto d (by decide), fun d => ok_iconst d (by decide), fun d => ok_zreturn d rfl, trivial⟩
theorem tX2_hasColumn (l : Launch) (D : va_G) (τ : ClassId × ClassId × ClassId × ClassId) (ad : Nat → Nat) : ∀ as μ r, mX2_hasColumn as μ = some r → gMt (D, τ, LB, ad) l yX2_hasColumn MX2_hasColumn as μ r := fun _ _ _ h => gMt_of (plainFor_of_name (by decide +kernel)) rfl dcX2_hasColumn (okX2_hasColumn l D τ ad) h
/-! GangMatrix$Board.isDown(I)Z (LB) -/
abbrev MX2_isDown : gMi := (cX2_isDown, 2, RX2, some .boolean, 1)
noncomputable def PX2_isDown : gP := [(0, .aload_n 0, 1, i_ald 1 0), (1, .getfield 100, 3, i_gfd LB 1 13), (4, .iload_n 1, 1, i_ild 1 1), (5, .iushr, 1, i_bin (fun x y => (g_ushr x y))), (6, .iconst 1, 1, i_psh 1 (.int 1)), (7, .iand, 1, i_bin (fun x y => (x &&& y))), (8, .iconst 1, 1, i_psh 1 (.int 1)), (9, .if_icmp .ne 7, 3, i_cne 16), (12, .iconst 1, 1, i_psh 1 (.int 1)), (13, .goto 4, 3, i_gto 17), (16, .iconst 0, 1, i_psh 1 (.int 0)), (17, .ireturn, 1, i_zrt)]
noncomputable def mX2_isDown : gF := g_m PX2_isDown 2
set_option maxRecDepth 20000 in
theorem dtX2_isDown : gDts PX2_isDown := ⟨dt_ald, dt_gfd, dt_ild, dt_bin, dt_psh, dt_bin, dt_psh, dt_cne, dt_psh, dt_gto, dt_psh, dt_zrt, trivial⟩
set_option maxRecDepth 20000 in
theorem dcX2_isDown : gDec MX2_isDown PX2_isDown := by unfold gDec PX2_isDown; decide +kernel
set_option maxRecDepth 20000 in
theorem okX2_isDown (l : Launch) (D : va_G) (τ : ClassId × ClassId × ClassId × ClassId) (ad : Nat → Nat) : gOks (D, τ, LB, ad) l MX2_isDown PX2_isDown := ⟨fun d => ok_aload_n d rfl, fun d => ok_getfield (ci := 1) (f := 13) (N := 14) (C := RX2) (T := TX2) d rfl inX2 (by decide) q343, fun d => ok_iload_n d rfl, fun d => ok_iushr d, fun d => ok_iconst d (by decide), fun d => ok_iand d, fun d => ok_iconst d (by decide), fun d => ok_icmpne d (by decide), fun d => ok_iconst d (by decide), fun d => ok_goto d (by decide), fun d => ok_iconst d (by decide), fun d => ok_zreturn d rfl, trivial⟩
theorem tX2_isDown (l : Launch) (D : va_G) (τ : ClassId × ClassId × ClassId × ClassId) (ad : Nat → Nat) : ∀ as μ r, mX2_isDown as μ = some r → gMt (D, τ, LB, ad) l yX2_isDown MX2_isDown as μ r := fun _ _ _ h => gMt_of (plainFor_of_name (by decide +kernel)) rfl dcX2_isDown (okX2_isDown l D τ ad) h
/-! GangMatrix$Board.freeIn(I)I (LB) -/
abbrev MX2_freeIn : gMi := (cX2_freeIn, 2, RX2, some .int, 3)
noncomputable def PX2_freeIn : gP := [(0, .aload_n 0, 1, i_ald 1 0), (1, .invokevirtual 107, 3, i_cvi LB 0 1 mX2_ups), (4, .aload_n 0, 1, i_ald 1 0), (5, .getfield 35, 3, i_gfd LB 1 4), (8, .getfield 111, 3, i_gfd LB 4 2), (11, .iload_n 1, 1, i_ild 1 1), (12, .iaload, 1, i_iad LB), (13, .iconst (-1), 1, i_psh 1 (.int (-1))), (14, .ixor, 1, i_bin (fun x y => (x ^^^ y))), (15, .iand, 1, i_bin (fun x y => (x &&& y))), (16, .ireturn, 1, i_irt)]
noncomputable def mX2_freeIn : gF := g_m PX2_freeIn 2
set_option maxRecDepth 20000 in
theorem dtX2_freeIn : gDts PX2_freeIn := ⟨dt_ald, dt_cvi, dt_ald, dt_gfd, dt_gfd, dt_ild, dt_iad, dt_psh, dt_bin, dt_bin, dt_irt, trivial⟩
set_option maxRecDepth 20000 in
theorem dcX2_freeIn : gDec MX2_freeIn PX2_freeIn := by unfold gDec PX2_freeIn; decide +kernel
set_option maxRecDepth 20000 in
theorem okX2_freeIn (l : Launch) (D : va_G) (τ : ClassId × ClassId × ClassId × ClassId) (ad : Nat → Nat) : gOks (D, τ, LB, ad) l MX2_freeIn PX2_freeIn := ⟨fun d => ok_aload_n d rfl, fun d => ok_cvi (ok_callV (M' := MX2_ups) (ci := 1) (C := RX2) (T := TX2) (N := 14) d (tX2_ups l D τ ad) rfl q465 q466 q467 q142 q468 (by decide +kernel) (by decide)), fun d => ok_aload_n d rfl, fun d => ok_getfield (ci := 1) (f := 4) (N := 14) (C := RX2) (T := TX2) d rfl inX2 (by decide) q327, fun d => ok_getfield (ci := 4) (f := 2) (N := 4) (C := RX7) (T := TX7) d rfl inX7 (by decide) q237, fun d => ok_iload_n d rfl, fun d => ok_iaload d, fun d => ok_iconst d (by decide), fun d => ok_ixor d, fun d => ok_iand d, fun d => ok_ireturn d rfl, trivial⟩
theorem tX2_freeIn (l : Launch) (D : va_G) (τ : ClassId × ClassId × ClassId × ClassId) (ad : Nat → Nat) : ∀ as μ r, mX2_freeIn as μ = some r → gMt (D, τ, LB, ad) l yX2_freeIn MX2_freeIn as μ r := fun _ _ _ h => gMt_of (plainFor_of_name (by decide +kernel)) rfl dcX2_freeIn (okX2_freeIn l D τ ad) h
/-! GangMatrix$Board.tell(II)Z (LB) -/
abbrev MX2_tell : gMi := (cX2_tell, 3, RX2, some .boolean, 2)
noncomputable def PX2_tell : gP := [(0, .iload_n 1, 1, i_ild 1 1), (1, .ifCond .lt 30, 3, i_flt 31), (4, .iload_n 1, 1, i_ild 1 1), (5, .aload_n 0, 1, i_ald 1 0), (6, .getfield 9, 3, i_gfd LB 1 0), (9, .arraylength, 1, i_aln LB), (10, .if_icmp .ge 21, 3, i_cge 31), (13, .iload_n 2, 1, i_ild 1 2), (14, .getstatic 114, 3, i_gst 1001), (17, .iload_n 1, 1, i_ild 1 1), (18, .iaload, 1, i_tld 1001 g_t1), (19, .if_icmp .lt 12, 3, i_clt 31), (22, .iload_n 2, 1, i_ild 1 2), (23, .getstatic 117, 3, i_gst 1002), (26, .iload_n 1, 1, i_ild 1 1), (27, .iaload, 1, i_tld 1002 g_t2), (28, .if_icmp .le 5, 3, i_cle 33), (31, .iconst 0, 1, i_psh 1 (.int 0)), (32, .ireturn, 1, i_zrt), (33, .iload_n 1, 1, i_ild 1 1), (34, .ifCond .ne 38, 3, i_fne 72), (37, .iload_n 2, 1, i_ild 1 2), (38, .invokestatic 120, 3, i_csi 1 mX1_widthOf), (41, .iload_n 2, 1, i_ild 1 2), (42, .if_icmp .ne 23, 3, i_cne 65), (45, .aload_n 0, 1, i_ald 1 0), (46, .getfield 21, 3, i_gfd LB 1 2), (49, .getfield 124, 3, i_gfd LB 2 2), (52, .ifCond .gt 13, 3, i_fgt 65), (55, .aload_n 0, 1, i_ald 1 0), (56, .getfield 42, 3, i_gfd LB 1 5), (59, .getfield 127, 3, i_gfd LB 5 1), (62, .ifCond .le 5, 3, i_fle 67), (65, .iconst 0, 1, i_psh 1 (.int 0)), (66, .ireturn, 1, i_zrt), (67, .aload_n 0, 1, i_ald 1 0), (68, .iconst 0, 1, i_psh 1 (.int 0)), (69, .putfield 100, 3, i_pfd LB 1 13), (72, .aload_n 0, 1, i_ald 1 0), (73, .getfield 9, 3, i_gfd LB 1 0), (76, .iload_n 1, 1, i_ild 1 1), (77, .iload_n 2, 1, i_ild 1 2), (78, .iastore, 1, i_ias LB), (79, .iconst 1, 1, i_psh 1 (.int 1)), (80, .ireturn, 1, i_zrt)]
noncomputable def mX2_tell : gF := g_m PX2_tell 3
set_option maxRecDepth 20000 in
theorem dtX2_tell : gDts PX2_tell := ⟨dt_ild, dt_flt, dt_ild, dt_ald, dt_gfd, dt_aln, dt_cge, dt_ild, dt_gst, dt_ild, dt_tld, dt_clt, dt_ild, dt_gst, dt_ild, dt_tld, dt_cle, dt_psh, dt_zrt, dt_ild, dt_fne, dt_ild, dt_csi, dt_ild, dt_cne, dt_ald, dt_gfd, dt_gfd, dt_fgt, dt_ald, dt_gfd, dt_gfd, dt_fle, dt_psh, dt_zrt, dt_ald, dt_psh, dt_pfd, dt_ald, dt_gfd, dt_ild, dt_ild, dt_ias, dt_psh, dt_zrt, trivial⟩
set_option maxRecDepth 20000 in
theorem dcX2_tell : gDec MX2_tell PX2_tell := by unfold gDec PX2_tell; decide +kernel
set_option maxRecDepth 20000 in
theorem okX2_tell (l : Launch) (D : va_G) (τ : ClassId × ClassId × ClassId × ClassId) (ad : Nat → Nat) : gOks (D, τ, LB, ad) l MX2_tell PX2_tell := ⟨fun d => ok_iload_n d rfl, fun d => ok_iflt d (by decide), fun d => ok_iload_n d rfl, fun d => ok_aload_n d rfl, fun d => ok_getfield (ci := 1) (f := 0) (N := 14) (C := RX2) (T := TX2) d rfl inX2 (by decide) q315, fun d => ok_alen d, fun d => ok_icmpge d (by decide), fun d => ok_iload_n d rfl, fun d => ok_getstatic d gSr1 q427, fun d => ok_iload_n d rfl, fun d => ok_tload d gSr1, fun d => ok_icmplt d (by decide), fun d => ok_iload_n d rfl, fun d => ok_getstatic d gSr2 q429, fun d => ok_iload_n d rfl, fun d => ok_tload d gSr2, fun d => ok_icmple d (by decide), fun d => ok_iconst d (by decide), fun d => ok_zreturn d rfl, fun d => ok_iload_n d rfl, fun d => ok_ifne d (by decide), fun d => ok_iload_n d rfl, fun d => ok_csi (ok_callS (M' := MX1_widthOf) d (tX1_widthOf l _) q431 q432 q151 q433 (by decide +kernel) (by decide)), fun d => ok_iload_n d rfl, fun d => ok_icmpne d (by decide), fun d => ok_aload_n d rfl, fun d => ok_getfield (ci := 1) (f := 2) (N := 14) (C := RX2) (T := TX2) d rfl inX2 (by decide) q322, fun d => ok_getfield (ci := 2) (f := 2) (N := 4) (C := RX4) (T := TX4) d rfl inX4 (by decide) q186, fun d => ok_ifgt d (by decide), fun d => ok_aload_n d rfl, fun d => ok_getfield (ci := 1) (f := 5) (N := 14) (C := RX2) (T := TX2) d rfl inX2 (by decide) q329, fun d => ok_getfield (ci := 5) (f := 1) (N := 2) (C := RX0) (T := TX0) d rfl inX0 (by decide) q264, fun d => ok_ifle d (by decide), fun d => ok_iconst d (by decide), fun d => ok_zreturn d rfl, fun d => ok_aload_n d rfl, fun d => ok_iconst d (by decide), fun d => ok_putfield (ci := 1) (f := 13) (N := 14) (C := RX2) (T := TX2) d rfl inX2 tyX2_ok nmX2 (by decide) q343 rfl (by decide), fun d => ok_aload_n d rfl, fun d => ok_getfield (ci := 1) (f := 0) (N := 14) (C := RX2) (T := TX2) d rfl inX2 (by decide) q315, fun d => ok_iload_n d rfl, fun d => ok_iload_n d rfl, fun d => ok_iastore d, fun d => ok_iconst d (by decide), fun d => ok_zreturn d rfl, trivial⟩
theorem tX2_tell (l : Launch) (D : va_G) (τ : ClassId × ClassId × ClassId × ClassId) (ad : Nat → Nat) : ∀ as μ r, mX2_tell as μ = some r → gMt (D, τ, LB, ad) l yX2_tell MX2_tell as μ r := fun _ _ _ h => gMt_of (plainFor_of_name (by decide +kernel)) rfl dcX2_tell (okX2_tell l D τ ad) h
/-! GangMatrix$Ring.add(IIIII)V (LB) -/
abbrev MX6_add : gMi := (cX6_add, 7, RX6, none, 2)
noncomputable def PX6_add : gP := [(0, .aload_n 0, 1, i_ald 1 0), (1, .getfield 16, 3, i_gfd LB 6 1), (4, .bipush 60, 2, i_psh 2 (.int 60)), (6, .invokestatic 20, 3, i_csi 2 mJ9_floorMod_7cf53), (9, .istore 6, 2, i_ist 2 6), (11, .aload_n 0, 1, i_ald 1 0), (12, .getfield 13, 3, i_gfd LB 6 0), (15, .iconst 0, 1, i_psh 1 (.int 0)), (16, .aaload, 1, i_aad LB), (17, .iload 6, 2, i_ild 2 6), (19, .iload_n 1, 1, i_ild 1 1), (20, .iastore, 1, i_ias LB), (21, .aload_n 0, 1, i_ald 1 0), (22, .getfield 13, 3, i_gfd LB 6 0), (25, .iconst 1, 1, i_psh 1 (.int 1)), (26, .aaload, 1, i_aad LB), (27, .iload 6, 2, i_ild 2 6), (29, .iload_n 2, 1, i_ild 1 2), (30, .iastore, 1, i_ias LB), (31, .aload_n 0, 1, i_ald 1 0), (32, .getfield 13, 3, i_gfd LB 6 0), (35, .iconst 2, 1, i_psh 1 (.int 2)), (36, .aaload, 1, i_aad LB), (37, .iload 6, 2, i_ild 2 6), (39, .iload_n 3, 1, i_ild 1 3), (40, .iastore, 1, i_ias LB), (41, .aload_n 0, 1, i_ald 1 0), (42, .getfield 13, 3, i_gfd LB 6 0), (45, .iconst 3, 1, i_psh 1 (.int 3)), (46, .aaload, 1, i_aad LB), (47, .iload 6, 2, i_ild 2 6), (49, .iload 4, 2, i_ild 2 4), (51, .iastore, 1, i_ias LB), (52, .aload_n 0, 1, i_ald 1 0), (53, .getfield 13, 3, i_gfd LB 6 0), (56, .iconst 4, 1, i_psh 1 (.int 4)), (57, .aaload, 1, i_aad LB), (58, .iload 6, 2, i_ild 2 6), (60, .iload 5, 2, i_ild 2 5), (62, .iastore, 1, i_ias LB), (63, .aload_n 0, 1, i_ald 1 0), (64, .dup, 1, i_dup), (65, .getfield 16, 3, i_gfd LB 6 1), (68, .iconst 1, 1, i_psh 1 (.int 1)), (69, .iadd, 1, i_bin (fun x y => (x + y))), (70, .putfield 16, 3, i_pfd LB 6 1), (73, .return_, 1, i_vrt)]
noncomputable def mX6_add : gF := g_m PX6_add 7
set_option maxRecDepth 20000 in
theorem dtX6_add : gDts PX6_add := ⟨dt_ald, dt_gfd, dt_psh, dt_csi, dt_ist, dt_ald, dt_gfd, dt_psh, dt_aad, dt_ild, dt_ild, dt_ias, dt_ald, dt_gfd, dt_psh, dt_aad, dt_ild, dt_ild, dt_ias, dt_ald, dt_gfd, dt_psh, dt_aad, dt_ild, dt_ild, dt_ias, dt_ald, dt_gfd, dt_psh, dt_aad, dt_ild, dt_ild, dt_ias, dt_ald, dt_gfd, dt_psh, dt_aad, dt_ild, dt_ild, dt_ias, dt_ald, dt_dup, dt_gfd, dt_psh, dt_bin, dt_pfd, dt_vrt, trivial⟩
set_option maxRecDepth 20000 in
theorem dcX6_add : gDec MX6_add PX6_add := by unfold gDec PX6_add; decide +kernel
set_option maxRecDepth 20000 in
theorem okX6_add (l : Launch) (D : va_G) (τ : ClassId × ClassId × ClassId × ClassId) (ad : Nat → Nat) : gOks (D, τ, LB, ad) l MX6_add PX6_add := ⟨fun d => ok_aload_n d rfl, fun d => ok_getfield (ci := 6) (f := 1) (N := 2) (C := RX6) (T := TX6) d rfl inX6 (by decide) q278, fun d => ok_bipush d (by decide), fun d => ok_csi (ok_callS (M' := MJ9_floorMod_7cf53) d (tJ9_floorMod_7cf53 l _) q562 q563 q154 q564 (by decide +kernel) (by decide)), fun d => ok_istore d, fun d => ok_aload_n d rfl, fun d => ok_getfield (ci := 6) (f := 0) (N := 2) (C := RX6) (T := TX6) d rfl inX6 (by decide) q277, fun d => ok_iconst d (by decide), fun d => ok_aaload d, fun d => ok_iload d, fun d => ok_iload_n d rfl, fun d => ok_iastore d, fun d => ok_aload_n d rfl, fun d => ok_getfield (ci := 6) (f := 0) (N := 2) (C := RX6) (T := TX6) d rfl inX6 (by decide) q277, fun d => ok_iconst d (by decide), fun d => ok_aaload d, fun d => ok_iload d, fun d => ok_iload_n d rfl, fun d => ok_iastore d, fun d => ok_aload_n d rfl, fun d => ok_getfield (ci := 6) (f := 0) (N := 2) (C := RX6) (T := TX6) d rfl inX6 (by decide) q277, fun d => ok_iconst d (by decide), fun d => ok_aaload d, fun d => ok_iload d, fun d => ok_iload_n d rfl, fun d => ok_iastore d, fun d => ok_aload_n d rfl, fun d => ok_getfield (ci := 6) (f := 0) (N := 2) (C := RX6) (T := TX6) d rfl inX6 (by decide) q277, fun d => ok_iconst d (by decide), fun d => ok_aaload d, fun d => ok_iload d, fun d => ok_iload d, fun d => ok_iastore d, fun d => ok_aload_n d rfl, fun d => ok_getfield (ci := 6) (f := 0) (N := 2) (C := RX6) (T := TX6) d rfl inX6 (by decide) q277, fun d => ok_iconst d (by decide), fun d => ok_aaload d, fun d => ok_iload d, fun d => ok_iload d, fun d => ok_iastore d, fun d => ok_aload_n d rfl, fun d => ok_dup d, fun d => ok_getfield (ci := 6) (f := 1) (N := 2) (C := RX6) (T := TX6) d rfl inX6 (by decide) q278, fun d => ok_iconst d (by decide), fun d => ok_iadd d, fun d => ok_putfield (ci := 6) (f := 1) (N := 2) (C := RX6) (T := TX6) d rfl inX6 tyX6_ok nmX6 (by decide) q278 rfl (by decide), fun d => ok_vreturn d rfl, trivial⟩
theorem tX6_add (l : Launch) (D : va_G) (τ : ClassId × ClassId × ClassId × ClassId) (ad : Nat → Nat) : ∀ as μ r, mX6_add as μ = some r → gMt (D, τ, LB, ad) l yX6_add MX6_add as μ r := fun _ _ _ h => gMt_of (plainFor_of_name (by decide +kernel)) rfl dcX6_add (okX6_add l D τ ad) h
/-! GangMatrix$Board.note(II)V (LB) -/
abbrev MX2_note : gMi := (cX2_note, 3, RX2, none, 3)
noncomputable def PX2_note : gP := [(0, .aload_n 0, 1, i_ald 1 0), (1, .getfield 49, 3, i_gfd LB 1 6), (4, .aload_n 0, 1, i_ald 1 0), (5, .getfield 96, 3, i_gfd LB 1 12), (8, .iload_n 1, 1, i_ild 1 1), (9, .iload_n 2, 1, i_ild 1 2), (10, .aload_n 0, 1, i_ald 1 0), (11, .getfield 21, 3, i_gfd LB 1 2), (14, .getfield 130, 3, i_gfd LB 2 0), (17, .bipush 7, 2, i_psh 2 (.int 7)), (19, .aaload, 1, i_aak LB 7 7 12), (20, .iload_n 2, 1, i_ild 1 2), (21, .iaload, 1, i_iad LB), (22, .aload_n 0, 1, i_ald 1 0), (23, .getfield 21, 3, i_gfd LB 1 2), (26, .getfield 130, 3, i_gfd LB 2 0), (29, .bipush 8, 2, i_psh 2 (.int 8)), (31, .aaload, 1, i_aak LB 8 8 13), (32, .iload_n 2, 1, i_ild 1 2), (33, .iaload, 1, i_iad LB), (34, .invokevirtual 134, 3, i_cvv LB 5 6 mX6_add), (37, .return_, 1, i_vrt)]
noncomputable def mX2_note : gF := g_m PX2_note 3
set_option maxRecDepth 20000 in
theorem dtX2_note : gDts PX2_note := ⟨dt_ald, dt_gfd, dt_ald, dt_gfd, dt_ild, dt_ild, dt_ald, dt_gfd, dt_gfd, dt_psh, dt_aak, dt_ild, dt_iad, dt_ald, dt_gfd, dt_gfd, dt_psh, dt_aak, dt_ild, dt_iad, dt_cvv, dt_vrt, trivial⟩
set_option maxRecDepth 20000 in
theorem dcX2_note : gDec MX2_note PX2_note := by unfold gDec PX2_note; decide +kernel
set_option maxRecDepth 20000 in
theorem okX2_note (l : Launch) (D : va_G) (τ : ClassId × ClassId × ClassId × ClassId) (ad : Nat → Nat) : gOks (D, τ, LB, ad) l MX2_note PX2_note := ⟨fun d => ok_aload_n d rfl, fun d => ok_getfield (ci := 1) (f := 6) (N := 14) (C := RX2) (T := TX2) d rfl inX2 (by decide) q331, fun d => ok_aload_n d rfl, fun d => ok_getfield (ci := 1) (f := 12) (N := 14) (C := RX2) (T := TX2) d rfl inX2 (by decide) q341, fun d => ok_iload_n d rfl, fun d => ok_iload_n d rfl, fun d => ok_aload_n d rfl, fun d => ok_getfield (ci := 1) (f := 2) (N := 14) (C := RX2) (T := TX2) d rfl inX2 (by decide) q322, fun d => ok_getfield (ci := 2) (f := 0) (N := 4) (C := RX4) (T := TX4) d rfl inX4 (by decide) q180, fun d => ok_bipush d (by decide), fun d => ok_aak (ok_aaload d) (by decide), fun d => ok_iload_n d rfl, fun d => ok_iaload d, fun d => ok_aload_n d rfl, fun d => ok_getfield (ci := 1) (f := 2) (N := 14) (C := RX2) (T := TX2) d rfl inX2 (by decide) q322, fun d => ok_getfield (ci := 2) (f := 0) (N := 4) (C := RX4) (T := TX4) d rfl inX4 (by decide) q180, fun d => ok_bipush d (by decide), fun d => ok_aak (ok_aaload d) (by decide), fun d => ok_iload_n d rfl, fun d => ok_iaload d, fun d => ok_cvv (ok_callV (M' := MX6_add) (ci := 6) (C := RX6) (T := TX6) (N := 2) d (tX6_add l D τ ad) rfl q558 q559 q560 q147 q561 (by decide +kernel) (by decide)), fun d => ok_vreturn d rfl, trivial⟩
theorem tX2_note (l : Launch) (D : va_G) (τ : ClassId × ClassId × ClassId × ClassId) (ad : Nat → Nat) : ∀ as μ r, mX2_note as μ = some r → gMt (D, τ, LB, ad) l yX2_note MX2_note as μ r := fun _ _ _ h => gMt_of (plainFor_of_name (by decide +kernel)) rfl dcX2_note (okX2_note l D τ ad) h
/-! GangMatrix$Board.canCome(III)Z (LB) -/
abbrev MX2_canCome : gMi := (cX2_canCome, 4, RX2, some .boolean, 1)
noncomputable def PX2_canCome : gP := [(0, .iload_n 1, 1, i_ild 1 1), (1, .iconst 1, 1, i_psh 1 (.int 1)), (2, .if_icmp .lt 59, 3, i_clt 61), (5, .iload_n 1, 1, i_ild 1 1), (6, .aload_n 0, 1, i_ald 1 0), (7, .getfield 9, 3, i_gfd LB 1 0), (10, .iconst 0, 1, i_psh 1 (.int 0)), (11, .iaload, 1, i_iak LB 0 0), (12, .if_icmp .gt 49, 3, i_cgt 61), (15, .iload_n 2, 1, i_ild 1 2), (16, .iconst 1, 1, i_psh 1 (.int 1)), (17, .if_icmp .lt 44, 3, i_clt 61), (20, .iload_n 2, 1, i_ild 1 2), (21, .sipush 9999, 3, i_psh 3 (.int 9999)), (24, .if_icmp .gt 37, 3, i_cgt 61), (27, .iload_n 3, 1, i_ild 1 3), (28, .ifCond .lt 33, 3, i_flt 61), (31, .iload_n 3, 1, i_ild 1 3), (32, .bipush 6, 2, i_psh 2 (.int 6)), (34, .if_icmp .ge 27, 3, i_cge 61), (37, .aload_n 0, 1, i_ald 1 0), (38, .getfield 21, 3, i_gfd LB 1 2), (41, .getfield 124, 3, i_gfd LB 2 2), (44, .aload_n 0, 1, i_ald 1 0), (45, .getfield 42, 3, i_gfd LB 1 5), (48, .getfield 127, 3, i_gfd LB 5 1), (51, .iadd, 1, i_bin (fun x y => (x + y))), (52, .bipush 60, 2, i_psh 2 (.int 60)), (54, .if_icmp .ge 7, 3, i_cge 61), (57, .iconst 1, 1, i_psh 1 (.int 1)), (58, .goto 4, 3, i_gto 62), (61, .iconst 0, 1, i_psh 1 (.int 0)), (62, .ireturn, 1, i_zrt)]
noncomputable def mX2_canCome : gF := g_m PX2_canCome 4
set_option maxRecDepth 20000 in
theorem dtX2_canCome : gDts PX2_canCome := ⟨dt_ild, dt_psh, dt_clt, dt_ild, dt_ald, dt_gfd, dt_psh, dt_iak, dt_cgt, dt_ild, dt_psh, dt_clt, dt_ild, dt_psh, dt_cgt, dt_ild, dt_flt, dt_ild, dt_psh, dt_cge, dt_ald, dt_gfd, dt_gfd, dt_ald, dt_gfd, dt_gfd, dt_bin, dt_psh, dt_cge, dt_psh, dt_gto, dt_psh, dt_zrt, trivial⟩
set_option maxRecDepth 20000 in
theorem dcX2_canCome : gDec MX2_canCome PX2_canCome := by unfold gDec PX2_canCome; decide +kernel
set_option maxRecDepth 20000 in
theorem okX2_canCome (l : Launch) (D : va_G) (τ : ClassId × ClassId × ClassId × ClassId) (ad : Nat → Nat) : gOks (D, τ, LB, ad) l MX2_canCome PX2_canCome := ⟨fun d => ok_iload_n d rfl, fun d => ok_iconst d (by decide), fun d => ok_icmplt d (by decide), fun d => ok_iload_n d rfl, fun d => ok_aload_n d rfl, fun d => ok_getfield (ci := 1) (f := 0) (N := 14) (C := RX2) (T := TX2) d rfl inX2 (by decide) q315, fun d => ok_iconst d (by decide), fun d => ok_iak (ok_iaload d) (by decide), fun d => ok_icmpgt d (by decide), fun d => ok_iload_n d rfl, fun d => ok_iconst d (by decide), fun d => ok_icmplt d (by decide), fun d => ok_iload_n d rfl, fun d => ok_sipush d (by decide), fun d => ok_icmpgt d (by decide), fun d => ok_iload_n d rfl, fun d => ok_iflt d (by decide), fun d => ok_iload_n d rfl, fun d => ok_bipush d (by decide), fun d => ok_icmpge d (by decide), fun d => ok_aload_n d rfl, fun d => ok_getfield (ci := 1) (f := 2) (N := 14) (C := RX2) (T := TX2) d rfl inX2 (by decide) q322, fun d => ok_getfield (ci := 2) (f := 2) (N := 4) (C := RX4) (T := TX4) d rfl inX4 (by decide) q186, fun d => ok_aload_n d rfl, fun d => ok_getfield (ci := 1) (f := 5) (N := 14) (C := RX2) (T := TX2) d rfl inX2 (by decide) q329, fun d => ok_getfield (ci := 5) (f := 1) (N := 2) (C := RX0) (T := TX0) d rfl inX0 (by decide) q264, fun d => ok_iadd d, fun d => ok_bipush d (by decide), fun d => ok_icmpge d (by decide), fun d => ok_iconst d (by decide), fun d => ok_goto d (by decide), fun d => ok_iconst d (by decide), fun d => ok_zreturn d rfl, trivial⟩
theorem tX2_canCome (l : Launch) (D : va_G) (τ : ClassId × ClassId × ClassId × ClassId) (ad : Nat → Nat) : ∀ as μ r, mX2_canCome as μ = some r → gMt (D, τ, LB, ad) l yX2_canCome MX2_canCome as μ r := fun _ _ _ h => gMt_of (plainFor_of_name (by decide +kernel)) rfl dcX2_canCome (okX2_canCome l D τ ad) h
/-! GangMatrix$Jobs.add(IIIII)I (LB) -/
abbrev MX4_add : gMi := (cX4_add, 8, RX4, some .int, 2)
noncomputable def PX4_add : gP := [(0, .aload_n 0, 1, i_ald 1 0), (1, .getfield 20, 3, i_gfd LB 2 2), (4, .istore 6, 2, i_ist 2 6), (6, .iconst 0, 1, i_psh 1 (.int 0)), (7, .istore 7, 2, i_ist 2 7), (9, .iload 7, 2, i_ild 2 7), (11, .bipush 19, 2, i_psh 2 (.int 19)), (13, .if_icmp .ge 20, 3, i_cge 33), (16, .aload_n 0, 1, i_ald 1 0), (17, .getfield 13, 3, i_gfd LB 2 0), (20, .iload 7, 2, i_ild 2 7), (22, .aaload, 1, i_aad LB), (23, .iload 6, 2, i_ild 2 6), (25, .iconst 0, 1, i_psh 1 (.int 0)), (26, .iastore, 1, i_ias LB), (27, .iinc 7 1, 3, i_inc 7 1), (30, .goto (-21), 3, i_gto 9), (33, .aload_n 0, 1, i_ald 1 0), (34, .getfield 13, 3, i_gfd LB 2 0), (37, .iconst 0, 1, i_psh 1 (.int 0)), (38, .aaload, 1, i_aak LB 0 0 5), (39, .iload 6, 2, i_ild 2 6), (41, .iload_n 1, 1, i_ild 1 1), (42, .iastore, 1, i_ias LB), (43, .aload_n 0, 1, i_ald 1 0), (44, .getfield 13, 3, i_gfd LB 2 0), (47, .iconst 1, 1, i_psh 1 (.int 1)), (48, .aaload, 1, i_aak LB 1 1 6), (49, .iload 6, 2, i_ild 2 6), (51, .iload_n 2, 1, i_ild 1 2), (52, .iastore, 1, i_ias LB), (53, .aload_n 0, 1, i_ald 1 0), (54, .getfield 13, 3, i_gfd LB 2 0), (57, .iconst 2, 1, i_psh 1 (.int 2)), (58, .aaload, 1, i_aak LB 2 2 7), (59, .iload 6, 2, i_ild 2 6), (61, .iload_n 3, 1, i_ild 1 3), (62, .iastore, 1, i_ias LB), (63, .aload_n 0, 1, i_ald 1 0), (64, .getfield 13, 3, i_gfd LB 2 0), (67, .iconst 3, 1, i_psh 1 (.int 3)), (68, .aaload, 1, i_aak LB 3 3 8), (69, .iload 6, 2, i_ild 2 6), (71, .iload 4, 2, i_ild 2 4), (73, .iastore, 1, i_ias LB), (74, .aload_n 0, 1, i_ald 1 0), (75, .getfield 13, 3, i_gfd LB 2 0), (78, .iconst 5, 1, i_psh 1 (.int 5)), (79, .aaload, 1, i_aak LB 5 5 10), (80, .iload 6, 2, i_ild 2 6), (82, .iload_n 2, 1, i_ild 1 2), (83, .iastore, 1, i_ias LB), (84, .aload_n 0, 1, i_ald 1 0), (85, .getfield 13, 3, i_gfd LB 2 0), (88, .bipush 6, 2, i_psh 2 (.int 6)), (90, .aaload, 1, i_aak LB 6 6 11), (91, .iload 6, 2, i_ild 2 6), (93, .iload_n 2, 1, i_ild 1 2), (94, .iastore, 1, i_ias LB), (95, .aload_n 0, 1, i_ald 1 0), (96, .getfield 13, 3, i_gfd LB 2 0), (99, .bipush 7, 2, i_psh 2 (.int 7)), (101, .aaload, 1, i_aak LB 7 7 12), (102, .iload 6, 2, i_ild 2 6), (104, .iconst (-1), 1, i_psh 1 (.int (-1))), (105, .iastore, 1, i_ias LB), (106, .aload_n 0, 1, i_ald 1 0), (107, .getfield 13, 3, i_gfd LB 2 0), (110, .bipush 8, 2, i_psh 2 (.int 8)), (112, .aaload, 1, i_aak LB 8 8 13), (113, .iload 6, 2, i_ild 2 6), (115, .iconst (-1), 1, i_psh 1 (.int (-1))), (116, .iastore, 1, i_ias LB), (117, .aload_n 0, 1, i_ald 1 0), (118, .getfield 13, 3, i_gfd LB 2 0), (121, .bipush 9, 2, i_psh 2 (.int 9)), (123, .aaload, 1, i_aak LB 9 9 14), (124, .iload 6, 2, i_ild 2 6), (126, .iload_n 1, 1, i_ild 1 1), (127, .invokestatic 28, 3, i_csi 1 mX1_widthOf), (130, .iastore, 1, i_ias LB), (131, .aload_n 0, 1, i_ald 1 0), (132, .getfield 13, 3, i_gfd LB 2 0), (135, .bipush 13, 2, i_psh 2 (.int 13)), (137, .aaload, 1, i_aak LB 13 13 18), (138, .iload 6, 2, i_ild 2 6), (140, .iload 5, 2, i_ild 2 5), (142, .iastore, 1, i_ias LB), (143, .aload_n 0, 1, i_ald 1 0), (144, .getfield 13, 3, i_gfd LB 2 0), (147, .bipush 14, 2, i_psh 2 (.int 14)), (149, .aaload, 1, i_aak LB 14 14 19), (150, .iload 6, 2, i_ild 2 6), (152, .iconst (-1), 1, i_psh 1 (.int (-1))), (153, .iastore, 1, i_ias LB), (154, .aload_n 0, 1, i_ald 1 0), (155, .getfield 13, 3, i_gfd LB 2 0), (158, .bipush 15, 2, i_psh 2 (.int 15)), (160, .aaload, 1, i_aak LB 15 15 20), (161, .iload 6, 2, i_ild 2 6), (163, .iconst (-1), 1, i_psh 1 (.int (-1))), (164, .iastore, 1, i_ias LB), (165, .aload_n 0, 1, i_ald 1 0), (166, .dup, 1, i_dup), (167, .getfield 20, 3, i_gfd LB 2 2), (170, .iconst 1, 1, i_psh 1 (.int 1)), (171, .iadd, 1, i_bin (fun x y => (x + y))), (172, .putfield 20, 3, i_pfd LB 2 2), (175, .iload 6, 2, i_ild 2 6), (177, .ireturn, 1, i_irt)]
noncomputable def mX4_add : gF := g_m PX4_add 8
set_option maxRecDepth 20000 in
theorem dtX4_add : gDts PX4_add := ⟨dt_ald, dt_gfd, dt_ist, dt_psh, dt_ist, dt_ild, dt_psh, dt_cge, dt_ald, dt_gfd, dt_ild, dt_aad, dt_ild, dt_psh, dt_ias, dt_inc, dt_gto, dt_ald, dt_gfd, dt_psh, dt_aak, dt_ild, dt_ild, dt_ias, dt_ald, dt_gfd, dt_psh, dt_aak, dt_ild, dt_ild, dt_ias, dt_ald, dt_gfd, dt_psh, dt_aak, dt_ild, dt_ild, dt_ias, dt_ald, dt_gfd, dt_psh, dt_aak, dt_ild, dt_ild, dt_ias, dt_ald, dt_gfd, dt_psh, dt_aak, dt_ild, dt_ild, dt_ias, dt_ald, dt_gfd, dt_psh, dt_aak, dt_ild, dt_ild, dt_ias, dt_ald, dt_gfd, dt_psh, dt_aak, dt_ild, dt_psh, dt_ias, dt_ald, dt_gfd, dt_psh, dt_aak, dt_ild, dt_psh, dt_ias, dt_ald, dt_gfd, dt_psh, dt_aak, dt_ild, dt_ild, dt_csi, dt_ias, dt_ald, dt_gfd, dt_psh, dt_aak, dt_ild, dt_ild, dt_ias, dt_ald, dt_gfd, dt_psh, dt_aak, dt_ild, dt_psh, dt_ias, dt_ald, dt_gfd, dt_psh, dt_aak, dt_ild, dt_psh, dt_ias, dt_ald, dt_dup, dt_gfd, dt_psh, dt_bin, dt_pfd, dt_ild, dt_irt, trivial⟩
set_option maxRecDepth 20000 in
theorem dcX4_add : gDec MX4_add PX4_add := by unfold gDec PX4_add; decide +kernel
set_option maxRecDepth 20000 in
theorem okX4_add (l : Launch) (D : va_G) (τ : ClassId × ClassId × ClassId × ClassId) (ad : Nat → Nat) : gOks (D, τ, LB, ad) l MX4_add PX4_add := ⟨fun d => ok_aload_n d rfl, fun d => ok_getfield (ci := 2) (f := 2) (N := 4) (C := RX4) (T := TX4) d rfl inX4 (by decide) q184, fun d => ok_istore d, fun d => ok_iconst d (by decide), fun d => ok_istore d, fun d => ok_iload d, fun d => ok_bipush d (by decide), fun d => ok_icmpge d (by decide), fun d => ok_aload_n d rfl, fun d => ok_getfield (ci := 2) (f := 0) (N := 4) (C := RX4) (T := TX4) d rfl inX4 (by decide) q177, fun d => ok_iload d, fun d => ok_aaload d, fun d => ok_iload d, fun d => ok_iconst d (by decide), fun d => ok_iastore d, fun d => ok_iinc d (by decide), fun d => ok_goto d (by decide), fun d => ok_aload_n d rfl, fun d => ok_getfield (ci := 2) (f := 0) (N := 4) (C := RX4) (T := TX4) d rfl inX4 (by decide) q177, fun d => ok_iconst d (by decide), fun d => ok_aak (ok_aaload d) (by decide), fun d => ok_iload d, fun d => ok_iload_n d rfl, fun d => ok_iastore d, fun d => ok_aload_n d rfl, fun d => ok_getfield (ci := 2) (f := 0) (N := 4) (C := RX4) (T := TX4) d rfl inX4 (by decide) q177, fun d => ok_iconst d (by decide), fun d => ok_aak (ok_aaload d) (by decide), fun d => ok_iload d, fun d => ok_iload_n d rfl, fun d => ok_iastore d, fun d => ok_aload_n d rfl, fun d => ok_getfield (ci := 2) (f := 0) (N := 4) (C := RX4) (T := TX4) d rfl inX4 (by decide) q177, fun d => ok_iconst d (by decide), fun d => ok_aak (ok_aaload d) (by decide), fun d => ok_iload d, fun d => ok_iload_n d rfl, fun d => ok_iastore d, fun d => ok_aload_n d rfl, fun d => ok_getfield (ci := 2) (f := 0) (N := 4) (C := RX4) (T := TX4) d rfl inX4 (by decide) q177, fun d => ok_iconst d (by decide), fun d => ok_aak (ok_aaload d) (by decide), fun d => ok_iload d, fun d => ok_iload d, fun d => ok_iastore d, fun d => ok_aload_n d rfl, fun d => ok_getfield (ci := 2) (f := 0) (N := 4) (C := RX4) (T := TX4) d rfl inX4 (by decide) q177, fun d => ok_iconst d (by decide), fun d => ok_aak (ok_aaload d) (by decide), fun d => ok_iload d, fun d => ok_iload_n d rfl, fun d => ok_iastore d, fun d => ok_aload_n d rfl, fun d => ok_getfield (ci := 2) (f := 0) (N := 4) (C := RX4) (T := TX4) d rfl inX4 (by decide) q177, fun d => ok_bipush d (by decide), fun d => ok_aak (ok_aaload d) (by decide), fun d => ok_iload d, fun d => ok_iload_n d rfl, fun d => ok_iastore d, fun d => ok_aload_n d rfl, fun d => ok_getfield (ci := 2) (f := 0) (N := 4) (C := RX4) (T := TX4) d rfl inX4 (by decide) q177, fun d => ok_bipush d (by decide), fun d => ok_aak (ok_aaload d) (by decide), fun d => ok_iload d, fun d => ok_iconst d (by decide), fun d => ok_iastore d, fun d => ok_aload_n d rfl, fun d => ok_getfield (ci := 2) (f := 0) (N := 4) (C := RX4) (T := TX4) d rfl inX4 (by decide) q177, fun d => ok_bipush d (by decide), fun d => ok_aak (ok_aaload d) (by decide), fun d => ok_iload d, fun d => ok_iconst d (by decide), fun d => ok_iastore d, fun d => ok_aload_n d rfl, fun d => ok_getfield (ci := 2) (f := 0) (N := 4) (C := RX4) (T := TX4) d rfl inX4 (by decide) q177, fun d => ok_bipush d (by decide), fun d => ok_aak (ok_aaload d) (by decide), fun d => ok_iload d, fun d => ok_iload_n d rfl, fun d => ok_csi (ok_callS (M' := MX1_widthOf) d (tX1_widthOf l _) q597 q432 q151 q433 (by decide +kernel) (by decide)), fun d => ok_iastore d, fun d => ok_aload_n d rfl, fun d => ok_getfield (ci := 2) (f := 0) (N := 4) (C := RX4) (T := TX4) d rfl inX4 (by decide) q177, fun d => ok_bipush d (by decide), fun d => ok_aak (ok_aaload d) (by decide), fun d => ok_iload d, fun d => ok_iload d, fun d => ok_iastore d, fun d => ok_aload_n d rfl, fun d => ok_getfield (ci := 2) (f := 0) (N := 4) (C := RX4) (T := TX4) d rfl inX4 (by decide) q177, fun d => ok_bipush d (by decide), fun d => ok_aak (ok_aaload d) (by decide), fun d => ok_iload d, fun d => ok_iconst d (by decide), fun d => ok_iastore d, fun d => ok_aload_n d rfl, fun d => ok_getfield (ci := 2) (f := 0) (N := 4) (C := RX4) (T := TX4) d rfl inX4 (by decide) q177, fun d => ok_bipush d (by decide), fun d => ok_aak (ok_aaload d) (by decide), fun d => ok_iload d, fun d => ok_iconst d (by decide), fun d => ok_iastore d, fun d => ok_aload_n d rfl, fun d => ok_dup d, fun d => ok_getfield (ci := 2) (f := 2) (N := 4) (C := RX4) (T := TX4) d rfl inX4 (by decide) q184, fun d => ok_iconst d (by decide), fun d => ok_iadd d, fun d => ok_putfield (ci := 2) (f := 2) (N := 4) (C := RX4) (T := TX4) d rfl inX4 tyX4_ok nmX4 (by decide) q184 rfl (by decide), fun d => ok_iload d, fun d => ok_ireturn d rfl, trivial⟩
theorem tX4_add (l : Launch) (D : va_G) (τ : ClassId × ClassId × ClassId × ClassId) (ad : Nat → Nat) : ∀ as μ r, mX4_add as μ = some r → gMt (D, τ, LB, ad) l yX4_add MX4_add as μ r := fun _ _ _ h => gMt_of (plainFor_of_name (by decide +kernel)) rfl dcX4_add (okX4_add l D τ ad) h
/-! GangMatrix$Jobs.state(I)I (LB) -/
abbrev MX4_state : gMi := (cX4_state, 2, RX4, some .int, 1)
noncomputable def PX4_state : gP := [(0, .aload_n 0, 1, i_ald 1 0), (1, .getfield 13, 3, i_gfd LB 2 0), (4, .iconst 4, 1, i_psh 1 (.int 4)), (5, .aaload, 1, i_aak LB 4 4 9), (6, .iload_n 1, 1, i_ild 1 1), (7, .iaload, 1, i_iad LB), (8, .ireturn, 1, i_irt)]
noncomputable def mX4_state : gF := g_m PX4_state 2
set_option maxRecDepth 20000 in
theorem dtX4_state : gDts PX4_state := ⟨dt_ald, dt_gfd, dt_psh, dt_aak, dt_ild, dt_iad, dt_irt, trivial⟩
set_option maxRecDepth 20000 in
theorem dcX4_state : gDec MX4_state PX4_state := by unfold gDec PX4_state; decide +kernel
set_option maxRecDepth 20000 in
theorem okX4_state (l : Launch) (D : va_G) (τ : ClassId × ClassId × ClassId × ClassId) (ad : Nat → Nat) : gOks (D, τ, LB, ad) l MX4_state PX4_state := ⟨fun d => ok_aload_n d rfl, fun d => ok_getfield (ci := 2) (f := 0) (N := 4) (C := RX4) (T := TX4) d rfl inX4 (by decide) q177, fun d => ok_iconst d (by decide), fun d => ok_aak (ok_aaload d) (by decide), fun d => ok_iload_n d rfl, fun d => ok_iaload d, fun d => ok_ireturn d rfl, trivial⟩
theorem tX4_state (l : Launch) (D : va_G) (τ : ClassId × ClassId × ClassId × ClassId) (ad : Nat → Nat) : ∀ as μ r, mX4_state as μ = some r → gMt (D, τ, LB, ad) l yX4_state MX4_state as μ r := fun _ _ _ h => gMt_of (plainFor_of_name (by decide +kernel)) rfl dcX4_state (okX4_state l D τ ad) h
/-! GangMatrix$Jobs.toLine(I)V (LB) -/
abbrev MX4_toLine : gMi := (cX4_toLine, 2, RX4, none, 1)
noncomputable def PX4_toLine : gP := [(0, .aload_n 0, 1, i_ald 1 0), (1, .getfield 13, 3, i_gfd LB 2 0), (4, .iconst 4, 1, i_psh 1 (.int 4)), (5, .aaload, 1, i_aak LB 4 4 9), (6, .iload_n 1, 1, i_ild 1 1), (7, .iconst 1, 1, i_psh 1 (.int 1)), (8, .iastore, 1, i_ias LB), (9, .aload_n 0, 1, i_ald 1 0), (10, .getfield 34, 3, i_gfd LB 2 3), (13, .bipush 60, 2, i_psh 2 (.int 60)), (15, .if_icmp .ge 23, 3, i_cge 38), (18, .aload_n 0, 1, i_ald 1 0), (19, .getfield 16, 3, i_gfd LB 2 1), (22, .aload_n 0, 1, i_ald 1 0), (23, .getfield 34, 3, i_gfd LB 2 3), (26, .iload_n 1, 1, i_ild 1 1), (27, .iastore, 1, i_ias LB), (28, .aload_n 0, 1, i_ald 1 0), (29, .dup, 1, i_dup), (30, .getfield 34, 3, i_gfd LB 2 3), (33, .iconst 1, 1, i_psh 1 (.int 1)), (34, .iadd, 1, i_bin (fun x y => (x + y))), (35, .putfield 34, 3, i_pfd LB 2 3), (38, .return_, 1, i_vrt)]
noncomputable def mX4_toLine : gF := g_m PX4_toLine 2
set_option maxRecDepth 20000 in
theorem dtX4_toLine : gDts PX4_toLine := ⟨dt_ald, dt_gfd, dt_psh, dt_aak, dt_ild, dt_psh, dt_ias, dt_ald, dt_gfd, dt_psh, dt_cge, dt_ald, dt_gfd, dt_ald, dt_gfd, dt_ild, dt_ias, dt_ald, dt_dup, dt_gfd, dt_psh, dt_bin, dt_pfd, dt_vrt, trivial⟩
set_option maxRecDepth 20000 in
theorem dcX4_toLine : gDec MX4_toLine PX4_toLine := by unfold gDec PX4_toLine; decide +kernel
set_option maxRecDepth 20000 in
theorem okX4_toLine (l : Launch) (D : va_G) (τ : ClassId × ClassId × ClassId × ClassId) (ad : Nat → Nat) : gOks (D, τ, LB, ad) l MX4_toLine PX4_toLine := ⟨fun d => ok_aload_n d rfl, fun d => ok_getfield (ci := 2) (f := 0) (N := 4) (C := RX4) (T := TX4) d rfl inX4 (by decide) q177, fun d => ok_iconst d (by decide), fun d => ok_aak (ok_aaload d) (by decide), fun d => ok_iload_n d rfl, fun d => ok_iconst d (by decide), fun d => ok_iastore d, fun d => ok_aload_n d rfl, fun d => ok_getfield (ci := 2) (f := 3) (N := 4) (C := RX4) (T := TX4) d rfl inX4 (by decide) q189, fun d => ok_bipush d (by decide), fun d => ok_icmpge d (by decide), fun d => ok_aload_n d rfl, fun d => ok_getfield (ci := 2) (f := 1) (N := 4) (C := RX4) (T := TX4) d rfl inX4 (by decide) q182, fun d => ok_aload_n d rfl, fun d => ok_getfield (ci := 2) (f := 3) (N := 4) (C := RX4) (T := TX4) d rfl inX4 (by decide) q189, fun d => ok_iload_n d rfl, fun d => ok_iastore d, fun d => ok_aload_n d rfl, fun d => ok_dup d, fun d => ok_getfield (ci := 2) (f := 3) (N := 4) (C := RX4) (T := TX4) d rfl inX4 (by decide) q189, fun d => ok_iconst d (by decide), fun d => ok_iadd d, fun d => ok_putfield (ci := 2) (f := 3) (N := 4) (C := RX4) (T := TX4) d rfl inX4 tyX4_ok nmX4 (by decide) q189 rfl (by decide), fun d => ok_vreturn d rfl, trivial⟩
theorem tX4_toLine (l : Launch) (D : va_G) (τ : ClassId × ClassId × ClassId × ClassId) (ad : Nat → Nat) : ∀ as μ r, mX4_toLine as μ = some r → gMt (D, τ, LB, ad) l yX4_toLine MX4_toLine as μ r := fun _ _ _ h => gMt_of (plainFor_of_name (by decide +kernel)) rfl dcX4_toLine (okX4_toLine l D τ ad) h
/-! GangMatrix$Board.come(IIII)I (LB) -/
abbrev MX2_come : gMi := (cX2_come, 6, RX2, some .int, 4)
noncomputable def PX2_come : gP := [(0, .aload_n 0, 1, i_ald 1 0), (1, .getfield 21, 3, i_gfd LB 1 2), (4, .iload_n 1, 1, i_ild 1 1), (5, .iload_n 2, 1, i_ild 1 2), (6, .iload_n 3, 1, i_ild 1 3), (7, .iload 4, 2, i_ild 2 4), (9, .aload_n 0, 1, i_ald 1 0), (10, .getfield 96, 3, i_gfd LB 1 12), (13, .invokevirtual 138, 3, i_cvi LB 5 2 mX4_add), (16, .istore 5, 2, i_ist 2 5), (18, .iload 4, 2, i_ild 2 4), (20, .iconst (-1), 1, i_psh 1 (.int (-1))), (21, .if_icmp .eq 16, 3, i_ceq 37), (24, .aload_n 0, 1, i_ald 1 0), (25, .getfield 21, 3, i_gfd LB 1 2), (28, .iload 4, 2, i_ild 2 4), (30, .invokevirtual 141, 3, i_cvi LB 1 2 mX4_state), (33, .iconst 3, 1, i_psh 1 (.int 3)), (34, .if_icmp .ne 12, 3, i_cne 46), (37, .aload_n 0, 1, i_ald 1 0), (38, .getfield 21, 3, i_gfd LB 1 2), (41, .iload 5, 2, i_ild 2 5), (43, .invokevirtual 144, 3, i_cvv LB 1 2 mX4_toLine), (46, .aload_n 0, 1, i_ald 1 0), (47, .iconst 0, 1, i_psh 1 (.int 0)), (48, .iload 5, 2, i_ild 2 5), (50, .invokevirtual 148, 3, i_cvv LB 2 1 mX2_note), (53, .iload 5, 2, i_ild 2 5), (55, .ireturn, 1, i_irt)]
noncomputable def mX2_come : gF := g_m PX2_come 6
set_option maxRecDepth 20000 in
theorem dtX2_come : gDts PX2_come := ⟨dt_ald, dt_gfd, dt_ild, dt_ild, dt_ild, dt_ild, dt_ald, dt_gfd, dt_cvi, dt_ist, dt_ild, dt_psh, dt_ceq, dt_ald, dt_gfd, dt_ild, dt_cvi, dt_psh, dt_cne, dt_ald, dt_gfd, dt_ild, dt_cvv, dt_ald, dt_psh, dt_ild, dt_cvv, dt_ild, dt_irt, trivial⟩
set_option maxRecDepth 20000 in
theorem dcX2_come : gDec MX2_come PX2_come := by unfold gDec PX2_come; decide +kernel
set_option maxRecDepth 20000 in
theorem okX2_come (l : Launch) (D : va_G) (τ : ClassId × ClassId × ClassId × ClassId) (ad : Nat → Nat) : gOks (D, τ, LB, ad) l MX2_come PX2_come := ⟨fun d => ok_aload_n d rfl, fun d => ok_getfield (ci := 1) (f := 2) (N := 14) (C := RX2) (T := TX2) d rfl inX2 (by decide) q322, fun d => ok_iload_n d rfl, fun d => ok_iload_n d rfl, fun d => ok_iload_n d rfl, fun d => ok_iload d, fun d => ok_aload_n d rfl, fun d => ok_getfield (ci := 1) (f := 12) (N := 14) (C := RX2) (T := TX2) d rfl inX2 (by decide) q341, fun d => ok_cvi (ok_callV (M' := MX4_add) (ci := 2) (C := RX4) (T := TX4) (N := 4) d (tX4_add l D τ ad) rfl q593 q594 q595 q143 q596 (by decide +kernel) (by decide)), fun d => ok_istore d, fun d => ok_iload d, fun d => ok_iconst d (by decide), fun d => ok_icmpeq d (by decide), fun d => ok_aload_n d rfl, fun d => ok_getfield (ci := 1) (f := 2) (N := 14) (C := RX2) (T := TX2) d rfl inX2 (by decide) q322, fun d => ok_iload d, fun d => ok_cvi (ok_callV (M' := MX4_state) (ci := 2) (C := RX4) (T := TX4) (N := 4) d (tX4_state l D τ ad) rfl q598 q599 q600 q143 q601 (by decide +kernel) (by decide)), fun d => ok_iconst d (by decide), fun d => ok_icmpne d (by decide), fun d => ok_aload_n d rfl, fun d => ok_getfield (ci := 1) (f := 2) (N := 14) (C := RX2) (T := TX2) d rfl inX2 (by decide) q322, fun d => ok_iload d, fun d => ok_cvv (ok_callV (M' := MX4_toLine) (ci := 2) (C := RX4) (T := TX4) (N := 4) d (tX4_toLine l D τ ad) rfl q602 q603 q604 q143 q605 (by decide +kernel) (by decide)), fun d => ok_aload_n d rfl, fun d => ok_iconst d (by decide), fun d => ok_iload d, fun d => ok_cvv (ok_callV (M' := MX2_note) (ci := 1) (C := RX2) (T := TX2) (N := 14) d (tX2_note l D τ ad) rfl q554 q555 q556 q142 q557 (by decide +kernel) (by decide)), fun d => ok_iload d, fun d => ok_ireturn d rfl, trivial⟩
theorem tX2_come (l : Launch) (D : va_G) (τ : ClassId × ClassId × ClassId × ClassId) (ad : Nat → Nat) : ∀ as μ r, mX2_come as μ = some r → gMt (D, τ, LB, ad) l yX2_come MX2_come as μ r := fun _ _ _ h => gMt_of (plainFor_of_name (by decide +kernel)) rfl dcX2_come (okX2_come l D τ ad) h
/-! GangMatrix$Board.canStand(I)Z (LB) -/
abbrev MX2_canStand : gMi := (cX2_canStand, 4, RX2, some .boolean, 3)
noncomputable def PX2_canStand : gP := [(0, .aload_n 0, 1, i_ald 1 0), (1, .invokevirtual 107, 3, i_cvi LB 0 1 mX2_ups), (4, .istore_n 2, 1, i_ist 1 2), (5, .iconst 0, 1, i_psh 1 (.int 0)), (6, .istore_n 3, 1, i_ist 1 3), (7, .iload_n 3, 1, i_ild 1 3), (8, .aload_n 0, 1, i_ald 1 0), (9, .getfield 35, 3, i_gfd LB 1 4), (12, .getfield 160, 3, i_gfd LB 4 3), (15, .if_icmp .ge 31, 3, i_cge 46), (18, .iload_n 2, 1, i_ild 1 2), (19, .aload_n 0, 1, i_ald 1 0), (20, .getfield 35, 3, i_gfd LB 1 4), (23, .getfield 111, 3, i_gfd LB 4 2), (26, .iload_n 3, 1, i_ild 1 3), (27, .iaload, 1, i_iad LB), (28, .iconst (-1), 1, i_psh 1 (.int (-1))), (29, .ixor, 1, i_bin (fun x y => (x ^^^ y))), (30, .iand, 1, i_bin (fun x y => (x &&& y))), (31, .iload_n 1, 1, i_ild 1 1), (32, .invokestatic 172, 3, i_csi 2 mX1_starts), (35, .ifCond .eq 5, 3, i_feq 40), (38, .iconst 1, 1, i_psh 1 (.int 1)), (39, .ireturn, 1, i_zrt), (40, .iinc 3 1, 3, i_inc 3 1), (43, .goto (-36), 3, i_gto 7), (46, .aload_n 0, 1, i_ald 1 0), (47, .getfield 35, 3, i_gfd LB 1 4), (50, .getfield 160, 3, i_gfd LB 4 3), (53, .aload_n 0, 1, i_ald 1 0), (54, .getfield 9, 3, i_gfd LB 1 0), (57, .iconst 1, 1, i_psh 1 (.int 1)), (58, .iaload, 1, i_iak LB 1 1), (59, .if_icmp .ge 15, 3, i_cge 74), (62, .iload_n 2, 1, i_ild 1 2), (63, .iload_n 1, 1, i_ild 1 1), (64, .invokestatic 172, 3, i_csi 2 mX1_starts), (67, .ifCond .eq 7, 3, i_feq 74), (70, .iconst 1, 1, i_psh 1 (.int 1)), (71, .goto 4, 3, i_gto 75), (74, .iconst 0, 1, i_psh 1 (.int 0)), (75, .ireturn, 1, i_zrt)]
noncomputable def mX2_canStand : gF := g_m PX2_canStand 4
set_option maxRecDepth 20000 in
theorem dtX2_canStand : gDts PX2_canStand := ⟨dt_ald, dt_cvi, dt_ist, dt_psh, dt_ist, dt_ild, dt_ald, dt_gfd, dt_gfd, dt_cge, dt_ild, dt_ald, dt_gfd, dt_gfd, dt_ild, dt_iad, dt_psh, dt_bin, dt_bin, dt_ild, dt_csi, dt_feq, dt_psh, dt_zrt, dt_inc, dt_gto, dt_ald, dt_gfd, dt_gfd, dt_ald, dt_gfd, dt_psh, dt_iak, dt_cge, dt_ild, dt_ild, dt_csi, dt_feq, dt_psh, dt_gto, dt_psh, dt_zrt, trivial⟩
set_option maxRecDepth 20000 in
theorem dcX2_canStand : gDec MX2_canStand PX2_canStand := by unfold gDec PX2_canStand; decide +kernel
set_option maxRecDepth 20000 in
theorem okX2_canStand (l : Launch) (D : va_G) (τ : ClassId × ClassId × ClassId × ClassId) (ad : Nat → Nat) : gOks (D, τ, LB, ad) l MX2_canStand PX2_canStand := ⟨fun d => ok_aload_n d rfl, fun d => ok_cvi (ok_callV (M' := MX2_ups) (ci := 1) (C := RX2) (T := TX2) (N := 14) d (tX2_ups l D τ ad) rfl q465 q466 q467 q142 q468 (by decide +kernel) (by decide)), fun d => ok_istore_n d rfl, fun d => ok_iconst d (by decide), fun d => ok_istore_n d rfl, fun d => ok_iload_n d rfl, fun d => ok_aload_n d rfl, fun d => ok_getfield (ci := 1) (f := 4) (N := 14) (C := RX2) (T := TX2) d rfl inX2 (by decide) q327, fun d => ok_getfield (ci := 4) (f := 3) (N := 4) (C := RX7) (T := TX7) d rfl inX7 (by decide) q243, fun d => ok_icmpge d (by decide), fun d => ok_iload_n d rfl, fun d => ok_aload_n d rfl, fun d => ok_getfield (ci := 1) (f := 4) (N := 14) (C := RX2) (T := TX2) d rfl inX2 (by decide) q327, fun d => ok_getfield (ci := 4) (f := 2) (N := 4) (C := RX7) (T := TX7) d rfl inX7 (by decide) q237, fun d => ok_iload_n d rfl, fun d => ok_iaload d, fun d => ok_iconst d (by decide), fun d => ok_ixor d, fun d => ok_iand d, fun d => ok_iload_n d rfl, fun d => ok_csi (ok_callS (M' := MX1_starts) d (tX1_starts l _) q472 q473 q151 q474 (by decide +kernel) (by decide)), fun d => ok_ifeq d (by decide), fun d => ok_iconst d (by decide), fun d => ok_zreturn d rfl, fun d => ok_iinc d (by decide), fun d => ok_goto d (by decide), fun d => ok_aload_n d rfl, fun d => ok_getfield (ci := 1) (f := 4) (N := 14) (C := RX2) (T := TX2) d rfl inX2 (by decide) q327, fun d => ok_getfield (ci := 4) (f := 3) (N := 4) (C := RX7) (T := TX7) d rfl inX7 (by decide) q243, fun d => ok_aload_n d rfl, fun d => ok_getfield (ci := 1) (f := 0) (N := 14) (C := RX2) (T := TX2) d rfl inX2 (by decide) q315, fun d => ok_iconst d (by decide), fun d => ok_iak (ok_iaload d) (by decide), fun d => ok_icmpge d (by decide), fun d => ok_iload_n d rfl, fun d => ok_iload_n d rfl, fun d => ok_csi (ok_callS (M' := MX1_starts) d (tX1_starts l _) q472 q473 q151 q474 (by decide +kernel) (by decide)), fun d => ok_ifeq d (by decide), fun d => ok_iconst d (by decide), fun d => ok_goto d (by decide), fun d => ok_iconst d (by decide), fun d => ok_zreturn d rfl, trivial⟩
theorem tX2_canStand (l : Launch) (D : va_G) (τ : ClassId × ClassId × ClassId × ClassId) (ad : Nat → Nat) : ∀ as μ r, mX2_canStand as μ = some r → gMt (D, τ, LB, ad) l yX2_canStand MX2_canStand as μ r := fun _ _ _ h => gMt_of (plainFor_of_name (by decide +kernel)) rfl dcX2_canStand (okX2_canStand l D τ ad) h
/-! GangMatrix$Slots.loadOf(I)I (LB) -/
abbrev MX7_loadOf : gMi := (cX7_loadOf, 4, RX7, some .int, 1)
noncomputable def PX7_loadOf : gP := [(0, .iconst 0, 1, i_psh 1 (.int 0)), (1, .istore_n 2, 1, i_ist 1 2), (2, .iconst 0, 1, i_psh 1 (.int 0)), (3, .istore_n 3, 1, i_ist 1 3), (4, .iload_n 3, 1, i_ild 1 3), (5, .aload_n 0, 1, i_ald 1 0), (6, .getfield 22, 3, i_gfd LB 4 3), (9, .if_icmp .ge 22, 3, i_cge 31), (12, .iload_n 2, 1, i_ild 1 2), (13, .aload_n 0, 1, i_ald 1 0), (14, .getfield 19, 3, i_gfd LB 4 2), (17, .iload_n 3, 1, i_ild 1 3), (18, .iaload, 1, i_iad LB), (19, .iload_n 1, 1, i_ild 1 1), (20, .iushr, 1, i_bin (fun x y => (g_ushr x y))), (21, .iconst 1, 1, i_psh 1 (.int 1)), (22, .iand, 1, i_bin (fun x y => (x &&& y))), (23, .iadd, 1, i_bin (fun x y => (x + y))), (24, .istore_n 2, 1, i_ist 1 2), (25, .iinc 3 1, 3, i_inc 3 1), (28, .goto (-24), 3, i_gto 4), (31, .iload_n 2, 1, i_ild 1 2), (32, .ireturn, 1, i_irt)]
noncomputable def mX7_loadOf : gF := g_m PX7_loadOf 4
set_option maxRecDepth 20000 in
theorem dtX7_loadOf : gDts PX7_loadOf := ⟨dt_psh, dt_ist, dt_psh, dt_ist, dt_ild, dt_ald, dt_gfd, dt_cge, dt_ild, dt_ald, dt_gfd, dt_ild, dt_iad, dt_ild, dt_bin, dt_psh, dt_bin, dt_bin, dt_ist, dt_inc, dt_gto, dt_ild, dt_irt, trivial⟩
set_option maxRecDepth 20000 in
theorem dcX7_loadOf : gDec MX7_loadOf PX7_loadOf := by unfold gDec PX7_loadOf; decide +kernel
set_option maxRecDepth 20000 in
theorem okX7_loadOf (l : Launch) (D : va_G) (τ : ClassId × ClassId × ClassId × ClassId) (ad : Nat → Nat) : gOks (D, τ, LB, ad) l MX7_loadOf PX7_loadOf := ⟨fun d => ok_iconst d (by decide), fun d => ok_istore_n d rfl, fun d => ok_iconst d (by decide), fun d => ok_istore_n d rfl, fun d => ok_iload_n d rfl, fun d => ok_aload_n d rfl, fun d => ok_getfield (ci := 4) (f := 3) (N := 4) (C := RX7) (T := TX7) d rfl inX7 (by decide) q240, fun d => ok_icmpge d (by decide), fun d => ok_iload_n d rfl, fun d => ok_aload_n d rfl, fun d => ok_getfield (ci := 4) (f := 2) (N := 4) (C := RX7) (T := TX7) d rfl inX7 (by decide) q236, fun d => ok_iload_n d rfl, fun d => ok_iaload d, fun d => ok_iload_n d rfl, fun d => ok_iushr d, fun d => ok_iconst d (by decide), fun d => ok_iand d, fun d => ok_iadd d, fun d => ok_istore_n d rfl, fun d => ok_iinc d (by decide), fun d => ok_goto d (by decide), fun d => ok_iload_n d rfl, fun d => ok_ireturn d rfl, trivial⟩
theorem tX7_loadOf (l : Launch) (D : va_G) (τ : ClassId × ClassId × ClassId × ClassId) (ad : Nat → Nat) : ∀ as μ r, mX7_loadOf as μ = some r → gMt (D, τ, LB, ad) l yX7_loadOf MX7_loadOf as μ r := fun _ _ _ h => gMt_of (plainFor_of_name (by decide +kernel)) rfl dcX7_loadOf (okX7_loadOf l D τ ad) h
/-! GangMatrix$Slots.loadsInto([I)V (LB) -/
abbrev MX7_loadsInto : gMi := (cX7_loadsInto, 3, RX7, none, 2)
noncomputable def PX7_loadsInto : gP := [(0, .iconst 0, 1, i_psh 1 (.int 0)), (1, .istore_n 2, 1, i_ist 1 2), (2, .iload_n 2, 1, i_ild 1 2), (3, .aload_n 1, 1, i_ald 1 1), (4, .arraylength, 1, i_aln LB), (5, .if_icmp .ge 17, 3, i_cge 22), (8, .aload_n 1, 1, i_ald 1 1), (9, .iload_n 2, 1, i_ild 1 2), (10, .aload_n 0, 1, i_ald 1 0), (11, .iload_n 2, 1, i_ild 1 2), (12, .invokevirtual 36, 3, i_cvi LB 1 4 mX7_loadOf), (15, .iastore, 1, i_ias LB), (16, .iinc 2 1, 3, i_inc 2 1), (19, .goto (-17), 3, i_gto 2), (22, .return_, 1, i_vrt)]
noncomputable def mX7_loadsInto : gF := g_m PX7_loadsInto 3
set_option maxRecDepth 20000 in
theorem dtX7_loadsInto : gDts PX7_loadsInto := ⟨dt_psh, dt_ist, dt_ild, dt_ald, dt_aln, dt_cge, dt_ald, dt_ild, dt_ald, dt_ild, dt_cvi, dt_ias, dt_inc, dt_gto, dt_vrt, trivial⟩
set_option maxRecDepth 20000 in
theorem dcX7_loadsInto : gDec MX7_loadsInto PX7_loadsInto := by unfold gDec PX7_loadsInto; decide +kernel
set_option maxRecDepth 20000 in
theorem okX7_loadsInto (l : Launch) (D : va_G) (τ : ClassId × ClassId × ClassId × ClassId) (ad : Nat → Nat) : gOks (D, τ, LB, ad) l MX7_loadsInto PX7_loadsInto := ⟨fun d => ok_iconst d (by decide), fun d => ok_istore_n d rfl, fun d => ok_iload_n d rfl, fun d => ok_aload_n d rfl, fun d => ok_alen d, fun d => ok_icmpge d (by decide), fun d => ok_aload_n d rfl, fun d => ok_iload_n d rfl, fun d => ok_aload_n d rfl, fun d => ok_iload_n d rfl, fun d => ok_cvi (ok_callV (M' := MX7_loadOf) (ci := 4) (C := RX7) (T := TX7) (N := 4) d (tX7_loadOf l D τ ad) rfl q481 q482 q483 q145 q484 (by decide +kernel) (by decide)), fun d => ok_iastore d, fun d => ok_iinc d (by decide), fun d => ok_goto d (by decide), fun d => ok_vreturn d rfl, trivial⟩
theorem tX7_loadsInto (l : Launch) (D : va_G) (τ : ClassId × ClassId × ClassId × ClassId) (ad : Nat → Nat) : ∀ as μ r, mX7_loadsInto as μ = some r → gMt (D, τ, LB, ad) l yX7_loadsInto MX7_loadsInto as μ r := fun _ _ _ h => gMt_of (plainFor_of_name (by decide +kernel)) rfl dcX7_loadsInto (okX7_loadsInto l D τ ad) h
/-! GangMatrix$Board.roomOf(III)I (LB) -/
abbrev MX2_roomOf : gMi := (cX2_roomOf, 7, RX2, some .int, 2)
noncomputable def PX2_roomOf : gP := [(0, .iload_n 3, 1, i_ild 1 3), (1, .istore 4, 2, i_ist 2 4), (3, .iconst 2, 1, i_psh 1 (.int 2)), (4, .istore 5, 2, i_kll [0, 6] (i_ist 2 5)), (6, .iload 5, 2, i_ild 2 5), (8, .bipush 32, 2, i_psh 2 (.int 32)), (10, .if_icmp .gt 45, 3, i_cgt 55), (13, .iload_n 2, 1, i_ild 1 2), (14, .iload 5, 2, i_ild 2 5), (16, .idiv, 1, i_dvr (fun x y => (x / y))), (17, .iload 5, 2, i_ild 2 5), (19, .imul, 1, i_bin (fun x y => (x * y))), (20, .iload 5, 2, i_ild 2 5), (22, .invokestatic 103, 3, i_csi 2 mX1_bits), (25, .istore 6, 2, i_ist 2 6), (27, .iload 5, 2, i_ild 2 5), (29, .iload_n 3, 1, i_ild 1 3), (30, .if_icmp .le 16, 3, i_cle 46), (33, .iload 6, 2, i_ild 2 6), (35, .iload_n 1, 1, i_ild 1 1), (36, .iconst (-1), 1, i_psh 1 (.int (-1))), (37, .ixor, 1, i_bin (fun x y => (x ^^^ y))), (38, .iand, 1, i_bin (fun x y => (x &&& y))), (39, .ifCond .ne 7, 3, i_fne 46), (42, .iload 5, 2, i_ild 2 5), (44, .istore 4, 2, i_ist 2 4), (46, .iload 5, 2, i_ild 2 5), (48, .iconst 2, 1, i_psh 1 (.int 2)), (49, .imul, 1, i_bin (fun x y => (x * y))), (50, .istore 5, 2, i_ist 2 5), (52, .goto (-46), 3, i_kll [0, 6] (i_gto 6)), (55, .iload 4, 2, i_ild 2 4), (57, .ireturn, 1, i_irt)]
noncomputable def mX2_roomOf : gF := g_m PX2_roomOf 7
set_option maxRecDepth 20000 in
theorem dtX2_roomOf : gDts PX2_roomOf := ⟨dt_ild, dt_ist, dt_psh, dt_kll dt_ist, dt_ild, dt_psh, dt_cgt, dt_ild, dt_ild, dt_dvr, dt_ild, dt_bin, dt_ild, dt_csi, dt_ist, dt_ild, dt_ild, dt_cle, dt_ild, dt_ild, dt_psh, dt_bin, dt_bin, dt_fne, dt_ild, dt_ist, dt_ild, dt_psh, dt_bin, dt_ist, dt_kll dt_gto, dt_ild, dt_irt, trivial⟩
set_option maxRecDepth 20000 in
theorem dcX2_roomOf : gDec MX2_roomOf PX2_roomOf := by unfold gDec PX2_roomOf; decide +kernel
set_option maxRecDepth 20000 in
theorem okX2_roomOf (l : Launch) (D : va_G) (τ : ClassId × ClassId × ClassId × ClassId) (ad : Nat → Nat) : gOks (D, τ, LB, ad) l MX2_roomOf PX2_roomOf := ⟨fun d => ok_iload_n d rfl, fun d => ok_istore d, fun d => ok_iconst d (by decide), fun d => ok_kll (ok_istore d), fun d => ok_iload d, fun d => ok_bipush d (by decide), fun d => ok_icmpgt d (by decide), fun d => ok_iload_n d rfl, fun d => ok_iload d, fun d => ok_idiv d, fun d => ok_iload d, fun d => ok_imul d, fun d => ok_iload d, fun d => ok_csi (ok_callS (M' := MX1_bits) d (tX1_bits l _) q469 q470 q151 q471 (by decide +kernel) (by decide)), fun d => ok_istore d, fun d => ok_iload d, fun d => ok_iload_n d rfl, fun d => ok_icmple d (by decide), fun d => ok_iload d, fun d => ok_iload_n d rfl, fun d => ok_iconst d (by decide), fun d => ok_ixor d, fun d => ok_iand d, fun d => ok_ifne d (by decide), fun d => ok_iload d, fun d => ok_istore d, fun d => ok_iload d, fun d => ok_iconst d (by decide), fun d => ok_imul d, fun d => ok_istore d, fun d => ok_kll (ok_goto d (by decide)), fun d => ok_iload d, fun d => ok_ireturn d rfl, trivial⟩
theorem tX2_roomOf (l : Launch) (D : va_G) (τ : ClassId × ClassId × ClassId × ClassId) (ad : Nat → Nat) : ∀ as μ r, mX2_roomOf as μ = some r → gMt (D, τ, LB, ad) l yX2_roomOf MX2_roomOf as μ r := fun _ _ _ h => gMt_of (plainFor_of_name (by decide +kernel)) rfl dcX2_roomOf (okX2_roomOf l D τ ad) h
/-! GangMatrix$Board.loadRank(II)I (LB) -/
abbrev MX2_loadRank : gMi := (cX2_loadRank, 6, RX2, some .int, 2)
noncomputable def PX2_loadRank : gP := [(0, .iconst 0, 1, i_psh 1 (.int 0)), (1, .istore_n 3, 1, i_ist 1 3), (2, .iconst 0, 1, i_psh 1 (.int 0)), (3, .istore 4, 2, i_ist 2 4), (5, .iload_n 1, 1, i_ild 1 1), (6, .istore 5, 2, i_ist 2 5), (8, .iload 5, 2, i_ild 2 5), (10, .iload_n 1, 1, i_ild 1 1), (11, .iload_n 2, 1, i_ild 1 2), (12, .iadd, 1, i_bin (fun x y => (x + y))), (13, .if_icmp .ge 43, 3, i_cge 56), (16, .iload 5, 2, i_ild 2 5), (18, .aload_n 0, 1, i_ald 1 0), (19, .getfield 71, 3, i_gfd LB 1 11), (22, .arraylength, 1, i_aln LB), (23, .if_icmp .ge 33, 3, i_cge 56), (26, .iload_n 3, 1, i_ild 1 3), (27, .aload_n 0, 1, i_ald 1 0), (28, .getfield 71, 3, i_gfd LB 1 11), (31, .iload 5, 2, i_ild 2 5), (33, .iaload, 1, i_iad LB), (34, .invokestatic 190, 3, i_csi 2 mJ9_max_7cf53), (37, .istore_n 3, 1, i_ist 1 3), (38, .iload 4, 2, i_ild 2 4), (40, .aload_n 0, 1, i_ald 1 0), (41, .getfield 71, 3, i_gfd LB 1 11), (44, .iload 5, 2, i_ild 2 5), (46, .iaload, 1, i_iad LB), (47, .iadd, 1, i_bin (fun x y => (x + y))), (48, .istore 4, 2, i_ist 2 4), (50, .iinc 5 1, 3, i_inc 5 1), (53, .goto (-45), 3, i_gto 8), (56, .iload_n 3, 1, i_ild 1 3), (57, .sipush 1000, 3, i_psh 3 (.int 1000)), (60, .imul, 1, i_bin (fun x y => (x * y))), (61, .iload 4, 2, i_ild 2 4), (63, .iadd, 1, i_bin (fun x y => (x + y))), (64, .ireturn, 1, i_irt)]
noncomputable def mX2_loadRank : gF := g_m PX2_loadRank 6
set_option maxRecDepth 20000 in
theorem dtX2_loadRank : gDts PX2_loadRank := ⟨dt_psh, dt_ist, dt_psh, dt_ist, dt_ild, dt_ist, dt_ild, dt_ild, dt_ild, dt_bin, dt_cge, dt_ild, dt_ald, dt_gfd, dt_aln, dt_cge, dt_ild, dt_ald, dt_gfd, dt_ild, dt_iad, dt_csi, dt_ist, dt_ild, dt_ald, dt_gfd, dt_ild, dt_iad, dt_bin, dt_ist, dt_inc, dt_gto, dt_ild, dt_psh, dt_bin, dt_ild, dt_bin, dt_irt, trivial⟩
set_option maxRecDepth 20000 in
theorem dcX2_loadRank : gDec MX2_loadRank PX2_loadRank := by unfold gDec PX2_loadRank; decide +kernel
set_option maxRecDepth 20000 in
theorem okX2_loadRank (l : Launch) (D : va_G) (τ : ClassId × ClassId × ClassId × ClassId) (ad : Nat → Nat) : gOks (D, τ, LB, ad) l MX2_loadRank PX2_loadRank := ⟨fun d => ok_iconst d (by decide), fun d => ok_istore_n d rfl, fun d => ok_iconst d (by decide), fun d => ok_istore d, fun d => ok_iload_n d rfl, fun d => ok_istore d, fun d => ok_iload d, fun d => ok_iload_n d rfl, fun d => ok_iload_n d rfl, fun d => ok_iadd d, fun d => ok_icmpge d (by decide), fun d => ok_iload d, fun d => ok_aload_n d rfl, fun d => ok_getfield (ci := 1) (f := 11) (N := 14) (C := RX2) (T := TX2) d rfl inX2 (by decide) q340, fun d => ok_alen d, fun d => ok_icmpge d (by decide), fun d => ok_iload_n d rfl, fun d => ok_aload_n d rfl, fun d => ok_getfield (ci := 1) (f := 11) (N := 14) (C := RX2) (T := TX2) d rfl inX2 (by decide) q340, fun d => ok_iload d, fun d => ok_iaload d, fun d => ok_csi (ok_callS (M' := MJ9_max_7cf53) d (tJ9_max_7cf53 l _) q510 q511 q154 q512 (by decide +kernel) (by decide)), fun d => ok_istore_n d rfl, fun d => ok_iload d, fun d => ok_aload_n d rfl, fun d => ok_getfield (ci := 1) (f := 11) (N := 14) (C := RX2) (T := TX2) d rfl inX2 (by decide) q340, fun d => ok_iload d, fun d => ok_iaload d, fun d => ok_iadd d, fun d => ok_istore d, fun d => ok_iinc d (by decide), fun d => ok_goto d (by decide), fun d => ok_iload_n d rfl, fun d => ok_sipush d (by decide), fun d => ok_imul d, fun d => ok_iload d, fun d => ok_iadd d, fun d => ok_ireturn d rfl, trivial⟩
theorem tX2_loadRank (l : Launch) (D : va_G) (τ : ClassId × ClassId × ClassId × ClassId) (ad : Nat → Nat) : ∀ as μ r, mX2_loadRank as μ = some r → gMt (D, τ, LB, ad) l yX2_loadRank MX2_loadRank as μ r := fun _ _ _ h => gMt_of (plainFor_of_name (by decide +kernel)) rfl dcX2_loadRank (okX2_loadRank l D τ ad) h
/-! GangMatrix$Board.rankedStart(II)I (LB) -/
abbrev MX2_rankedStart : gMi := (cX2_rankedStart, 8, RX2, some .int, 3)
noncomputable def PX2_rankedStart : gP := [(0, .iload_n 1, 1, i_ild 1 1), (1, .iload_n 2, 1, i_ild 1 2), (2, .invokestatic 172, 3, i_csi 2 mX1_starts), (5, .istore_n 3, 1, i_ist 1 3), (6, .iload_n 3, 1, i_ild 1 3), (7, .ifCond .eq 12, 3, i_feq 19), (10, .aload_n 0, 1, i_ald 1 0), (11, .getfield 9, 3, i_gfd LB 1 0), (14, .iconst 2, 1, i_psh 1 (.int 2)), (15, .iaload, 1, i_iak LB 2 2), (16, .ifCond .ne 8, 3, i_fne 24), (19, .iload_n 3, 1, i_ild 1 3), (20, .invokestatic 175, 3, i_csi 1 mX1_lowest), (23, .ireturn, 1, i_irt), (24, .iconst (-1), 1, i_psh 1 (.int (-1))), (25, .istore 4, 2, i_ist 2 4), (27, .iconst 0, 1, i_psh 1 (.int 0)), (28, .istore 5, 2, i_kll [6, 7] (i_ist 2 5)), (30, .iload 5, 2, i_ild 2 5), (32, .aload_n 0, 1, i_ald 1 0), (33, .getfield 9, 3, i_gfd LB 1 0), (36, .iconst 0, 1, i_psh 1 (.int 0)), (37, .iaload, 1, i_iak LB 0 0), (38, .if_icmp .ge 79, 3, i_cge 117), (41, .iload_n 3, 1, i_ild 1 3), (42, .iload 5, 2, i_ild 2 5), (44, .iushr, 1, i_bin (fun x y => (g_ushr x y))), (45, .iconst 1, 1, i_psh 1 (.int 1)), (46, .iand, 1, i_bin (fun x y => (x &&& y))), (47, .iconst 1, 1, i_psh 1 (.int 1)), (48, .if_icmp .ne 63, 3, i_cne 111), (51, .aload_n 0, 1, i_ald 1 0), (52, .getfield 9, 3, i_gfd LB 1 0), (55, .iconst 2, 1, i_psh 1 (.int 2)), (56, .iaload, 1, i_iak LB 2 2), (57, .iconst 1, 1, i_psh 1 (.int 1)), (58, .if_icmp .ne 14, 3, i_cne 72), (61, .aload_n 0, 1, i_ald 1 0), (62, .iload_n 1, 1, i_ild 1 1), (63, .iload 5, 2, i_ild 2 5), (65, .iload_n 2, 1, i_ild 1 2), (66, .invokevirtual 178, 3, i_cvi LB 3 1 mX2_roomOf), (69, .goto 10, 3, i_gto 79), (72, .aload_n 0, 1, i_ald 1 0), (73, .iload 5, 2, i_ild 2 5), (75, .iload_n 2, 1, i_ild 1 2), (76, .invokevirtual 182, 3, i_cvi LB 2 1 mX2_loadRank), (79, .istore 6, 2, i_ist 2 6), (81, .iload 6, 2, i_ild 2 6), (83, .bipush 32, 2, i_psh 2 (.int 32)), (85, .imul, 1, i_bin (fun x y => (x * y))), (86, .iload 5, 2, i_ild 2 5), (88, .iadd, 1, i_bin (fun x y => (x + y))), (89, .istore 7, 2, i_ist 2 7), (91, .iload 4, 2, i_ild 2 4), (93, .iconst (-1), 1, i_psh 1 (.int (-1))), (94, .if_icmp .ne 8, 3, i_cne 102), (97, .iload 7, 2, i_ild 2 7), (99, .goto 10, 3, i_gto 109), (102, .iload 4, 2, i_ild 2 4), (104, .iload 7, 2, i_ild 2 7), (106, .invokestatic 185, 3, i_csi 2 mJ9_min_7cf53), (109, .istore 4, 2, i_ist 2 4), (111, .iinc 5 1, 3, i_inc 5 1), (114, .goto (-84), 3, i_kll [6, 7] (i_gto 30)), (117, .iload 4, 2, i_ild 2 4), (119, .ireturn, 1, i_irt)]
noncomputable def mX2_rankedStart : gF := g_m PX2_rankedStart 8
set_option maxRecDepth 20000 in
theorem dtX2_rankedStart : gDts PX2_rankedStart := ⟨dt_ild, dt_ild, dt_csi, dt_ist, dt_ild, dt_feq, dt_ald, dt_gfd, dt_psh, dt_iak, dt_fne, dt_ild, dt_csi, dt_irt, dt_psh, dt_ist, dt_psh, dt_kll dt_ist, dt_ild, dt_ald, dt_gfd, dt_psh, dt_iak, dt_cge, dt_ild, dt_ild, dt_bin, dt_psh, dt_bin, dt_psh, dt_cne, dt_ald, dt_gfd, dt_psh, dt_iak, dt_psh, dt_cne, dt_ald, dt_ild, dt_ild, dt_ild, dt_cvi, dt_gto, dt_ald, dt_ild, dt_ild, dt_cvi, dt_ist, dt_ild, dt_psh, dt_bin, dt_ild, dt_bin, dt_ist, dt_ild, dt_psh, dt_cne, dt_ild, dt_gto, dt_ild, dt_ild, dt_csi, dt_ist, dt_inc, dt_kll dt_gto, dt_ild, dt_irt, trivial⟩
set_option maxRecDepth 20000 in
theorem dcX2_rankedStart : gDec MX2_rankedStart PX2_rankedStart := by unfold gDec PX2_rankedStart; decide +kernel
set_option maxRecDepth 20000 in
theorem okX2_rankedStart (l : Launch) (D : va_G) (τ : ClassId × ClassId × ClassId × ClassId) (ad : Nat → Nat) : gOks (D, τ, LB, ad) l MX2_rankedStart PX2_rankedStart := ⟨fun d => ok_iload_n d rfl, fun d => ok_iload_n d rfl, fun d => ok_csi (ok_callS (M' := MX1_starts) d (tX1_starts l _) q472 q473 q151 q474 (by decide +kernel) (by decide)), fun d => ok_istore_n d rfl, fun d => ok_iload_n d rfl, fun d => ok_ifeq d (by decide), fun d => ok_aload_n d rfl, fun d => ok_getfield (ci := 1) (f := 0) (N := 14) (C := RX2) (T := TX2) d rfl inX2 (by decide) q315, fun d => ok_iconst d (by decide), fun d => ok_iak (ok_iaload d) (by decide), fun d => ok_ifne d (by decide), fun d => ok_iload_n d rfl, fun d => ok_csi (ok_callS (M' := MX1_lowest) d (tX1_lowest l _) q493 q494 q151 q495 (by decide +kernel) (by decide)), fun d => ok_ireturn d rfl, fun d => ok_iconst d (by decide), fun d => ok_istore d, fun d => ok_iconst d (by decide), fun d => ok_kll (ok_istore d), fun d => ok_iload d, fun d => ok_aload_n d rfl, fun d => ok_getfield (ci := 1) (f := 0) (N := 14) (C := RX2) (T := TX2) d rfl inX2 (by decide) q315, fun d => ok_iconst d (by decide), fun d => ok_iak (ok_iaload d) (by decide), fun d => ok_icmpge d (by decide), fun d => ok_iload_n d rfl, fun d => ok_iload d, fun d => ok_iushr d, fun d => ok_iconst d (by decide), fun d => ok_iand d, fun d => ok_iconst d (by decide), fun d => ok_icmpne d (by decide), fun d => ok_aload_n d rfl, fun d => ok_getfield (ci := 1) (f := 0) (N := 14) (C := RX2) (T := TX2) d rfl inX2 (by decide) q315, fun d => ok_iconst d (by decide), fun d => ok_iak (ok_iaload d) (by decide), fun d => ok_iconst d (by decide), fun d => ok_icmpne d (by decide), fun d => ok_aload_n d rfl, fun d => ok_iload_n d rfl, fun d => ok_iload d, fun d => ok_iload_n d rfl, fun d => ok_cvi (ok_callV (M' := MX2_roomOf) (ci := 1) (C := RX2) (T := TX2) (N := 14) d (tX2_roomOf l D τ ad) rfl q502 q504 q4 q142 q505 (by decide +kernel) (by decide)), fun d => ok_goto d (by decide), fun d => ok_aload_n d rfl, fun d => ok_iload d, fun d => ok_iload_n d rfl, fun d => ok_cvi (ok_callV (M' := MX2_loadRank) (ci := 1) (C := RX2) (T := TX2) (N := 14) d (tX2_loadRank l D τ ad) rfl q506 q508 q5 q142 q509 (by decide +kernel) (by decide)), fun d => ok_istore d, fun d => ok_iload d, fun d => ok_bipush d (by decide), fun d => ok_imul d, fun d => ok_iload d, fun d => ok_iadd d, fun d => ok_istore d, fun d => ok_iload d, fun d => ok_iconst d (by decide), fun d => ok_icmpne d (by decide), fun d => ok_iload d, fun d => ok_goto d (by decide), fun d => ok_iload d, fun d => ok_iload d, fun d => ok_csi (ok_callS (M' := MJ9_min_7cf53) d (tJ9_min_7cf53 l _) q513 q514 q154 q515 (by decide +kernel) (by decide)), fun d => ok_istore d, fun d => ok_iinc d (by decide), fun d => ok_kll (ok_goto d (by decide)), fun d => ok_iload d, fun d => ok_ireturn d rfl, trivial⟩
theorem tX2_rankedStart (l : Launch) (D : va_G) (τ : ClassId × ClassId × ClassId × ClassId) (ad : Nat → Nat) : ∀ as μ r, mX2_rankedStart as μ = some r → gMt (D, τ, LB, ad) l yX2_rankedStart MX2_rankedStart as μ r := fun _ _ _ h => gMt_of (plainFor_of_name (by decide +kernel)) rfl dcX2_rankedStart (okX2_rankedStart l D τ ad) h
/-! GangMatrix$Board.spotFor(I)I (LB) -/
abbrev MX2_spotFor : gMi := (cX2_spotFor, 7, RX2, some .int, 4)
noncomputable def PX2_spotFor : gP := [(0, .aload_n 0, 1, i_ald 1 0), (1, .iload_n 1, 1, i_ild 1 1), (2, .invokevirtual 152, 3, i_cvi LB 1 1 mX2_canStand), (5, .ifCond .ne 5, 3, i_fne 10), (8, .iconst (-1), 1, i_psh 1 (.int (-1))), (9, .ireturn, 1, i_irt), (10, .aload_n 0, 1, i_ald 1 0), (11, .getfield 9, 3, i_gfd LB 1 0), (14, .iconst 2, 1, i_psh 1 (.int 2)), (15, .iaload, 1, i_iak LB 2 2), (16, .iconst 2, 1, i_psh 1 (.int 2)), (17, .if_icmp .ne 14, 3, i_cne 31), (20, .aload_n 0, 1, i_ald 1 0), (21, .getfield 35, 3, i_gfd LB 1 4), (24, .aload_n 0, 1, i_ald 1 0), (25, .getfield 71, 3, i_gfd LB 1 11), (28, .invokevirtual 156, 3, i_cvv LB 1 4 mX7_loadsInto), (31, .iconst (-1), 1, i_psh 1 (.int (-1))), (32, .istore_n 2, 1, i_ist 1 2), (33, .iconst 0, 1, i_psh 1 (.int 0)), (34, .istore_n 3, 1, i_ist 1 3), (35, .iconst 0, 1, i_psh 1 (.int 0)), (36, .istore 4, 2, i_kll [5, 6] (i_ist 2 4)), (38, .iload 4, 2, i_ild 2 4), (40, .aload_n 0, 1, i_ald 1 0), (41, .getfield 35, 3, i_gfd LB 1 4), (44, .getfield 160, 3, i_gfd LB 4 3), (47, .if_icmp .ge 60, 3, i_cge 107), (50, .aload_n 0, 1, i_ald 1 0), (51, .aload_n 0, 1, i_ald 1 0), (52, .iload 4, 2, i_ild 2 4), (54, .invokevirtual 163, 3, i_cvi LB 1 1 mX2_freeIn), (57, .iload_n 1, 1, i_ild 1 1), (58, .invokevirtual 166, 3, i_cvi LB 2 1 mX2_rankedStart), (61, .istore 5, 2, i_ist 2 5), (63, .iload 5, 2, i_ild 2 5), (65, .bipush 32, 2, i_psh 2 (.int 32)), (67, .idiv, 1, i_dvr (fun x y => (x / y))), (68, .istore 6, 2, i_ist 2 6), (70, .iload 5, 2, i_ild 2 5), (72, .iconst (-1), 1, i_psh 1 (.int (-1))), (73, .if_icmp .eq 28, 3, i_ceq 101), (76, .iload_n 2, 1, i_ild 1 2), (77, .iconst (-1), 1, i_psh 1 (.int (-1))), (78, .if_icmp .eq 9, 3, i_ceq 87), (81, .iload 6, 2, i_ild 2 6), (83, .iload_n 3, 1, i_ild 1 3), (84, .if_icmp .ge 17, 3, i_cge 101), (87, .iload 4, 2, i_ild 2 4), (89, .iload 5, 2, i_ild 2 5), (91, .bipush 32, 2, i_psh 2 (.int 32)), (93, .irem, 1, i_dvr (fun x y => (x - x / y * y))), (94, .invokestatic 169, 3, i_csi 2 mX1_spot), (97, .istore_n 2, 1, i_ist 1 2), (98, .iload 6, 2, i_ild 2 6), (100, .istore_n 3, 1, i_ist 1 3), (101, .iinc 4 1, 3, i_inc 4 1), (104, .goto (-66), 3, i_kll [5, 6] (i_gto 38)), (107, .iload_n 2, 1, i_ild 1 2), (108, .iconst (-1), 1, i_psh 1 (.int (-1))), (109, .if_icmp .ne 19, 3, i_cne 128), (112, .aload_n 0, 1, i_ald 1 0), (113, .getfield 35, 3, i_gfd LB 1 4), (116, .getfield 160, 3, i_gfd LB 4 3), (119, .aload_n 0, 1, i_ald 1 0), (120, .getfield 9, 3, i_gfd LB 1 0), (123, .iconst 1, 1, i_psh 1 (.int 1)), (124, .iaload, 1, i_iak LB 1 1), (125, .if_icmp .lt 5, 3, i_clt 130), (128, .iload_n 2, 1, i_ild 1 2), (129, .ireturn, 1, i_irt), (130, .aload_n 0, 1, i_ald 1 0), (131, .aload_n 0, 1, i_ald 1 0), (132, .invokevirtual 107, 3, i_cvi LB 0 1 mX2_ups), (135, .iload_n 1, 1, i_ild 1 1), (136, .invokevirtual 166, 3, i_cvi LB 2 1 mX2_rankedStart), (139, .istore 4, 2, i_ist 2 4), (141, .iload 4, 2, i_ild 2 4), (143, .iconst (-1), 1, i_psh 1 (.int (-1))), (144, .if_icmp .ne 7, 3, i_cne 151), (147, .iconst (-1), 1, i_psh 1 (.int (-1))), (148, .goto 18, 3, i_gto 166), (151, .aload_n 0, 1, i_ald 1 0), (152, .getfield 35, 3, i_gfd LB 1 4), (155, .getfield 160, 3, i_gfd LB 4 3), (158, .iload 4, 2, i_ild 2 4), (160, .bipush 32, 2, i_psh 2 (.int 32)), (162, .irem, 1, i_dvr (fun x y => (x - x / y * y))), (163, .invokestatic 169, 3, i_csi 2 mX1_spot), (166, .ireturn, 1, i_irt)]
noncomputable def mX2_spotFor : gF := g_m PX2_spotFor 7
set_option maxRecDepth 20000 in
theorem dtX2_spotFor : gDts PX2_spotFor := ⟨dt_ald, dt_ild, dt_cvi, dt_fne, dt_psh, dt_irt, dt_ald, dt_gfd, dt_psh, dt_iak, dt_psh, dt_cne, dt_ald, dt_gfd, dt_ald, dt_gfd, dt_cvv, dt_psh, dt_ist, dt_psh, dt_ist, dt_psh, dt_kll dt_ist, dt_ild, dt_ald, dt_gfd, dt_gfd, dt_cge, dt_ald, dt_ald, dt_ild, dt_cvi, dt_ild, dt_cvi, dt_ist, dt_ild, dt_psh, dt_dvr, dt_ist, dt_ild, dt_psh, dt_ceq, dt_ild, dt_psh, dt_ceq, dt_ild, dt_ild, dt_cge, dt_ild, dt_ild, dt_psh, dt_dvr, dt_csi, dt_ist, dt_ild, dt_ist, dt_inc, dt_kll dt_gto, dt_ild, dt_psh, dt_cne, dt_ald, dt_gfd, dt_gfd, dt_ald, dt_gfd, dt_psh, dt_iak, dt_clt, dt_ild, dt_irt, dt_ald, dt_ald, dt_cvi, dt_ild, dt_cvi, dt_ist, dt_ild, dt_psh, dt_cne, dt_psh, dt_gto, dt_ald, dt_gfd, dt_gfd, dt_ild, dt_psh, dt_dvr, dt_csi, dt_irt, trivial⟩
set_option maxRecDepth 20000 in
theorem dcX2_spotFor : gDec MX2_spotFor PX2_spotFor := by unfold gDec PX2_spotFor; decide +kernel
set_option maxRecDepth 20000 in
theorem okX2_spotFor (l : Launch) (D : va_G) (τ : ClassId × ClassId × ClassId × ClassId) (ad : Nat → Nat) : gOks (D, τ, LB, ad) l MX2_spotFor PX2_spotFor := ⟨fun d => ok_aload_n d rfl, fun d => ok_iload_n d rfl, fun d => ok_cvi (ok_callV (M' := MX2_canStand) (ci := 1) (C := RX2) (T := TX2) (N := 14) d (tX2_canStand l D τ ad) rfl q461 q463 q2 q142 q464 (by decide +kernel) (by decide)), fun d => ok_ifne d (by decide), fun d => ok_iconst d (by decide), fun d => ok_ireturn d rfl, fun d => ok_aload_n d rfl, fun d => ok_getfield (ci := 1) (f := 0) (N := 14) (C := RX2) (T := TX2) d rfl inX2 (by decide) q315, fun d => ok_iconst d (by decide), fun d => ok_iak (ok_iaload d) (by decide), fun d => ok_iconst d (by decide), fun d => ok_icmpne d (by decide), fun d => ok_aload_n d rfl, fun d => ok_getfield (ci := 1) (f := 4) (N := 14) (C := RX2) (T := TX2) d rfl inX2 (by decide) q327, fun d => ok_aload_n d rfl, fun d => ok_getfield (ci := 1) (f := 11) (N := 14) (C := RX2) (T := TX2) d rfl inX2 (by decide) q340, fun d => ok_cvv (ok_callV (M' := MX7_loadsInto) (ci := 4) (C := RX7) (T := TX7) (N := 4) d (tX7_loadsInto l D τ ad) rfl q477 q478 q479 q145 q480 (by decide +kernel) (by decide)), fun d => ok_iconst d (by decide), fun d => ok_istore_n d rfl, fun d => ok_iconst d (by decide), fun d => ok_istore_n d rfl, fun d => ok_iconst d (by decide), fun d => ok_kll (ok_istore d), fun d => ok_iload d, fun d => ok_aload_n d rfl, fun d => ok_getfield (ci := 1) (f := 4) (N := 14) (C := RX2) (T := TX2) d rfl inX2 (by decide) q327, fun d => ok_getfield (ci := 4) (f := 3) (N := 4) (C := RX7) (T := TX7) d rfl inX7 (by decide) q243, fun d => ok_icmpge d (by decide), fun d => ok_aload_n d rfl, fun d => ok_aload_n d rfl, fun d => ok_iload d, fun d => ok_cvi (ok_callV (M' := MX2_freeIn) (ci := 1) (C := RX2) (T := TX2) (N := 14) d (tX2_freeIn l D τ ad) rfl q485 q486 q487 q142 q488 (by decide +kernel) (by decide)), fun d => ok_iload_n d rfl, fun d => ok_cvi (ok_callV (M' := MX2_rankedStart) (ci := 1) (C := RX2) (T := TX2) (N := 14) d (tX2_rankedStart l D τ ad) rfl q489 q491 q3 q142 q492 (by decide +kernel) (by decide)), fun d => ok_istore d, fun d => ok_iload d, fun d => ok_bipush d (by decide), fun d => ok_idiv d, fun d => ok_istore d, fun d => ok_iload d, fun d => ok_iconst d (by decide), fun d => ok_icmpeq d (by decide), fun d => ok_iload_n d rfl, fun d => ok_iconst d (by decide), fun d => ok_icmpeq d (by decide), fun d => ok_iload d, fun d => ok_iload_n d rfl, fun d => ok_icmpge d (by decide), fun d => ok_iload d, fun d => ok_iload d, fun d => ok_bipush d (by decide), fun d => ok_irem d, fun d => ok_csi (ok_callS (M' := MX1_spot) d (tX1_spot l _) q516 q517 q151 q518 (by decide +kernel) (by decide)), fun d => ok_istore_n d rfl, fun d => ok_iload d, fun d => ok_istore_n d rfl, fun d => ok_iinc d (by decide), fun d => ok_kll (ok_goto d (by decide)), fun d => ok_iload_n d rfl, fun d => ok_iconst d (by decide), fun d => ok_icmpne d (by decide), fun d => ok_aload_n d rfl, fun d => ok_getfield (ci := 1) (f := 4) (N := 14) (C := RX2) (T := TX2) d rfl inX2 (by decide) q327, fun d => ok_getfield (ci := 4) (f := 3) (N := 4) (C := RX7) (T := TX7) d rfl inX7 (by decide) q243, fun d => ok_aload_n d rfl, fun d => ok_getfield (ci := 1) (f := 0) (N := 14) (C := RX2) (T := TX2) d rfl inX2 (by decide) q315, fun d => ok_iconst d (by decide), fun d => ok_iak (ok_iaload d) (by decide), fun d => ok_icmplt d (by decide), fun d => ok_iload_n d rfl, fun d => ok_ireturn d rfl, fun d => ok_aload_n d rfl, fun d => ok_aload_n d rfl, fun d => ok_cvi (ok_callV (M' := MX2_ups) (ci := 1) (C := RX2) (T := TX2) (N := 14) d (tX2_ups l D τ ad) rfl q465 q466 q467 q142 q468 (by decide +kernel) (by decide)), fun d => ok_iload_n d rfl, fun d => ok_cvi (ok_callV (M' := MX2_rankedStart) (ci := 1) (C := RX2) (T := TX2) (N := 14) d (tX2_rankedStart l D τ ad) rfl q489 q491 q3 q142 q492 (by decide +kernel) (by decide)), fun d => ok_istore d, fun d => ok_iload d, fun d => ok_iconst d (by decide), fun d => ok_icmpne d (by decide), fun d => ok_iconst d (by decide), fun d => ok_goto d (by decide), fun d => ok_aload_n d rfl, fun d => ok_getfield (ci := 1) (f := 4) (N := 14) (C := RX2) (T := TX2) d rfl inX2 (by decide) q327, fun d => ok_getfield (ci := 4) (f := 3) (N := 4) (C := RX7) (T := TX7) d rfl inX7 (by decide) q243, fun d => ok_iload d, fun d => ok_bipush d (by decide), fun d => ok_irem d, fun d => ok_csi (ok_callS (M' := MX1_spot) d (tX1_spot l _) q516 q517 q151 q518 (by decide +kernel) (by decide)), fun d => ok_ireturn d rfl, trivial⟩
theorem tX2_spotFor (l : Launch) (D : va_G) (τ : ClassId × ClassId × ClassId × ClassId) (ad : Nat → Nat) : ∀ as μ r, mX2_spotFor as μ = some r → gMt (D, τ, LB, ad) l yX2_spotFor MX2_spotFor as μ r := fun _ _ _ h => gMt_of (plainFor_of_name (by decide +kernel)) rfl dcX2_spotFor (okX2_spotFor l D τ ad) h
/-! GangMatrix$Users.rankAll()V (LB) -/
abbrev MX8_rankAll : gMi := (cX8_rankAll, 3, RX8, none, 1)
noncomputable def PX8_rankAll : gP := [(0, .iconst 0, 1, i_psh 1 (.int 0)), (1, .istore_n 1, 1, i_kll [2] (i_ist 1 1)), (2, .iload_n 1, 1, i_ild 1 1), (3, .bipush 6, 2, i_psh 2 (.int 6)), (5, .if_icmp .ge 74, 3, i_cge 79), (8, .aload_n 0, 1, i_ald 1 0), (9, .getfield 16, 3, i_gfd LB 3 2), (12, .iload_n 1, 1, i_ild 1 1), (13, .iconst 0, 1, i_psh 1 (.int 0)), (14, .iastore, 1, i_ias LB), (15, .iconst 0, 1, i_psh 1 (.int 0)), (16, .istore_n 2, 1, i_ist 1 2), (17, .iload_n 2, 1, i_ild 1 2), (18, .bipush 6, 2, i_psh 2 (.int 6)), (20, .if_icmp .ge 53, 3, i_cge 73), (23, .aload_n 0, 1, i_ald 1 0), (24, .getfield 13, 3, i_gfd LB 3 1), (27, .iload_n 2, 1, i_ild 1 2), (28, .iaload, 1, i_iad LB), (29, .i2l, 1, i_i2l), (30, .aload_n 0, 1, i_ald 1 0), (31, .getfield 7, 3, i_gfd LB 3 0), (34, .iload_n 1, 1, i_ild 1 1), (35, .iaload, 1, i_iad LB), (36, .i2l, 1, i_i2l), (37, .lmul, 1, i_lbn (fun x y => x * y)), (38, .aload_n 0, 1, i_ald 1 0), (39, .getfield 13, 3, i_gfd LB 3 1), (42, .iload_n 1, 1, i_ild 1 1), (43, .iaload, 1, i_iad LB), (44, .i2l, 1, i_i2l), (45, .aload_n 0, 1, i_ald 1 0), (46, .getfield 7, 3, i_gfd LB 3 0), (49, .iload_n 2, 1, i_ild 1 2), (50, .iaload, 1, i_iad LB), (51, .i2l, 1, i_i2l), (52, .lmul, 1, i_lbn (fun x y => x * y)), (53, .lcmp, 1, i_lcm), (54, .ifCond .ge 13, 3, i_fge 67), (57, .aload_n 0, 1, i_ald 1 0), (58, .getfield 16, 3, i_gfd LB 3 2), (61, .iload_n 1, 1, i_ild 1 1), (62, .dup2, 1, i_du2), (63, .iaload, 1, i_iad LB), (64, .iconst 1, 1, i_psh 1 (.int 1)), (65, .iadd, 1, i_bin (fun x y => (x + y))), (66, .iastore, 1, i_ias LB), (67, .iinc 2 1, 3, i_inc 2 1), (70, .goto (-53), 3, i_gto 17), (73, .iinc 1 1, 3, i_inc 1 1), (76, .goto (-74), 3, i_kll [2] (i_gto 2)), (79, .return_, 1, i_vrt)]
noncomputable def mX8_rankAll : gF := g_m PX8_rankAll 3
set_option maxRecDepth 20000 in
theorem dtX8_rankAll : gDts PX8_rankAll := ⟨dt_psh, dt_kll dt_ist, dt_ild, dt_psh, dt_cge, dt_ald, dt_gfd, dt_ild, dt_psh, dt_ias, dt_psh, dt_ist, dt_ild, dt_psh, dt_cge, dt_ald, dt_gfd, dt_ild, dt_iad, dt_i2l, dt_ald, dt_gfd, dt_ild, dt_iad, dt_i2l, dt_lbn, dt_ald, dt_gfd, dt_ild, dt_iad, dt_i2l, dt_ald, dt_gfd, dt_ild, dt_iad, dt_i2l, dt_lbn, dt_lcm, dt_fge, dt_ald, dt_gfd, dt_ild, dt_du2, dt_iad, dt_psh, dt_bin, dt_ias, dt_inc, dt_gto, dt_inc, dt_kll dt_gto, dt_vrt, trivial⟩
set_option maxRecDepth 20000 in
theorem dcX8_rankAll : gDec MX8_rankAll PX8_rankAll := by unfold gDec PX8_rankAll; decide +kernel
set_option maxRecDepth 20000 in
theorem okX8_rankAll (l : Launch) (D : va_G) (τ : ClassId × ClassId × ClassId × ClassId) (ad : Nat → Nat) : gOks (D, τ, LB, ad) l MX8_rankAll PX8_rankAll := ⟨fun d => ok_iconst d (by decide), fun d => ok_kll (ok_istore_n d rfl), fun d => ok_iload_n d rfl, fun d => ok_bipush d (by decide), fun d => ok_icmpge d (by decide), fun d => ok_aload_n d rfl, fun d => ok_getfield (ci := 3) (f := 2) (N := 3) (C := RX8) (T := TX8) d rfl inX8 (by decide) q214, fun d => ok_iload_n d rfl, fun d => ok_iconst d (by decide), fun d => ok_iastore d, fun d => ok_iconst d (by decide), fun d => ok_istore_n d rfl, fun d => ok_iload_n d rfl, fun d => ok_bipush d (by decide), fun d => ok_icmpge d (by decide), fun d => ok_aload_n d rfl, fun d => ok_getfield (ci := 3) (f := 1) (N := 3) (C := RX8) (T := TX8) d rfl inX8 (by decide) q211, fun d => ok_iload_n d rfl, fun d => ok_iaload d, fun d => ok_i2l d, fun d => ok_aload_n d rfl, fun d => ok_getfield (ci := 3) (f := 0) (N := 3) (C := RX8) (T := TX8) d rfl inX8 (by decide) q208, fun d => ok_iload_n d rfl, fun d => ok_iaload d, fun d => ok_i2l d, fun d => ok_lmul d, fun d => ok_aload_n d rfl, fun d => ok_getfield (ci := 3) (f := 1) (N := 3) (C := RX8) (T := TX8) d rfl inX8 (by decide) q211, fun d => ok_iload_n d rfl, fun d => ok_iaload d, fun d => ok_i2l d, fun d => ok_aload_n d rfl, fun d => ok_getfield (ci := 3) (f := 0) (N := 3) (C := RX8) (T := TX8) d rfl inX8 (by decide) q208, fun d => ok_iload_n d rfl, fun d => ok_iaload d, fun d => ok_i2l d, fun d => ok_lmul d, fun d => ok_lcmp d, fun d => ok_ifge d (by decide), fun d => ok_aload_n d rfl, fun d => ok_getfield (ci := 3) (f := 2) (N := 3) (C := RX8) (T := TX8) d rfl inX8 (by decide) q214, fun d => ok_iload_n d rfl, fun d => ok_dup2 d, fun d => ok_iaload d, fun d => ok_iconst d (by decide), fun d => ok_iadd d, fun d => ok_iastore d, fun d => ok_iinc d (by decide), fun d => ok_goto d (by decide), fun d => ok_iinc d (by decide), fun d => ok_kll (ok_goto d (by decide)), fun d => ok_vreturn d rfl, trivial⟩
theorem tX8_rankAll (l : Launch) (D : va_G) (τ : ClassId × ClassId × ClassId × ClassId) (ad : Nat → Nat) : ∀ as μ r, mX8_rankAll as μ = some r → gMt (D, τ, LB, ad) l yX8_rankAll MX8_rankAll as μ r := fun _ _ _ h => gMt_of (plainFor_of_name (by decide +kernel)) rfl dcX8_rankAll (okX8_rankAll l D τ ad) h
/-! GangMatrix$Board.lineUp()I (LB) -/
abbrev MX2_lineUp : gMi := (cX2_lineUp, 4, RX2, some .int, 2)
noncomputable def PX2_lineUp : gP := [(0, .aload_n 0, 1, i_ald 1 0), (1, .getfield 9, 3, i_gfd LB 1 0), (4, .iconst 3, 1, i_psh 1 (.int 3)), (5, .iaload, 1, i_iak LB 3 3), (6, .ifCond .ne 34, 3, i_fne 40), (9, .aload_n 0, 1, i_ald 1 0), (10, .getfield 21, 3, i_gfd LB 1 2), (13, .getfield 193, 3, i_gfd LB 2 1), (16, .iconst 0, 1, i_psh 1 (.int 0)), (17, .aload_n 0, 1, i_ald 1 0), (18, .getfield 63, 3, i_gfd LB 1 9), (21, .iconst 0, 1, i_psh 1 (.int 0)), (22, .aload_n 0, 1, i_ald 1 0), (23, .getfield 21, 3, i_gfd LB 1 2), (26, .getfield 196, 3, i_gfd LB 2 3), (29, .invokestatic 74, 3, i_aci LB), (32, .aload_n 0, 1, i_ald 1 0), (33, .getfield 21, 3, i_gfd LB 1 2), (36, .getfield 196, 3, i_gfd LB 2 3), (39, .ireturn, 1, i_irt), (40, .aload_n 0, 1, i_ald 1 0), (41, .getfield 28, 3, i_gfd LB 1 3), (44, .invokevirtual 199, 3, i_cvv LB 0 3 mX8_rankAll), (47, .iconst 0, 1, i_psh 1 (.int 0)), (48, .istore_n 1, 1, i_ist 1 1), (49, .iconst 0, 1, i_psh 1 (.int 0)), (50, .istore_n 2, 1, i_kll [3] (i_ist 1 2)), (51, .iload_n 2, 1, i_ild 1 2), (52, .bipush 6, 2, i_psh 2 (.int 6)), (54, .if_icmp .ge 77, 3, i_cge 131), (57, .iconst 0, 1, i_psh 1 (.int 0)), (58, .istore_n 3, 1, i_ist 1 3), (59, .iload_n 3, 1, i_ild 1 3), (60, .aload_n 0, 1, i_ald 1 0), (61, .getfield 21, 3, i_gfd LB 1 2), (64, .getfield 196, 3, i_gfd LB 2 3), (67, .if_icmp .ge 58, 3, i_cge 125), (70, .aload_n 0, 1, i_ald 1 0), (71, .getfield 28, 3, i_gfd LB 1 3), (74, .getfield 202, 3, i_gfd LB 3 2), (77, .aload_n 0, 1, i_ald 1 0), (78, .getfield 21, 3, i_gfd LB 1 2), (81, .getfield 130, 3, i_gfd LB 2 0), (84, .iconst 2, 1, i_psh 1 (.int 2)), (85, .aaload, 1, i_aak LB 2 2 7), (86, .aload_n 0, 1, i_ald 1 0), (87, .getfield 21, 3, i_gfd LB 1 2), (90, .getfield 193, 3, i_gfd LB 2 1), (93, .iload_n 3, 1, i_ild 1 3), (94, .iaload, 1, i_iad LB), (95, .iaload, 1, i_iad LB), (96, .iaload, 1, i_iad LB), (97, .iload_n 2, 1, i_ild 1 2), (98, .if_icmp .ne 21, 3, i_cne 119), (101, .aload_n 0, 1, i_ald 1 0), (102, .getfield 63, 3, i_gfd LB 1 9), (105, .iload_n 1, 1, i_ild 1 1), (106, .aload_n 0, 1, i_ald 1 0), (107, .getfield 21, 3, i_gfd LB 1 2), (110, .getfield 193, 3, i_gfd LB 2 1), (113, .iload_n 3, 1, i_ild 1 3), (114, .iaload, 1, i_iad LB), (115, .iastore, 1, i_ias LB), (116, .iinc 1 1, 3, i_inc 1 1), (119, .iinc 3 1, 3, i_inc 3 1), (122, .goto (-63), 3, i_gto 59), (125, .iinc 2 1, 3, i_inc 2 1), (128, .goto (-77), 3, i_kll [3] (i_gto 51)), (131, .iload_n 1, 1, i_ild 1 1), (132, .ireturn, 1, i_irt)]
noncomputable def mX2_lineUp : gF := g_m PX2_lineUp 4
set_option maxRecDepth 20000 in
theorem dtX2_lineUp : gDts PX2_lineUp := ⟨dt_ald, dt_gfd, dt_psh, dt_iak, dt_fne, dt_ald, dt_gfd, dt_gfd, dt_psh, dt_ald, dt_gfd, dt_psh, dt_ald, dt_gfd, dt_gfd, dt_aci, dt_ald, dt_gfd, dt_gfd, dt_irt, dt_ald, dt_gfd, dt_cvv, dt_psh, dt_ist, dt_psh, dt_kll dt_ist, dt_ild, dt_psh, dt_cge, dt_psh, dt_ist, dt_ild, dt_ald, dt_gfd, dt_gfd, dt_cge, dt_ald, dt_gfd, dt_gfd, dt_ald, dt_gfd, dt_gfd, dt_psh, dt_aak, dt_ald, dt_gfd, dt_gfd, dt_ild, dt_iad, dt_iad, dt_iad, dt_ild, dt_cne, dt_ald, dt_gfd, dt_ild, dt_ald, dt_gfd, dt_gfd, dt_ild, dt_iad, dt_ias, dt_inc, dt_inc, dt_gto, dt_inc, dt_kll dt_gto, dt_ild, dt_irt, trivial⟩
set_option maxRecDepth 20000 in
theorem dcX2_lineUp : gDec MX2_lineUp PX2_lineUp := by unfold gDec PX2_lineUp; decide +kernel
set_option maxRecDepth 20000 in
theorem okX2_lineUp (l : Launch) (D : va_G) (τ : ClassId × ClassId × ClassId × ClassId) (ad : Nat → Nat) : gOks (D, τ, LB, ad) l MX2_lineUp PX2_lineUp := ⟨fun d => ok_aload_n d rfl, fun d => ok_getfield (ci := 1) (f := 0) (N := 14) (C := RX2) (T := TX2) d rfl inX2 (by decide) q315, fun d => ok_iconst d (by decide), fun d => ok_iak (ok_iaload d) (by decide), fun d => ok_ifne d (by decide), fun d => ok_aload_n d rfl, fun d => ok_getfield (ci := 1) (f := 2) (N := 14) (C := RX2) (T := TX2) d rfl inX2 (by decide) q322, fun d => ok_getfield (ci := 2) (f := 1) (N := 4) (C := RX4) (T := TX4) d rfl inX4 (by decide) q183, fun d => ok_iconst d (by decide), fun d => ok_aload_n d rfl, fun d => ok_getfield (ci := 1) (f := 9) (N := 14) (C := RX2) (T := TX2) d rfl inX2 (by decide) q337, fun d => ok_iconst d (by decide), fun d => ok_aload_n d rfl, fun d => ok_getfield (ci := 1) (f := 2) (N := 14) (C := RX2) (T := TX2) d rfl inX2 (by decide) q322, fun d => ok_getfield (ci := 2) (f := 3) (N := 4) (C := RX4) (T := TX4) d rfl inX4 (by decide) q190, fun d => ok_copyI d q446 q448 q447 q152 (by decide), fun d => ok_aload_n d rfl, fun d => ok_getfield (ci := 1) (f := 2) (N := 14) (C := RX2) (T := TX2) d rfl inX2 (by decide) q322, fun d => ok_getfield (ci := 2) (f := 3) (N := 4) (C := RX4) (T := TX4) d rfl inX4 (by decide) q190, fun d => ok_ireturn d rfl, fun d => ok_aload_n d rfl, fun d => ok_getfield (ci := 1) (f := 3) (N := 14) (C := RX2) (T := TX2) d rfl inX2 (by decide) q324, fun d => ok_cvv (ok_callV (M' := MX8_rankAll) (ci := 3) (C := RX8) (T := TX8) (N := 3) d (tX8_rankAll l D τ ad) rfl q449 q450 q451 q144 q452 (by decide +kernel) (by decide)), fun d => ok_iconst d (by decide), fun d => ok_istore_n d rfl, fun d => ok_iconst d (by decide), fun d => ok_kll (ok_istore_n d rfl), fun d => ok_iload_n d rfl, fun d => ok_bipush d (by decide), fun d => ok_icmpge d (by decide), fun d => ok_iconst d (by decide), fun d => ok_istore_n d rfl, fun d => ok_iload_n d rfl, fun d => ok_aload_n d rfl, fun d => ok_getfield (ci := 1) (f := 2) (N := 14) (C := RX2) (T := TX2) d rfl inX2 (by decide) q322, fun d => ok_getfield (ci := 2) (f := 3) (N := 4) (C := RX4) (T := TX4) d rfl inX4 (by decide) q190, fun d => ok_icmpge d (by decide), fun d => ok_aload_n d rfl, fun d => ok_getfield (ci := 1) (f := 3) (N := 14) (C := RX2) (T := TX2) d rfl inX2 (by decide) q324, fun d => ok_getfield (ci := 3) (f := 2) (N := 3) (C := RX8) (T := TX8) d rfl inX8 (by decide) q216, fun d => ok_aload_n d rfl, fun d => ok_getfield (ci := 1) (f := 2) (N := 14) (C := RX2) (T := TX2) d rfl inX2 (by decide) q322, fun d => ok_getfield (ci := 2) (f := 0) (N := 4) (C := RX4) (T := TX4) d rfl inX4 (by decide) q180, fun d => ok_iconst d (by decide), fun d => ok_aak (ok_aaload d) (by decide), fun d => ok_aload_n d rfl, fun d => ok_getfield (ci := 1) (f := 2) (N := 14) (C := RX2) (T := TX2) d rfl inX2 (by decide) q322, fun d => ok_getfield (ci := 2) (f := 1) (N := 4) (C := RX4) (T := TX4) d rfl inX4 (by decide) q183, fun d => ok_iload_n d rfl, fun d => ok_iaload d, fun d => ok_iaload d, fun d => ok_iaload d, fun d => ok_iload_n d rfl, fun d => ok_icmpne d (by decide), fun d => ok_aload_n d rfl, fun d => ok_getfield (ci := 1) (f := 9) (N := 14) (C := RX2) (T := TX2) d rfl inX2 (by decide) q337, fun d => ok_iload_n d rfl, fun d => ok_aload_n d rfl, fun d => ok_getfield (ci := 1) (f := 2) (N := 14) (C := RX2) (T := TX2) d rfl inX2 (by decide) q322, fun d => ok_getfield (ci := 2) (f := 1) (N := 4) (C := RX4) (T := TX4) d rfl inX4 (by decide) q183, fun d => ok_iload_n d rfl, fun d => ok_iaload d, fun d => ok_iastore d, fun d => ok_iinc d (by decide), fun d => ok_iinc d (by decide), fun d => ok_goto d (by decide), fun d => ok_iinc d (by decide), fun d => ok_kll (ok_goto d (by decide)), fun d => ok_iload_n d rfl, fun d => ok_ireturn d rfl, trivial⟩
theorem tX2_lineUp (l : Launch) (D : va_G) (τ : ClassId × ClassId × ClassId × ClassId) (ad : Nat → Nat) : ∀ as μ r, mX2_lineUp as μ = some r → gMt (D, τ, LB, ad) l yX2_lineUp MX2_lineUp as μ r := fun _ _ _ h => gMt_of (plainFor_of_name (by decide +kernel)) rfl dcX2_lineUp (okX2_lineUp l D τ ad) h
/-! GangMatrix$Jobs.fromLine(I)V (LB) -/
abbrev MX4_fromLine : gMi := (cX4_fromLine, 4, RX4, none, 1)
noncomputable def PX4_fromLine : gP := [(0, .iconst 0, 1, i_psh 1 (.int 0)), (1, .istore_n 2, 1, i_ist 1 2), (2, .iconst 0, 1, i_psh 1 (.int 0)), (3, .istore_n 3, 1, i_ist 1 3), (4, .iload_n 3, 1, i_ild 1 3), (5, .aload_n 0, 1, i_ald 1 0), (6, .getfield 34, 3, i_gfd LB 2 3), (9, .if_icmp .ge 34, 3, i_cge 43), (12, .aload_n 0, 1, i_ald 1 0), (13, .getfield 16, 3, i_gfd LB 2 1), (16, .iload_n 3, 1, i_ild 1 3), (17, .iaload, 1, i_iad LB), (18, .iload_n 1, 1, i_ild 1 1), (19, .if_icmp .eq 18, 3, i_ceq 37), (22, .aload_n 0, 1, i_ald 1 0), (23, .getfield 16, 3, i_gfd LB 2 1), (26, .iload_n 2, 1, i_ild 1 2), (27, .aload_n 0, 1, i_ald 1 0), (28, .getfield 16, 3, i_gfd LB 2 1), (31, .iload_n 3, 1, i_ild 1 3), (32, .iaload, 1, i_iad LB), (33, .iastore, 1, i_ias LB), (34, .iinc 2 1, 3, i_inc 2 1), (37, .iinc 3 1, 3, i_inc 3 1), (40, .goto (-36), 3, i_gto 4), (43, .aload_n 0, 1, i_ald 1 0), (44, .iload_n 2, 1, i_ild 1 2), (45, .putfield 34, 3, i_pfd LB 2 3), (48, .return_, 1, i_vrt)]
noncomputable def mX4_fromLine : gF := g_m PX4_fromLine 4
set_option maxRecDepth 20000 in
theorem dtX4_fromLine : gDts PX4_fromLine := ⟨dt_psh, dt_ist, dt_psh, dt_ist, dt_ild, dt_ald, dt_gfd, dt_cge, dt_ald, dt_gfd, dt_ild, dt_iad, dt_ild, dt_ceq, dt_ald, dt_gfd, dt_ild, dt_ald, dt_gfd, dt_ild, dt_iad, dt_ias, dt_inc, dt_inc, dt_gto, dt_ald, dt_ild, dt_pfd, dt_vrt, trivial⟩
set_option maxRecDepth 20000 in
theorem dcX4_fromLine : gDec MX4_fromLine PX4_fromLine := by unfold gDec PX4_fromLine; decide +kernel
set_option maxRecDepth 20000 in
theorem okX4_fromLine (l : Launch) (D : va_G) (τ : ClassId × ClassId × ClassId × ClassId) (ad : Nat → Nat) : gOks (D, τ, LB, ad) l MX4_fromLine PX4_fromLine := ⟨fun d => ok_iconst d (by decide), fun d => ok_istore_n d rfl, fun d => ok_iconst d (by decide), fun d => ok_istore_n d rfl, fun d => ok_iload_n d rfl, fun d => ok_aload_n d rfl, fun d => ok_getfield (ci := 2) (f := 3) (N := 4) (C := RX4) (T := TX4) d rfl inX4 (by decide) q189, fun d => ok_icmpge d (by decide), fun d => ok_aload_n d rfl, fun d => ok_getfield (ci := 2) (f := 1) (N := 4) (C := RX4) (T := TX4) d rfl inX4 (by decide) q182, fun d => ok_iload_n d rfl, fun d => ok_iaload d, fun d => ok_iload_n d rfl, fun d => ok_icmpeq d (by decide), fun d => ok_aload_n d rfl, fun d => ok_getfield (ci := 2) (f := 1) (N := 4) (C := RX4) (T := TX4) d rfl inX4 (by decide) q182, fun d => ok_iload_n d rfl, fun d => ok_aload_n d rfl, fun d => ok_getfield (ci := 2) (f := 1) (N := 4) (C := RX4) (T := TX4) d rfl inX4 (by decide) q182, fun d => ok_iload_n d rfl, fun d => ok_iaload d, fun d => ok_iastore d, fun d => ok_iinc d (by decide), fun d => ok_iinc d (by decide), fun d => ok_goto d (by decide), fun d => ok_aload_n d rfl, fun d => ok_iload_n d rfl, fun d => ok_putfield (ci := 2) (f := 3) (N := 4) (C := RX4) (T := TX4) d rfl inX4 tyX4_ok nmX4 (by decide) q189 rfl (by decide), fun d => ok_vreturn d rfl, trivial⟩
theorem tX4_fromLine (l : Launch) (D : va_G) (τ : ClassId × ClassId × ClassId × ClassId) (ad : Nat → Nat) : ∀ as μ r, mX4_fromLine as μ = some r → gMt (D, τ, LB, ad) l yX4_fromLine MX4_fromLine as μ r := fun _ _ _ h => gMt_of (plainFor_of_name (by decide +kernel)) rfl dcX4_fromLine (okX4_fromLine l D τ ad) h
/-! GangMatrix$Slots.leastPass()J (LB) -/
abbrev MX7_leastPass : gMi := (cX7_leastPass, 4, RX7, some .long, 1)
noncomputable def PX7_leastPass : gP := [(0, .aload_n 0, 1, i_ald 1 0), (1, .getfield 22, 3, i_gfd LB 4 3), (4, .ifCond .le 12, 3, i_fle 16), (7, .aload_n 0, 1, i_ald 1 0), (8, .getfield 11, 3, i_gfd LB 4 0), (11, .iconst 0, 1, i_psh 1 (.int 0)), (12, .laload, 1, i_lak LB 0 0), (13, .goto 4, 3, i_gto 17), (16, .lconst 0, 1, i_psh 1 (.long 0)), (17, .lstore_n 1, 1, i_lst 1 1), (18, .iconst 1, 1, i_psh 1 (.int 1)), (19, .istore_n 3, 1, i_ist 1 3), (20, .iload_n 3, 1, i_ild 1 3), (21, .aload_n 0, 1, i_ald 1 0), (22, .getfield 22, 3, i_gfd LB 4 3), (25, .if_icmp .ge 27, 3, i_cge 52), (28, .aload_n 0, 1, i_ald 1 0), (29, .getfield 11, 3, i_gfd LB 4 0), (32, .iload_n 3, 1, i_ild 1 3), (33, .laload, 1, i_lad LB), (34, .lload_n 1, 1, i_lld 1 1), (35, .lcmp, 1, i_lcm), (36, .ifCond .ge 10, 3, i_fge 46), (39, .aload_n 0, 1, i_ald 1 0), (40, .getfield 11, 3, i_gfd LB 4 0), (43, .iload_n 3, 1, i_ild 1 3), (44, .laload, 1, i_lad LB), (45, .lstore_n 1, 1, i_lst 1 1), (46, .iinc 3 1, 3, i_inc 3 1), (49, .goto (-29), 3, i_gto 20), (52, .lload_n 1, 1, i_lld 1 1), (53, .lreturn, 1, i_lrt)]
noncomputable def mX7_leastPass : gF := g_m PX7_leastPass 4
set_option maxRecDepth 20000 in
theorem dtX7_leastPass : gDts PX7_leastPass := ⟨dt_ald, dt_gfd, dt_fle, dt_ald, dt_gfd, dt_psh, dt_lak, dt_gto, dt_psh, dt_lst, dt_psh, dt_ist, dt_ild, dt_ald, dt_gfd, dt_cge, dt_ald, dt_gfd, dt_ild, dt_lad, dt_lld, dt_lcm, dt_fge, dt_ald, dt_gfd, dt_ild, dt_lad, dt_lst, dt_inc, dt_gto, dt_lld, dt_lrt, trivial⟩
set_option maxRecDepth 20000 in
theorem dcX7_leastPass : gDec MX7_leastPass PX7_leastPass := by unfold gDec PX7_leastPass; decide +kernel
set_option maxRecDepth 20000 in
theorem okX7_leastPass (l : Launch) (D : va_G) (τ : ClassId × ClassId × ClassId × ClassId) (ad : Nat → Nat) : gOks (D, τ, LB, ad) l MX7_leastPass PX7_leastPass := ⟨fun d => ok_aload_n d rfl, fun d => ok_getfield (ci := 4) (f := 3) (N := 4) (C := RX7) (T := TX7) d rfl inX7 (by decide) q240, fun d => ok_ifle d (by decide), fun d => ok_aload_n d rfl, fun d => ok_getfield (ci := 4) (f := 0) (N := 4) (C := RX7) (T := TX7) d rfl inX7 (by decide) q230, fun d => ok_iconst d (by decide), fun d => ok_lak (ok_laload d) (by decide), fun d => ok_goto d (by decide), fun d => ok_lconst d (by decide), fun d => ok_lstore_n d rfl, fun d => ok_iconst d (by decide), fun d => ok_istore_n d rfl, fun d => ok_iload_n d rfl, fun d => ok_aload_n d rfl, fun d => ok_getfield (ci := 4) (f := 3) (N := 4) (C := RX7) (T := TX7) d rfl inX7 (by decide) q240, fun d => ok_icmpge d (by decide), fun d => ok_aload_n d rfl, fun d => ok_getfield (ci := 4) (f := 0) (N := 4) (C := RX7) (T := TX7) d rfl inX7 (by decide) q230, fun d => ok_iload_n d rfl, fun d => ok_laload d, fun d => ok_lload_n d rfl, fun d => ok_lcmp d, fun d => ok_ifge d (by decide), fun d => ok_aload_n d rfl, fun d => ok_getfield (ci := 4) (f := 0) (N := 4) (C := RX7) (T := TX7) d rfl inX7 (by decide) q230, fun d => ok_iload_n d rfl, fun d => ok_laload d, fun d => ok_lstore_n d rfl, fun d => ok_iinc d (by decide), fun d => ok_goto d (by decide), fun d => ok_lload_n d rfl, fun d => ok_lreturn d rfl, trivial⟩
theorem tX7_leastPass (l : Launch) (D : va_G) (τ : ClassId × ClassId × ClassId × ClassId) (ad : Nat → Nat) : ∀ as μ r, mX7_leastPass as μ = some r → gMt (D, τ, LB, ad) l yX7_leastPass MX7_leastPass as μ r := fun _ _ _ h => gMt_of (plainFor_of_name (by decide +kernel)) rfl dcX7_leastPass (okX7_leastPass l D τ ad) h
/-! GangMatrix$Slots.open()V (LB) -/
abbrev MX7_open : gMi := (cX7_open, 1, RX7, none, 2)
noncomputable def PX7_open : gP := [(0, .aload_n 0, 1, i_ald 1 0), (1, .getfield 22, 3, i_gfd LB 4 3), (4, .bipush 8, 2, i_psh 2 (.int 8)), (6, .if_icmp .ge 46, 3, i_cge 52), (9, .aload_n 0, 1, i_ald 1 0), (10, .getfield 11, 3, i_gfd LB 4 0), (13, .aload_n 0, 1, i_ald 1 0), (14, .getfield 22, 3, i_gfd LB 4 3), (17, .aload_n 0, 1, i_ald 1 0), (18, .invokevirtual 26, 3, i_cvl LB 0 4 mX7_leastPass), (21, .lastore, 1, i_las LB), (22, .aload_n 0, 1, i_ald 1 0), (23, .getfield 15, 3, i_gfd LB 4 1), (26, .aload_n 0, 1, i_ald 1 0), (27, .getfield 22, 3, i_gfd LB 4 3), (30, .iconst 0, 1, i_psh 1 (.int 0)), (31, .iastore, 1, i_ias LB), (32, .aload_n 0, 1, i_ald 1 0), (33, .getfield 19, 3, i_gfd LB 4 2), (36, .aload_n 0, 1, i_ald 1 0), (37, .getfield 22, 3, i_gfd LB 4 3), (40, .iconst 0, 1, i_psh 1 (.int 0)), (41, .iastore, 1, i_ias LB), (42, .aload_n 0, 1, i_ald 1 0), (43, .dup, 1, i_dup), (44, .getfield 22, 3, i_gfd LB 4 3), (47, .iconst 1, 1, i_psh 1 (.int 1)), (48, .iadd, 1, i_bin (fun x y => (x + y))), (49, .putfield 22, 3, i_pfd LB 4 3), (52, .return_, 1, i_vrt)]
noncomputable def mX7_open : gF := g_m PX7_open 1
set_option maxRecDepth 20000 in
theorem dtX7_open : gDts PX7_open := ⟨dt_ald, dt_gfd, dt_psh, dt_cge, dt_ald, dt_gfd, dt_ald, dt_gfd, dt_ald, dt_cvl, dt_las, dt_ald, dt_gfd, dt_ald, dt_gfd, dt_psh, dt_ias, dt_ald, dt_gfd, dt_ald, dt_gfd, dt_psh, dt_ias, dt_ald, dt_dup, dt_gfd, dt_psh, dt_bin, dt_pfd, dt_vrt, trivial⟩
set_option maxRecDepth 20000 in
theorem dcX7_open : gDec MX7_open PX7_open := by unfold gDec PX7_open; decide +kernel
set_option maxRecDepth 20000 in
theorem okX7_open (l : Launch) (D : va_G) (τ : ClassId × ClassId × ClassId × ClassId) (ad : Nat → Nat) : gOks (D, τ, LB, ad) l MX7_open PX7_open := ⟨fun d => ok_aload_n d rfl, fun d => ok_getfield (ci := 4) (f := 3) (N := 4) (C := RX7) (T := TX7) d rfl inX7 (by decide) q240, fun d => ok_bipush d (by decide), fun d => ok_icmpge d (by decide), fun d => ok_aload_n d rfl, fun d => ok_getfield (ci := 4) (f := 0) (N := 4) (C := RX7) (T := TX7) d rfl inX7 (by decide) q230, fun d => ok_aload_n d rfl, fun d => ok_getfield (ci := 4) (f := 3) (N := 4) (C := RX7) (T := TX7) d rfl inX7 (by decide) q240, fun d => ok_aload_n d rfl, fun d => ok_cvl (ok_callV (M' := MX7_leastPass) (ci := 4) (C := RX7) (T := TX7) (N := 4) d (tX7_leastPass l D τ ad) rfl q541 q542 q543 q145 q544 (by decide +kernel) (by decide)), fun d => ok_lastore d, fun d => ok_aload_n d rfl, fun d => ok_getfield (ci := 4) (f := 1) (N := 4) (C := RX7) (T := TX7) d rfl inX7 (by decide) q233, fun d => ok_aload_n d rfl, fun d => ok_getfield (ci := 4) (f := 3) (N := 4) (C := RX7) (T := TX7) d rfl inX7 (by decide) q240, fun d => ok_iconst d (by decide), fun d => ok_iastore d, fun d => ok_aload_n d rfl, fun d => ok_getfield (ci := 4) (f := 2) (N := 4) (C := RX7) (T := TX7) d rfl inX7 (by decide) q236, fun d => ok_aload_n d rfl, fun d => ok_getfield (ci := 4) (f := 3) (N := 4) (C := RX7) (T := TX7) d rfl inX7 (by decide) q240, fun d => ok_iconst d (by decide), fun d => ok_iastore d, fun d => ok_aload_n d rfl, fun d => ok_dup d, fun d => ok_getfield (ci := 4) (f := 3) (N := 4) (C := RX7) (T := TX7) d rfl inX7 (by decide) q240, fun d => ok_iconst d (by decide), fun d => ok_iadd d, fun d => ok_putfield (ci := 4) (f := 3) (N := 4) (C := RX7) (T := TX7) d rfl inX7 tyX7_ok nmX7 (by decide) q240 rfl (by decide), fun d => ok_vreturn d rfl, trivial⟩
theorem tX7_open (l : Launch) (D : va_G) (τ : ClassId × ClassId × ClassId × ClassId) (ad : Nat → Nat) : ∀ as μ r, mX7_open as μ = some r → gMt (D, τ, LB, ad) l yX7_open MX7_open as μ r := fun _ _ _ h => gMt_of (plainFor_of_name (by decide +kernel)) rfl dcX7_open (okX7_open l D τ ad) h
/-! GangMatrix$Slots.has(I)Z (LB) -/
abbrev MX7_has : gMi := (cX7_has, 2, RX7, some .boolean, 1)
noncomputable def PX7_has : gP := [(0, .iload_n 1, 1, i_ild 1 1), (1, .ifCond .lt 15, 3, i_flt 16), (4, .iload_n 1, 1, i_ild 1 1), (5, .aload_n 0, 1, i_ald 1 0), (6, .getfield 22, 3, i_gfd LB 4 3), (9, .if_icmp .ge 7, 3, i_cge 16), (12, .iconst 1, 1, i_psh 1 (.int 1)), (13, .goto 4, 3, i_gto 17), (16, .iconst 0, 1, i_psh 1 (.int 0)), (17, .ireturn, 1, i_zrt)]
noncomputable def mX7_has : gF := g_m PX7_has 2
set_option maxRecDepth 20000 in
theorem dtX7_has : gDts PX7_has := ⟨dt_ild, dt_flt, dt_ild, dt_ald, dt_gfd, dt_cge, dt_psh, dt_gto, dt_psh, dt_zrt, trivial⟩
set_option maxRecDepth 20000 in
theorem dcX7_has : gDec MX7_has PX7_has := by unfold gDec PX7_has; decide +kernel
set_option maxRecDepth 20000 in
theorem okX7_has (l : Launch) (D : va_G) (τ : ClassId × ClassId × ClassId × ClassId) (ad : Nat → Nat) : gOks (D, τ, LB, ad) l MX7_has PX7_has := ⟨fun d => ok_iload_n d rfl, fun d => ok_iflt d (by decide), fun d => ok_iload_n d rfl, fun d => ok_aload_n d rfl, fun d => ok_getfield (ci := 4) (f := 3) (N := 4) (C := RX7) (T := TX7) d rfl inX7 (by decide) q240, fun d => ok_icmpge d (by decide), fun d => ok_iconst d (by decide), fun d => ok_goto d (by decide), fun d => ok_iconst d (by decide), fun d => ok_zreturn d rfl, trivial⟩
theorem tX7_has (l : Launch) (D : va_G) (τ : ClassId × ClassId × ClassId × ClassId) (ad : Nat → Nat) : ∀ as μ r, mX7_has as μ = some r → gMt (D, τ, LB, ad) l yX7_has MX7_has as μ r := fun _ _ _ h => gMt_of (plainFor_of_name (by decide +kernel)) rfl dcX7_has (okX7_has l D τ ad) h
/-! GangMatrix$Jobs.block(I)I (LB) -/
abbrev MX4_block : gMi := (cX4_block, 2, RX4, some .int, 2)
noncomputable def PX4_block : gP := [(0, .aload_n 0, 1, i_ald 1 0), (1, .getfield 13, 3, i_gfd LB 2 0), (4, .bipush 8, 2, i_psh 2 (.int 8)), (6, .aaload, 1, i_aak LB 8 8 13), (7, .iload_n 1, 1, i_ild 1 1), (8, .iaload, 1, i_iad LB), (9, .aload_n 0, 1, i_ald 1 0), (10, .getfield 13, 3, i_gfd LB 2 0), (13, .bipush 9, 2, i_psh 2 (.int 9)), (15, .aaload, 1, i_aak LB 9 9 14), (16, .iload_n 1, 1, i_ild 1 1), (17, .iaload, 1, i_iad LB), (18, .invokestatic 37, 3, i_csi 2 mX1_bits), (21, .ireturn, 1, i_irt)]
noncomputable def mX4_block : gF := g_m PX4_block 2
set_option maxRecDepth 20000 in
theorem dtX4_block : gDts PX4_block := ⟨dt_ald, dt_gfd, dt_psh, dt_aak, dt_ild, dt_iad, dt_ald, dt_gfd, dt_psh, dt_aak, dt_ild, dt_iad, dt_csi, dt_irt, trivial⟩
set_option maxRecDepth 20000 in
theorem dcX4_block : gDec MX4_block PX4_block := by unfold gDec PX4_block; decide +kernel
set_option maxRecDepth 20000 in
theorem okX4_block (l : Launch) (D : va_G) (τ : ClassId × ClassId × ClassId × ClassId) (ad : Nat → Nat) : gOks (D, τ, LB, ad) l MX4_block PX4_block := ⟨fun d => ok_aload_n d rfl, fun d => ok_getfield (ci := 2) (f := 0) (N := 4) (C := RX4) (T := TX4) d rfl inX4 (by decide) q177, fun d => ok_bipush d (by decide), fun d => ok_aak (ok_aaload d) (by decide), fun d => ok_iload_n d rfl, fun d => ok_iaload d, fun d => ok_aload_n d rfl, fun d => ok_getfield (ci := 2) (f := 0) (N := 4) (C := RX4) (T := TX4) d rfl inX4 (by decide) q177, fun d => ok_bipush d (by decide), fun d => ok_aak (ok_aaload d) (by decide), fun d => ok_iload_n d rfl, fun d => ok_iaload d, fun d => ok_csi (ok_callS (M' := MX1_bits) d (tX1_bits l _) q553 q470 q151 q471 (by decide +kernel) (by decide)), fun d => ok_ireturn d rfl, trivial⟩
theorem tX4_block (l : Launch) (D : va_G) (τ : ClassId × ClassId × ClassId × ClassId) (ad : Nat → Nat) : ∀ as μ r, mX4_block as μ = some r → gMt (D, τ, LB, ad) l yX4_block MX4_block as μ r := fun _ _ _ h => gMt_of (plainFor_of_name (by decide +kernel)) rfl dcX4_block (okX4_block l D τ ad) h
/-! GangMatrix$Board.settle(III)V (LB) -/
abbrev MX2_settle : gMi := (cX2_settle, 4, RX2, none, 3)
noncomputable def PX2_settle : gP := [(0, .iload_n 2, 1, i_ild 1 2), (1, .aload_n 0, 1, i_ald 1 0), (2, .getfield 35, 3, i_gfd LB 1 4), (5, .getfield 160, 3, i_gfd LB 4 3), (8, .if_icmp .ne 10, 3, i_cne 18), (11, .aload_n 0, 1, i_ald 1 0), (12, .getfield 35, 3, i_gfd LB 1 4), (15, .invokevirtual 231, 3, i_cvv LB 0 4 mX7_open), (18, .aload_n 0, 1, i_ald 1 0), (19, .getfield 35, 3, i_gfd LB 1 4), (22, .iload_n 2, 1, i_ild 1 2), (23, .invokevirtual 234, 3, i_cvi LB 1 4 mX7_has), (26, .ifCond .eq 49, 3, i_feq 75), (29, .aload_n 0, 1, i_ald 1 0), (30, .getfield 21, 3, i_gfd LB 1 2), (33, .getfield 130, 3, i_gfd LB 2 0), (36, .bipush 7, 2, i_psh 2 (.int 7)), (38, .aaload, 1, i_aak LB 7 7 12), (39, .iload_n 1, 1, i_ild 1 1), (40, .iload_n 2, 1, i_ild 1 2), (41, .iastore, 1, i_ias LB), (42, .aload_n 0, 1, i_ald 1 0), (43, .getfield 21, 3, i_gfd LB 1 2), (46, .getfield 130, 3, i_gfd LB 2 0), (49, .bipush 8, 2, i_psh 2 (.int 8)), (51, .aaload, 1, i_aak LB 8 8 13), (52, .iload_n 1, 1, i_ild 1 1), (53, .iload_n 3, 1, i_ild 1 3), (54, .iastore, 1, i_ias LB), (55, .aload_n 0, 1, i_ald 1 0), (56, .getfield 35, 3, i_gfd LB 1 4), (59, .getfield 111, 3, i_gfd LB 4 2), (62, .iload_n 2, 1, i_ild 1 2), (63, .dup2, 1, i_du2), (64, .iaload, 1, i_iad LB), (65, .aload_n 0, 1, i_ald 1 0), (66, .getfield 21, 3, i_gfd LB 1 2), (69, .iload_n 1, 1, i_ild 1 1), (70, .invokevirtual 237, 3, i_cvi LB 1 2 mX4_block), (73, .ior, 1, i_bin (fun x y => (x ||| y))), (74, .iastore, 1, i_ias LB), (75, .return_, 1, i_vrt)]
noncomputable def mX2_settle : gF := g_m PX2_settle 4
set_option maxRecDepth 20000 in
theorem dtX2_settle : gDts PX2_settle := ⟨dt_ild, dt_ald, dt_gfd, dt_gfd, dt_cne, dt_ald, dt_gfd, dt_cvv, dt_ald, dt_gfd, dt_ild, dt_cvi, dt_feq, dt_ald, dt_gfd, dt_gfd, dt_psh, dt_aak, dt_ild, dt_ild, dt_ias, dt_ald, dt_gfd, dt_gfd, dt_psh, dt_aak, dt_ild, dt_ild, dt_ias, dt_ald, dt_gfd, dt_gfd, dt_ild, dt_du2, dt_iad, dt_ald, dt_gfd, dt_ild, dt_cvi, dt_bin, dt_ias, dt_vrt, trivial⟩
set_option maxRecDepth 20000 in
theorem dcX2_settle : gDec MX2_settle PX2_settle := by unfold gDec PX2_settle; decide +kernel
set_option maxRecDepth 20000 in
theorem okX2_settle (l : Launch) (D : va_G) (τ : ClassId × ClassId × ClassId × ClassId) (ad : Nat → Nat) : gOks (D, τ, LB, ad) l MX2_settle PX2_settle := ⟨fun d => ok_iload_n d rfl, fun d => ok_aload_n d rfl, fun d => ok_getfield (ci := 1) (f := 4) (N := 14) (C := RX2) (T := TX2) d rfl inX2 (by decide) q327, fun d => ok_getfield (ci := 4) (f := 3) (N := 4) (C := RX7) (T := TX7) d rfl inX7 (by decide) q243, fun d => ok_icmpne d (by decide), fun d => ok_aload_n d rfl, fun d => ok_getfield (ci := 1) (f := 4) (N := 14) (C := RX2) (T := TX2) d rfl inX2 (by decide) q327, fun d => ok_cvv (ok_callV (M' := MX7_open) (ci := 4) (C := RX7) (T := TX7) (N := 4) d (tX7_open l D τ ad) rfl q537 q538 q539 q145 q540 (by decide +kernel) (by decide)), fun d => ok_aload_n d rfl, fun d => ok_getfield (ci := 1) (f := 4) (N := 14) (C := RX2) (T := TX2) d rfl inX2 (by decide) q327, fun d => ok_iload_n d rfl, fun d => ok_cvi (ok_callV (M' := MX7_has) (ci := 4) (C := RX7) (T := TX7) (N := 4) d (tX7_has l D τ ad) rfl q545 q546 q547 q145 q548 (by decide +kernel) (by decide)), fun d => ok_ifeq d (by decide), fun d => ok_aload_n d rfl, fun d => ok_getfield (ci := 1) (f := 2) (N := 14) (C := RX2) (T := TX2) d rfl inX2 (by decide) q322, fun d => ok_getfield (ci := 2) (f := 0) (N := 4) (C := RX4) (T := TX4) d rfl inX4 (by decide) q180, fun d => ok_bipush d (by decide), fun d => ok_aak (ok_aaload d) (by decide), fun d => ok_iload_n d rfl, fun d => ok_iload_n d rfl, fun d => ok_iastore d, fun d => ok_aload_n d rfl, fun d => ok_getfield (ci := 1) (f := 2) (N := 14) (C := RX2) (T := TX2) d rfl inX2 (by decide) q322, fun d => ok_getfield (ci := 2) (f := 0) (N := 4) (C := RX4) (T := TX4) d rfl inX4 (by decide) q180, fun d => ok_bipush d (by decide), fun d => ok_aak (ok_aaload d) (by decide), fun d => ok_iload_n d rfl, fun d => ok_iload_n d rfl, fun d => ok_iastore d, fun d => ok_aload_n d rfl, fun d => ok_getfield (ci := 1) (f := 4) (N := 14) (C := RX2) (T := TX2) d rfl inX2 (by decide) q327, fun d => ok_getfield (ci := 4) (f := 2) (N := 4) (C := RX7) (T := TX7) d rfl inX7 (by decide) q237, fun d => ok_iload_n d rfl, fun d => ok_dup2 d, fun d => ok_iaload d, fun d => ok_aload_n d rfl, fun d => ok_getfield (ci := 1) (f := 2) (N := 14) (C := RX2) (T := TX2) d rfl inX2 (by decide) q322, fun d => ok_iload_n d rfl, fun d => ok_cvi (ok_callV (M' := MX4_block) (ci := 2) (C := RX4) (T := TX4) (N := 4) d (tX4_block l D τ ad) rfl q549 q550 q551 q143 q552 (by decide +kernel) (by decide)), fun d => ok_ior d, fun d => ok_iastore d, fun d => ok_vreturn d rfl, trivial⟩
theorem tX2_settle (l : Launch) (D : va_G) (τ : ClassId × ClassId × ClassId × ClassId) (ad : Nat → Nat) : ∀ as μ r, mX2_settle as μ = some r → gMt (D, τ, LB, ad) l yX2_settle MX2_settle as μ r := fun _ _ _ h => gMt_of (plainFor_of_name (by decide +kernel)) rfl dcX2_settle (okX2_settle l D τ ad) h
/-! GangMatrix$Board.placeAt(III)V (LB) -/
abbrev MX2_placeAt : gMi := (cX2_placeAt, 4, RX2, none, 4)
noncomputable def PX2_placeAt : gP := [(0, .aload_n 0, 1, i_ald 1 0), (1, .getfield 21, 3, i_gfd LB 1 2), (4, .iload_n 1, 1, i_ild 1 1), (5, .invokevirtual 219, 3, i_cvv LB 1 2 mX4_fromLine), (8, .aload_n 0, 1, i_ald 1 0), (9, .getfield 21, 3, i_gfd LB 1 2), (12, .getfield 130, 3, i_gfd LB 2 0), (15, .iconst 4, 1, i_psh 1 (.int 4)), (16, .aaload, 1, i_aak LB 4 4 9), (17, .iload_n 1, 1, i_ild 1 1), (18, .iconst 2, 1, i_psh 1 (.int 2)), (19, .iastore, 1, i_ias LB), (20, .aload_n 0, 1, i_ald 1 0), (21, .getfield 21, 3, i_gfd LB 1 2), (24, .getfield 130, 3, i_gfd LB 2 0), (27, .bipush 14, 2, i_psh 2 (.int 14)), (29, .aaload, 1, i_aak LB 14 14 19), (30, .iload_n 1, 1, i_ild 1 1), (31, .iaload, 1, i_iad LB), (32, .iconst (-1), 1, i_psh 1 (.int (-1))), (33, .if_icmp .ne 19, 3, i_cne 52), (36, .aload_n 0, 1, i_ald 1 0), (37, .getfield 21, 3, i_gfd LB 1 2), (40, .getfield 130, 3, i_gfd LB 2 0), (43, .bipush 14, 2, i_psh 2 (.int 14)), (45, .aaload, 1, i_aak LB 14 14 19), (46, .iload_n 1, 1, i_ild 1 1), (47, .aload_n 0, 1, i_ald 1 0), (48, .getfield 96, 3, i_gfd LB 1 12), (51, .iastore, 1, i_ias LB), (52, .aload_n 0, 1, i_ald 1 0), (53, .iload_n 1, 1, i_ild 1 1), (54, .iload_n 2, 1, i_ild 1 2), (55, .invokestatic 222, 3, i_csi 1 mX1_slotOf), (58, .iload_n 2, 1, i_ild 1 2), (59, .invokestatic 225, 3, i_csi 1 mX1_columnOf), (62, .invokevirtual 228, 3, i_cvv LB 3 1 mX2_settle), (65, .aload_n 0, 1, i_ald 1 0), (66, .iload_n 3, 1, i_ild 1 3), (67, .iload_n 1, 1, i_ild 1 1), (68, .invokevirtual 148, 3, i_cvv LB 2 1 mX2_note), (71, .return_, 1, i_vrt)]
noncomputable def mX2_placeAt : gF := g_m PX2_placeAt 4
set_option maxRecDepth 20000 in
theorem dtX2_placeAt : gDts PX2_placeAt := ⟨dt_ald, dt_gfd, dt_ild, dt_cvv, dt_ald, dt_gfd, dt_gfd, dt_psh, dt_aak, dt_ild, dt_psh, dt_ias, dt_ald, dt_gfd, dt_gfd, dt_psh, dt_aak, dt_ild, dt_iad, dt_psh, dt_cne, dt_ald, dt_gfd, dt_gfd, dt_psh, dt_aak, dt_ild, dt_ald, dt_gfd, dt_ias, dt_ald, dt_ild, dt_ild, dt_csi, dt_ild, dt_csi, dt_cvv, dt_ald, dt_ild, dt_ild, dt_cvv, dt_vrt, trivial⟩
set_option maxRecDepth 20000 in
theorem dcX2_placeAt : gDec MX2_placeAt PX2_placeAt := by unfold gDec PX2_placeAt; decide +kernel
set_option maxRecDepth 20000 in
theorem okX2_placeAt (l : Launch) (D : va_G) (τ : ClassId × ClassId × ClassId × ClassId) (ad : Nat → Nat) : gOks (D, τ, LB, ad) l MX2_placeAt PX2_placeAt := ⟨fun d => ok_aload_n d rfl, fun d => ok_getfield (ci := 1) (f := 2) (N := 14) (C := RX2) (T := TX2) d rfl inX2 (by decide) q322, fun d => ok_iload_n d rfl, fun d => ok_cvv (ok_callV (M' := MX4_fromLine) (ci := 2) (C := RX4) (T := TX4) (N := 4) d (tX4_fromLine l D τ ad) rfl q523 q524 q525 q143 q526 (by decide +kernel) (by decide)), fun d => ok_aload_n d rfl, fun d => ok_getfield (ci := 1) (f := 2) (N := 14) (C := RX2) (T := TX2) d rfl inX2 (by decide) q322, fun d => ok_getfield (ci := 2) (f := 0) (N := 4) (C := RX4) (T := TX4) d rfl inX4 (by decide) q180, fun d => ok_iconst d (by decide), fun d => ok_aak (ok_aaload d) (by decide), fun d => ok_iload_n d rfl, fun d => ok_iconst d (by decide), fun d => ok_iastore d, fun d => ok_aload_n d rfl, fun d => ok_getfield (ci := 1) (f := 2) (N := 14) (C := RX2) (T := TX2) d rfl inX2 (by decide) q322, fun d => ok_getfield (ci := 2) (f := 0) (N := 4) (C := RX4) (T := TX4) d rfl inX4 (by decide) q180, fun d => ok_bipush d (by decide), fun d => ok_aak (ok_aaload d) (by decide), fun d => ok_iload_n d rfl, fun d => ok_iaload d, fun d => ok_iconst d (by decide), fun d => ok_icmpne d (by decide), fun d => ok_aload_n d rfl, fun d => ok_getfield (ci := 1) (f := 2) (N := 14) (C := RX2) (T := TX2) d rfl inX2 (by decide) q322, fun d => ok_getfield (ci := 2) (f := 0) (N := 4) (C := RX4) (T := TX4) d rfl inX4 (by decide) q180, fun d => ok_bipush d (by decide), fun d => ok_aak (ok_aaload d) (by decide), fun d => ok_iload_n d rfl, fun d => ok_aload_n d rfl, fun d => ok_getfield (ci := 1) (f := 12) (N := 14) (C := RX2) (T := TX2) d rfl inX2 (by decide) q341, fun d => ok_iastore d, fun d => ok_aload_n d rfl, fun d => ok_iload_n d rfl, fun d => ok_iload_n d rfl, fun d => ok_csi (ok_callS (M' := MX1_slotOf) d (tX1_slotOf l _) q527 q528 q151 q529 (by decide +kernel) (by decide)), fun d => ok_iload_n d rfl, fun d => ok_csi (ok_callS (M' := MX1_columnOf) d (tX1_columnOf l _) q530 q531 q151 q532 (by decide +kernel) (by decide)), fun d => ok_cvv (ok_callV (M' := MX2_settle) (ci := 1) (C := RX2) (T := TX2) (N := 14) d (tX2_settle l D τ ad) rfl q533 q534 q535 q142 q536 (by decide +kernel) (by decide)), fun d => ok_aload_n d rfl, fun d => ok_iload_n d rfl, fun d => ok_iload_n d rfl, fun d => ok_cvv (ok_callV (M' := MX2_note) (ci := 1) (C := RX2) (T := TX2) (N := 14) d (tX2_note l D τ ad) rfl q554 q555 q556 q142 q557 (by decide +kernel) (by decide)), fun d => ok_vreturn d rfl, trivial⟩
theorem tX2_placeAt (l : Launch) (D : va_G) (τ : ClassId × ClassId × ClassId × ClassId) (ad : Nat → Nat) : ∀ as μ r, mX2_placeAt as μ = some r → gMt (D, τ, LB, ad) l yX2_placeAt MX2_placeAt as μ r := fun _ _ _ h => gMt_of (plainFor_of_name (by decide +kernel)) rfl dcX2_placeAt (okX2_placeAt l D τ ad) h
/-! GangMatrix$Board.tryPlace(II)Z (LB) -/
abbrev MX2_tryPlace : gMi := (cX2_tryPlace, 4, RX2, some .boolean, 5)
noncomputable def PX2_tryPlace : gP := [(0, .aload_n 0, 1, i_ald 1 0), (1, .aload_n 0, 1, i_ald 1 0), (2, .getfield 21, 3, i_gfd LB 1 2), (5, .getfield 130, 3, i_gfd LB 2 0), (8, .bipush 9, 2, i_psh 2 (.int 9)), (10, .aaload, 1, i_aak LB 9 9 14), (11, .iload_n 1, 1, i_ild 1 1), (12, .iaload, 1, i_iad LB), (13, .invokevirtual 212, 3, i_cvi LB 1 1 mX2_spotFor), (16, .istore_n 3, 1, i_ist 1 3), (17, .iload_n 3, 1, i_ild 1 3), (18, .iconst (-1), 1, i_psh 1 (.int (-1))), (19, .if_icmp .ne 5, 3, i_cne 24), (22, .iconst 0, 1, i_psh 1 (.int 0)), (23, .ireturn, 1, i_zrt), (24, .aload_n 0, 1, i_ald 1 0), (25, .iload_n 1, 1, i_ild 1 1), (26, .iload_n 3, 1, i_ild 1 3), (27, .iload_n 2, 1, i_ild 1 2), (28, .invokevirtual 215, 3, i_cvv LB 3 1 mX2_placeAt), (31, .iconst 1, 1, i_psh 1 (.int 1)), (32, .ireturn, 1, i_zrt)]
noncomputable def mX2_tryPlace : gF := g_m PX2_tryPlace 4
set_option maxRecDepth 20000 in
theorem dtX2_tryPlace : gDts PX2_tryPlace := ⟨dt_ald, dt_ald, dt_gfd, dt_gfd, dt_psh, dt_aak, dt_ild, dt_iad, dt_cvi, dt_ist, dt_ild, dt_psh, dt_cne, dt_psh, dt_zrt, dt_ald, dt_ild, dt_ild, dt_ild, dt_cvv, dt_psh, dt_zrt, trivial⟩
set_option maxRecDepth 20000 in
theorem dcX2_tryPlace : gDec MX2_tryPlace PX2_tryPlace := by unfold gDec PX2_tryPlace; decide +kernel
set_option maxRecDepth 20000 in
theorem okX2_tryPlace (l : Launch) (D : va_G) (τ : ClassId × ClassId × ClassId × ClassId) (ad : Nat → Nat) : gOks (D, τ, LB, ad) l MX2_tryPlace PX2_tryPlace := ⟨fun d => ok_aload_n d rfl, fun d => ok_aload_n d rfl, fun d => ok_getfield (ci := 1) (f := 2) (N := 14) (C := RX2) (T := TX2) d rfl inX2 (by decide) q322, fun d => ok_getfield (ci := 2) (f := 0) (N := 4) (C := RX4) (T := TX4) d rfl inX4 (by decide) q180, fun d => ok_bipush d (by decide), fun d => ok_aak (ok_aaload d) (by decide), fun d => ok_iload_n d rfl, fun d => ok_iaload d, fun d => ok_cvi (ok_callV (M' := MX2_spotFor) (ci := 1) (C := RX2) (T := TX2) (N := 14) d (tX2_spotFor l D τ ad) rfl q457 q458 q459 q142 q460 (by decide +kernel) (by decide)), fun d => ok_istore_n d rfl, fun d => ok_iload_n d rfl, fun d => ok_iconst d (by decide), fun d => ok_icmpne d (by decide), fun d => ok_iconst d (by decide), fun d => ok_zreturn d rfl, fun d => ok_aload_n d rfl, fun d => ok_iload_n d rfl, fun d => ok_iload_n d rfl, fun d => ok_iload_n d rfl, fun d => ok_cvv (ok_callV (M' := MX2_placeAt) (ci := 1) (C := RX2) (T := TX2) (N := 14) d (tX2_placeAt l D τ ad) rfl q519 q520 q521 q142 q522 (by decide +kernel) (by decide)), fun d => ok_iconst d (by decide), fun d => ok_zreturn d rfl, trivial⟩
theorem tX2_tryPlace (l : Launch) (D : va_G) (τ : ClassId × ClassId × ClassId × ClassId) (ad : Nat → Nat) : ∀ as μ r, mX2_tryPlace as μ = some r → gMt (D, τ, LB, ad) l yX2_tryPlace MX2_tryPlace as μ r := fun _ _ _ h => gMt_of (plainFor_of_name (by decide +kernel)) rfl dcX2_tryPlace (okX2_tryPlace l D τ ad) h
/-! GangMatrix$Board.goOn()V (LB) -/
abbrev MX2_goOn : gMi := (cX2_goOn, 6, RX2, none, 6)
noncomputable def PX2_goOn : gP := [(0, .aload_n 0, 1, i_ald 1 0), (1, .getfield 21, 3, i_gfd LB 1 2), (4, .getfield 196, 3, i_gfd LB 2 3), (7, .ifCond .le 10, 3, i_fle 17), (10, .aload_n 0, 1, i_ald 1 0), (11, .invokevirtual 205, 3, i_cvi LB 0 1 mX2_lineUp), (14, .goto 4, 3, i_gto 18), (17, .iconst 0, 1, i_psh 1 (.int 0)), (18, .istore_n 1, 1, i_ist 1 1), (19, .iconst 0, 1, i_psh 1 (.int 0)), (20, .istore_n 2, 1, i_kll [3, 4, 5] (i_ist 1 2)), (21, .iload_n 2, 1, i_ild 1 2), (22, .iload_n 1, 1, i_ild 1 1), (23, .if_icmp .ge 23, 3, i_cge 46), (26, .aload_n 0, 1, i_ald 1 0), (27, .aload_n 0, 1, i_ald 1 0), (28, .getfield 63, 3, i_gfd LB 1 9), (31, .iload_n 2, 1, i_ild 1 2), (32, .iaload, 1, i_iad LB), (33, .iconst 1, 1, i_psh 1 (.int 1)), (34, .invokevirtual 208, 3, i_cvi LB 2 1 mX2_tryPlace), (37, .ifCond .eq 9, 3, i_feq 46), (40, .iinc 2 1, 3, i_inc 2 1), (43, .goto (-22), 3, i_kll [3, 4, 5] (i_gto 21)), (46, .iload_n 2, 1, i_ild 1 2), (47, .iconst 1, 1, i_psh 1 (.int 1)), (48, .iadd, 1, i_bin (fun x y => (x + y))), (49, .istore_n 3, 1, i_ist 1 3), (50, .iload_n 1, 1, i_ild 1 1), (51, .iload_n 3, 1, i_ild 1 3), (52, .aload_n 0, 1, i_ald 1 0), (53, .getfield 9, 3, i_gfd LB 1 0), (56, .iconst 4, 1, i_psh 1 (.int 4)), (57, .iaload, 1, i_iak LB 4 4), (58, .iadd, 1, i_bin (fun x y => (x + y))), (59, .invokestatic 185, 3, i_csi 2 mJ9_min_7cf53), (62, .istore 4, 2, i_ist 2 4), (64, .aload_n 0, 1, i_ald 1 0), (65, .getfield 21, 3, i_gfd LB 1 2), (68, .getfield 130, 3, i_gfd LB 2 0), (71, .bipush 17, 2, i_psh 2 (.int 17)), (73, .aaload, 1, i_aak LB 17 17 22), (74, .astore 5, 2, i_kll [1] (i_ast 2 5)), (76, .iload_n 3, 1, i_ild 1 3), (77, .iload 4, 2, i_ild 2 4), (79, .if_icmp .ge 65, 3, i_cge 144), (82, .aload 5, 2, i_ald 2 5), (84, .aload_n 0, 1, i_ald 1 0), (85, .getfield 63, 3, i_gfd LB 1 9), (88, .iload_n 2, 1, i_ild 1 2), (89, .iaload, 1, i_iad LB), (90, .iaload, 1, i_iad LB), (91, .aload_n 0, 1, i_ald 1 0), (92, .getfield 9, 3, i_gfd LB 1 0), (95, .iconst 5, 1, i_psh 1 (.int 5)), (96, .iaload, 1, i_iak LB 5 5), (97, .if_icmp .ge 47, 3, i_cge 144), (100, .aload_n 0, 1, i_ald 1 0), (101, .aload_n 0, 1, i_ald 1 0), (102, .getfield 63, 3, i_gfd LB 1 9), (105, .iload_n 3, 1, i_ild 1 3), (106, .iaload, 1, i_iad LB), (107, .iconst 2, 1, i_psh 1 (.int 2)), (108, .invokevirtual 208, 3, i_cvi LB 2 1 mX2_tryPlace), (111, .ifCond .eq 27, 3, i_feq 138), (114, .aload 5, 2, i_ald 2 5), (116, .aload_n 0, 1, i_ald 1 0), (117, .getfield 63, 3, i_gfd LB 1 9), (120, .iload_n 2, 1, i_ild 1 2), (121, .iaload, 1, i_iad LB), (122, .dup2, 1, i_du2), (123, .iaload, 1, i_iad LB), (124, .iconst 1, 1, i_psh 1 (.int 1)), (125, .iadd, 1, i_bin (fun x y => (x + y))), (126, .iastore, 1, i_ias LB), (127, .aload_n 0, 1, i_ald 1 0), (128, .getfield 15, 3, i_gfd LB 1 1), (131, .bipush 9, 2, i_psh 2 (.int 9)), (133, .dup2, 1, i_du2), (134, .iaload, 1, i_iak LB 9 9), (135, .iconst 1, 1, i_psh 1 (.int 1)), (136, .iadd, 1, i_bin (fun x y => (x + y))), (137, .iastore, 1, i_isk LB 9 9), (138, .iinc 3 1, 3, i_inc 3 1), (141, .goto (-65), 3, i_kll [1] (i_gto 76)), (144, .return_, 1, i_vrt)]
noncomputable def mX2_goOn : gF := g_m PX2_goOn 6
set_option maxRecDepth 20000 in
theorem dtX2_goOn : gDts PX2_goOn := ⟨dt_ald, dt_gfd, dt_gfd, dt_fle, dt_ald, dt_cvi, dt_gto, dt_psh, dt_ist, dt_psh, dt_kll dt_ist, dt_ild, dt_ild, dt_cge, dt_ald, dt_ald, dt_gfd, dt_ild, dt_iad, dt_psh, dt_cvi, dt_feq, dt_inc, dt_kll dt_gto, dt_ild, dt_psh, dt_bin, dt_ist, dt_ild, dt_ild, dt_ald, dt_gfd, dt_psh, dt_iak, dt_bin, dt_csi, dt_ist, dt_ald, dt_gfd, dt_gfd, dt_psh, dt_aak, dt_kll dt_ast, dt_ild, dt_ild, dt_cge, dt_ald, dt_ald, dt_gfd, dt_ild, dt_iad, dt_iad, dt_ald, dt_gfd, dt_psh, dt_iak, dt_cge, dt_ald, dt_ald, dt_gfd, dt_ild, dt_iad, dt_psh, dt_cvi, dt_feq, dt_ald, dt_ald, dt_gfd, dt_ild, dt_iad, dt_du2, dt_iad, dt_psh, dt_bin, dt_ias, dt_ald, dt_gfd, dt_psh, dt_du2, dt_iak, dt_psh, dt_bin, dt_isk, dt_inc, dt_kll dt_gto, dt_vrt, trivial⟩
set_option maxRecDepth 20000 in
theorem dcX2_goOn : gDec MX2_goOn PX2_goOn := by unfold gDec PX2_goOn; decide +kernel
set_option maxRecDepth 20000 in
theorem okX2_goOn (l : Launch) (D : va_G) (τ : ClassId × ClassId × ClassId × ClassId) (ad : Nat → Nat) : gOks (D, τ, LB, ad) l MX2_goOn PX2_goOn := ⟨fun d => ok_aload_n d rfl, fun d => ok_getfield (ci := 1) (f := 2) (N := 14) (C := RX2) (T := TX2) d rfl inX2 (by decide) q322, fun d => ok_getfield (ci := 2) (f := 3) (N := 4) (C := RX4) (T := TX4) d rfl inX4 (by decide) q190, fun d => ok_ifle d (by decide), fun d => ok_aload_n d rfl, fun d => ok_cvi (ok_callV (M' := MX2_lineUp) (ci := 1) (C := RX2) (T := TX2) (N := 14) d (tX2_lineUp l D τ ad) rfl q442 q443 q444 q142 q445 (by decide +kernel) (by decide)), fun d => ok_goto d (by decide), fun d => ok_iconst d (by decide), fun d => ok_istore_n d rfl, fun d => ok_iconst d (by decide), fun d => ok_kll (ok_istore_n d rfl), fun d => ok_iload_n d rfl, fun d => ok_iload_n d rfl, fun d => ok_icmpge d (by decide), fun d => ok_aload_n d rfl, fun d => ok_aload_n d rfl, fun d => ok_getfield (ci := 1) (f := 9) (N := 14) (C := RX2) (T := TX2) d rfl inX2 (by decide) q337, fun d => ok_iload_n d rfl, fun d => ok_iaload d, fun d => ok_iconst d (by decide), fun d => ok_cvi (ok_callV (M' := MX2_tryPlace) (ci := 1) (C := RX2) (T := TX2) (N := 14) d (tX2_tryPlace l D τ ad) rfl q453 q455 q1 q142 q456 (by decide +kernel) (by decide)), fun d => ok_ifeq d (by decide), fun d => ok_iinc d (by decide), fun d => ok_kll (ok_goto d (by decide)), fun d => ok_iload_n d rfl, fun d => ok_iconst d (by decide), fun d => ok_iadd d, fun d => ok_istore_n d rfl, fun d => ok_iload_n d rfl, fun d => ok_iload_n d rfl, fun d => ok_aload_n d rfl, fun d => ok_getfield (ci := 1) (f := 0) (N := 14) (C := RX2) (T := TX2) d rfl inX2 (by decide) q315, fun d => ok_iconst d (by decide), fun d => ok_iak (ok_iaload d) (by decide), fun d => ok_iadd d, fun d => ok_csi (ok_callS (M' := MJ9_min_7cf53) d (tJ9_min_7cf53 l _) q513 q514 q154 q515 (by decide +kernel) (by decide)), fun d => ok_istore d, fun d => ok_aload_n d rfl, fun d => ok_getfield (ci := 1) (f := 2) (N := 14) (C := RX2) (T := TX2) d rfl inX2 (by decide) q322, fun d => ok_getfield (ci := 2) (f := 0) (N := 4) (C := RX4) (T := TX4) d rfl inX4 (by decide) q180, fun d => ok_bipush d (by decide), fun d => ok_aak (ok_aaload d) (by decide), fun d => ok_kll (ok_astore d), fun d => ok_iload_n d rfl, fun d => ok_iload d, fun d => ok_icmpge d (by decide), fun d => ok_aload d, fun d => ok_aload_n d rfl, fun d => ok_getfield (ci := 1) (f := 9) (N := 14) (C := RX2) (T := TX2) d rfl inX2 (by decide) q337, fun d => ok_iload_n d rfl, fun d => ok_iaload d, fun d => ok_iaload d, fun d => ok_aload_n d rfl, fun d => ok_getfield (ci := 1) (f := 0) (N := 14) (C := RX2) (T := TX2) d rfl inX2 (by decide) q315, fun d => ok_iconst d (by decide), fun d => ok_iak (ok_iaload d) (by decide), fun d => ok_icmpge d (by decide), fun d => ok_aload_n d rfl, fun d => ok_aload_n d rfl, fun d => ok_getfield (ci := 1) (f := 9) (N := 14) (C := RX2) (T := TX2) d rfl inX2 (by decide) q337, fun d => ok_iload_n d rfl, fun d => ok_iaload d, fun d => ok_iconst d (by decide), fun d => ok_cvi (ok_callV (M' := MX2_tryPlace) (ci := 1) (C := RX2) (T := TX2) (N := 14) d (tX2_tryPlace l D τ ad) rfl q453 q455 q1 q142 q456 (by decide +kernel) (by decide)), fun d => ok_ifeq d (by decide), fun d => ok_aload d, fun d => ok_aload_n d rfl, fun d => ok_getfield (ci := 1) (f := 9) (N := 14) (C := RX2) (T := TX2) d rfl inX2 (by decide) q337, fun d => ok_iload_n d rfl, fun d => ok_iaload d, fun d => ok_dup2 d, fun d => ok_iaload d, fun d => ok_iconst d (by decide), fun d => ok_iadd d, fun d => ok_iastore d, fun d => ok_aload_n d rfl, fun d => ok_getfield (ci := 1) (f := 1) (N := 14) (C := RX2) (T := TX2) d rfl inX2 (by decide) q318, fun d => ok_bipush d (by decide), fun d => ok_dup2 d, fun d => ok_iak (ok_iaload d) (by decide), fun d => ok_iconst d (by decide), fun d => ok_iadd d, fun d => ok_isk (ok_iastore d) (by decide), fun d => ok_iinc d (by decide), fun d => ok_kll (ok_goto d (by decide)), fun d => ok_vreturn d rfl, trivial⟩
theorem tX2_goOn (l : Launch) (D : va_G) (τ : ClassId × ClassId × ClassId × ClassId) (ad : Nat → Nat) : ∀ as μ r, mX2_goOn as μ = some r → gMt (D, τ, LB, ad) l yX2_goOn MX2_goOn as μ r := fun _ _ _ h => gMt_of (plainFor_of_name (by decide +kernel)) rfl dcX2_goOn (okX2_goOn l D τ ad) h
/-! GangMatrix$Board.takeOut(I)V (LB) -/
abbrev MX2_takeOut : gMi := (cX2_takeOut, 3, RX2, none, 3)
noncomputable def PX2_takeOut : gP := [(0, .aload_n 0, 1, i_ald 1 0), (1, .getfield 21, 3, i_gfd LB 1 2), (4, .getfield 130, 3, i_gfd LB 2 0), (7, .bipush 7, 2, i_psh 2 (.int 7)), (9, .aaload, 1, i_aak LB 7 7 12), (10, .iload_n 1, 1, i_ild 1 1), (11, .iaload, 1, i_iad LB), (12, .istore_n 2, 1, i_ist 1 2), (13, .aload_n 0, 1, i_ald 1 0), (14, .getfield 35, 3, i_gfd LB 1 4), (17, .iload_n 2, 1, i_ild 1 2), (18, .invokevirtual 234, 3, i_cvi LB 1 4 mX7_has), (21, .ifCond .eq 25, 3, i_feq 46), (24, .aload_n 0, 1, i_ald 1 0), (25, .getfield 35, 3, i_gfd LB 1 4), (28, .getfield 111, 3, i_gfd LB 4 2), (31, .iload_n 2, 1, i_ild 1 2), (32, .dup2, 1, i_du2), (33, .iaload, 1, i_iad LB), (34, .aload_n 0, 1, i_ald 1 0), (35, .getfield 21, 3, i_gfd LB 1 2), (38, .iload_n 1, 1, i_ild 1 1), (39, .invokevirtual 237, 3, i_cvi LB 1 2 mX4_block), (42, .iconst (-1), 1, i_psh 1 (.int (-1))), (43, .ixor, 1, i_bin (fun x y => (x ^^^ y))), (44, .iand, 1, i_bin (fun x y => (x &&& y))), (45, .iastore, 1, i_ias LB), (46, .aload_n 0, 1, i_ald 1 0), (47, .getfield 21, 3, i_gfd LB 1 2), (50, .getfield 130, 3, i_gfd LB 2 0), (53, .bipush 7, 2, i_psh 2 (.int 7)), (55, .aaload, 1, i_aak LB 7 7 12), (56, .iload_n 1, 1, i_ild 1 1), (57, .iconst (-1), 1, i_psh 1 (.int (-1))), (58, .iastore, 1, i_ias LB), (59, .aload_n 0, 1, i_ald 1 0), (60, .getfield 21, 3, i_gfd LB 1 2), (63, .getfield 130, 3, i_gfd LB 2 0), (66, .bipush 8, 2, i_psh 2 (.int 8)), (68, .aaload, 1, i_aak LB 8 8 13), (69, .iload_n 1, 1, i_ild 1 1), (70, .iconst (-1), 1, i_psh 1 (.int (-1))), (71, .iastore, 1, i_ias LB), (72, .return_, 1, i_vrt)]
noncomputable def mX2_takeOut : gF := g_m PX2_takeOut 3
set_option maxRecDepth 20000 in
theorem dtX2_takeOut : gDts PX2_takeOut := ⟨dt_ald, dt_gfd, dt_gfd, dt_psh, dt_aak, dt_ild, dt_iad, dt_ist, dt_ald, dt_gfd, dt_ild, dt_cvi, dt_feq, dt_ald, dt_gfd, dt_gfd, dt_ild, dt_du2, dt_iad, dt_ald, dt_gfd, dt_ild, dt_cvi, dt_psh, dt_bin, dt_bin, dt_ias, dt_ald, dt_gfd, dt_gfd, dt_psh, dt_aak, dt_ild, dt_psh, dt_ias, dt_ald, dt_gfd, dt_gfd, dt_psh, dt_aak, dt_ild, dt_psh, dt_ias, dt_vrt, trivial⟩
set_option maxRecDepth 20000 in
theorem dcX2_takeOut : gDec MX2_takeOut PX2_takeOut := by unfold gDec PX2_takeOut; decide +kernel
set_option maxRecDepth 20000 in
theorem okX2_takeOut (l : Launch) (D : va_G) (τ : ClassId × ClassId × ClassId × ClassId) (ad : Nat → Nat) : gOks (D, τ, LB, ad) l MX2_takeOut PX2_takeOut := ⟨fun d => ok_aload_n d rfl, fun d => ok_getfield (ci := 1) (f := 2) (N := 14) (C := RX2) (T := TX2) d rfl inX2 (by decide) q322, fun d => ok_getfield (ci := 2) (f := 0) (N := 4) (C := RX4) (T := TX4) d rfl inX4 (by decide) q180, fun d => ok_bipush d (by decide), fun d => ok_aak (ok_aaload d) (by decide), fun d => ok_iload_n d rfl, fun d => ok_iaload d, fun d => ok_istore_n d rfl, fun d => ok_aload_n d rfl, fun d => ok_getfield (ci := 1) (f := 4) (N := 14) (C := RX2) (T := TX2) d rfl inX2 (by decide) q327, fun d => ok_iload_n d rfl, fun d => ok_cvi (ok_callV (M' := MX7_has) (ci := 4) (C := RX7) (T := TX7) (N := 4) d (tX7_has l D τ ad) rfl q545 q546 q547 q145 q548 (by decide +kernel) (by decide)), fun d => ok_ifeq d (by decide), fun d => ok_aload_n d rfl, fun d => ok_getfield (ci := 1) (f := 4) (N := 14) (C := RX2) (T := TX2) d rfl inX2 (by decide) q327, fun d => ok_getfield (ci := 4) (f := 2) (N := 4) (C := RX7) (T := TX7) d rfl inX7 (by decide) q237, fun d => ok_iload_n d rfl, fun d => ok_dup2 d, fun d => ok_iaload d, fun d => ok_aload_n d rfl, fun d => ok_getfield (ci := 1) (f := 2) (N := 14) (C := RX2) (T := TX2) d rfl inX2 (by decide) q322, fun d => ok_iload_n d rfl, fun d => ok_cvi (ok_callV (M' := MX4_block) (ci := 2) (C := RX4) (T := TX4) (N := 4) d (tX4_block l D τ ad) rfl q549 q550 q551 q143 q552 (by decide +kernel) (by decide)), fun d => ok_iconst d (by decide), fun d => ok_ixor d, fun d => ok_iand d, fun d => ok_iastore d, fun d => ok_aload_n d rfl, fun d => ok_getfield (ci := 1) (f := 2) (N := 14) (C := RX2) (T := TX2) d rfl inX2 (by decide) q322, fun d => ok_getfield (ci := 2) (f := 0) (N := 4) (C := RX4) (T := TX4) d rfl inX4 (by decide) q180, fun d => ok_bipush d (by decide), fun d => ok_aak (ok_aaload d) (by decide), fun d => ok_iload_n d rfl, fun d => ok_iconst d (by decide), fun d => ok_iastore d, fun d => ok_aload_n d rfl, fun d => ok_getfield (ci := 1) (f := 2) (N := 14) (C := RX2) (T := TX2) d rfl inX2 (by decide) q322, fun d => ok_getfield (ci := 2) (f := 0) (N := 4) (C := RX4) (T := TX4) d rfl inX4 (by decide) q180, fun d => ok_bipush d (by decide), fun d => ok_aak (ok_aaload d) (by decide), fun d => ok_iload_n d rfl, fun d => ok_iconst d (by decide), fun d => ok_iastore d, fun d => ok_vreturn d rfl, trivial⟩
theorem tX2_takeOut (l : Launch) (D : va_G) (τ : ClassId × ClassId × ClassId × ClassId) (ad : Nat → Nat) : ∀ as μ r, mX2_takeOut as μ = some r → gMt (D, τ, LB, ad) l yX2_takeOut MX2_takeOut as μ r := fun _ _ _ h => gMt_of (plainFor_of_name (by decide +kernel)) rfl dcX2_takeOut (okX2_takeOut l D τ ad) h
/-! GangMatrix$Slots.drop(I)V (LB) -/
abbrev MX7_drop : gMi := (cX7_drop, 3, RX7, none, 1)
noncomputable def PX7_drop : gP := [(0, .iload_n 1, 1, i_ild 1 1), (1, .iconst 1, 1, i_psh 1 (.int 1)), (2, .iadd, 1, i_bin (fun x y => (x + y))), (3, .istore_n 2, 1, i_kll [1] (i_ist 1 2)), (4, .iload_n 2, 1, i_ild 1 2), (5, .aload_n 0, 1, i_ald 1 0), (6, .getfield 22, 3, i_gfd LB 4 3), (9, .if_icmp .ge 51, 3, i_cge 60), (12, .aload_n 0, 1, i_ald 1 0), (13, .getfield 11, 3, i_gfd LB 4 0), (16, .iload_n 2, 1, i_ild 1 2), (17, .iconst 1, 1, i_psh 1 (.int 1)), (18, .isub, 1, i_bin (fun x y => (x - y))), (19, .aload_n 0, 1, i_ald 1 0), (20, .getfield 11, 3, i_gfd LB 4 0), (23, .iload_n 2, 1, i_ild 1 2), (24, .laload, 1, i_lad LB), (25, .lastore, 1, i_las LB), (26, .aload_n 0, 1, i_ald 1 0), (27, .getfield 15, 3, i_gfd LB 4 1), (30, .iload_n 2, 1, i_ild 1 2), (31, .iconst 1, 1, i_psh 1 (.int 1)), (32, .isub, 1, i_bin (fun x y => (x - y))), (33, .aload_n 0, 1, i_ald 1 0), (34, .getfield 15, 3, i_gfd LB 4 1), (37, .iload_n 2, 1, i_ild 1 2), (38, .iaload, 1, i_iad LB), (39, .iastore, 1, i_ias LB), (40, .aload_n 0, 1, i_ald 1 0), (41, .getfield 19, 3, i_gfd LB 4 2), (44, .iload_n 2, 1, i_ild 1 2), (45, .iconst 1, 1, i_psh 1 (.int 1)), (46, .isub, 1, i_bin (fun x y => (x - y))), (47, .aload_n 0, 1, i_ald 1 0), (48, .getfield 19, 3, i_gfd LB 4 2), (51, .iload_n 2, 1, i_ild 1 2), (52, .iaload, 1, i_iad LB), (53, .iastore, 1, i_ias LB), (54, .iinc 2 1, 3, i_inc 2 1), (57, .goto (-53), 3, i_kll [1] (i_gto 4)), (60, .aload_n 0, 1, i_ald 1 0), (61, .dup, 1, i_dup), (62, .getfield 22, 3, i_gfd LB 4 3), (65, .iconst 1, 1, i_psh 1 (.int 1)), (66, .isub, 1, i_bin (fun x y => (x - y))), (67, .putfield 22, 3, i_pfd LB 4 3), (70, .return_, 1, i_vrt)]
noncomputable def mX7_drop : gF := g_m PX7_drop 3
set_option maxRecDepth 20000 in
theorem dtX7_drop : gDts PX7_drop := ⟨dt_ild, dt_psh, dt_bin, dt_kll dt_ist, dt_ild, dt_ald, dt_gfd, dt_cge, dt_ald, dt_gfd, dt_ild, dt_psh, dt_bin, dt_ald, dt_gfd, dt_ild, dt_lad, dt_las, dt_ald, dt_gfd, dt_ild, dt_psh, dt_bin, dt_ald, dt_gfd, dt_ild, dt_iad, dt_ias, dt_ald, dt_gfd, dt_ild, dt_psh, dt_bin, dt_ald, dt_gfd, dt_ild, dt_iad, dt_ias, dt_inc, dt_kll dt_gto, dt_ald, dt_dup, dt_gfd, dt_psh, dt_bin, dt_pfd, dt_vrt, trivial⟩
set_option maxRecDepth 20000 in
theorem dcX7_drop : gDec MX7_drop PX7_drop := by unfold gDec PX7_drop; decide +kernel
set_option maxRecDepth 20000 in
theorem okX7_drop (l : Launch) (D : va_G) (τ : ClassId × ClassId × ClassId × ClassId) (ad : Nat → Nat) : gOks (D, τ, LB, ad) l MX7_drop PX7_drop := ⟨fun d => ok_iload_n d rfl, fun d => ok_iconst d (by decide), fun d => ok_iadd d, fun d => ok_kll (ok_istore_n d rfl), fun d => ok_iload_n d rfl, fun d => ok_aload_n d rfl, fun d => ok_getfield (ci := 4) (f := 3) (N := 4) (C := RX7) (T := TX7) d rfl inX7 (by decide) q240, fun d => ok_icmpge d (by decide), fun d => ok_aload_n d rfl, fun d => ok_getfield (ci := 4) (f := 0) (N := 4) (C := RX7) (T := TX7) d rfl inX7 (by decide) q230, fun d => ok_iload_n d rfl, fun d => ok_iconst d (by decide), fun d => ok_isub d, fun d => ok_aload_n d rfl, fun d => ok_getfield (ci := 4) (f := 0) (N := 4) (C := RX7) (T := TX7) d rfl inX7 (by decide) q230, fun d => ok_iload_n d rfl, fun d => ok_laload d, fun d => ok_lastore d, fun d => ok_aload_n d rfl, fun d => ok_getfield (ci := 4) (f := 1) (N := 4) (C := RX7) (T := TX7) d rfl inX7 (by decide) q233, fun d => ok_iload_n d rfl, fun d => ok_iconst d (by decide), fun d => ok_isub d, fun d => ok_aload_n d rfl, fun d => ok_getfield (ci := 4) (f := 1) (N := 4) (C := RX7) (T := TX7) d rfl inX7 (by decide) q233, fun d => ok_iload_n d rfl, fun d => ok_iaload d, fun d => ok_iastore d, fun d => ok_aload_n d rfl, fun d => ok_getfield (ci := 4) (f := 2) (N := 4) (C := RX7) (T := TX7) d rfl inX7 (by decide) q236, fun d => ok_iload_n d rfl, fun d => ok_iconst d (by decide), fun d => ok_isub d, fun d => ok_aload_n d rfl, fun d => ok_getfield (ci := 4) (f := 2) (N := 4) (C := RX7) (T := TX7) d rfl inX7 (by decide) q236, fun d => ok_iload_n d rfl, fun d => ok_iaload d, fun d => ok_iastore d, fun d => ok_iinc d (by decide), fun d => ok_kll (ok_goto d (by decide)), fun d => ok_aload_n d rfl, fun d => ok_dup d, fun d => ok_getfield (ci := 4) (f := 3) (N := 4) (C := RX7) (T := TX7) d rfl inX7 (by decide) q240, fun d => ok_iconst d (by decide), fun d => ok_isub d, fun d => ok_putfield (ci := 4) (f := 3) (N := 4) (C := RX7) (T := TX7) d rfl inX7 tyX7_ok nmX7 (by decide) q240 rfl (by decide), fun d => ok_vreturn d rfl, trivial⟩
theorem tX7_drop (l : Launch) (D : va_G) (τ : ClassId × ClassId × ClassId × ClassId) (ad : Nat → Nat) : ∀ as μ r, mX7_drop as μ = some r → gMt (D, τ, LB, ad) l yX7_drop MX7_drop as μ r := fun _ _ _ h => gMt_of (plainFor_of_name (by decide +kernel)) rfl dcX7_drop (okX7_drop l D τ ad) h
/-! GangMatrix$Board.dropSlot(I)V (LB) -/
abbrev MX2_dropSlot : gMi := (cX2_dropSlot, 4, RX2, none, 2)
noncomputable def PX2_dropSlot : gP := [(0, .aload_n 0, 1, i_ald 1 0), (1, .getfield 35, 3, i_gfd LB 1 4), (4, .iload_n 1, 1, i_ild 1 1), (5, .invokevirtual 243, 3, i_cvv LB 1 4 mX7_drop), (8, .aload_n 0, 1, i_ald 1 0), (9, .getfield 21, 3, i_gfd LB 1 2), (12, .getfield 130, 3, i_gfd LB 2 0), (15, .bipush 7, 2, i_psh 2 (.int 7)), (17, .aaload, 1, i_aak LB 7 7 12), (18, .astore_n 2, 1, i_ast 1 2), (19, .iconst 0, 1, i_psh 1 (.int 0)), (20, .istore_n 3, 1, i_ist 1 3), (21, .iload_n 3, 1, i_ild 1 3), (22, .aload_n 0, 1, i_ald 1 0), (23, .getfield 21, 3, i_gfd LB 1 2), (26, .getfield 124, 3, i_gfd LB 2 2), (29, .if_icmp .ge 23, 3, i_cge 52), (32, .aload_n 2, 1, i_ald 1 2), (33, .iload_n 3, 1, i_ild 1 3), (34, .iaload, 1, i_iad LB), (35, .iload_n 1, 1, i_ild 1 1), (36, .if_icmp .le 10, 3, i_cle 46), (39, .aload_n 2, 1, i_ald 1 2), (40, .iload_n 3, 1, i_ild 1 3), (41, .dup2, 1, i_du2), (42, .iaload, 1, i_iad LB), (43, .iconst 1, 1, i_psh 1 (.int 1)), (44, .isub, 1, i_bin (fun x y => (x - y))), (45, .iastore, 1, i_ias LB), (46, .iinc 3 1, 3, i_inc 3 1), (49, .goto (-28), 3, i_gto 21), (52, .return_, 1, i_vrt)]
noncomputable def mX2_dropSlot : gF := g_m PX2_dropSlot 4
set_option maxRecDepth 20000 in
theorem dtX2_dropSlot : gDts PX2_dropSlot := ⟨dt_ald, dt_gfd, dt_ild, dt_cvv, dt_ald, dt_gfd, dt_gfd, dt_psh, dt_aak, dt_ast, dt_psh, dt_ist, dt_ild, dt_ald, dt_gfd, dt_gfd, dt_cge, dt_ald, dt_ild, dt_iad, dt_ild, dt_cle, dt_ald, dt_ild, dt_du2, dt_iad, dt_psh, dt_bin, dt_ias, dt_inc, dt_gto, dt_vrt, trivial⟩
set_option maxRecDepth 20000 in
theorem dcX2_dropSlot : gDec MX2_dropSlot PX2_dropSlot := by unfold gDec PX2_dropSlot; decide +kernel
set_option maxRecDepth 20000 in
theorem okX2_dropSlot (l : Launch) (D : va_G) (τ : ClassId × ClassId × ClassId × ClassId) (ad : Nat → Nat) : gOks (D, τ, LB, ad) l MX2_dropSlot PX2_dropSlot := ⟨fun d => ok_aload_n d rfl, fun d => ok_getfield (ci := 1) (f := 4) (N := 14) (C := RX2) (T := TX2) d rfl inX2 (by decide) q327, fun d => ok_iload_n d rfl, fun d => ok_cvv (ok_callV (M' := MX7_drop) (ci := 4) (C := RX7) (T := TX7) (N := 4) d (tX7_drop l D τ ad) rfl q641 q642 q643 q145 q644 (by decide +kernel) (by decide)), fun d => ok_aload_n d rfl, fun d => ok_getfield (ci := 1) (f := 2) (N := 14) (C := RX2) (T := TX2) d rfl inX2 (by decide) q322, fun d => ok_getfield (ci := 2) (f := 0) (N := 4) (C := RX4) (T := TX4) d rfl inX4 (by decide) q180, fun d => ok_bipush d (by decide), fun d => ok_aak (ok_aaload d) (by decide), fun d => ok_astore_n d rfl, fun d => ok_iconst d (by decide), fun d => ok_istore_n d rfl, fun d => ok_iload_n d rfl, fun d => ok_aload_n d rfl, fun d => ok_getfield (ci := 1) (f := 2) (N := 14) (C := RX2) (T := TX2) d rfl inX2 (by decide) q322, fun d => ok_getfield (ci := 2) (f := 2) (N := 4) (C := RX4) (T := TX4) d rfl inX4 (by decide) q186, fun d => ok_icmpge d (by decide), fun d => ok_aload_n d rfl, fun d => ok_iload_n d rfl, fun d => ok_iaload d, fun d => ok_iload_n d rfl, fun d => ok_icmple d (by decide), fun d => ok_aload_n d rfl, fun d => ok_iload_n d rfl, fun d => ok_dup2 d, fun d => ok_iaload d, fun d => ok_iconst d (by decide), fun d => ok_isub d, fun d => ok_iastore d, fun d => ok_iinc d (by decide), fun d => ok_goto d (by decide), fun d => ok_vreturn d rfl, trivial⟩
theorem tX2_dropSlot (l : Launch) (D : va_G) (τ : ClassId × ClassId × ClassId × ClassId) (ad : Nat → Nat) : ∀ as μ r, mX2_dropSlot as μ = some r → gMt (D, τ, LB, ad) l yX2_dropSlot MX2_dropSlot as μ r := fun _ _ _ h => gMt_of (plainFor_of_name (by decide +kernel)) rfl dcX2_dropSlot (okX2_dropSlot l D τ ad) h
/-! GangMatrix$Board.dropEmpty()V (LB) -/
abbrev MX2_dropEmpty : gMi := (cX2_dropEmpty, 2, RX2, none, 3)
noncomputable def PX2_dropEmpty : gP := [(0, .aload_n 0, 1, i_ald 1 0), (1, .getfield 35, 3, i_gfd LB 1 4), (4, .getfield 160, 3, i_gfd LB 4 3), (7, .iconst 1, 1, i_psh 1 (.int 1)), (8, .isub, 1, i_bin (fun x y => (x - y))), (9, .istore_n 1, 1, i_ist 1 1), (10, .iload_n 1, 1, i_ild 1 1), (11, .ifCond .lt 26, 3, i_flt 37), (14, .aload_n 0, 1, i_ald 1 0), (15, .getfield 35, 3, i_gfd LB 1 4), (18, .getfield 111, 3, i_gfd LB 4 2), (21, .iload_n 1, 1, i_ild 1 1), (22, .iaload, 1, i_iad LB), (23, .ifCond .ne 8, 3, i_fne 31), (26, .aload_n 0, 1, i_ald 1 0), (27, .iload_n 1, 1, i_ild 1 1), (28, .invokevirtual 240, 3, i_cvv LB 1 1 mX2_dropSlot), (31, .iinc 1 (-1), 3, i_inc 1 (-1)), (34, .goto (-24), 3, i_gto 10), (37, .return_, 1, i_vrt)]
noncomputable def mX2_dropEmpty : gF := g_m PX2_dropEmpty 2
set_option maxRecDepth 20000 in
theorem dtX2_dropEmpty : gDts PX2_dropEmpty := ⟨dt_ald, dt_gfd, dt_gfd, dt_psh, dt_bin, dt_ist, dt_ild, dt_flt, dt_ald, dt_gfd, dt_gfd, dt_ild, dt_iad, dt_fne, dt_ald, dt_ild, dt_cvv, dt_inc, dt_gto, dt_vrt, trivial⟩
set_option maxRecDepth 20000 in
theorem dcX2_dropEmpty : gDec MX2_dropEmpty PX2_dropEmpty := by unfold gDec PX2_dropEmpty; decide +kernel
set_option maxRecDepth 20000 in
theorem okX2_dropEmpty (l : Launch) (D : va_G) (τ : ClassId × ClassId × ClassId × ClassId) (ad : Nat → Nat) : gOks (D, τ, LB, ad) l MX2_dropEmpty PX2_dropEmpty := ⟨fun d => ok_aload_n d rfl, fun d => ok_getfield (ci := 1) (f := 4) (N := 14) (C := RX2) (T := TX2) d rfl inX2 (by decide) q327, fun d => ok_getfield (ci := 4) (f := 3) (N := 4) (C := RX7) (T := TX7) d rfl inX7 (by decide) q243, fun d => ok_iconst d (by decide), fun d => ok_isub d, fun d => ok_istore_n d rfl, fun d => ok_iload_n d rfl, fun d => ok_iflt d (by decide), fun d => ok_aload_n d rfl, fun d => ok_getfield (ci := 1) (f := 4) (N := 14) (C := RX2) (T := TX2) d rfl inX2 (by decide) q327, fun d => ok_getfield (ci := 4) (f := 2) (N := 4) (C := RX7) (T := TX7) d rfl inX7 (by decide) q237, fun d => ok_iload_n d rfl, fun d => ok_iaload d, fun d => ok_ifne d (by decide), fun d => ok_aload_n d rfl, fun d => ok_iload_n d rfl, fun d => ok_cvv (ok_callV (M' := MX2_dropSlot) (ci := 1) (C := RX2) (T := TX2) (N := 14) d (tX2_dropSlot l D τ ad) rfl q637 q639 q7 q142 q640 (by decide +kernel) (by decide)), fun d => ok_iinc d (by decide), fun d => ok_goto d (by decide), fun d => ok_vreturn d rfl, trivial⟩
theorem tX2_dropEmpty (l : Launch) (D : va_G) (τ : ClassId × ClassId × ClassId × ClassId) (ad : Nat → Nat) : ∀ as μ r, mX2_dropEmpty as μ = some r → gMt (D, τ, LB, ad) l yX2_dropEmpty MX2_dropEmpty as μ r := fun _ _ _ h => gMt_of (plainFor_of_name (by decide +kernel)) rfl dcX2_dropEmpty (okX2_dropEmpty l D τ ad) h
/-! GangMatrix$Board.weightOf(I)I (LB) -/
abbrev MX2_weightOf : gMi := (cX2_weightOf, 4, RX2, some .int, 1)
noncomputable def PX2_weightOf : gP := [(0, .iconst 0, 1, i_psh 1 (.int 0)), (1, .istore_n 2, 1, i_ist 1 2), (2, .iconst 0, 1, i_psh 1 (.int 0)), (3, .istore_n 3, 1, i_ist 1 3), (4, .iload_n 3, 1, i_ild 1 3), (5, .aload_n 0, 1, i_ald 1 0), (6, .getfield 21, 3, i_gfd LB 1 2), (9, .getfield 124, 3, i_gfd LB 2 2), (12, .if_icmp .ge 47, 3, i_cge 59), (15, .aload_n 0, 1, i_ald 1 0), (16, .getfield 21, 3, i_gfd LB 1 2), (19, .getfield 130, 3, i_gfd LB 2 0), (22, .bipush 7, 2, i_psh 2 (.int 7)), (24, .aaload, 1, i_aak LB 7 7 12), (25, .iload_n 3, 1, i_ild 1 3), (26, .iaload, 1, i_iad LB), (27, .iload_n 1, 1, i_ild 1 1), (28, .if_icmp .ne 25, 3, i_cne 53), (31, .iload_n 2, 1, i_ild 1 2), (32, .aload_n 0, 1, i_ald 1 0), (33, .getfield 28, 3, i_gfd LB 1 3), (36, .getfield 246, 3, i_gfd LB 3 0), (39, .aload_n 0, 1, i_ald 1 0), (40, .getfield 21, 3, i_gfd LB 1 2), (43, .getfield 130, 3, i_gfd LB 2 0), (46, .iconst 2, 1, i_psh 1 (.int 2)), (47, .aaload, 1, i_aak LB 2 2 7), (48, .iload_n 3, 1, i_ild 1 3), (49, .iaload, 1, i_iad LB), (50, .iaload, 1, i_iad LB), (51, .iadd, 1, i_bin (fun x y => (x + y))), (52, .istore_n 2, 1, i_ist 1 2), (53, .iinc 3 1, 3, i_inc 3 1), (56, .goto (-52), 3, i_gto 4), (59, .iload_n 2, 1, i_ild 1 2), (60, .ireturn, 1, i_irt)]
noncomputable def mX2_weightOf : gF := g_m PX2_weightOf 4
set_option maxRecDepth 20000 in
theorem dtX2_weightOf : gDts PX2_weightOf := ⟨dt_psh, dt_ist, dt_psh, dt_ist, dt_ild, dt_ald, dt_gfd, dt_gfd, dt_cge, dt_ald, dt_gfd, dt_gfd, dt_psh, dt_aak, dt_ild, dt_iad, dt_ild, dt_cne, dt_ild, dt_ald, dt_gfd, dt_gfd, dt_ald, dt_gfd, dt_gfd, dt_psh, dt_aak, dt_ild, dt_iad, dt_iad, dt_bin, dt_ist, dt_inc, dt_gto, dt_ild, dt_irt, trivial⟩
set_option maxRecDepth 20000 in
theorem dcX2_weightOf : gDec MX2_weightOf PX2_weightOf := by unfold gDec PX2_weightOf; decide +kernel
set_option maxRecDepth 20000 in
theorem okX2_weightOf (l : Launch) (D : va_G) (τ : ClassId × ClassId × ClassId × ClassId) (ad : Nat → Nat) : gOks (D, τ, LB, ad) l MX2_weightOf PX2_weightOf := ⟨fun d => ok_iconst d (by decide), fun d => ok_istore_n d rfl, fun d => ok_iconst d (by decide), fun d => ok_istore_n d rfl, fun d => ok_iload_n d rfl, fun d => ok_aload_n d rfl, fun d => ok_getfield (ci := 1) (f := 2) (N := 14) (C := RX2) (T := TX2) d rfl inX2 (by decide) q322, fun d => ok_getfield (ci := 2) (f := 2) (N := 4) (C := RX4) (T := TX4) d rfl inX4 (by decide) q186, fun d => ok_icmpge d (by decide), fun d => ok_aload_n d rfl, fun d => ok_getfield (ci := 1) (f := 2) (N := 14) (C := RX2) (T := TX2) d rfl inX2 (by decide) q322, fun d => ok_getfield (ci := 2) (f := 0) (N := 4) (C := RX4) (T := TX4) d rfl inX4 (by decide) q180, fun d => ok_bipush d (by decide), fun d => ok_aak (ok_aaload d) (by decide), fun d => ok_iload_n d rfl, fun d => ok_iaload d, fun d => ok_iload_n d rfl, fun d => ok_icmpne d (by decide), fun d => ok_iload_n d rfl, fun d => ok_aload_n d rfl, fun d => ok_getfield (ci := 1) (f := 3) (N := 14) (C := RX2) (T := TX2) d rfl inX2 (by decide) q324, fun d => ok_getfield (ci := 3) (f := 0) (N := 3) (C := RX8) (T := TX8) d rfl inX8 (by decide) q209, fun d => ok_aload_n d rfl, fun d => ok_getfield (ci := 1) (f := 2) (N := 14) (C := RX2) (T := TX2) d rfl inX2 (by decide) q322, fun d => ok_getfield (ci := 2) (f := 0) (N := 4) (C := RX4) (T := TX4) d rfl inX4 (by decide) q180, fun d => ok_iconst d (by decide), fun d => ok_aak (ok_aaload d) (by decide), fun d => ok_iload_n d rfl, fun d => ok_iaload d, fun d => ok_iaload d, fun d => ok_iadd d, fun d => ok_istore_n d rfl, fun d => ok_iinc d (by decide), fun d => ok_goto d (by decide), fun d => ok_iload_n d rfl, fun d => ok_ireturn d rfl, trivial⟩
theorem tX2_weightOf (l : Launch) (D : va_G) (τ : ClassId × ClassId × ClassId × ClassId) (ad : Nat → Nat) : ∀ as μ r, mX2_weightOf as μ = some r → gMt (D, τ, LB, ad) l yX2_weightOf MX2_weightOf as μ r := fun _ _ _ h => gMt_of (plainFor_of_name (by decide +kernel)) rfl dcX2_weightOf (okX2_weightOf l D τ ad) h
/-! GangMatrix$Board.bringArrivals()V (LB) -/
abbrev MX2_bringArrivals : gMi := (cX2_bringArrivals, 2, RX2, none, 5)
noncomputable def PX2_bringArrivals : gP := [(0, .iconst 0, 1, i_psh 1 (.int 0)), (1, .istore_n 1, 1, i_ist 1 1), (2, .iload_n 1, 1, i_ild 1 1), (3, .aload_n 0, 1, i_ald 1 0), (4, .getfield 42, 3, i_gfd LB 1 5), (7, .getfield 127, 3, i_gfd LB 5 1), (10, .if_icmp .ge 66, 3, i_cge 76), (13, .aload_n 0, 1, i_ald 1 0), (14, .getfield 42, 3, i_gfd LB 1 5), (17, .iload_n 1, 1, i_ild 1 1), (18, .aload_n 0, 1, i_ald 1 0), (19, .getfield 96, 3, i_gfd LB 1 12), (22, .invokevirtual 290, 3, i_cvi LB 2 5 mX0_isDue), (25, .ifCond .eq 45, 3, i_feq 70), (28, .aload_n 0, 1, i_ald 1 0), (29, .getfield 21, 3, i_gfd LB 1 2), (32, .getfield 124, 3, i_gfd LB 2 2), (35, .bipush 60, 2, i_psh 2 (.int 60)), (37, .if_icmp .ge 33, 3, i_cge 70), (40, .aload_n 0, 1, i_ald 1 0), (41, .aload_n 0, 1, i_ald 1 0), (42, .getfield 42, 3, i_gfd LB 1 5), (45, .iload_n 1, 1, i_ild 1 1), (46, .invokevirtual 293, 3, i_cvi LB 1 5 mX0_size), (49, .aload_n 0, 1, i_ald 1 0), (50, .getfield 42, 3, i_gfd LB 1 5), (53, .iload_n 1, 1, i_ild 1 1), (54, .invokevirtual 296, 3, i_cvi LB 1 5 mX0_work), (57, .aload_n 0, 1, i_ald 1 0), (58, .getfield 42, 3, i_gfd LB 1 5), (61, .iload_n 1, 1, i_ild 1 1), (62, .invokevirtual 299, 3, i_cvi LB 1 5 mX0_who), (65, .iconst (-1), 1, i_psh 1 (.int (-1))), (66, .invokevirtual 302, 3, i_cvi LB 4 1 mX2_come), (69, .pop, 1, i_pop), (70, .iinc 1 1, 3, i_inc 1 1), (73, .goto (-71), 3, i_gto 2), (76, .aload_n 0, 1, i_ald 1 0), (77, .getfield 42, 3, i_gfd LB 1 5), (80, .aload_n 0, 1, i_ald 1 0), (81, .getfield 96, 3, i_gfd LB 1 12), (84, .invokevirtual 306, 3, i_cvv LB 1 5 mX0_dropDue), (87, .return_, 1, i_vrt)]
noncomputable def mX2_bringArrivals : gF := g_m PX2_bringArrivals 2
set_option maxRecDepth 20000 in
theorem dtX2_bringArrivals : gDts PX2_bringArrivals := ⟨dt_psh, dt_ist, dt_ild, dt_ald, dt_gfd, dt_gfd, dt_cge, dt_ald, dt_gfd, dt_ild, dt_ald, dt_gfd, dt_cvi, dt_feq, dt_ald, dt_gfd, dt_gfd, dt_psh, dt_cge, dt_ald, dt_ald, dt_gfd, dt_ild, dt_cvi, dt_ald, dt_gfd, dt_ild, dt_cvi, dt_ald, dt_gfd, dt_ild, dt_cvi, dt_psh, dt_cvi, dt_pop, dt_inc, dt_gto, dt_ald, dt_gfd, dt_ald, dt_gfd, dt_cvv, dt_vrt, trivial⟩
set_option maxRecDepth 20000 in
theorem dcX2_bringArrivals : gDec MX2_bringArrivals PX2_bringArrivals := by unfold gDec PX2_bringArrivals; decide +kernel
set_option maxRecDepth 20000 in
theorem okX2_bringArrivals (l : Launch) (D : va_G) (τ : ClassId × ClassId × ClassId × ClassId) (ad : Nat → Nat) : gOks (D, τ, LB, ad) l MX2_bringArrivals PX2_bringArrivals := ⟨fun d => ok_iconst d (by decide), fun d => ok_istore_n d rfl, fun d => ok_iload_n d rfl, fun d => ok_aload_n d rfl, fun d => ok_getfield (ci := 1) (f := 5) (N := 14) (C := RX2) (T := TX2) d rfl inX2 (by decide) q329, fun d => ok_getfield (ci := 5) (f := 1) (N := 2) (C := RX0) (T := TX0) d rfl inX0 (by decide) q264, fun d => ok_icmpge d (by decide), fun d => ok_aload_n d rfl, fun d => ok_getfield (ci := 1) (f := 5) (N := 14) (C := RX2) (T := TX2) d rfl inX2 (by decide) q329, fun d => ok_iload_n d rfl, fun d => ok_aload_n d rfl, fun d => ok_getfield (ci := 1) (f := 12) (N := 14) (C := RX2) (T := TX2) d rfl inX2 (by decide) q341, fun d => ok_cvi (ok_callV (M' := MX0_isDue) (ci := 5) (C := RX0) (T := TX0) (N := 2) d (tX0_isDue l D τ ad) rfl q661 q662 q663 q146 q664 (by decide +kernel) (by decide)), fun d => ok_ifeq d (by decide), fun d => ok_aload_n d rfl, fun d => ok_getfield (ci := 1) (f := 2) (N := 14) (C := RX2) (T := TX2) d rfl inX2 (by decide) q322, fun d => ok_getfield (ci := 2) (f := 2) (N := 4) (C := RX4) (T := TX4) d rfl inX4 (by decide) q186, fun d => ok_bipush d (by decide), fun d => ok_icmpge d (by decide), fun d => ok_aload_n d rfl, fun d => ok_aload_n d rfl, fun d => ok_getfield (ci := 1) (f := 5) (N := 14) (C := RX2) (T := TX2) d rfl inX2 (by decide) q329, fun d => ok_iload_n d rfl, fun d => ok_cvi (ok_callV (M' := MX0_size) (ci := 5) (C := RX0) (T := TX0) (N := 2) d (tX0_size l D τ ad) rfl q665 q666 q667 q146 q668 (by decide +kernel) (by decide)), fun d => ok_aload_n d rfl, fun d => ok_getfield (ci := 1) (f := 5) (N := 14) (C := RX2) (T := TX2) d rfl inX2 (by decide) q329, fun d => ok_iload_n d rfl, fun d => ok_cvi (ok_callV (M' := MX0_work) (ci := 5) (C := RX0) (T := TX0) (N := 2) d (tX0_work l D τ ad) rfl q669 q670 q671 q146 q672 (by decide +kernel) (by decide)), fun d => ok_aload_n d rfl, fun d => ok_getfield (ci := 1) (f := 5) (N := 14) (C := RX2) (T := TX2) d rfl inX2 (by decide) q329, fun d => ok_iload_n d rfl, fun d => ok_cvi (ok_callV (M' := MX0_who) (ci := 5) (C := RX0) (T := TX0) (N := 2) d (tX0_who l D τ ad) rfl q673 q674 q675 q146 q676 (by decide +kernel) (by decide)), fun d => ok_iconst d (by decide), fun d => ok_cvi (ok_callV (M' := MX2_come) (ci := 1) (C := RX2) (T := TX2) (N := 14) d (tX2_come l D τ ad) rfl q677 q590 q591 q142 q592 (by decide +kernel) (by decide)), fun d => ok_pop d, fun d => ok_iinc d (by decide), fun d => ok_goto d (by decide), fun d => ok_aload_n d rfl, fun d => ok_getfield (ci := 1) (f := 5) (N := 14) (C := RX2) (T := TX2) d rfl inX2 (by decide) q329, fun d => ok_aload_n d rfl, fun d => ok_getfield (ci := 1) (f := 12) (N := 14) (C := RX2) (T := TX2) d rfl inX2 (by decide) q341, fun d => ok_cvv (ok_callV (M' := MX0_dropDue) (ci := 5) (C := RX0) (T := TX0) (N := 2) d (tX0_dropDue l D τ ad) rfl q678 q679 q680 q146 q681 (by decide +kernel) (by decide)), fun d => ok_vreturn d rfl, trivial⟩
theorem tX2_bringArrivals (l : Launch) (D : va_G) (τ : ClassId × ClassId × ClassId × ClassId) (ad : Nat → Nat) : ∀ as μ r, mX2_bringArrivals as μ = some r → gMt (D, τ, LB, ad) l yX2_bringArrivals MX2_bringArrivals as μ r := fun _ _ _ h => gMt_of (plainFor_of_name (by decide +kernel)) rfl dcX2_bringArrivals (okX2_bringArrivals l D τ ad) h
/-! GangMatrix$Crew.clear()V (LB) -/
abbrev MX3_clear : gMi := (cX3_clear, 1, RX3, none, 1)
noncomputable def PX3_clear : gP := [(0, .aload_n 0, 1, i_ald 1 0), (1, .iconst 0, 1, i_psh 1 (.int 0)), (2, .putfield 20, 3, i_pfd LB 7 3), (5, .aload_n 0, 1, i_ald 1 0), (6, .iconst 0, 1, i_psh 1 (.int 0)), (7, .putfield 24, 3, i_pfd LB 7 4), (10, .aload_n 0, 1, i_ald 1 0), (11, .iconst 0, 1, i_psh 1 (.int 0)), (12, .putfield 27, 3, i_pfd LB 7 5), (15, .return_, 1, i_vrt)]
noncomputable def mX3_clear : gF := g_m PX3_clear 1
set_option maxRecDepth 20000 in
theorem dtX3_clear : gDts PX3_clear := ⟨dt_ald, dt_psh, dt_pfd, dt_ald, dt_psh, dt_pfd, dt_ald, dt_psh, dt_pfd, dt_vrt, trivial⟩
set_option maxRecDepth 20000 in
theorem dcX3_clear : gDec MX3_clear PX3_clear := by unfold gDec PX3_clear; decide +kernel
set_option maxRecDepth 20000 in
theorem okX3_clear (l : Launch) (D : va_G) (τ : ClassId × ClassId × ClassId × ClassId) (ad : Nat → Nat) : gOks (D, τ, LB, ad) l MX3_clear PX3_clear := ⟨fun d => ok_aload_n d rfl, fun d => ok_iconst d (by decide), fun d => ok_putfield (ci := 7) (f := 3) (N := 6) (C := RX3) (T := TX3) d rfl inX3 tyX3_ok nmX3 (by decide) q295 rfl (by decide), fun d => ok_aload_n d rfl, fun d => ok_iconst d (by decide), fun d => ok_putfield (ci := 7) (f := 4) (N := 6) (C := RX3) (T := TX3) d rfl inX3 tyX3_ok nmX3 (by decide) q297 rfl (by decide), fun d => ok_aload_n d rfl, fun d => ok_iconst d (by decide), fun d => ok_putfield (ci := 7) (f := 5) (N := 6) (C := RX3) (T := TX3) d rfl inX3 tyX3_ok nmX3 (by decide) q300 rfl (by decide), fun d => ok_vreturn d rfl, trivial⟩
theorem tX3_clear (l : Launch) (D : va_G) (τ : ClassId × ClassId × ClassId × ClassId) (ad : Nat → Nat) : ∀ as μ r, mX3_clear as μ = some r → gMt (D, τ, LB, ad) l yX3_clear MX3_clear as μ r := fun _ _ _ h => gMt_of (plainFor_of_name (by decide +kernel)) rfl dcX3_clear (okX3_clear l D τ ad) h
/-! GangMatrix$Slots.next()I (LB) -/
abbrev MX7_next : gMi := (cX7_next, 3, RX7, some .int, 1)
noncomputable def PX7_next : gP := [(0, .iconst (-1), 1, i_psh 1 (.int (-1))), (1, .istore_n 1, 1, i_ist 1 1), (2, .iconst 0, 1, i_psh 1 (.int 0)), (3, .istore_n 2, 1, i_ist 1 2), (4, .iload_n 2, 1, i_ild 1 2), (5, .aload_n 0, 1, i_ald 1 0), (6, .getfield 22, 3, i_gfd LB 4 3), (9, .if_icmp .ge 32, 3, i_cge 41), (12, .iload_n 1, 1, i_ild 1 1), (13, .iconst (-1), 1, i_psh 1 (.int (-1))), (14, .if_icmp .eq 19, 3, i_ceq 33), (17, .aload_n 0, 1, i_ald 1 0), (18, .getfield 11, 3, i_gfd LB 4 0), (21, .iload_n 2, 1, i_ild 1 2), (22, .laload, 1, i_lad LB), (23, .aload_n 0, 1, i_ald 1 0), (24, .getfield 11, 3, i_gfd LB 4 0), (27, .iload_n 1, 1, i_ild 1 1), (28, .laload, 1, i_lad LB), (29, .lcmp, 1, i_lcm), (30, .ifCond .ge 5, 3, i_fge 35), (33, .iload_n 2, 1, i_ild 1 2), (34, .istore_n 1, 1, i_ist 1 1), (35, .iinc 2 1, 3, i_inc 2 1), (38, .goto (-34), 3, i_gto 4), (41, .iload_n 1, 1, i_ild 1 1), (42, .ireturn, 1, i_irt)]
noncomputable def mX7_next : gF := g_m PX7_next 3
set_option maxRecDepth 20000 in
theorem dtX7_next : gDts PX7_next := ⟨dt_psh, dt_ist, dt_psh, dt_ist, dt_ild, dt_ald, dt_gfd, dt_cge, dt_ild, dt_psh, dt_ceq, dt_ald, dt_gfd, dt_ild, dt_lad, dt_ald, dt_gfd, dt_ild, dt_lad, dt_lcm, dt_fge, dt_ild, dt_ist, dt_inc, dt_gto, dt_ild, dt_irt, trivial⟩
set_option maxRecDepth 20000 in
theorem dcX7_next : gDec MX7_next PX7_next := by unfold gDec PX7_next; decide +kernel
set_option maxRecDepth 20000 in
theorem okX7_next (l : Launch) (D : va_G) (τ : ClassId × ClassId × ClassId × ClassId) (ad : Nat → Nat) : gOks (D, τ, LB, ad) l MX7_next PX7_next := ⟨fun d => ok_iconst d (by decide), fun d => ok_istore_n d rfl, fun d => ok_iconst d (by decide), fun d => ok_istore_n d rfl, fun d => ok_iload_n d rfl, fun d => ok_aload_n d rfl, fun d => ok_getfield (ci := 4) (f := 3) (N := 4) (C := RX7) (T := TX7) d rfl inX7 (by decide) q240, fun d => ok_icmpge d (by decide), fun d => ok_iload_n d rfl, fun d => ok_iconst d (by decide), fun d => ok_icmpeq d (by decide), fun d => ok_aload_n d rfl, fun d => ok_getfield (ci := 4) (f := 0) (N := 4) (C := RX7) (T := TX7) d rfl inX7 (by decide) q230, fun d => ok_iload_n d rfl, fun d => ok_laload d, fun d => ok_aload_n d rfl, fun d => ok_getfield (ci := 4) (f := 0) (N := 4) (C := RX7) (T := TX7) d rfl inX7 (by decide) q230, fun d => ok_iload_n d rfl, fun d => ok_laload d, fun d => ok_lcmp d, fun d => ok_ifge d (by decide), fun d => ok_iload_n d rfl, fun d => ok_istore_n d rfl, fun d => ok_iinc d (by decide), fun d => ok_goto d (by decide), fun d => ok_iload_n d rfl, fun d => ok_ireturn d rfl, trivial⟩
theorem tX7_next (l : Launch) (D : va_G) (τ : ClassId × ClassId × ClassId × ClassId) (ad : Nat → Nat) : ∀ as μ r, mX7_next as μ = some r → gMt (D, τ, LB, ad) l yX7_next MX7_next as μ r := fun _ _ _ h => gMt_of (plainFor_of_name (by decide +kernel)) rfl dcX7_next (okX7_next l D τ ad) h
/-! GangMatrix$Jobs.has(I)Z (LB) -/
abbrev MX4_has : gMi := (cX4_has, 2, RX4, some .boolean, 1)
noncomputable def PX4_has : gP := [(0, .iload_n 1, 1, i_ild 1 1), (1, .ifCond .lt 15, 3, i_flt 16), (4, .iload_n 1, 1, i_ild 1 1), (5, .aload_n 0, 1, i_ald 1 0), (6, .getfield 20, 3, i_gfd LB 2 2), (9, .if_icmp .ge 7, 3, i_cge 16), (12, .iconst 1, 1, i_psh 1 (.int 1)), (13, .goto 4, 3, i_gto 17), (16, .iconst 0, 1, i_psh 1 (.int 0)), (17, .ireturn, 1, i_zrt)]
noncomputable def mX4_has : gF := g_m PX4_has 2
set_option maxRecDepth 20000 in
theorem dtX4_has : gDts PX4_has := ⟨dt_ild, dt_flt, dt_ild, dt_ald, dt_gfd, dt_cge, dt_psh, dt_gto, dt_psh, dt_zrt, trivial⟩
set_option maxRecDepth 20000 in
theorem dcX4_has : gDec MX4_has PX4_has := by unfold gDec PX4_has; decide +kernel
set_option maxRecDepth 20000 in
theorem okX4_has (l : Launch) (D : va_G) (τ : ClassId × ClassId × ClassId × ClassId) (ad : Nat → Nat) : gOks (D, τ, LB, ad) l MX4_has PX4_has := ⟨fun d => ok_iload_n d rfl, fun d => ok_iflt d (by decide), fun d => ok_iload_n d rfl, fun d => ok_aload_n d rfl, fun d => ok_getfield (ci := 2) (f := 2) (N := 4) (C := RX4) (T := TX4) d rfl inX4 (by decide) q184, fun d => ok_icmpge d (by decide), fun d => ok_iconst d (by decide), fun d => ok_goto d (by decide), fun d => ok_iconst d (by decide), fun d => ok_zreturn d rfl, trivial⟩
theorem tX4_has (l : Launch) (D : va_G) (τ : ClassId × ClassId × ClassId × ClassId) (ad : Nat → Nat) : ∀ as μ r, mX4_has as μ = some r → gMt (D, τ, LB, ad) l yX4_has MX4_has as μ r := fun _ _ _ h => gMt_of (plainFor_of_name (by decide +kernel)) rfl dcX4_has (okX4_has l D τ ad) h
/-! GangMatrix$Jobs.isPlaced(I)Z (LB) -/
abbrev MX4_isPlaced : gMi := (cX4_isPlaced, 2, RX4, some .boolean, 2)
noncomputable def PX4_isPlaced : gP := [(0, .aload_n 0, 1, i_ald 1 0), (1, .iload_n 1, 1, i_ild 1 1), (2, .invokevirtual 24, 3, i_cvi LB 1 2 mX4_has), (5, .ifCond .eq 19, 3, i_feq 24), (8, .aload_n 0, 1, i_ald 1 0), (9, .getfield 13, 3, i_gfd LB 2 0), (12, .iconst 4, 1, i_psh 1 (.int 4)), (13, .aaload, 1, i_aak LB 4 4 9), (14, .iload_n 1, 1, i_ild 1 1), (15, .iaload, 1, i_iad LB), (16, .iconst 2, 1, i_psh 1 (.int 2)), (17, .if_icmp .ne 7, 3, i_cne 24), (20, .iconst 1, 1, i_psh 1 (.int 1)), (21, .goto 4, 3, i_gto 25), (24, .iconst 0, 1, i_psh 1 (.int 0)), (25, .ireturn, 1, i_zrt)]
noncomputable def mX4_isPlaced : gF := g_m PX4_isPlaced 2
set_option maxRecDepth 20000 in
theorem dtX4_isPlaced : gDts PX4_isPlaced := ⟨dt_ald, dt_ild, dt_cvi, dt_feq, dt_ald, dt_gfd, dt_psh, dt_aak, dt_ild, dt_iad, dt_psh, dt_cne, dt_psh, dt_gto, dt_psh, dt_zrt, trivial⟩
set_option maxRecDepth 20000 in
theorem dcX4_isPlaced : gDec MX4_isPlaced PX4_isPlaced := by unfold gDec PX4_isPlaced; decide +kernel
set_option maxRecDepth 20000 in
theorem okX4_isPlaced (l : Launch) (D : va_G) (τ : ClassId × ClassId × ClassId × ClassId) (ad : Nat → Nat) : gOks (D, τ, LB, ad) l MX4_isPlaced PX4_isPlaced := ⟨fun d => ok_aload_n d rfl, fun d => ok_iload_n d rfl, fun d => ok_cvi (ok_callV (M' := MX4_has) (ci := 2) (C := RX4) (T := TX4) (N := 4) d (tX4_has l D τ ad) rfl q585 q586 q587 q143 q588 (by decide +kernel) (by decide)), fun d => ok_ifeq d (by decide), fun d => ok_aload_n d rfl, fun d => ok_getfield (ci := 2) (f := 0) (N := 4) (C := RX4) (T := TX4) d rfl inX4 (by decide) q177, fun d => ok_iconst d (by decide), fun d => ok_aak (ok_aaload d) (by decide), fun d => ok_iload_n d rfl, fun d => ok_iaload d, fun d => ok_iconst d (by decide), fun d => ok_icmpne d (by decide), fun d => ok_iconst d (by decide), fun d => ok_goto d (by decide), fun d => ok_iconst d (by decide), fun d => ok_zreturn d rfl, trivial⟩
theorem tX4_isPlaced (l : Launch) (D : va_G) (τ : ClassId × ClassId × ClassId × ClassId) (ad : Nat → Nat) : ∀ as μ r, mX4_isPlaced as μ = some r → gMt (D, τ, LB, ad) l yX4_isPlaced MX4_isPlaced as μ r := fun _ _ _ h => gMt_of (plainFor_of_name (by decide +kernel)) rfl dcX4_isPlaced (okX4_isPlaced l D τ ad) h
/-! GangMatrix$Jobs.cells(I)I (LB) -/
abbrev MX4_cells : gMi := (cX4_cells, 2, RX4, some .int, 2)
noncomputable def PX4_cells : gP := [(0, .aload_n 0, 1, i_ald 1 0), (1, .getfield 13, 3, i_gfd LB 2 0), (4, .bipush 8, 2, i_psh 2 (.int 8)), (6, .aaload, 1, i_aak LB 8 8 13), (7, .iload_n 1, 1, i_ild 1 1), (8, .iaload, 1, i_iad LB), (9, .aload_n 0, 1, i_ald 1 0), (10, .getfield 13, 3, i_gfd LB 2 0), (13, .iconst 0, 1, i_psh 1 (.int 0)), (14, .aaload, 1, i_aak LB 0 0 5), (15, .iload_n 1, 1, i_ild 1 1), (16, .iaload, 1, i_iad LB), (17, .invokestatic 37, 3, i_csi 2 mX1_bits), (20, .ireturn, 1, i_irt)]
noncomputable def mX4_cells : gF := g_m PX4_cells 2
set_option maxRecDepth 20000 in
theorem dtX4_cells : gDts PX4_cells := ⟨dt_ald, dt_gfd, dt_psh, dt_aak, dt_ild, dt_iad, dt_ald, dt_gfd, dt_psh, dt_aak, dt_ild, dt_iad, dt_csi, dt_irt, trivial⟩
set_option maxRecDepth 20000 in
theorem dcX4_cells : gDec MX4_cells PX4_cells := by unfold gDec PX4_cells; decide +kernel
set_option maxRecDepth 20000 in
theorem okX4_cells (l : Launch) (D : va_G) (τ : ClassId × ClassId × ClassId × ClassId) (ad : Nat → Nat) : gOks (D, τ, LB, ad) l MX4_cells PX4_cells := ⟨fun d => ok_aload_n d rfl, fun d => ok_getfield (ci := 2) (f := 0) (N := 4) (C := RX4) (T := TX4) d rfl inX4 (by decide) q177, fun d => ok_bipush d (by decide), fun d => ok_aak (ok_aaload d) (by decide), fun d => ok_iload_n d rfl, fun d => ok_iaload d, fun d => ok_aload_n d rfl, fun d => ok_getfield (ci := 2) (f := 0) (N := 4) (C := RX4) (T := TX4) d rfl inX4 (by decide) q177, fun d => ok_iconst d (by decide), fun d => ok_aak (ok_aaload d) (by decide), fun d => ok_iload_n d rfl, fun d => ok_iaload d, fun d => ok_csi (ok_callS (M' := MX1_bits) d (tX1_bits l _) q553 q470 q151 q471 (by decide +kernel) (by decide)), fun d => ok_ireturn d rfl, trivial⟩
theorem tX4_cells (l : Launch) (D : va_G) (τ : ClassId × ClassId × ClassId × ClassId) (ad : Nat → Nat) : ∀ as μ r, mX4_cells as μ = some r → gMt (D, τ, LB, ad) l yX4_cells MX4_cells as μ r := fun _ _ _ h => gMt_of (plainFor_of_name (by decide +kernel)) rfl dcX4_cells (okX4_cells l D τ ad) h
/-! GangMatrix$Crew.sort(LGangMatrix$Jobs;II)V (LB) -/
abbrev MX3_sort : gMi := (cX3_sort, 4, RX3, none, 3)
noncomputable def PX3_sort : gP := [(0, .aload_n 1, 1, i_ald 1 1), (1, .getfield 43, 3, i_gfd LB 2 0), (4, .bipush 7, 2, i_psh 2 (.int 7)), (6, .aaload, 1, i_aak LB 7 7 12), (7, .iload_n 2, 1, i_ild 1 2), (8, .iaload, 1, i_iad LB), (9, .iload_n 3, 1, i_ild 1 3), (10, .if_icmp .ne 40, 3, i_cne 50), (13, .aload_n 0, 1, i_ald 1 0), (14, .getfield 11, 3, i_gfd LB 7 0), (17, .aload_n 0, 1, i_ald 1 0), (18, .getfield 20, 3, i_gfd LB 7 3), (21, .iload_n 2, 1, i_ild 1 2), (22, .iastore, 1, i_ias LB), (23, .aload_n 0, 1, i_ald 1 0), (24, .dup, 1, i_dup), (25, .getfield 20, 3, i_gfd LB 7 3), (28, .iconst 1, 1, i_psh 1 (.int 1)), (29, .iadd, 1, i_bin (fun x y => (x + y))), (30, .putfield 20, 3, i_pfd LB 7 3), (33, .aload_n 0, 1, i_ald 1 0), (34, .dup, 1, i_dup), (35, .getfield 27, 3, i_gfd LB 7 5), (38, .aload_n 1, 1, i_ald 1 1), (39, .iload_n 2, 1, i_ild 1 2), (40, .invokevirtual 60, 3, i_cvi LB 1 2 mX4_cells), (43, .ior, 1, i_bin (fun x y => (x ||| y))), (44, .putfield 27, 3, i_pfd LB 7 5), (47, .goto 23, 3, i_gto 70), (50, .aload_n 0, 1, i_ald 1 0), (51, .getfield 17, 3, i_gfd LB 7 1), (54, .aload_n 0, 1, i_ald 1 0), (55, .getfield 33, 3, i_gfd LB 7 2), (58, .iload_n 2, 1, i_ild 1 2), (59, .iastore, 1, i_ias LB), (60, .aload_n 0, 1, i_ald 1 0), (61, .dup, 1, i_dup), (62, .getfield 33, 3, i_gfd LB 7 2), (65, .iconst 1, 1, i_psh 1 (.int 1)), (66, .iadd, 1, i_bin (fun x y => (x + y))), (67, .putfield 33, 3, i_pfd LB 7 2), (70, .return_, 1, i_vrt)]
noncomputable def mX3_sort : gF := g_m PX3_sort 4
set_option maxRecDepth 20000 in
theorem dtX3_sort : gDts PX3_sort := ⟨dt_ald, dt_gfd, dt_psh, dt_aak, dt_ild, dt_iad, dt_ild, dt_cne, dt_ald, dt_gfd, dt_ald, dt_gfd, dt_ild, dt_ias, dt_ald, dt_dup, dt_gfd, dt_psh, dt_bin, dt_pfd, dt_ald, dt_dup, dt_gfd, dt_ald, dt_ild, dt_cvi, dt_bin, dt_pfd, dt_gto, dt_ald, dt_gfd, dt_ald, dt_gfd, dt_ild, dt_ias, dt_ald, dt_dup, dt_gfd, dt_psh, dt_bin, dt_pfd, dt_vrt, trivial⟩
set_option maxRecDepth 20000 in
theorem dcX3_sort : gDec MX3_sort PX3_sort := by unfold gDec PX3_sort; decide +kernel
set_option maxRecDepth 20000 in
theorem okX3_sort (l : Launch) (D : va_G) (τ : ClassId × ClassId × ClassId × ClassId) (ad : Nat → Nat) : gOks (D, τ, LB, ad) l MX3_sort PX3_sort := ⟨fun d => ok_aload_n d rfl, fun d => ok_getfield (ci := 2) (f := 0) (N := 4) (C := RX4) (T := TX4) d rfl inX4 (by decide) q179, fun d => ok_bipush d (by decide), fun d => ok_aak (ok_aaload d) (by decide), fun d => ok_iload_n d rfl, fun d => ok_iaload d, fun d => ok_iload_n d rfl, fun d => ok_icmpne d (by decide), fun d => ok_aload_n d rfl, fun d => ok_getfield (ci := 7) (f := 0) (N := 6) (C := RX3) (T := TX3) d rfl inX3 (by decide) q291, fun d => ok_aload_n d rfl, fun d => ok_getfield (ci := 7) (f := 3) (N := 6) (C := RX3) (T := TX3) d rfl inX3 (by decide) q295, fun d => ok_iload_n d rfl, fun d => ok_iastore d, fun d => ok_aload_n d rfl, fun d => ok_dup d, fun d => ok_getfield (ci := 7) (f := 3) (N := 6) (C := RX3) (T := TX3) d rfl inX3 (by decide) q295, fun d => ok_iconst d (by decide), fun d => ok_iadd d, fun d => ok_putfield (ci := 7) (f := 3) (N := 6) (C := RX3) (T := TX3) d rfl inX3 tyX3_ok nmX3 (by decide) q295 rfl (by decide), fun d => ok_aload_n d rfl, fun d => ok_dup d, fun d => ok_getfield (ci := 7) (f := 5) (N := 6) (C := RX3) (T := TX3) d rfl inX3 (by decide) q300, fun d => ok_aload_n d rfl, fun d => ok_iload_n d rfl, fun d => ok_cvi (ok_callV (M' := MX4_cells) (ci := 2) (C := RX4) (T := TX4) (N := 4) d (tX4_cells l D τ ad) rfl q714 q715 q716 q143 q717 (by decide +kernel) (by decide)), fun d => ok_ior d, fun d => ok_putfield (ci := 7) (f := 5) (N := 6) (C := RX3) (T := TX3) d rfl inX3 tyX3_ok nmX3 (by decide) q300 rfl (by decide), fun d => ok_goto d (by decide), fun d => ok_aload_n d rfl, fun d => ok_getfield (ci := 7) (f := 1) (N := 6) (C := RX3) (T := TX3) d rfl inX3 (by decide) q293, fun d => ok_aload_n d rfl, fun d => ok_getfield (ci := 7) (f := 2) (N := 6) (C := RX3) (T := TX3) d rfl inX3 (by decide) q294, fun d => ok_iload_n d rfl, fun d => ok_iastore d, fun d => ok_aload_n d rfl, fun d => ok_dup d, fun d => ok_getfield (ci := 7) (f := 2) (N := 6) (C := RX3) (T := TX3) d rfl inX3 (by decide) q294, fun d => ok_iconst d (by decide), fun d => ok_iadd d, fun d => ok_putfield (ci := 7) (f := 2) (N := 6) (C := RX3) (T := TX3) d rfl inX3 tyX3_ok nmX3 (by decide) q294 rfl (by decide), fun d => ok_vreturn d rfl, trivial⟩
theorem tX3_sort (l : Launch) (D : va_G) (τ : ClassId × ClassId × ClassId × ClassId) (ad : Nat → Nat) : ∀ as μ r, mX3_sort as μ = some r → gMt (D, τ, LB, ad) l yX3_sort MX3_sort as μ r := fun _ _ _ h => gMt_of (plainFor_of_name (by decide +kernel)) rfl dcX3_sort (okX3_sort l D τ ad) h
/-! GangMatrix$Crew.lendTo(LGangMatrix$Jobs;LGangMatrix$Users;I)V (LB) -/
abbrev MX3_lendTo : gMi := (cX3_lendTo, 7, RX3, none, 3)
noncomputable def PX3_lendTo : gP := [(0, .iconst 0, 1, i_psh 1 (.int 0)), (1, .istore 4, 2, i_kll [5, 6] (i_ist 2 4)), (3, .iload 4, 2, i_ild 2 4), (5, .aload_n 0, 1, i_ald 1 0), (6, .getfield 33, 3, i_gfd LB 7 2), (9, .if_icmp .ge 103, 3, i_cge 112), (12, .aload_n 0, 1, i_ald 1 0), (13, .getfield 17, 3, i_gfd LB 7 1), (16, .iload 4, 2, i_ild 2 4), (18, .iaload, 1, i_iad LB), (19, .istore 5, 2, i_ist 2 5), (21, .aload_n 2, 1, i_ald 1 2), (22, .getfield 63, 3, i_gfd LB 3 2), (25, .aload_n 1, 1, i_ald 1 1), (26, .getfield 43, 3, i_gfd LB 2 0), (29, .iconst 2, 1, i_psh 1 (.int 2)), (30, .aaload, 1, i_aak LB 2 2 7), (31, .iload 5, 2, i_ild 2 5), (33, .iaload, 1, i_iad LB), (34, .iaload, 1, i_iad LB), (35, .iload_n 3, 1, i_ild 1 3), (36, .if_icmp .ne 7, 3, i_cne 43), (39, .iconst 1, 1, i_psh 1 (.int 1)), (40, .goto 4, 3, i_gto 44), (43, .iconst 0, 1, i_psh 1 (.int 0)), (44, .istore 6, 2, i_ist 2 6), (46, .iload 6, 2, i_ild 2 6), (48, .ifCond .eq 58, 3, i_feq 106), (51, .aload_n 1, 1, i_ald 1 1), (52, .iload 5, 2, i_ild 2 5), (54, .invokevirtual 60, 3, i_cvi LB 1 2 mX4_cells), (57, .aload_n 0, 1, i_ald 1 0), (58, .getfield 27, 3, i_gfd LB 7 5), (61, .iand, 1, i_bin (fun x y => (x &&& y))), (62, .ifCond .ne 44, 3, i_fne 106), (65, .aload_n 0, 1, i_ald 1 0), (66, .getfield 11, 3, i_gfd LB 7 0), (69, .aload_n 0, 1, i_ald 1 0), (70, .getfield 20, 3, i_gfd LB 7 3), (73, .aload_n 0, 1, i_ald 1 0), (74, .getfield 24, 3, i_gfd LB 7 4), (77, .iadd, 1, i_bin (fun x y => (x + y))), (78, .iload 5, 2, i_ild 2 5), (80, .iastore, 1, i_ias LB), (81, .aload_n 0, 1, i_ald 1 0), (82, .dup, 1, i_dup), (83, .getfield 24, 3, i_gfd LB 7 4), (86, .iconst 1, 1, i_psh 1 (.int 1)), (87, .iadd, 1, i_bin (fun x y => (x + y))), (88, .putfield 24, 3, i_pfd LB 7 4), (91, .aload_n 0, 1, i_ald 1 0), (92, .dup, 1, i_dup), (93, .getfield 27, 3, i_gfd LB 7 5), (96, .aload_n 1, 1, i_ald 1 1), (97, .iload 5, 2, i_ild 2 5), (99, .invokevirtual 60, 3, i_cvi LB 1 2 mX4_cells), (102, .ior, 1, i_bin (fun x y => (x ||| y))), (103, .putfield 27, 3, i_pfd LB 7 5), (106, .iinc 4 1, 3, i_inc 4 1), (109, .goto (-106), 3, i_kll [5, 6] (i_gto 3)), (112, .return_, 1, i_vrt)]
noncomputable def mX3_lendTo : gF := g_m PX3_lendTo 7
set_option maxRecDepth 20000 in
theorem dtX3_lendTo : gDts PX3_lendTo := ⟨dt_psh, dt_kll dt_ist, dt_ild, dt_ald, dt_gfd, dt_cge, dt_ald, dt_gfd, dt_ild, dt_iad, dt_ist, dt_ald, dt_gfd, dt_ald, dt_gfd, dt_psh, dt_aak, dt_ild, dt_iad, dt_iad, dt_ild, dt_cne, dt_psh, dt_gto, dt_psh, dt_ist, dt_ild, dt_feq, dt_ald, dt_ild, dt_cvi, dt_ald, dt_gfd, dt_bin, dt_fne, dt_ald, dt_gfd, dt_ald, dt_gfd, dt_ald, dt_gfd, dt_bin, dt_ild, dt_ias, dt_ald, dt_dup, dt_gfd, dt_psh, dt_bin, dt_pfd, dt_ald, dt_dup, dt_gfd, dt_ald, dt_ild, dt_cvi, dt_bin, dt_pfd, dt_inc, dt_kll dt_gto, dt_vrt, trivial⟩
set_option maxRecDepth 20000 in
theorem dcX3_lendTo : gDec MX3_lendTo PX3_lendTo := by unfold gDec PX3_lendTo; decide +kernel
set_option maxRecDepth 20000 in
theorem okX3_lendTo (l : Launch) (D : va_G) (τ : ClassId × ClassId × ClassId × ClassId) (ad : Nat → Nat) : gOks (D, τ, LB, ad) l MX3_lendTo PX3_lendTo := ⟨fun d => ok_iconst d (by decide), fun d => ok_kll (ok_istore d), fun d => ok_iload d, fun d => ok_aload_n d rfl, fun d => ok_getfield (ci := 7) (f := 2) (N := 6) (C := RX3) (T := TX3) d rfl inX3 (by decide) q294, fun d => ok_icmpge d (by decide), fun d => ok_aload_n d rfl, fun d => ok_getfield (ci := 7) (f := 1) (N := 6) (C := RX3) (T := TX3) d rfl inX3 (by decide) q293, fun d => ok_iload d, fun d => ok_iaload d, fun d => ok_istore d, fun d => ok_aload_n d rfl, fun d => ok_getfield (ci := 3) (f := 2) (N := 3) (C := RX8) (T := TX8) d rfl inX8 (by decide) q215, fun d => ok_aload_n d rfl, fun d => ok_getfield (ci := 2) (f := 0) (N := 4) (C := RX4) (T := TX4) d rfl inX4 (by decide) q179, fun d => ok_iconst d (by decide), fun d => ok_aak (ok_aaload d) (by decide), fun d => ok_iload d, fun d => ok_iaload d, fun d => ok_iaload d, fun d => ok_iload_n d rfl, fun d => ok_icmpne d (by decide), fun d => ok_iconst d (by decide), fun d => ok_goto d (by decide), fun d => ok_iconst d (by decide), fun d => ok_istore d, fun d => ok_iload d, fun d => ok_ifeq d (by decide), fun d => ok_aload_n d rfl, fun d => ok_iload d, fun d => ok_cvi (ok_callV (M' := MX4_cells) (ci := 2) (C := RX4) (T := TX4) (N := 4) d (tX4_cells l D τ ad) rfl q714 q715 q716 q143 q717 (by decide +kernel) (by decide)), fun d => ok_aload_n d rfl, fun d => ok_getfield (ci := 7) (f := 5) (N := 6) (C := RX3) (T := TX3) d rfl inX3 (by decide) q300, fun d => ok_iand d, fun d => ok_ifne d (by decide), fun d => ok_aload_n d rfl, fun d => ok_getfield (ci := 7) (f := 0) (N := 6) (C := RX3) (T := TX3) d rfl inX3 (by decide) q291, fun d => ok_aload_n d rfl, fun d => ok_getfield (ci := 7) (f := 3) (N := 6) (C := RX3) (T := TX3) d rfl inX3 (by decide) q295, fun d => ok_aload_n d rfl, fun d => ok_getfield (ci := 7) (f := 4) (N := 6) (C := RX3) (T := TX3) d rfl inX3 (by decide) q297, fun d => ok_iadd d, fun d => ok_iload d, fun d => ok_iastore d, fun d => ok_aload_n d rfl, fun d => ok_dup d, fun d => ok_getfield (ci := 7) (f := 4) (N := 6) (C := RX3) (T := TX3) d rfl inX3 (by decide) q297, fun d => ok_iconst d (by decide), fun d => ok_iadd d, fun d => ok_putfield (ci := 7) (f := 4) (N := 6) (C := RX3) (T := TX3) d rfl inX3 tyX3_ok nmX3 (by decide) q297 rfl (by decide), fun d => ok_aload_n d rfl, fun d => ok_dup d, fun d => ok_getfield (ci := 7) (f := 5) (N := 6) (C := RX3) (T := TX3) d rfl inX3 (by decide) q300, fun d => ok_aload_n d rfl, fun d => ok_iload d, fun d => ok_cvi (ok_callV (M' := MX4_cells) (ci := 2) (C := RX4) (T := TX4) (N := 4) d (tX4_cells l D τ ad) rfl q714 q715 q716 q143 q717 (by decide +kernel) (by decide)), fun d => ok_ior d, fun d => ok_putfield (ci := 7) (f := 5) (N := 6) (C := RX3) (T := TX3) d rfl inX3 tyX3_ok nmX3 (by decide) q300 rfl (by decide), fun d => ok_iinc d (by decide), fun d => ok_kll (ok_goto d (by decide)), fun d => ok_vreturn d rfl, trivial⟩
theorem tX3_lendTo (l : Launch) (D : va_G) (τ : ClassId × ClassId × ClassId × ClassId) (ad : Nat → Nat) : ∀ as μ r, mX3_lendTo as μ = some r → gMt (D, τ, LB, ad) l yX3_lendTo MX3_lendTo as μ r := fun _ _ _ h => gMt_of (plainFor_of_name (by decide +kernel)) rfl dcX3_lendTo (okX3_lendTo l D τ ad) h
/-! GangMatrix$Crew.choose(LGangMatrix$Jobs;LGangMatrix$Users;IZ)V (LB) -/
abbrev MX3_choose : gMi := (cX3_choose, 6, RX3, none, 4)
noncomputable def PX3_choose : gP := [(0, .aload_n 0, 1, i_ald 1 0), (1, .invokevirtual 30, 3, i_cvv LB 0 7 mX3_clear), (4, .aload_n 0, 1, i_ald 1 0), (5, .iconst 0, 1, i_psh 1 (.int 0)), (6, .putfield 33, 3, i_pfd LB 7 2), (9, .iconst 0, 1, i_psh 1 (.int 0)), (10, .istore 5, 2, i_ist 2 5), (12, .iload 5, 2, i_ild 2 5), (14, .aload_n 1, 1, i_ald 1 1), (15, .getfield 36, 3, i_gfd LB 2 2), (18, .if_icmp .ge 39, 3, i_cge 57), (21, .aload_n 1, 1, i_ald 1 1), (22, .iload 5, 2, i_ild 2 5), (24, .invokevirtual 39, 3, i_cvi LB 1 2 mX4_isPlaced), (27, .ifCond .eq 24, 3, i_feq 51), (30, .aload_n 1, 1, i_ald 1 1), (31, .getfield 43, 3, i_gfd LB 2 0), (34, .bipush 12, 2, i_psh 2 (.int 12)), (36, .aaload, 1, i_aak LB 12 12 17), (37, .iload 5, 2, i_ild 2 5), (39, .iaload, 1, i_iad LB), (40, .ifCond .ne 11, 3, i_fne 51), (43, .aload_n 0, 1, i_ald 1 0), (44, .aload_n 1, 1, i_ald 1 1), (45, .iload 5, 2, i_ild 2 5), (47, .iload_n 3, 1, i_ild 1 3), (48, .invokevirtual 47, 3, i_cvv LB 3 7 mX3_sort), (51, .iinc 5 1, 3, i_inc 5 1), (54, .goto (-42), 3, i_gto 12), (57, .iload 4, 2, i_ild 2 4), (59, .ifCond .eq 38, 3, i_feq 97), (62, .aload_n 0, 1, i_ald 1 0), (63, .getfield 33, 3, i_gfd LB 7 2), (66, .ifCond .le 31, 3, i_fle 97), (69, .aload_n 2, 1, i_ald 1 2), (70, .invokevirtual 51, 3, i_cvv LB 0 3 mX8_rankAll), (73, .iconst 0, 1, i_psh 1 (.int 0)), (74, .istore 5, 2, i_kll [3, 4] (i_ist 2 5)), (76, .iload 5, 2, i_ild 2 5), (78, .bipush 6, 2, i_psh 2 (.int 6)), (80, .if_icmp .ge 17, 3, i_cge 97), (83, .aload_n 0, 1, i_ald 1 0), (84, .aload_n 1, 1, i_ald 1 1), (85, .aload_n 2, 1, i_ald 1 2), (86, .iload 5, 2, i_ild 2 5), (88, .invokevirtual 56, 3, i_cvv LB 3 7 mX3_lendTo), (91, .iinc 5 1, 3, i_inc 5 1), (94, .goto (-18), 3, i_kll [3, 4] (i_gto 76)), (97, .return_, 1, i_vrt)]
noncomputable def mX3_choose : gF := g_m PX3_choose 6
set_option maxRecDepth 20000 in
theorem dtX3_choose : gDts PX3_choose := ⟨dt_ald, dt_cvv, dt_ald, dt_psh, dt_pfd, dt_psh, dt_ist, dt_ild, dt_ald, dt_gfd, dt_cge, dt_ald, dt_ild, dt_cvi, dt_feq, dt_ald, dt_gfd, dt_psh, dt_aak, dt_ild, dt_iad, dt_fne, dt_ald, dt_ald, dt_ild, dt_ild, dt_cvv, dt_inc, dt_gto, dt_ild, dt_feq, dt_ald, dt_gfd, dt_fle, dt_ald, dt_cvv, dt_psh, dt_kll dt_ist, dt_ild, dt_psh, dt_cge, dt_ald, dt_ald, dt_ald, dt_ild, dt_cvv, dt_inc, dt_kll dt_gto, dt_vrt, trivial⟩
set_option maxRecDepth 20000 in
theorem dcX3_choose : gDec MX3_choose PX3_choose := by unfold gDec PX3_choose; decide +kernel
set_option maxRecDepth 20000 in
theorem okX3_choose (l : Launch) (D : va_G) (τ : ClassId × ClassId × ClassId × ClassId) (ad : Nat → Nat) : gOks (D, τ, LB, ad) l MX3_choose PX3_choose := ⟨fun d => ok_aload_n d rfl, fun d => ok_cvv (ok_callV (M' := MX3_clear) (ci := 7) (C := RX3) (T := TX3) (N := 6) d (tX3_clear l D τ ad) rfl q705 q685 q686 q148 q687 (by decide +kernel) (by decide)), fun d => ok_aload_n d rfl, fun d => ok_iconst d (by decide), fun d => ok_putfield (ci := 7) (f := 2) (N := 6) (C := RX3) (T := TX3) d rfl inX3 tyX3_ok nmX3 (by decide) q294 rfl (by decide), fun d => ok_iconst d (by decide), fun d => ok_istore d, fun d => ok_iload d, fun d => ok_aload_n d rfl, fun d => ok_getfield (ci := 2) (f := 2) (N := 4) (C := RX4) (T := TX4) d rfl inX4 (by decide) q185, fun d => ok_icmpge d (by decide), fun d => ok_aload_n d rfl, fun d => ok_iload d, fun d => ok_cvi (ok_callV (M' := MX4_isPlaced) (ci := 2) (C := RX4) (T := TX4) (N := 4) d (tX4_isPlaced l D τ ad) rfl q706 q707 q708 q143 q709 (by decide +kernel) (by decide)), fun d => ok_ifeq d (by decide), fun d => ok_aload_n d rfl, fun d => ok_getfield (ci := 2) (f := 0) (N := 4) (C := RX4) (T := TX4) d rfl inX4 (by decide) q179, fun d => ok_bipush d (by decide), fun d => ok_aak (ok_aaload d) (by decide), fun d => ok_iload d, fun d => ok_iaload d, fun d => ok_ifne d (by decide), fun d => ok_aload_n d rfl, fun d => ok_aload_n d rfl, fun d => ok_iload d, fun d => ok_iload_n d rfl, fun d => ok_cvv (ok_callV (M' := MX3_sort) (ci := 7) (C := RX3) (T := TX3) (N := 6) d (tX3_sort l D τ ad) rfl q710 q712 q11 q148 q713 (by decide +kernel) (by decide)), fun d => ok_iinc d (by decide), fun d => ok_goto d (by decide), fun d => ok_iload d, fun d => ok_ifeq d (by decide), fun d => ok_aload_n d rfl, fun d => ok_getfield (ci := 7) (f := 2) (N := 6) (C := RX3) (T := TX3) d rfl inX3 (by decide) q294, fun d => ok_ifle d (by decide), fun d => ok_aload_n d rfl, fun d => ok_cvv (ok_callV (M' := MX8_rankAll) (ci := 3) (C := RX8) (T := TX8) (N := 3) d (tX8_rankAll l D τ ad) rfl q718 q450 q451 q144 q452 (by decide +kernel) (by decide)), fun d => ok_iconst d (by decide), fun d => ok_kll (ok_istore d), fun d => ok_iload d, fun d => ok_bipush d (by decide), fun d => ok_icmpge d (by decide), fun d => ok_aload_n d rfl, fun d => ok_aload_n d rfl, fun d => ok_aload_n d rfl, fun d => ok_iload d, fun d => ok_cvv (ok_callV (M' := MX3_lendTo) (ci := 7) (C := RX3) (T := TX3) (N := 6) d (tX3_lendTo l D τ ad) rfl q719 q721 q12 q148 q722 (by decide +kernel) (by decide)), fun d => ok_iinc d (by decide), fun d => ok_kll (ok_goto d (by decide)), fun d => ok_vreturn d rfl, trivial⟩
theorem tX3_choose (l : Launch) (D : va_G) (τ : ClassId × ClassId × ClassId × ClassId) (ad : Nat → Nat) : ∀ as μ r, mX3_choose as μ = some r → gMt (D, τ, LB, ad) l yX3_choose MX3_choose as μ r := fun _ _ _ h => gMt_of (plainFor_of_name (by decide +kernel)) rfl dcX3_choose (okX3_choose l D τ ad) h
/-! GangMatrix$Crew.size()I (LB) -/
abbrev MX3_size : gMi := (cX3_size, 1, RX3, some .int, 1)
noncomputable def PX3_size : gP := [(0, .aload_n 0, 1, i_ald 1 0), (1, .getfield 20, 3, i_gfd LB 7 3), (4, .aload_n 0, 1, i_ald 1 0), (5, .getfield 24, 3, i_gfd LB 7 4), (8, .iadd, 1, i_bin (fun x y => (x + y))), (9, .ireturn, 1, i_irt)]
noncomputable def mX3_size : gF := g_m PX3_size 1
set_option maxRecDepth 20000 in
theorem dtX3_size : gDts PX3_size := ⟨dt_ald, dt_gfd, dt_ald, dt_gfd, dt_bin, dt_irt, trivial⟩
set_option maxRecDepth 20000 in
theorem dcX3_size : gDec MX3_size PX3_size := by unfold gDec PX3_size; decide +kernel
set_option maxRecDepth 20000 in
theorem okX3_size (l : Launch) (D : va_G) (τ : ClassId × ClassId × ClassId × ClassId) (ad : Nat → Nat) : gOks (D, τ, LB, ad) l MX3_size PX3_size := ⟨fun d => ok_aload_n d rfl, fun d => ok_getfield (ci := 7) (f := 3) (N := 6) (C := RX3) (T := TX3) d rfl inX3 (by decide) q295, fun d => ok_aload_n d rfl, fun d => ok_getfield (ci := 7) (f := 4) (N := 6) (C := RX3) (T := TX3) d rfl inX3 (by decide) q297, fun d => ok_iadd d, fun d => ok_ireturn d rfl, trivial⟩
theorem tX3_size (l : Launch) (D : va_G) (τ : ClassId × ClassId × ClassId × ClassId) (ad : Nat → Nat) : ∀ as μ r, mX3_size as μ = some r → gMt (D, τ, LB, ad) l yX3_size MX3_size as μ r := fun _ _ _ h => gMt_of (plainFor_of_name (by decide +kernel)) rfl dcX3_size (okX3_size l D τ ad) h
/-! GangMatrix$Board.run(II)V (LB) -/
abbrev MX2_run : gMi := (cX2_run, 4, RX2, none, 1)
noncomputable def PX2_run : gP := [(0, .aload_n 0, 1, i_ald 1 0), (1, .getfield 21, 3, i_gfd LB 1 2), (4, .getfield 130, 3, i_gfd LB 2 0), (7, .iconst 5, 1, i_psh 1 (.int 5)), (8, .aaload, 1, i_aak LB 5 5 10), (9, .iload_n 1, 1, i_ild 1 1), (10, .dup2, 1, i_du2), (11, .iaload, 1, i_iad LB), (12, .iconst 1, 1, i_psh 1 (.int 1)), (13, .isub, 1, i_bin (fun x y => (x - y))), (14, .iastore, 1, i_ias LB), (15, .aload_n 0, 1, i_ald 1 0), (16, .getfield 21, 3, i_gfd LB 1 2), (19, .getfield 130, 3, i_gfd LB 2 0), (22, .iload_n 2, 1, i_ild 1 2), (23, .aaload, 1, i_aad LB), (24, .iload_n 1, 1, i_ild 1 1), (25, .dup2, 1, i_du2), (26, .iaload, 1, i_iad LB), (27, .iconst 1, 1, i_psh 1 (.int 1)), (28, .iadd, 1, i_bin (fun x y => (x + y))), (29, .iastore, 1, i_ias LB), (30, .aload_n 0, 1, i_ald 1 0), (31, .getfield 28, 3, i_gfd LB 1 3), (34, .getfield 335, 3, i_gfd LB 3 1), (37, .aload_n 0, 1, i_ald 1 0), (38, .getfield 21, 3, i_gfd LB 1 2), (41, .getfield 130, 3, i_gfd LB 2 0), (44, .iconst 2, 1, i_psh 1 (.int 2)), (45, .aaload, 1, i_aak LB 2 2 7), (46, .iload_n 1, 1, i_ild 1 1), (47, .iaload, 1, i_iad LB), (48, .dup2, 1, i_du2), (49, .iaload, 1, i_iad LB), (50, .aload_n 0, 1, i_ald 1 0), (51, .getfield 21, 3, i_gfd LB 1 2), (54, .getfield 130, 3, i_gfd LB 2 0), (57, .iconst 0, 1, i_psh 1 (.int 0)), (58, .aaload, 1, i_aak LB 0 0 5), (59, .iload_n 1, 1, i_ild 1 1), (60, .iaload, 1, i_iad LB), (61, .iadd, 1, i_bin (fun x y => (x + y))), (62, .iastore, 1, i_ias LB), (63, .aload_n 0, 1, i_ald 1 0), (64, .getfield 21, 3, i_gfd LB 1 2), (67, .getfield 130, 3, i_gfd LB 2 0), (70, .bipush 10, 2, i_psh 2 (.int 10)), (72, .aaload, 1, i_aak LB 10 10 15), (73, .iload_n 1, 1, i_ild 1 1), (74, .iaload, 1, i_iad LB), (75, .aload_n 0, 1, i_ald 1 0), (76, .getfield 21, 3, i_gfd LB 1 2), (79, .getfield 130, 3, i_gfd LB 2 0), (82, .bipush 11, 2, i_psh 2 (.int 11)), (84, .aaload, 1, i_aak LB 11 11 16), (85, .iload_n 1, 1, i_ild 1 1), (86, .iaload, 1, i_iad LB), (87, .iadd, 1, i_bin (fun x y => (x + y))), (88, .istore_n 3, 1, i_ist 1 3), (89, .aload_n 0, 1, i_ald 1 0), (90, .getfield 9, 3, i_gfd LB 1 0), (93, .bipush 7, 2, i_psh 2 (.int 7)), (95, .iaload, 1, i_iak LB 7 7), (96, .ifCond .le 38, 3, i_fle 134), (99, .iload_n 3, 1, i_ild 1 3), (100, .aload_n 0, 1, i_ald 1 0), (101, .getfield 9, 3, i_gfd LB 1 0), (104, .bipush 7, 2, i_psh 2 (.int 7)), (106, .iaload, 1, i_iak LB 7 7), (107, .irem, 1, i_dvr (fun x y => (x - x / y * y))), (108, .ifCond .ne 26, 3, i_fne 134), (111, .aload_n 0, 1, i_ald 1 0), (112, .getfield 21, 3, i_gfd LB 1 2), (115, .getfield 130, 3, i_gfd LB 2 0), (118, .bipush 6, 2, i_psh 2 (.int 6)), (120, .aaload, 1, i_aak LB 6 6 11), (121, .iload_n 1, 1, i_ild 1 1), (122, .aload_n 0, 1, i_ald 1 0), (123, .getfield 21, 3, i_gfd LB 1 2), (126, .getfield 130, 3, i_gfd LB 2 0), (129, .iconst 5, 1, i_psh 1 (.int 5)), (130, .aaload, 1, i_aak LB 5 5 10), (131, .iload_n 1, 1, i_ild 1 1), (132, .iaload, 1, i_iad LB), (133, .iastore, 1, i_ias LB), (134, .return_, 1, i_vrt)]
noncomputable def mX2_run : gF := g_m PX2_run 4
set_option maxRecDepth 20000 in
theorem dtX2_run : gDts PX2_run := ⟨dt_ald, dt_gfd, dt_gfd, dt_psh, dt_aak, dt_ild, dt_du2, dt_iad, dt_psh, dt_bin, dt_ias, dt_ald, dt_gfd, dt_gfd, dt_ild, dt_aad, dt_ild, dt_du2, dt_iad, dt_psh, dt_bin, dt_ias, dt_ald, dt_gfd, dt_gfd, dt_ald, dt_gfd, dt_gfd, dt_psh, dt_aak, dt_ild, dt_iad, dt_du2, dt_iad, dt_ald, dt_gfd, dt_gfd, dt_psh, dt_aak, dt_ild, dt_iad, dt_bin, dt_ias, dt_ald, dt_gfd, dt_gfd, dt_psh, dt_aak, dt_ild, dt_iad, dt_ald, dt_gfd, dt_gfd, dt_psh, dt_aak, dt_ild, dt_iad, dt_bin, dt_ist, dt_ald, dt_gfd, dt_psh, dt_iak, dt_fle, dt_ild, dt_ald, dt_gfd, dt_psh, dt_iak, dt_dvr, dt_fne, dt_ald, dt_gfd, dt_gfd, dt_psh, dt_aak, dt_ild, dt_ald, dt_gfd, dt_gfd, dt_psh, dt_aak, dt_ild, dt_iad, dt_ias, dt_vrt, trivial⟩
set_option maxRecDepth 20000 in
theorem dcX2_run : gDec MX2_run PX2_run := by unfold gDec PX2_run; decide +kernel
set_option maxRecDepth 20000 in
theorem okX2_run (l : Launch) (D : va_G) (τ : ClassId × ClassId × ClassId × ClassId) (ad : Nat → Nat) : gOks (D, τ, LB, ad) l MX2_run PX2_run := ⟨fun d => ok_aload_n d rfl, fun d => ok_getfield (ci := 1) (f := 2) (N := 14) (C := RX2) (T := TX2) d rfl inX2 (by decide) q322, fun d => ok_getfield (ci := 2) (f := 0) (N := 4) (C := RX4) (T := TX4) d rfl inX4 (by decide) q180, fun d => ok_iconst d (by decide), fun d => ok_aak (ok_aaload d) (by decide), fun d => ok_iload_n d rfl, fun d => ok_dup2 d, fun d => ok_iaload d, fun d => ok_iconst d (by decide), fun d => ok_isub d, fun d => ok_iastore d, fun d => ok_aload_n d rfl, fun d => ok_getfield (ci := 1) (f := 2) (N := 14) (C := RX2) (T := TX2) d rfl inX2 (by decide) q322, fun d => ok_getfield (ci := 2) (f := 0) (N := 4) (C := RX4) (T := TX4) d rfl inX4 (by decide) q180, fun d => ok_iload_n d rfl, fun d => ok_aaload d, fun d => ok_iload_n d rfl, fun d => ok_dup2 d, fun d => ok_iaload d, fun d => ok_iconst d (by decide), fun d => ok_iadd d, fun d => ok_iastore d, fun d => ok_aload_n d rfl, fun d => ok_getfield (ci := 1) (f := 3) (N := 14) (C := RX2) (T := TX2) d rfl inX2 (by decide) q324, fun d => ok_getfield (ci := 3) (f := 1) (N := 3) (C := RX8) (T := TX8) d rfl inX8 (by decide) q213, fun d => ok_aload_n d rfl, fun d => ok_getfield (ci := 1) (f := 2) (N := 14) (C := RX2) (T := TX2) d rfl inX2 (by decide) q322, fun d => ok_getfield (ci := 2) (f := 0) (N := 4) (C := RX4) (T := TX4) d rfl inX4 (by decide) q180, fun d => ok_iconst d (by decide), fun d => ok_aak (ok_aaload d) (by decide), fun d => ok_iload_n d rfl, fun d => ok_iaload d, fun d => ok_dup2 d, fun d => ok_iaload d, fun d => ok_aload_n d rfl, fun d => ok_getfield (ci := 1) (f := 2) (N := 14) (C := RX2) (T := TX2) d rfl inX2 (by decide) q322, fun d => ok_getfield (ci := 2) (f := 0) (N := 4) (C := RX4) (T := TX4) d rfl inX4 (by decide) q180, fun d => ok_iconst d (by decide), fun d => ok_aak (ok_aaload d) (by decide), fun d => ok_iload_n d rfl, fun d => ok_iaload d, fun d => ok_iadd d, fun d => ok_iastore d, fun d => ok_aload_n d rfl, fun d => ok_getfield (ci := 1) (f := 2) (N := 14) (C := RX2) (T := TX2) d rfl inX2 (by decide) q322, fun d => ok_getfield (ci := 2) (f := 0) (N := 4) (C := RX4) (T := TX4) d rfl inX4 (by decide) q180, fun d => ok_bipush d (by decide), fun d => ok_aak (ok_aaload d) (by decide), fun d => ok_iload_n d rfl, fun d => ok_iaload d, fun d => ok_aload_n d rfl, fun d => ok_getfield (ci := 1) (f := 2) (N := 14) (C := RX2) (T := TX2) d rfl inX2 (by decide) q322, fun d => ok_getfield (ci := 2) (f := 0) (N := 4) (C := RX4) (T := TX4) d rfl inX4 (by decide) q180, fun d => ok_bipush d (by decide), fun d => ok_aak (ok_aaload d) (by decide), fun d => ok_iload_n d rfl, fun d => ok_iaload d, fun d => ok_iadd d, fun d => ok_istore_n d rfl, fun d => ok_aload_n d rfl, fun d => ok_getfield (ci := 1) (f := 0) (N := 14) (C := RX2) (T := TX2) d rfl inX2 (by decide) q315, fun d => ok_bipush d (by decide), fun d => ok_iak (ok_iaload d) (by decide), fun d => ok_ifle d (by decide), fun d => ok_iload_n d rfl, fun d => ok_aload_n d rfl, fun d => ok_getfield (ci := 1) (f := 0) (N := 14) (C := RX2) (T := TX2) d rfl inX2 (by decide) q315, fun d => ok_bipush d (by decide), fun d => ok_iak (ok_iaload d) (by decide), fun d => ok_irem d, fun d => ok_ifne d (by decide), fun d => ok_aload_n d rfl, fun d => ok_getfield (ci := 1) (f := 2) (N := 14) (C := RX2) (T := TX2) d rfl inX2 (by decide) q322, fun d => ok_getfield (ci := 2) (f := 0) (N := 4) (C := RX4) (T := TX4) d rfl inX4 (by decide) q180, fun d => ok_bipush d (by decide), fun d => ok_aak (ok_aaload d) (by decide), fun d => ok_iload_n d rfl, fun d => ok_aload_n d rfl, fun d => ok_getfield (ci := 1) (f := 2) (N := 14) (C := RX2) (T := TX2) d rfl inX2 (by decide) q322, fun d => ok_getfield (ci := 2) (f := 0) (N := 4) (C := RX4) (T := TX4) d rfl inX4 (by decide) q180, fun d => ok_iconst d (by decide), fun d => ok_aak (ok_aaload d) (by decide), fun d => ok_iload_n d rfl, fun d => ok_iaload d, fun d => ok_iastore d, fun d => ok_vreturn d rfl, trivial⟩
theorem tX2_run (l : Launch) (D : va_G) (τ : ClassId × ClassId × ClassId × ClassId) (ad : Nat → Nat) : ∀ as μ r, mX2_run as μ = some r → gMt (D, τ, LB, ad) l yX2_run MX2_run as μ r := fun _ _ _ h => gMt_of (plainFor_of_name (by decide +kernel)) rfl dcX2_run (okX2_run l D τ ad) h
/-! GangMatrix$Board.restStopped()V (LB) -/
abbrev MX2_restStopped : gMi := (cX2_restStopped, 2, RX2, none, 3)
noncomputable def PX2_restStopped : gP := [(0, .iconst 0, 1, i_psh 1 (.int 0)), (1, .istore_n 1, 1, i_ist 1 1), (2, .iload_n 1, 1, i_ild 1 1), (3, .aload_n 0, 1, i_ald 1 0), (4, .getfield 21, 3, i_gfd LB 1 2), (7, .getfield 124, 3, i_gfd LB 2 2), (10, .if_icmp .ge 51, 3, i_cge 61), (13, .aload_n 0, 1, i_ald 1 0), (14, .getfield 21, 3, i_gfd LB 1 2), (17, .iload_n 1, 1, i_ild 1 1), (18, .invokevirtual 338, 3, i_cvi LB 1 2 mX4_isPlaced), (21, .ifCond .eq 34, 3, i_feq 55), (24, .aload_n 0, 1, i_ald 1 0), (25, .getfield 21, 3, i_gfd LB 1 2), (28, .getfield 130, 3, i_gfd LB 2 0), (31, .bipush 12, 2, i_psh 2 (.int 12)), (33, .aaload, 1, i_aak LB 12 12 17), (34, .iload_n 1, 1, i_ild 1 1), (35, .iaload, 1, i_iad LB), (36, .ifCond .le 19, 3, i_fle 55), (39, .aload_n 0, 1, i_ald 1 0), (40, .getfield 21, 3, i_gfd LB 1 2), (43, .getfield 130, 3, i_gfd LB 2 0), (46, .bipush 12, 2, i_psh 2 (.int 12)), (48, .aaload, 1, i_aak LB 12 12 17), (49, .iload_n 1, 1, i_ild 1 1), (50, .dup2, 1, i_du2), (51, .iaload, 1, i_iad LB), (52, .iconst 1, 1, i_psh 1 (.int 1)), (53, .isub, 1, i_bin (fun x y => (x - y))), (54, .iastore, 1, i_ias LB), (55, .iinc 1 1, 3, i_inc 1 1), (58, .goto (-56), 3, i_gto 2), (61, .return_, 1, i_vrt)]
noncomputable def mX2_restStopped : gF := g_m PX2_restStopped 2
set_option maxRecDepth 20000 in
theorem dtX2_restStopped : gDts PX2_restStopped := ⟨dt_psh, dt_ist, dt_ild, dt_ald, dt_gfd, dt_gfd, dt_cge, dt_ald, dt_gfd, dt_ild, dt_cvi, dt_feq, dt_ald, dt_gfd, dt_gfd, dt_psh, dt_aak, dt_ild, dt_iad, dt_fle, dt_ald, dt_gfd, dt_gfd, dt_psh, dt_aak, dt_ild, dt_du2, dt_iad, dt_psh, dt_bin, dt_ias, dt_inc, dt_gto, dt_vrt, trivial⟩
set_option maxRecDepth 20000 in
theorem dcX2_restStopped : gDec MX2_restStopped PX2_restStopped := by unfold gDec PX2_restStopped; decide +kernel
set_option maxRecDepth 20000 in
theorem okX2_restStopped (l : Launch) (D : va_G) (τ : ClassId × ClassId × ClassId × ClassId) (ad : Nat → Nat) : gOks (D, τ, LB, ad) l MX2_restStopped PX2_restStopped := ⟨fun d => ok_iconst d (by decide), fun d => ok_istore_n d rfl, fun d => ok_iload_n d rfl, fun d => ok_aload_n d rfl, fun d => ok_getfield (ci := 1) (f := 2) (N := 14) (C := RX2) (T := TX2) d rfl inX2 (by decide) q322, fun d => ok_getfield (ci := 2) (f := 2) (N := 4) (C := RX4) (T := TX4) d rfl inX4 (by decide) q186, fun d => ok_icmpge d (by decide), fun d => ok_aload_n d rfl, fun d => ok_getfield (ci := 1) (f := 2) (N := 14) (C := RX2) (T := TX2) d rfl inX2 (by decide) q322, fun d => ok_iload_n d rfl, fun d => ok_cvi (ok_callV (M' := MX4_isPlaced) (ci := 2) (C := RX4) (T := TX4) (N := 4) d (tX4_isPlaced l D τ ad) rfl q735 q707 q708 q143 q709 (by decide +kernel) (by decide)), fun d => ok_ifeq d (by decide), fun d => ok_aload_n d rfl, fun d => ok_getfield (ci := 1) (f := 2) (N := 14) (C := RX2) (T := TX2) d rfl inX2 (by decide) q322, fun d => ok_getfield (ci := 2) (f := 0) (N := 4) (C := RX4) (T := TX4) d rfl inX4 (by decide) q180, fun d => ok_bipush d (by decide), fun d => ok_aak (ok_aaload d) (by decide), fun d => ok_iload_n d rfl, fun d => ok_iaload d, fun d => ok_ifle d (by decide), fun d => ok_aload_n d rfl, fun d => ok_getfield (ci := 1) (f := 2) (N := 14) (C := RX2) (T := TX2) d rfl inX2 (by decide) q322, fun d => ok_getfield (ci := 2) (f := 0) (N := 4) (C := RX4) (T := TX4) d rfl inX4 (by decide) q180, fun d => ok_bipush d (by decide), fun d => ok_aak (ok_aaload d) (by decide), fun d => ok_iload_n d rfl, fun d => ok_dup2 d, fun d => ok_iaload d, fun d => ok_iconst d (by decide), fun d => ok_isub d, fun d => ok_iastore d, fun d => ok_iinc d (by decide), fun d => ok_goto d (by decide), fun d => ok_vreturn d rfl, trivial⟩
theorem tX2_restStopped (l : Launch) (D : va_G) (τ : ClassId × ClassId × ClassId × ClassId) (ad : Nat → Nat) : ∀ as μ r, mX2_restStopped as μ = some r → gMt (D, τ, LB, ad) l yX2_restStopped MX2_restStopped as μ r := fun _ _ _ h => gMt_of (plainFor_of_name (by decide +kernel)) rfl dcX2_restStopped (okX2_restStopped l D τ ad) h
/-! GangMatrix$Board.takeTurn(I)V (LB) -/
abbrev MX2_takeTurn : gMi := (cX2_takeTurn, 3, RX2, none, 5)
noncomputable def PX2_takeTurn : gP := [(0, .aload_n 0, 1, i_ald 1 0), (1, .getfield 35, 3, i_gfd LB 1 4), (4, .getfield 309, 3, i_gfd LB 4 0), (7, .iload_n 1, 1, i_ild 1 1), (8, .dup2, 1, i_du2), (9, .laload, 1, i_lad LB), (10, .ldc_w 313, 3, i_psh 3 (.int 1000000)), (13, .iconst 1, 1, i_psh 1 (.int 1)), (14, .aload_n 0, 1, i_ald 1 0), (15, .iload_n 1, 1, i_ild 1 1), (16, .invokevirtual 314, 3, i_cvi LB 1 1 mX2_weightOf), (19, .invokestatic 190, 3, i_csi 2 mJ9_max_7cf53), (22, .idiv, 1, i_dvr (fun x y => (x / y))), (23, .i2l, 1, i_i2l), (24, .ladd, 1, i_lbn (fun x y => x + y)), (25, .lastore, 1, i_las LB), (26, .aload_n 0, 1, i_ald 1 0), (27, .getfield 35, 3, i_gfd LB 1 4), (30, .getfield 317, 3, i_gfd LB 4 1), (33, .iload_n 1, 1, i_ild 1 1), (34, .dup2, 1, i_du2), (35, .iaload, 1, i_iad LB), (36, .iconst 1, 1, i_psh 1 (.int 1)), (37, .iadd, 1, i_bin (fun x y => (x + y))), (38, .iastore, 1, i_ias LB), (39, .aload_n 0, 1, i_ald 1 0), (40, .getfield 59, 3, i_gfd LB 1 8), (43, .aload_n 0, 1, i_ald 1 0), (44, .getfield 21, 3, i_gfd LB 1 2), (47, .aload_n 0, 1, i_ald 1 0), (48, .getfield 28, 3, i_gfd LB 1 3), (51, .iload_n 1, 1, i_ild 1 1), (52, .aload_n 0, 1, i_ald 1 0), (53, .getfield 9, 3, i_gfd LB 1 0), (56, .bipush 8, 2, i_psh 2 (.int 8)), (58, .iaload, 1, i_iak LB 8 8), (59, .iconst 1, 1, i_psh 1 (.int 1)), (60, .if_icmp .ne 7, 3, i_cne 67), (63, .iconst 1, 1, i_psh 1 (.int 1)), (64, .goto 4, 3, i_gto 68), (67, .iconst 0, 1, i_psh 1 (.int 0)), (68, .invokevirtual 320, 3, i_cvv LB 4 7 mX3_choose), (71, .iconst 0, 1, i_psh 1 (.int 0)), (72, .istore_n 2, 1, i_kll [1] (i_ist 1 2)), (73, .iload_n 2, 1, i_ild 1 2), (74, .aload_n 0, 1, i_ald 1 0), (75, .getfield 59, 3, i_gfd LB 1 8), (78, .invokevirtual 324, 3, i_cvi LB 0 7 mX3_size), (81, .if_icmp .ge 40, 3, i_cge 121), (84, .aload_n 0, 1, i_ald 1 0), (85, .aload_n 0, 1, i_ald 1 0), (86, .getfield 59, 3, i_gfd LB 1 8), (89, .getfield 326, 3, i_gfd LB 7 0), (92, .iload_n 2, 1, i_ild 1 2), (93, .iaload, 1, i_iad LB), (94, .iload_n 2, 1, i_ild 1 2), (95, .aload_n 0, 1, i_ald 1 0), (96, .getfield 59, 3, i_gfd LB 1 8), (99, .getfield 267, 3, i_gfd LB 7 3), (102, .if_icmp .ge 8, 3, i_cge 110), (105, .bipush 10, 2, i_psh 2 (.int 10)), (107, .goto 5, 3, i_gto 112), (110, .bipush 11, 2, i_psh 2 (.int 11)), (112, .invokevirtual 329, 3, i_cvv LB 2 1 mX2_run), (115, .iinc 2 1, 3, i_inc 2 1), (118, .goto (-45), 3, i_kll [1] (i_gto 73)), (121, .aload_n 0, 1, i_ald 1 0), (122, .getfield 15, 3, i_gfd LB 1 1), (125, .bipush 10, 2, i_psh 2 (.int 10)), (127, .dup2, 1, i_du2), (128, .iaload, 1, i_iak LB 10 10), (129, .aload_n 0, 1, i_ald 1 0), (130, .getfield 59, 3, i_gfd LB 1 8), (133, .getfield 270, 3, i_gfd LB 7 4), (136, .iadd, 1, i_bin (fun x y => (x + y))), (137, .iastore, 1, i_isk LB 10 10), (138, .aload_n 0, 1, i_ald 1 0), (139, .invokevirtual 332, 3, i_cvv LB 0 1 mX2_restStopped), (142, .return_, 1, i_vrt)]
noncomputable def mX2_takeTurn : gF := g_m PX2_takeTurn 3
set_option maxRecDepth 20000 in
theorem dtX2_takeTurn : gDts PX2_takeTurn := ⟨dt_ald, dt_gfd, dt_gfd, dt_ild, dt_du2, dt_lad, dt_psh, dt_psh, dt_ald, dt_ild, dt_cvi, dt_csi, dt_dvr, dt_i2l, dt_lbn, dt_las, dt_ald, dt_gfd, dt_gfd, dt_ild, dt_du2, dt_iad, dt_psh, dt_bin, dt_ias, dt_ald, dt_gfd, dt_ald, dt_gfd, dt_ald, dt_gfd, dt_ild, dt_ald, dt_gfd, dt_psh, dt_iak, dt_psh, dt_cne, dt_psh, dt_gto, dt_psh, dt_cvv, dt_psh, dt_kll dt_ist, dt_ild, dt_ald, dt_gfd, dt_cvi, dt_cge, dt_ald, dt_ald, dt_gfd, dt_gfd, dt_ild, dt_iad, dt_ild, dt_ald, dt_gfd, dt_gfd, dt_cge, dt_psh, dt_gto, dt_psh, dt_cvv, dt_inc, dt_kll dt_gto, dt_ald, dt_gfd, dt_psh, dt_du2, dt_iak, dt_ald, dt_gfd, dt_gfd, dt_bin, dt_isk, dt_ald, dt_cvv, dt_vrt, trivial⟩
set_option maxRecDepth 20000 in
theorem dcX2_takeTurn : gDec MX2_takeTurn PX2_takeTurn := by unfold gDec PX2_takeTurn; decide +kernel
set_option maxRecDepth 20000 in
theorem okX2_takeTurn (l : Launch) (D : va_G) (τ : ClassId × ClassId × ClassId × ClassId) (ad : Nat → Nat) : gOks (D, τ, LB, ad) l MX2_takeTurn PX2_takeTurn := ⟨fun d => ok_aload_n d rfl, fun d => ok_getfield (ci := 1) (f := 4) (N := 14) (C := RX2) (T := TX2) d rfl inX2 (by decide) q327, fun d => ok_getfield (ci := 4) (f := 0) (N := 4) (C := RX7) (T := TX7) d rfl inX7 (by decide) q232, fun d => ok_iload_n d rfl, fun d => ok_dup2 d, fun d => ok_laload d, fun d => ok_ldcw d q696, fun d => ok_iconst d (by decide), fun d => ok_aload_n d rfl, fun d => ok_iload_n d rfl, fun d => ok_cvi (ok_callV (M' := MX2_weightOf) (ci := 1) (C := RX2) (T := TX2) (N := 14) d (tX2_weightOf l D τ ad) rfl q697 q698 q699 q142 q700 (by decide +kernel) (by decide)), fun d => ok_csi (ok_callS (M' := MJ9_max_7cf53) d (tJ9_max_7cf53 l _) q510 q511 q154 q512 (by decide +kernel) (by decide)), fun d => ok_idiv d, fun d => ok_i2l d, fun d => ok_ladd d, fun d => ok_lastore d, fun d => ok_aload_n d rfl, fun d => ok_getfield (ci := 1) (f := 4) (N := 14) (C := RX2) (T := TX2) d rfl inX2 (by decide) q327, fun d => ok_getfield (ci := 4) (f := 1) (N := 4) (C := RX7) (T := TX7) d rfl inX7 (by decide) q235, fun d => ok_iload_n d rfl, fun d => ok_dup2 d, fun d => ok_iaload d, fun d => ok_iconst d (by decide), fun d => ok_iadd d, fun d => ok_iastore d, fun d => ok_aload_n d rfl, fun d => ok_getfield (ci := 1) (f := 8) (N := 14) (C := RX2) (T := TX2) d rfl inX2 (by decide) q335, fun d => ok_aload_n d rfl, fun d => ok_getfield (ci := 1) (f := 2) (N := 14) (C := RX2) (T := TX2) d rfl inX2 (by decide) q322, fun d => ok_aload_n d rfl, fun d => ok_getfield (ci := 1) (f := 3) (N := 14) (C := RX2) (T := TX2) d rfl inX2 (by decide) q324, fun d => ok_iload_n d rfl, fun d => ok_aload_n d rfl, fun d => ok_getfield (ci := 1) (f := 0) (N := 14) (C := RX2) (T := TX2) d rfl inX2 (by decide) q315, fun d => ok_bipush d (by decide), fun d => ok_iak (ok_iaload d) (by decide), fun d => ok_iconst d (by decide), fun d => ok_icmpne d (by decide), fun d => ok_iconst d (by decide), fun d => ok_goto d (by decide), fun d => ok_iconst d (by decide), fun d => ok_cvv (ok_callV (M' := MX3_choose) (ci := 7) (C := RX3) (T := TX3) (N := 6) d (tX3_choose l D τ ad) rfl q701 q702 q703 q148 q704 (by decide +kernel) (by decide)), fun d => ok_iconst d (by decide), fun d => ok_kll (ok_istore_n d rfl), fun d => ok_iload_n d rfl, fun d => ok_aload_n d rfl, fun d => ok_getfield (ci := 1) (f := 8) (N := 14) (C := RX2) (T := TX2) d rfl inX2 (by decide) q335, fun d => ok_cvi (ok_callV (M' := MX3_size) (ci := 7) (C := RX3) (T := TX3) (N := 6) d (tX3_size l D τ ad) rfl q723 q724 q725 q148 q726 (by decide +kernel) (by decide)), fun d => ok_icmpge d (by decide), fun d => ok_aload_n d rfl, fun d => ok_aload_n d rfl, fun d => ok_getfield (ci := 1) (f := 8) (N := 14) (C := RX2) (T := TX2) d rfl inX2 (by decide) q335, fun d => ok_getfield (ci := 7) (f := 0) (N := 6) (C := RX3) (T := TX3) d rfl inX3 (by decide) q292, fun d => ok_iload_n d rfl, fun d => ok_iaload d, fun d => ok_iload_n d rfl, fun d => ok_aload_n d rfl, fun d => ok_getfield (ci := 1) (f := 8) (N := 14) (C := RX2) (T := TX2) d rfl inX2 (by decide) q335, fun d => ok_getfield (ci := 7) (f := 3) (N := 6) (C := RX3) (T := TX3) d rfl inX3 (by decide) q296, fun d => ok_icmpge d (by decide), fun d => ok_bipush d (by decide), fun d => ok_goto d (by decide), fun d => ok_bipush d (by decide), fun d => ok_cvv (ok_callV (M' := MX2_run) (ci := 1) (C := RX2) (T := TX2) (N := 14) d (tX2_run l D τ ad) rfl q727 q729 q13 q142 q730 (by decide +kernel) (by decide)), fun d => ok_iinc d (by decide), fun d => ok_kll (ok_goto d (by decide)), fun d => ok_aload_n d rfl, fun d => ok_getfield (ci := 1) (f := 1) (N := 14) (C := RX2) (T := TX2) d rfl inX2 (by decide) q318, fun d => ok_bipush d (by decide), fun d => ok_dup2 d, fun d => ok_iak (ok_iaload d) (by decide), fun d => ok_aload_n d rfl, fun d => ok_getfield (ci := 1) (f := 8) (N := 14) (C := RX2) (T := TX2) d rfl inX2 (by decide) q335, fun d => ok_getfield (ci := 7) (f := 4) (N := 6) (C := RX3) (T := TX3) d rfl inX3 (by decide) q298, fun d => ok_iadd d, fun d => ok_isk (ok_iastore d) (by decide), fun d => ok_aload_n d rfl, fun d => ok_cvv (ok_callV (M' := MX2_restStopped) (ci := 1) (C := RX2) (T := TX2) (N := 14) d (tX2_restStopped l D τ ad) rfl q731 q733 q14 q142 q734 (by decide +kernel) (by decide)), fun d => ok_vreturn d rfl, trivial⟩
theorem tX2_takeTurn (l : Launch) (D : va_G) (τ : ClassId × ClassId × ClassId × ClassId) (ad : Nat → Nat) : ∀ as μ r, mX2_takeTurn as μ = some r → gMt (D, τ, LB, ad) l yX2_takeTurn MX2_takeTurn as μ r := fun _ _ _ h => gMt_of (plainFor_of_name (by decide +kernel)) rfl dcX2_takeTurn (okX2_takeTurn l D τ ad) h
/-! GangMatrix$Jobs.cellsIn(I)I (LB) -/
abbrev MX4_cellsIn : gMi := (cX4_cellsIn, 4, RX4, some .int, 3)
noncomputable def PX4_cellsIn : gP := [(0, .iconst 0, 1, i_psh 1 (.int 0)), (1, .istore_n 2, 1, i_ist 1 2), (2, .iconst 0, 1, i_psh 1 (.int 0)), (3, .istore_n 3, 1, i_ist 1 3), (4, .iload_n 3, 1, i_ild 1 3), (5, .aload_n 0, 1, i_ald 1 0), (6, .getfield 20, 3, i_gfd LB 2 2), (9, .if_icmp .ge 30, 3, i_cge 39), (12, .aload_n 0, 1, i_ald 1 0), (13, .getfield 13, 3, i_gfd LB 2 0), (16, .bipush 7, 2, i_psh 2 (.int 7)), (18, .aaload, 1, i_aak LB 7 7 12), (19, .iload_n 3, 1, i_ild 1 3), (20, .iaload, 1, i_iad LB), (21, .iload_n 1, 1, i_ild 1 1), (22, .if_icmp .ne 11, 3, i_cne 33), (25, .iload_n 2, 1, i_ild 1 2), (26, .aload_n 0, 1, i_ald 1 0), (27, .iload_n 3, 1, i_ild 1 3), (28, .invokevirtual 44, 3, i_cvi LB 1 2 mX4_cells), (31, .ior, 1, i_bin (fun x y => (x ||| y))), (32, .istore_n 2, 1, i_ist 1 2), (33, .iinc 3 1, 3, i_inc 3 1), (36, .goto (-32), 3, i_gto 4), (39, .iload_n 2, 1, i_ild 1 2), (40, .ireturn, 1, i_irt)]
noncomputable def mX4_cellsIn : gF := g_m PX4_cellsIn 4
set_option maxRecDepth 20000 in
theorem dtX4_cellsIn : gDts PX4_cellsIn := ⟨dt_psh, dt_ist, dt_psh, dt_ist, dt_ild, dt_ald, dt_gfd, dt_cge, dt_ald, dt_gfd, dt_psh, dt_aak, dt_ild, dt_iad, dt_ild, dt_cne, dt_ild, dt_ald, dt_ild, dt_cvi, dt_bin, dt_ist, dt_inc, dt_gto, dt_ild, dt_irt, trivial⟩
set_option maxRecDepth 20000 in
theorem dcX4_cellsIn : gDec MX4_cellsIn PX4_cellsIn := by unfold gDec PX4_cellsIn; decide +kernel
set_option maxRecDepth 20000 in
theorem okX4_cellsIn (l : Launch) (D : va_G) (τ : ClassId × ClassId × ClassId × ClassId) (ad : Nat → Nat) : gOks (D, τ, LB, ad) l MX4_cellsIn PX4_cellsIn := ⟨fun d => ok_iconst d (by decide), fun d => ok_istore_n d rfl, fun d => ok_iconst d (by decide), fun d => ok_istore_n d rfl, fun d => ok_iload_n d rfl, fun d => ok_aload_n d rfl, fun d => ok_getfield (ci := 2) (f := 2) (N := 4) (C := RX4) (T := TX4) d rfl inX4 (by decide) q184, fun d => ok_icmpge d (by decide), fun d => ok_aload_n d rfl, fun d => ok_getfield (ci := 2) (f := 0) (N := 4) (C := RX4) (T := TX4) d rfl inX4 (by decide) q177, fun d => ok_bipush d (by decide), fun d => ok_aak (ok_aaload d) (by decide), fun d => ok_iload_n d rfl, fun d => ok_iaload d, fun d => ok_iload_n d rfl, fun d => ok_icmpne d (by decide), fun d => ok_iload_n d rfl, fun d => ok_aload_n d rfl, fun d => ok_iload_n d rfl, fun d => ok_cvi (ok_callV (M' := MX4_cells) (ci := 2) (C := RX4) (T := TX4) (N := 4) d (tX4_cells l D τ ad) rfl q744 q715 q716 q143 q717 (by decide +kernel) (by decide)), fun d => ok_ior d, fun d => ok_istore_n d rfl, fun d => ok_iinc d (by decide), fun d => ok_goto d (by decide), fun d => ok_iload_n d rfl, fun d => ok_ireturn d rfl, trivial⟩
theorem tX4_cellsIn (l : Launch) (D : va_G) (τ : ClassId × ClassId × ClassId × ClassId) (ad : Nat → Nat) : ∀ as μ r, mX4_cellsIn as μ = some r → gMt (D, τ, LB, ad) l yX4_cellsIn MX4_cellsIn as μ r := fun _ _ _ h => gMt_of (plainFor_of_name (by decide +kernel)) rfl dcX4_cellsIn (okX4_cellsIn l D τ ad) h
/-! GangMatrix$Board.countColumns(I)V (LB) -/
abbrev MX2_countColumns : gMi := (cX2_countColumns, 5, RX2, none, 4)
noncomputable def PX2_countColumns : gP := [(0, .aload_n 0, 1, i_ald 1 0), (1, .getfield 35, 3, i_gfd LB 1 4), (4, .iload_n 1, 1, i_ild 1 1), (5, .invokevirtual 234, 3, i_cvi LB 1 4 mX7_has), (8, .ifCond .eq 15, 3, i_feq 23), (11, .aload_n 0, 1, i_ald 1 0), (12, .getfield 35, 3, i_gfd LB 1 4), (15, .getfield 111, 3, i_gfd LB 4 2), (18, .iload_n 1, 1, i_ild 1 1), (19, .iaload, 1, i_iad LB), (20, .goto 4, 3, i_gto 24), (23, .iconst 0, 1, i_psh 1 (.int 0)), (24, .istore_n 2, 1, i_ist 1 2), (25, .aload_n 0, 1, i_ald 1 0), (26, .getfield 35, 3, i_gfd LB 1 4), (29, .iload_n 1, 1, i_ild 1 1), (30, .invokevirtual 234, 3, i_cvi LB 1 4 mX7_has), (33, .ifCond .eq 14, 3, i_feq 47), (36, .aload_n 0, 1, i_ald 1 0), (37, .getfield 21, 3, i_gfd LB 1 2), (40, .iload_n 1, 1, i_ild 1 1), (41, .invokevirtual 341, 3, i_cvi LB 1 2 mX4_cellsIn), (44, .goto 4, 3, i_gto 48), (47, .iconst 0, 1, i_psh 1 (.int 0)), (48, .istore_n 3, 1, i_ist 1 3), (49, .aload_n 0, 1, i_ald 1 0), (50, .invokevirtual 107, 3, i_cvi LB 0 1 mX2_ups), (53, .aload_n 0, 1, i_ald 1 0), (54, .getfield 59, 3, i_gfd LB 1 8), (57, .getfield 273, 3, i_gfd LB 7 5), (60, .iconst (-1), 1, i_psh 1 (.int (-1))), (61, .ixor, 1, i_bin (fun x y => (x ^^^ y))), (62, .iand, 1, i_bin (fun x y => (x &&& y))), (63, .istore 4, 2, i_ist 2 4), (65, .aload_n 0, 1, i_ald 1 0), (66, .getfield 15, 3, i_gfd LB 1 1), (69, .iconst 0, 1, i_psh 1 (.int 0)), (70, .dup2, 1, i_du2), (71, .iaload, 1, i_iak LB 0 0), (72, .aload_n 0, 1, i_ald 1 0), (73, .getfield 59, 3, i_gfd LB 1 8), (76, .getfield 273, 3, i_gfd LB 7 5), (79, .invokestatic 276, 3, i_csi 1 mJ6_bitCount_0f7a4), (82, .iadd, 1, i_bin (fun x y => (x + y))), (83, .iastore, 1, i_isk LB 0 0), (84, .aload_n 0, 1, i_ald 1 0), (85, .getfield 15, 3, i_gfd LB 1 1), (88, .iconst 1, 1, i_psh 1 (.int 1)), (89, .dup2, 1, i_du2), (90, .iaload, 1, i_iak LB 1 1), (91, .iload 4, 2, i_ild 2 4), (93, .iload_n 3, 1, i_ild 1 3), (94, .iand, 1, i_bin (fun x y => (x &&& y))), (95, .invokestatic 276, 3, i_csi 1 mJ6_bitCount_0f7a4), (98, .iadd, 1, i_bin (fun x y => (x + y))), (99, .iastore, 1, i_isk LB 1 1), (100, .aload_n 0, 1, i_ald 1 0), (101, .getfield 15, 3, i_gfd LB 1 1), (104, .iconst 2, 1, i_psh 1 (.int 2)), (105, .dup2, 1, i_du2), (106, .iaload, 1, i_iak LB 2 2), (107, .iload 4, 2, i_ild 2 4), (109, .iload_n 2, 1, i_ild 1 2), (110, .iand, 1, i_bin (fun x y => (x &&& y))), (111, .iload_n 3, 1, i_ild 1 3), (112, .iconst (-1), 1, i_psh 1 (.int (-1))), (113, .ixor, 1, i_bin (fun x y => (x ^^^ y))), (114, .iand, 1, i_bin (fun x y => (x &&& y))), (115, .invokestatic 276, 3, i_csi 1 mJ6_bitCount_0f7a4), (118, .iadd, 1, i_bin (fun x y => (x + y))), (119, .iastore, 1, i_isk LB 2 2), (120, .aload_n 0, 1, i_ald 1 0), (121, .getfield 15, 3, i_gfd LB 1 1), (124, .iconst 3, 1, i_psh 1 (.int 3)), (125, .dup2, 1, i_du2), (126, .iaload, 1, i_iak LB 3 3), (127, .iload 4, 2, i_ild 2 4), (129, .iload_n 2, 1, i_ild 1 2), (130, .iconst (-1), 1, i_psh 1 (.int (-1))), (131, .ixor, 1, i_bin (fun x y => (x ^^^ y))), (132, .iand, 1, i_bin (fun x y => (x &&& y))), (133, .invokestatic 276, 3, i_csi 1 mJ6_bitCount_0f7a4), (136, .iadd, 1, i_bin (fun x y => (x + y))), (137, .iastore, 1, i_isk LB 3 3), (138, .aload_n 0, 1, i_ald 1 0), (139, .getfield 15, 3, i_gfd LB 1 1), (142, .iconst 4, 1, i_psh 1 (.int 4)), (143, .dup2, 1, i_du2), (144, .iaload, 1, i_iak LB 4 4), (145, .aload_n 0, 1, i_ald 1 0), (146, .getfield 100, 3, i_gfd LB 1 13), (149, .invokestatic 276, 3, i_csi 1 mJ6_bitCount_0f7a4), (152, .iadd, 1, i_bin (fun x y => (x + y))), (153, .iastore, 1, i_isk LB 4 4), (154, .return_, 1, i_vrt)]
noncomputable def mX2_countColumns : gF := g_m PX2_countColumns 5
set_option maxRecDepth 20000 in
theorem dtX2_countColumns : gDts PX2_countColumns := ⟨dt_ald, dt_gfd, dt_ild, dt_cvi, dt_feq, dt_ald, dt_gfd, dt_gfd, dt_ild, dt_iad, dt_gto, dt_psh, dt_ist, dt_ald, dt_gfd, dt_ild, dt_cvi, dt_feq, dt_ald, dt_gfd, dt_ild, dt_cvi, dt_gto, dt_psh, dt_ist, dt_ald, dt_cvi, dt_ald, dt_gfd, dt_gfd, dt_psh, dt_bin, dt_bin, dt_ist, dt_ald, dt_gfd, dt_psh, dt_du2, dt_iak, dt_ald, dt_gfd, dt_gfd, dt_csi, dt_bin, dt_isk, dt_ald, dt_gfd, dt_psh, dt_du2, dt_iak, dt_ild, dt_ild, dt_bin, dt_csi, dt_bin, dt_isk, dt_ald, dt_gfd, dt_psh, dt_du2, dt_iak, dt_ild, dt_ild, dt_bin, dt_ild, dt_psh, dt_bin, dt_bin, dt_csi, dt_bin, dt_isk, dt_ald, dt_gfd, dt_psh, dt_du2, dt_iak, dt_ild, dt_ild, dt_psh, dt_bin, dt_bin, dt_csi, dt_bin, dt_isk, dt_ald, dt_gfd, dt_psh, dt_du2, dt_iak, dt_ald, dt_gfd, dt_csi, dt_bin, dt_isk, dt_vrt, trivial⟩
set_option maxRecDepth 20000 in
theorem dcX2_countColumns : gDec MX2_countColumns PX2_countColumns := by unfold gDec PX2_countColumns; decide +kernel
set_option maxRecDepth 20000 in
theorem okX2_countColumns (l : Launch) (D : va_G) (τ : ClassId × ClassId × ClassId × ClassId) (ad : Nat → Nat) : gOks (D, τ, LB, ad) l MX2_countColumns PX2_countColumns := ⟨fun d => ok_aload_n d rfl, fun d => ok_getfield (ci := 1) (f := 4) (N := 14) (C := RX2) (T := TX2) d rfl inX2 (by decide) q327, fun d => ok_iload_n d rfl, fun d => ok_cvi (ok_callV (M' := MX7_has) (ci := 4) (C := RX7) (T := TX7) (N := 4) d (tX7_has l D τ ad) rfl q545 q546 q547 q145 q548 (by decide +kernel) (by decide)), fun d => ok_ifeq d (by decide), fun d => ok_aload_n d rfl, fun d => ok_getfield (ci := 1) (f := 4) (N := 14) (C := RX2) (T := TX2) d rfl inX2 (by decide) q327, fun d => ok_getfield (ci := 4) (f := 2) (N := 4) (C := RX7) (T := TX7) d rfl inX7 (by decide) q237, fun d => ok_iload_n d rfl, fun d => ok_iaload d, fun d => ok_goto d (by decide), fun d => ok_iconst d (by decide), fun d => ok_istore_n d rfl, fun d => ok_aload_n d rfl, fun d => ok_getfield (ci := 1) (f := 4) (N := 14) (C := RX2) (T := TX2) d rfl inX2 (by decide) q327, fun d => ok_iload_n d rfl, fun d => ok_cvi (ok_callV (M' := MX7_has) (ci := 4) (C := RX7) (T := TX7) (N := 4) d (tX7_has l D τ ad) rfl q545 q546 q547 q145 q548 (by decide +kernel) (by decide)), fun d => ok_ifeq d (by decide), fun d => ok_aload_n d rfl, fun d => ok_getfield (ci := 1) (f := 2) (N := 14) (C := RX2) (T := TX2) d rfl inX2 (by decide) q322, fun d => ok_iload_n d rfl, fun d => ok_cvi (ok_callV (M' := MX4_cellsIn) (ci := 2) (C := RX4) (T := TX4) (N := 4) d (tX4_cellsIn l D τ ad) rfl q740 q741 q742 q143 q743 (by decide +kernel) (by decide)), fun d => ok_goto d (by decide), fun d => ok_iconst d (by decide), fun d => ok_istore_n d rfl, fun d => ok_aload_n d rfl, fun d => ok_cvi (ok_callV (M' := MX2_ups) (ci := 1) (C := RX2) (T := TX2) (N := 14) d (tX2_ups l D τ ad) rfl q465 q466 q467 q142 q468 (by decide +kernel) (by decide)), fun d => ok_aload_n d rfl, fun d => ok_getfield (ci := 1) (f := 8) (N := 14) (C := RX2) (T := TX2) d rfl inX2 (by decide) q335, fun d => ok_getfield (ci := 7) (f := 5) (N := 6) (C := RX3) (T := TX3) d rfl inX3 (by decide) q301, fun d => ok_iconst d (by decide), fun d => ok_ixor d, fun d => ok_iand d, fun d => ok_istore d, fun d => ok_aload_n d rfl, fun d => ok_getfield (ci := 1) (f := 1) (N := 14) (C := RX2) (T := TX2) d rfl inX2 (by decide) q318, fun d => ok_iconst d (by decide), fun d => ok_dup2 d, fun d => ok_iak (ok_iaload d) (by decide), fun d => ok_aload_n d rfl, fun d => ok_getfield (ci := 1) (f := 8) (N := 14) (C := RX2) (T := TX2) d rfl inX2 (by decide) q335, fun d => ok_getfield (ci := 7) (f := 5) (N := 6) (C := RX3) (T := TX3) d rfl inX3 (by decide) q301, fun d => ok_csi (ok_callS (M' := MJ6_bitCount_0f7a4) d (tJ6_bitCount_0f7a4 l _) q745 q497 q153 q498 (by decide +kernel) (by decide)), fun d => ok_iadd d, fun d => ok_isk (ok_iastore d) (by decide), fun d => ok_aload_n d rfl, fun d => ok_getfield (ci := 1) (f := 1) (N := 14) (C := RX2) (T := TX2) d rfl inX2 (by decide) q318, fun d => ok_iconst d (by decide), fun d => ok_dup2 d, fun d => ok_iak (ok_iaload d) (by decide), fun d => ok_iload d, fun d => ok_iload_n d rfl, fun d => ok_iand d, fun d => ok_csi (ok_callS (M' := MJ6_bitCount_0f7a4) d (tJ6_bitCount_0f7a4 l _) q745 q497 q153 q498 (by decide +kernel) (by decide)), fun d => ok_iadd d, fun d => ok_isk (ok_iastore d) (by decide), fun d => ok_aload_n d rfl, fun d => ok_getfield (ci := 1) (f := 1) (N := 14) (C := RX2) (T := TX2) d rfl inX2 (by decide) q318, fun d => ok_iconst d (by decide), fun d => ok_dup2 d, fun d => ok_iak (ok_iaload d) (by decide), fun d => ok_iload d, fun d => ok_iload_n d rfl, fun d => ok_iand d, fun d => ok_iload_n d rfl, fun d => ok_iconst d (by decide), fun d => ok_ixor d, fun d => ok_iand d, fun d => ok_csi (ok_callS (M' := MJ6_bitCount_0f7a4) d (tJ6_bitCount_0f7a4 l _) q745 q497 q153 q498 (by decide +kernel) (by decide)), fun d => ok_iadd d, fun d => ok_isk (ok_iastore d) (by decide), fun d => ok_aload_n d rfl, fun d => ok_getfield (ci := 1) (f := 1) (N := 14) (C := RX2) (T := TX2) d rfl inX2 (by decide) q318, fun d => ok_iconst d (by decide), fun d => ok_dup2 d, fun d => ok_iak (ok_iaload d) (by decide), fun d => ok_iload d, fun d => ok_iload_n d rfl, fun d => ok_iconst d (by decide), fun d => ok_ixor d, fun d => ok_iand d, fun d => ok_csi (ok_callS (M' := MJ6_bitCount_0f7a4) d (tJ6_bitCount_0f7a4 l _) q745 q497 q153 q498 (by decide +kernel) (by decide)), fun d => ok_iadd d, fun d => ok_isk (ok_iastore d) (by decide), fun d => ok_aload_n d rfl, fun d => ok_getfield (ci := 1) (f := 1) (N := 14) (C := RX2) (T := TX2) d rfl inX2 (by decide) q318, fun d => ok_iconst d (by decide), fun d => ok_dup2 d, fun d => ok_iak (ok_iaload d) (by decide), fun d => ok_aload_n d rfl, fun d => ok_getfield (ci := 1) (f := 13) (N := 14) (C := RX2) (T := TX2) d rfl inX2 (by decide) q343, fun d => ok_csi (ok_callS (M' := MJ6_bitCount_0f7a4) d (tJ6_bitCount_0f7a4 l _) q745 q497 q153 q498 (by decide +kernel) (by decide)), fun d => ok_iadd d, fun d => ok_isk (ok_iastore d) (by decide), fun d => ok_vreturn d rfl, trivial⟩
theorem tX2_countColumns (l : Launch) (D : va_G) (τ : ClassId × ClassId × ClassId × ClassId) (ad : Nat → Nat) : ∀ as μ r, mX2_countColumns as μ = some r → gMt (D, τ, LB, ad) l yX2_countColumns MX2_countColumns as μ r := fun _ _ _ h => gMt_of (plainFor_of_name (by decide +kernel)) rfl dcX2_countColumns (okX2_countColumns l D τ ad) h
/-! GangMatrix$Board.endJobs()I (LB) -/
abbrev MX2_endJobs : gMi := (cX2_endJobs, 3, RX2, some .int, 4)
noncomputable def PX2_endJobs : gP := [(0, .iconst 0, 1, i_psh 1 (.int 0)), (1, .istore_n 1, 1, i_ist 1 1), (2, .iconst 0, 1, i_psh 1 (.int 0)), (3, .istore_n 2, 1, i_ist 1 2), (4, .iload_n 2, 1, i_ild 1 2), (5, .aload_n 0, 1, i_ald 1 0), (6, .getfield 21, 3, i_gfd LB 1 2), (9, .getfield 124, 3, i_gfd LB 2 2), (12, .if_icmp .ge 76, 3, i_cge 88), (15, .aload_n 0, 1, i_ald 1 0), (16, .getfield 21, 3, i_gfd LB 1 2), (19, .iload_n 2, 1, i_ild 1 2), (20, .invokevirtual 338, 3, i_cvi LB 1 2 mX4_isPlaced), (23, .ifCond .eq 59, 3, i_feq 82), (26, .aload_n 0, 1, i_ald 1 0), (27, .getfield 21, 3, i_gfd LB 1 2), (30, .getfield 130, 3, i_gfd LB 2 0), (33, .iconst 5, 1, i_psh 1 (.int 5)), (34, .aaload, 1, i_aak LB 5 5 10), (35, .iload_n 2, 1, i_ild 1 2), (36, .iaload, 1, i_iad LB), (37, .ifCond .ne 45, 3, i_fne 82), (40, .aload_n 0, 1, i_ald 1 0), (41, .iconst 3, 1, i_psh 1 (.int 3)), (42, .iload_n 2, 1, i_ild 1 2), (43, .invokevirtual 148, 3, i_cvv LB 2 1 mX2_note), (46, .aload_n 0, 1, i_ald 1 0), (47, .iload_n 2, 1, i_ild 1 2), (48, .invokevirtual 344, 3, i_cvv LB 1 1 mX2_takeOut), (51, .aload_n 0, 1, i_ald 1 0), (52, .getfield 21, 3, i_gfd LB 1 2), (55, .getfield 130, 3, i_gfd LB 2 0), (58, .iconst 4, 1, i_psh 1 (.int 4)), (59, .aaload, 1, i_aak LB 4 4 9), (60, .iload_n 2, 1, i_ild 1 2), (61, .iconst 3, 1, i_psh 1 (.int 3)), (62, .iastore, 1, i_ias LB), (63, .aload_n 0, 1, i_ald 1 0), (64, .getfield 21, 3, i_gfd LB 1 2), (67, .getfield 130, 3, i_gfd LB 2 0), (70, .bipush 15, 2, i_psh 2 (.int 15)), (72, .aaload, 1, i_aak LB 15 15 20), (73, .iload_n 2, 1, i_ild 1 2), (74, .aload_n 0, 1, i_ald 1 0), (75, .getfield 96, 3, i_gfd LB 1 12), (78, .iastore, 1, i_ias LB), (79, .iinc 1 1, 3, i_inc 1 1), (82, .iinc 2 1, 3, i_inc 2 1), (85, .goto (-81), 3, i_gto 4), (88, .aload_n 0, 1, i_ald 1 0), (89, .invokevirtual 347, 3, i_cvv LB 0 1 mX2_dropEmpty), (92, .iload_n 1, 1, i_ild 1 1), (93, .ireturn, 1, i_irt)]
noncomputable def mX2_endJobs : gF := g_m PX2_endJobs 3
set_option maxRecDepth 20000 in
theorem dtX2_endJobs : gDts PX2_endJobs := ⟨dt_psh, dt_ist, dt_psh, dt_ist, dt_ild, dt_ald, dt_gfd, dt_gfd, dt_cge, dt_ald, dt_gfd, dt_ild, dt_cvi, dt_feq, dt_ald, dt_gfd, dt_gfd, dt_psh, dt_aak, dt_ild, dt_iad, dt_fne, dt_ald, dt_psh, dt_ild, dt_cvv, dt_ald, dt_ild, dt_cvv, dt_ald, dt_gfd, dt_gfd, dt_psh, dt_aak, dt_ild, dt_psh, dt_ias, dt_ald, dt_gfd, dt_gfd, dt_psh, dt_aak, dt_ild, dt_ald, dt_gfd, dt_ias, dt_inc, dt_inc, dt_gto, dt_ald, dt_cvv, dt_ild, dt_irt, trivial⟩
set_option maxRecDepth 20000 in
theorem dcX2_endJobs : gDec MX2_endJobs PX2_endJobs := by unfold gDec PX2_endJobs; decide +kernel
set_option maxRecDepth 20000 in
theorem okX2_endJobs (l : Launch) (D : va_G) (τ : ClassId × ClassId × ClassId × ClassId) (ad : Nat → Nat) : gOks (D, τ, LB, ad) l MX2_endJobs PX2_endJobs := ⟨fun d => ok_iconst d (by decide), fun d => ok_istore_n d rfl, fun d => ok_iconst d (by decide), fun d => ok_istore_n d rfl, fun d => ok_iload_n d rfl, fun d => ok_aload_n d rfl, fun d => ok_getfield (ci := 1) (f := 2) (N := 14) (C := RX2) (T := TX2) d rfl inX2 (by decide) q322, fun d => ok_getfield (ci := 2) (f := 2) (N := 4) (C := RX4) (T := TX4) d rfl inX4 (by decide) q186, fun d => ok_icmpge d (by decide), fun d => ok_aload_n d rfl, fun d => ok_getfield (ci := 1) (f := 2) (N := 14) (C := RX2) (T := TX2) d rfl inX2 (by decide) q322, fun d => ok_iload_n d rfl, fun d => ok_cvi (ok_callV (M' := MX4_isPlaced) (ci := 2) (C := RX4) (T := TX4) (N := 4) d (tX4_isPlaced l D τ ad) rfl q735 q707 q708 q143 q709 (by decide +kernel) (by decide)), fun d => ok_ifeq d (by decide), fun d => ok_aload_n d rfl, fun d => ok_getfield (ci := 1) (f := 2) (N := 14) (C := RX2) (T := TX2) d rfl inX2 (by decide) q322, fun d => ok_getfield (ci := 2) (f := 0) (N := 4) (C := RX4) (T := TX4) d rfl inX4 (by decide) q180, fun d => ok_iconst d (by decide), fun d => ok_aak (ok_aaload d) (by decide), fun d => ok_iload_n d rfl, fun d => ok_iaload d, fun d => ok_ifne d (by decide), fun d => ok_aload_n d rfl, fun d => ok_iconst d (by decide), fun d => ok_iload_n d rfl, fun d => ok_cvv (ok_callV (M' := MX2_note) (ci := 1) (C := RX2) (T := TX2) (N := 14) d (tX2_note l D τ ad) rfl q554 q555 q556 q142 q557 (by decide +kernel) (by decide)), fun d => ok_aload_n d rfl, fun d => ok_iload_n d rfl, fun d => ok_cvv (ok_callV (M' := MX2_takeOut) (ci := 1) (C := RX2) (T := TX2) (N := 14) d (tX2_takeOut l D τ ad) rfl q629 q630 q631 q142 q632 (by decide +kernel) (by decide)), fun d => ok_aload_n d rfl, fun d => ok_getfield (ci := 1) (f := 2) (N := 14) (C := RX2) (T := TX2) d rfl inX2 (by decide) q322, fun d => ok_getfield (ci := 2) (f := 0) (N := 4) (C := RX4) (T := TX4) d rfl inX4 (by decide) q180, fun d => ok_iconst d (by decide), fun d => ok_aak (ok_aaload d) (by decide), fun d => ok_iload_n d rfl, fun d => ok_iconst d (by decide), fun d => ok_iastore d, fun d => ok_aload_n d rfl, fun d => ok_getfield (ci := 1) (f := 2) (N := 14) (C := RX2) (T := TX2) d rfl inX2 (by decide) q322, fun d => ok_getfield (ci := 2) (f := 0) (N := 4) (C := RX4) (T := TX4) d rfl inX4 (by decide) q180, fun d => ok_bipush d (by decide), fun d => ok_aak (ok_aaload d) (by decide), fun d => ok_iload_n d rfl, fun d => ok_aload_n d rfl, fun d => ok_getfield (ci := 1) (f := 12) (N := 14) (C := RX2) (T := TX2) d rfl inX2 (by decide) q341, fun d => ok_iastore d, fun d => ok_iinc d (by decide), fun d => ok_iinc d (by decide), fun d => ok_goto d (by decide), fun d => ok_aload_n d rfl, fun d => ok_cvv (ok_callV (M' := MX2_dropEmpty) (ci := 1) (C := RX2) (T := TX2) (N := 14) d (tX2_dropEmpty l D τ ad) rfl q633 q634 q635 q142 q636 (by decide +kernel) (by decide)), fun d => ok_iload_n d rfl, fun d => ok_ireturn d rfl, trivial⟩
theorem tX2_endJobs (l : Launch) (D : va_G) (τ : ClassId × ClassId × ClassId × ClassId) (ad : Nat → Nat) : ∀ as μ r, mX2_endJobs as μ = some r → gMt (D, τ, LB, ad) l yX2_endJobs MX2_endJobs as μ r := fun _ _ _ h => gMt_of (plainFor_of_name (by decide +kernel)) rfl dcX2_endJobs (okX2_endJobs l D τ ad) h
/-! GangMatrix$Board.isOver(I)Z (LB) -/
abbrev MX2_isOver : gMi := (cX2_isOver, 2, RX2, some .boolean, 2)
noncomputable def PX2_isOver : gP := [(0, .aload_n 0, 1, i_ald 1 0), (1, .getfield 21, 3, i_gfd LB 1 2), (4, .iload_n 1, 1, i_ild 1 1), (5, .invokevirtual 353, 3, i_cvi LB 1 2 mX4_has), (8, .ifCond .eq 19, 3, i_feq 27), (11, .aload_n 0, 1, i_ald 1 0), (12, .getfield 21, 3, i_gfd LB 1 2), (15, .iload_n 1, 1, i_ild 1 1), (16, .invokevirtual 141, 3, i_cvi LB 1 2 mX4_state), (19, .iconst 3, 1, i_psh 1 (.int 3)), (20, .if_icmp .ne 7, 3, i_cne 27), (23, .iconst 1, 1, i_psh 1 (.int 1)), (24, .goto 4, 3, i_gto 28), (27, .iconst 0, 1, i_psh 1 (.int 0)), (28, .ireturn, 1, i_zrt)]
noncomputable def mX2_isOver : gF := g_m PX2_isOver 2
set_option maxRecDepth 20000 in
theorem dtX2_isOver : gDts PX2_isOver := ⟨dt_ald, dt_gfd, dt_ild, dt_cvi, dt_feq, dt_ald, dt_gfd, dt_ild, dt_cvi, dt_psh, dt_cne, dt_psh, dt_gto, dt_psh, dt_zrt, trivial⟩
set_option maxRecDepth 20000 in
theorem dcX2_isOver : gDec MX2_isOver PX2_isOver := by unfold gDec PX2_isOver; decide +kernel
set_option maxRecDepth 20000 in
theorem okX2_isOver (l : Launch) (D : va_G) (τ : ClassId × ClassId × ClassId × ClassId) (ad : Nat → Nat) : gOks (D, τ, LB, ad) l MX2_isOver PX2_isOver := ⟨fun d => ok_aload_n d rfl, fun d => ok_getfield (ci := 1) (f := 2) (N := 14) (C := RX2) (T := TX2) d rfl inX2 (by decide) q322, fun d => ok_iload_n d rfl, fun d => ok_cvi (ok_callV (M' := MX4_has) (ci := 2) (C := RX4) (T := TX4) (N := 4) d (tX4_has l D τ ad) rfl q758 q586 q587 q143 q588 (by decide +kernel) (by decide)), fun d => ok_ifeq d (by decide), fun d => ok_aload_n d rfl, fun d => ok_getfield (ci := 1) (f := 2) (N := 14) (C := RX2) (T := TX2) d rfl inX2 (by decide) q322, fun d => ok_iload_n d rfl, fun d => ok_cvi (ok_callV (M' := MX4_state) (ci := 2) (C := RX4) (T := TX4) (N := 4) d (tX4_state l D τ ad) rfl q598 q599 q600 q143 q601 (by decide +kernel) (by decide)), fun d => ok_iconst d (by decide), fun d => ok_icmpne d (by decide), fun d => ok_iconst d (by decide), fun d => ok_goto d (by decide), fun d => ok_iconst d (by decide), fun d => ok_zreturn d rfl, trivial⟩
theorem tX2_isOver (l : Launch) (D : va_G) (τ : ClassId × ClassId × ClassId × ClassId) (ad : Nat → Nat) : ∀ as μ r, mX2_isOver as μ = some r → gMt (D, τ, LB, ad) l yX2_isOver MX2_isOver as μ r := fun _ _ _ h => gMt_of (plainFor_of_name (by decide +kernel)) rfl dcX2_isOver (okX2_isOver l D τ ad) h
/-! GangMatrix$Board.wakeHeld()V (LB) -/
abbrev MX2_wakeHeld : gMi := (cX2_wakeHeld, 2, RX2, none, 3)
noncomputable def PX2_wakeHeld : gP := [(0, .iconst 0, 1, i_psh 1 (.int 0)), (1, .istore_n 1, 1, i_ist 1 1), (2, .iload_n 1, 1, i_ild 1 1), (3, .aload_n 0, 1, i_ald 1 0), (4, .getfield 21, 3, i_gfd LB 1 2), (7, .getfield 124, 3, i_gfd LB 2 2), (10, .if_icmp .ge 46, 3, i_cge 56), (13, .aload_n 0, 1, i_ald 1 0), (14, .getfield 21, 3, i_gfd LB 1 2), (17, .iload_n 1, 1, i_ild 1 1), (18, .invokevirtual 141, 3, i_cvi LB 1 2 mX4_state), (21, .ifCond .ne 29, 3, i_fne 50), (24, .aload_n 0, 1, i_ald 1 0), (25, .aload_n 0, 1, i_ald 1 0), (26, .getfield 21, 3, i_gfd LB 1 2), (29, .getfield 130, 3, i_gfd LB 2 0), (32, .iconst 3, 1, i_psh 1 (.int 3)), (33, .aaload, 1, i_aak LB 3 3 8), (34, .iload_n 1, 1, i_ild 1 1), (35, .iaload, 1, i_iad LB), (36, .invokevirtual 350, 3, i_cvi LB 1 1 mX2_isOver), (39, .ifCond .eq 11, 3, i_feq 50), (42, .aload_n 0, 1, i_ald 1 0), (43, .getfield 21, 3, i_gfd LB 1 2), (46, .iload_n 1, 1, i_ild 1 1), (47, .invokevirtual 144, 3, i_cvv LB 1 2 mX4_toLine), (50, .iinc 1 1, 3, i_inc 1 1), (53, .goto (-51), 3, i_gto 2), (56, .return_, 1, i_vrt)]
noncomputable def mX2_wakeHeld : gF := g_m PX2_wakeHeld 2
set_option maxRecDepth 20000 in
theorem dtX2_wakeHeld : gDts PX2_wakeHeld := ⟨dt_psh, dt_ist, dt_ild, dt_ald, dt_gfd, dt_gfd, dt_cge, dt_ald, dt_gfd, dt_ild, dt_cvi, dt_fne, dt_ald, dt_ald, dt_gfd, dt_gfd, dt_psh, dt_aak, dt_ild, dt_iad, dt_cvi, dt_feq, dt_ald, dt_gfd, dt_ild, dt_cvv, dt_inc, dt_gto, dt_vrt, trivial⟩
set_option maxRecDepth 20000 in
theorem dcX2_wakeHeld : gDec MX2_wakeHeld PX2_wakeHeld := by unfold gDec PX2_wakeHeld; decide +kernel
set_option maxRecDepth 20000 in
theorem okX2_wakeHeld (l : Launch) (D : va_G) (τ : ClassId × ClassId × ClassId × ClassId) (ad : Nat → Nat) : gOks (D, τ, LB, ad) l MX2_wakeHeld PX2_wakeHeld := ⟨fun d => ok_iconst d (by decide), fun d => ok_istore_n d rfl, fun d => ok_iload_n d rfl, fun d => ok_aload_n d rfl, fun d => ok_getfield (ci := 1) (f := 2) (N := 14) (C := RX2) (T := TX2) d rfl inX2 (by decide) q322, fun d => ok_getfield (ci := 2) (f := 2) (N := 4) (C := RX4) (T := TX4) d rfl inX4 (by decide) q186, fun d => ok_icmpge d (by decide), fun d => ok_aload_n d rfl, fun d => ok_getfield (ci := 1) (f := 2) (N := 14) (C := RX2) (T := TX2) d rfl inX2 (by decide) q322, fun d => ok_iload_n d rfl, fun d => ok_cvi (ok_callV (M' := MX4_state) (ci := 2) (C := RX4) (T := TX4) (N := 4) d (tX4_state l D τ ad) rfl q598 q599 q600 q143 q601 (by decide +kernel) (by decide)), fun d => ok_ifne d (by decide), fun d => ok_aload_n d rfl, fun d => ok_aload_n d rfl, fun d => ok_getfield (ci := 1) (f := 2) (N := 14) (C := RX2) (T := TX2) d rfl inX2 (by decide) q322, fun d => ok_getfield (ci := 2) (f := 0) (N := 4) (C := RX4) (T := TX4) d rfl inX4 (by decide) q180, fun d => ok_iconst d (by decide), fun d => ok_aak (ok_aaload d) (by decide), fun d => ok_iload_n d rfl, fun d => ok_iaload d, fun d => ok_cvi (ok_callV (M' := MX2_isOver) (ci := 1) (C := RX2) (T := TX2) (N := 14) d (tX2_isOver l D τ ad) rfl q754 q756 q18 q142 q757 (by decide +kernel) (by decide)), fun d => ok_ifeq d (by decide), fun d => ok_aload_n d rfl, fun d => ok_getfield (ci := 1) (f := 2) (N := 14) (C := RX2) (T := TX2) d rfl inX2 (by decide) q322, fun d => ok_iload_n d rfl, fun d => ok_cvv (ok_callV (M' := MX4_toLine) (ci := 2) (C := RX4) (T := TX4) (N := 4) d (tX4_toLine l D τ ad) rfl q602 q603 q604 q143 q605 (by decide +kernel) (by decide)), fun d => ok_iinc d (by decide), fun d => ok_goto d (by decide), fun d => ok_vreturn d rfl, trivial⟩
theorem tX2_wakeHeld (l : Launch) (D : va_G) (τ : ClassId × ClassId × ClassId × ClassId) (ad : Nat → Nat) : ∀ as μ r, mX2_wakeHeld as μ = some r → gMt (D, τ, LB, ad) l yX2_wakeHeld MX2_wakeHeld as μ r := fun _ _ _ h => gMt_of (plainFor_of_name (by decide +kernel)) rfl dcX2_wakeHeld (okX2_wakeHeld l D τ ad) h
/-! GangMatrix$Slots.unite(II)V (LB) -/
abbrev MX7_unite : gMi := (cX7_unite, 3, RX7, none, 2)
noncomputable def PX7_unite : gP := [(0, .aload_n 0, 1, i_ald 1 0), (1, .getfield 19, 3, i_gfd LB 4 2), (4, .iload_n 1, 1, i_ild 1 1), (5, .dup2, 1, i_du2), (6, .iaload, 1, i_iad LB), (7, .aload_n 0, 1, i_ald 1 0), (8, .getfield 19, 3, i_gfd LB 4 2), (11, .iload_n 2, 1, i_ild 1 2), (12, .iaload, 1, i_iad LB), (13, .ior, 1, i_bin (fun x y => (x ||| y))), (14, .iastore, 1, i_ias LB), (15, .aload_n 0, 1, i_ald 1 0), (16, .getfield 11, 3, i_gfd LB 4 0), (19, .iload_n 1, 1, i_ild 1 1), (20, .aload_n 0, 1, i_ald 1 0), (21, .getfield 11, 3, i_gfd LB 4 0), (24, .iload_n 1, 1, i_ild 1 1), (25, .laload, 1, i_lad LB), (26, .aload_n 0, 1, i_ald 1 0), (27, .getfield 11, 3, i_gfd LB 4 0), (30, .iload_n 2, 1, i_ild 1 2), (31, .laload, 1, i_lad LB), (32, .invokestatic 30, 3, i_csl 2 mJ9_min_f86c9), (35, .lastore, 1, i_las LB), (36, .aload_n 0, 1, i_ald 1 0), (37, .getfield 15, 3, i_gfd LB 4 1), (40, .iload_n 1, 1, i_ild 1 1), (41, .dup2, 1, i_du2), (42, .iaload, 1, i_iad LB), (43, .aload_n 0, 1, i_ald 1 0), (44, .getfield 15, 3, i_gfd LB 4 1), (47, .iload_n 2, 1, i_ild 1 2), (48, .iaload, 1, i_iad LB), (49, .iadd, 1, i_bin (fun x y => (x + y))), (50, .iastore, 1, i_ias LB), (51, .return_, 1, i_vrt)]
noncomputable def mX7_unite : gF := g_m PX7_unite 3
set_option maxRecDepth 20000 in
theorem dtX7_unite : gDts PX7_unite := ⟨dt_ald, dt_gfd, dt_ild, dt_du2, dt_iad, dt_ald, dt_gfd, dt_ild, dt_iad, dt_bin, dt_ias, dt_ald, dt_gfd, dt_ild, dt_ald, dt_gfd, dt_ild, dt_lad, dt_ald, dt_gfd, dt_ild, dt_lad, dt_csl, dt_las, dt_ald, dt_gfd, dt_ild, dt_du2, dt_iad, dt_ald, dt_gfd, dt_ild, dt_iad, dt_bin, dt_ias, dt_vrt, trivial⟩
set_option maxRecDepth 20000 in
theorem dcX7_unite : gDec MX7_unite PX7_unite := by unfold gDec PX7_unite; decide +kernel
set_option maxRecDepth 20000 in
theorem okX7_unite (l : Launch) (D : va_G) (τ : ClassId × ClassId × ClassId × ClassId) (ad : Nat → Nat) : gOks (D, τ, LB, ad) l MX7_unite PX7_unite := ⟨fun d => ok_aload_n d rfl, fun d => ok_getfield (ci := 4) (f := 2) (N := 4) (C := RX7) (T := TX7) d rfl inX7 (by decide) q236, fun d => ok_iload_n d rfl, fun d => ok_dup2 d, fun d => ok_iaload d, fun d => ok_aload_n d rfl, fun d => ok_getfield (ci := 4) (f := 2) (N := 4) (C := RX7) (T := TX7) d rfl inX7 (by decide) q236, fun d => ok_iload_n d rfl, fun d => ok_iaload d, fun d => ok_ior d, fun d => ok_iastore d, fun d => ok_aload_n d rfl, fun d => ok_getfield (ci := 4) (f := 0) (N := 4) (C := RX7) (T := TX7) d rfl inX7 (by decide) q230, fun d => ok_iload_n d rfl, fun d => ok_aload_n d rfl, fun d => ok_getfield (ci := 4) (f := 0) (N := 4) (C := RX7) (T := TX7) d rfl inX7 (by decide) q230, fun d => ok_iload_n d rfl, fun d => ok_laload d, fun d => ok_aload_n d rfl, fun d => ok_getfield (ci := 4) (f := 0) (N := 4) (C := RX7) (T := TX7) d rfl inX7 (by decide) q230, fun d => ok_iload_n d rfl, fun d => ok_laload d, fun d => ok_csl (ok_callS (M' := MJ9_min_f86c9) d (tJ9_min_f86c9 l _) q775 q776 q154 q777 (by decide +kernel) (by decide)), fun d => ok_lastore d, fun d => ok_aload_n d rfl, fun d => ok_getfield (ci := 4) (f := 1) (N := 4) (C := RX7) (T := TX7) d rfl inX7 (by decide) q233, fun d => ok_iload_n d rfl, fun d => ok_dup2 d, fun d => ok_iaload d, fun d => ok_aload_n d rfl, fun d => ok_getfield (ci := 4) (f := 1) (N := 4) (C := RX7) (T := TX7) d rfl inX7 (by decide) q233, fun d => ok_iload_n d rfl, fun d => ok_iaload d, fun d => ok_iadd d, fun d => ok_iastore d, fun d => ok_vreturn d rfl, trivial⟩
theorem tX7_unite (l : Launch) (D : va_G) (τ : ClassId × ClassId × ClassId × ClassId) (ad : Nat → Nat) : ∀ as μ r, mX7_unite as μ = some r → gMt (D, τ, LB, ad) l yX7_unite MX7_unite as μ r := fun _ _ _ h => gMt_of (plainFor_of_name (by decide +kernel)) rfl dcX7_unite (okX7_unite l D τ ad) h
/-! GangMatrix$Board.unite(II)V (LB) -/
abbrev MX2_unite : gMi := (cX2_unite, 5, RX2, none, 3)
noncomputable def PX2_unite : gP := [(0, .aload_n 0, 1, i_ald 1 0), (1, .getfield 49, 3, i_gfd LB 1 6), (4, .aload_n 0, 1, i_ald 1 0), (5, .getfield 96, 3, i_gfd LB 1 12), (8, .bipush 7, 2, i_psh 2 (.int 7)), (10, .iconst (-1), 1, i_psh 1 (.int (-1))), (11, .iload_n 1, 1, i_ild 1 1), (12, .iload_n 2, 1, i_ild 1 2), (13, .invokevirtual 134, 3, i_cvv LB 5 6 mX6_add), (16, .aload_n 0, 1, i_ald 1 0), (17, .getfield 35, 3, i_gfd LB 1 4), (20, .iload_n 1, 1, i_ild 1 1), (21, .iload_n 2, 1, i_ild 1 2), (22, .invokevirtual 361, 3, i_cvv LB 2 4 mX7_unite), (25, .aload_n 0, 1, i_ald 1 0), (26, .getfield 21, 3, i_gfd LB 1 2), (29, .getfield 130, 3, i_gfd LB 2 0), (32, .bipush 7, 2, i_psh 2 (.int 7)), (34, .aaload, 1, i_aak LB 7 7 12), (35, .astore_n 3, 1, i_ast 1 3), (36, .iconst 0, 1, i_psh 1 (.int 0)), (37, .istore 4, 2, i_ist 2 4), (39, .iload 4, 2, i_ild 2 4), (41, .aload_n 0, 1, i_ald 1 0), (42, .getfield 21, 3, i_gfd LB 1 2), (45, .getfield 124, 3, i_gfd LB 2 2), (48, .if_icmp .ge 22, 3, i_cge 70), (51, .aload_n 3, 1, i_ald 1 3), (52, .iload 4, 2, i_ild 2 4), (54, .iaload, 1, i_iad LB), (55, .iload_n 2, 1, i_ild 1 2), (56, .if_icmp .ne 8, 3, i_cne 64), (59, .aload_n 3, 1, i_ald 1 3), (60, .iload 4, 2, i_ild 2 4), (62, .iload_n 1, 1, i_ild 1 1), (63, .iastore, 1, i_ias LB), (64, .iinc 4 1, 3, i_inc 4 1), (67, .goto (-28), 3, i_gto 39), (70, .aload_n 0, 1, i_ald 1 0), (71, .iload_n 2, 1, i_ild 1 2), (72, .invokevirtual 240, 3, i_cvv LB 1 1 mX2_dropSlot), (75, .return_, 1, i_vrt)]
noncomputable def mX2_unite : gF := g_m PX2_unite 5
set_option maxRecDepth 20000 in
theorem dtX2_unite : gDts PX2_unite := ⟨dt_ald, dt_gfd, dt_ald, dt_gfd, dt_psh, dt_psh, dt_ild, dt_ild, dt_cvv, dt_ald, dt_gfd, dt_ild, dt_ild, dt_cvv, dt_ald, dt_gfd, dt_gfd, dt_psh, dt_aak, dt_ast, dt_psh, dt_ist, dt_ild, dt_ald, dt_gfd, dt_gfd, dt_cge, dt_ald, dt_ild, dt_iad, dt_ild, dt_cne, dt_ald, dt_ild, dt_ild, dt_ias, dt_inc, dt_gto, dt_ald, dt_ild, dt_cvv, dt_vrt, trivial⟩
set_option maxRecDepth 20000 in
theorem dcX2_unite : gDec MX2_unite PX2_unite := by unfold gDec PX2_unite; decide +kernel
set_option maxRecDepth 20000 in
theorem okX2_unite (l : Launch) (D : va_G) (τ : ClassId × ClassId × ClassId × ClassId) (ad : Nat → Nat) : gOks (D, τ, LB, ad) l MX2_unite PX2_unite := ⟨fun d => ok_aload_n d rfl, fun d => ok_getfield (ci := 1) (f := 6) (N := 14) (C := RX2) (T := TX2) d rfl inX2 (by decide) q331, fun d => ok_aload_n d rfl, fun d => ok_getfield (ci := 1) (f := 12) (N := 14) (C := RX2) (T := TX2) d rfl inX2 (by decide) q341, fun d => ok_bipush d (by decide), fun d => ok_iconst d (by decide), fun d => ok_iload_n d rfl, fun d => ok_iload_n d rfl, fun d => ok_cvv (ok_callV (M' := MX6_add) (ci := 6) (C := RX6) (T := TX6) (N := 2) d (tX6_add l D τ ad) rfl q558 q559 q560 q147 q561 (by decide +kernel) (by decide)), fun d => ok_aload_n d rfl, fun d => ok_getfield (ci := 1) (f := 4) (N := 14) (C := RX2) (T := TX2) d rfl inX2 (by decide) q327, fun d => ok_iload_n d rfl, fun d => ok_iload_n d rfl, fun d => ok_cvv (ok_callV (M' := MX7_unite) (ci := 4) (C := RX7) (T := TX7) (N := 4) d (tX7_unite l D τ ad) rfl q771 q772 q773 q145 q774 (by decide +kernel) (by decide)), fun d => ok_aload_n d rfl, fun d => ok_getfield (ci := 1) (f := 2) (N := 14) (C := RX2) (T := TX2) d rfl inX2 (by decide) q322, fun d => ok_getfield (ci := 2) (f := 0) (N := 4) (C := RX4) (T := TX4) d rfl inX4 (by decide) q180, fun d => ok_bipush d (by decide), fun d => ok_aak (ok_aaload d) (by decide), fun d => ok_astore_n d rfl, fun d => ok_iconst d (by decide), fun d => ok_istore d, fun d => ok_iload d, fun d => ok_aload_n d rfl, fun d => ok_getfield (ci := 1) (f := 2) (N := 14) (C := RX2) (T := TX2) d rfl inX2 (by decide) q322, fun d => ok_getfield (ci := 2) (f := 2) (N := 4) (C := RX4) (T := TX4) d rfl inX4 (by decide) q186, fun d => ok_icmpge d (by decide), fun d => ok_aload_n d rfl, fun d => ok_iload d, fun d => ok_iaload d, fun d => ok_iload_n d rfl, fun d => ok_icmpne d (by decide), fun d => ok_aload_n d rfl, fun d => ok_iload d, fun d => ok_iload_n d rfl, fun d => ok_iastore d, fun d => ok_iinc d (by decide), fun d => ok_goto d (by decide), fun d => ok_aload_n d rfl, fun d => ok_iload_n d rfl, fun d => ok_cvv (ok_callV (M' := MX2_dropSlot) (ci := 1) (C := RX2) (T := TX2) (N := 14) d (tX2_dropSlot l D τ ad) rfl q637 q639 q7 q142 q640 (by decide +kernel) (by decide)), fun d => ok_vreturn d rfl, trivial⟩
theorem tX2_unite (l : Launch) (D : va_G) (τ : ClassId × ClassId × ClassId × ClassId) (ad : Nat → Nat) : ∀ as μ r, mX2_unite as μ = some r → gMt (D, τ, LB, ad) l yX2_unite MX2_unite as μ r := fun _ _ _ h => gMt_of (plainFor_of_name (by decide +kernel)) rfl dcX2_unite (okX2_unite l D τ ad) h
/-! GangMatrix$Board.unifyFirst()Z (LB) -/
abbrev MX2_unifyFirst : gMi := (cX2_unifyFirst, 3, RX2, some .boolean, 4)
noncomputable def PX2_unifyFirst : gP := [(0, .iconst 0, 1, i_psh 1 (.int 0)), (1, .istore_n 1, 1, i_kll [2] (i_ist 1 1)), (2, .iload_n 1, 1, i_ild 1 1), (3, .aload_n 0, 1, i_ald 1 0), (4, .getfield 35, 3, i_gfd LB 1 4), (7, .getfield 160, 3, i_gfd LB 4 3), (10, .if_icmp .ge 60, 3, i_cge 70), (13, .iload_n 1, 1, i_ild 1 1), (14, .iconst 1, 1, i_psh 1 (.int 1)), (15, .iadd, 1, i_bin (fun x y => (x + y))), (16, .istore_n 2, 1, i_ist 1 2), (17, .iload_n 2, 1, i_ild 1 2), (18, .aload_n 0, 1, i_ald 1 0), (19, .getfield 35, 3, i_gfd LB 1 4), (22, .getfield 160, 3, i_gfd LB 4 3), (25, .if_icmp .ge 39, 3, i_cge 64), (28, .aload_n 0, 1, i_ald 1 0), (29, .getfield 35, 3, i_gfd LB 1 4), (32, .getfield 111, 3, i_gfd LB 4 2), (35, .iload_n 1, 1, i_ild 1 1), (36, .iaload, 1, i_iad LB), (37, .aload_n 0, 1, i_ald 1 0), (38, .getfield 35, 3, i_gfd LB 1 4), (41, .getfield 111, 3, i_gfd LB 4 2), (44, .iload_n 2, 1, i_ild 1 2), (45, .iaload, 1, i_iad LB), (46, .iand, 1, i_bin (fun x y => (x &&& y))), (47, .ifCond .ne 11, 3, i_fne 58), (50, .aload_n 0, 1, i_ald 1 0), (51, .iload_n 1, 1, i_ild 1 1), (52, .iload_n 2, 1, i_ild 1 2), (53, .invokevirtual 358, 3, i_cvv LB 2 1 mX2_unite), (56, .iconst 1, 1, i_psh 1 (.int 1)), (57, .ireturn, 1, i_zrt), (58, .iinc 2 1, 3, i_inc 2 1), (61, .goto (-44), 3, i_gto 17), (64, .iinc 1 1, 3, i_inc 1 1), (67, .goto (-65), 3, i_kll [2] (i_gto 2)), (70, .iconst 0, 1, i_psh 1 (.int 0)), (71, .ireturn, 1, i_zrt)]
noncomputable def mX2_unifyFirst : gF := g_m PX2_unifyFirst 3
set_option maxRecDepth 20000 in
theorem dtX2_unifyFirst : gDts PX2_unifyFirst := ⟨dt_psh, dt_kll dt_ist, dt_ild, dt_ald, dt_gfd, dt_gfd, dt_cge, dt_ild, dt_psh, dt_bin, dt_ist, dt_ild, dt_ald, dt_gfd, dt_gfd, dt_cge, dt_ald, dt_gfd, dt_gfd, dt_ild, dt_iad, dt_ald, dt_gfd, dt_gfd, dt_ild, dt_iad, dt_bin, dt_fne, dt_ald, dt_ild, dt_ild, dt_cvv, dt_psh, dt_zrt, dt_inc, dt_gto, dt_inc, dt_kll dt_gto, dt_psh, dt_zrt, trivial⟩
set_option maxRecDepth 20000 in
theorem dcX2_unifyFirst : gDec MX2_unifyFirst PX2_unifyFirst := by unfold gDec PX2_unifyFirst; decide +kernel
set_option maxRecDepth 20000 in
theorem okX2_unifyFirst (l : Launch) (D : va_G) (τ : ClassId × ClassId × ClassId × ClassId) (ad : Nat → Nat) : gOks (D, τ, LB, ad) l MX2_unifyFirst PX2_unifyFirst := ⟨fun d => ok_iconst d (by decide), fun d => ok_kll (ok_istore_n d rfl), fun d => ok_iload_n d rfl, fun d => ok_aload_n d rfl, fun d => ok_getfield (ci := 1) (f := 4) (N := 14) (C := RX2) (T := TX2) d rfl inX2 (by decide) q327, fun d => ok_getfield (ci := 4) (f := 3) (N := 4) (C := RX7) (T := TX7) d rfl inX7 (by decide) q243, fun d => ok_icmpge d (by decide), fun d => ok_iload_n d rfl, fun d => ok_iconst d (by decide), fun d => ok_iadd d, fun d => ok_istore_n d rfl, fun d => ok_iload_n d rfl, fun d => ok_aload_n d rfl, fun d => ok_getfield (ci := 1) (f := 4) (N := 14) (C := RX2) (T := TX2) d rfl inX2 (by decide) q327, fun d => ok_getfield (ci := 4) (f := 3) (N := 4) (C := RX7) (T := TX7) d rfl inX7 (by decide) q243, fun d => ok_icmpge d (by decide), fun d => ok_aload_n d rfl, fun d => ok_getfield (ci := 1) (f := 4) (N := 14) (C := RX2) (T := TX2) d rfl inX2 (by decide) q327, fun d => ok_getfield (ci := 4) (f := 2) (N := 4) (C := RX7) (T := TX7) d rfl inX7 (by decide) q237, fun d => ok_iload_n d rfl, fun d => ok_iaload d, fun d => ok_aload_n d rfl, fun d => ok_getfield (ci := 1) (f := 4) (N := 14) (C := RX2) (T := TX2) d rfl inX2 (by decide) q327, fun d => ok_getfield (ci := 4) (f := 2) (N := 4) (C := RX7) (T := TX7) d rfl inX7 (by decide) q237, fun d => ok_iload_n d rfl, fun d => ok_iaload d, fun d => ok_iand d, fun d => ok_ifne d (by decide), fun d => ok_aload_n d rfl, fun d => ok_iload_n d rfl, fun d => ok_iload_n d rfl, fun d => ok_cvv (ok_callV (M' := MX2_unite) (ci := 1) (C := RX2) (T := TX2) (N := 14) d (tX2_unite l D τ ad) rfl q767 q769 q20 q142 q770 (by decide +kernel) (by decide)), fun d => ok_iconst d (by decide), fun d => ok_zreturn d rfl, fun d => ok_iinc d (by decide), fun d => ok_goto d (by decide), fun d => ok_iinc d (by decide), fun d => ok_kll (ok_goto d (by decide)), fun d => ok_iconst d (by decide), fun d => ok_zreturn d rfl, trivial⟩
theorem tX2_unifyFirst (l : Launch) (D : va_G) (τ : ClassId × ClassId × ClassId × ClassId) (ad : Nat → Nat) : ∀ as μ r, mX2_unifyFirst as μ = some r → gMt (D, τ, LB, ad) l yX2_unifyFirst MX2_unifyFirst as μ r := fun _ _ _ h => gMt_of (plainFor_of_name (by decide +kernel)) rfl dcX2_unifyFirst (okX2_unifyFirst l D τ ad) h
/-! GangMatrix$Board.unifyAll()I (LB) -/
abbrev MX2_unifyAll : gMi := (cX2_unifyAll, 2, RX2, some .int, 5)
noncomputable def PX2_unifyAll : gP := [(0, .iconst 0, 1, i_psh 1 (.int 0)), (1, .istore_n 1, 1, i_ist 1 1), (2, .iload_n 1, 1, i_ild 1 1), (3, .bipush 8, 2, i_psh 2 (.int 8)), (5, .if_icmp .ge 16, 3, i_cge 21), (8, .aload_n 0, 1, i_ald 1 0), (9, .invokevirtual 354, 3, i_cvi LB 0 1 mX2_unifyFirst), (12, .ifCond .eq 9, 3, i_feq 21), (15, .iinc 1 1, 3, i_inc 1 1), (18, .goto (-16), 3, i_gto 2), (21, .aload_n 0, 1, i_ald 1 0), (22, .getfield 15, 3, i_gfd LB 1 1), (25, .bipush 7, 2, i_psh 2 (.int 7)), (27, .dup2, 1, i_du2), (28, .iaload, 1, i_iak LB 7 7), (29, .iload_n 1, 1, i_ild 1 1), (30, .iadd, 1, i_bin (fun x y => (x + y))), (31, .iastore, 1, i_isk LB 7 7), (32, .iload_n 1, 1, i_ild 1 1), (33, .ireturn, 1, i_irt)]
noncomputable def mX2_unifyAll : gF := g_m PX2_unifyAll 2
set_option maxRecDepth 20000 in
theorem dtX2_unifyAll : gDts PX2_unifyAll := ⟨dt_psh, dt_ist, dt_ild, dt_psh, dt_cge, dt_ald, dt_cvi, dt_feq, dt_inc, dt_gto, dt_ald, dt_gfd, dt_psh, dt_du2, dt_iak, dt_ild, dt_bin, dt_isk, dt_ild, dt_irt, trivial⟩
set_option maxRecDepth 20000 in
theorem dcX2_unifyAll : gDec MX2_unifyAll PX2_unifyAll := by unfold gDec PX2_unifyAll; decide +kernel
set_option maxRecDepth 20000 in
theorem okX2_unifyAll (l : Launch) (D : va_G) (τ : ClassId × ClassId × ClassId × ClassId) (ad : Nat → Nat) : gOks (D, τ, LB, ad) l MX2_unifyAll PX2_unifyAll := ⟨fun d => ok_iconst d (by decide), fun d => ok_istore_n d rfl, fun d => ok_iload_n d rfl, fun d => ok_bipush d (by decide), fun d => ok_icmpge d (by decide), fun d => ok_aload_n d rfl, fun d => ok_cvi (ok_callV (M' := MX2_unifyFirst) (ci := 1) (C := RX2) (T := TX2) (N := 14) d (tX2_unifyFirst l D τ ad) rfl q763 q765 q19 q142 q766 (by decide +kernel) (by decide)), fun d => ok_ifeq d (by decide), fun d => ok_iinc d (by decide), fun d => ok_goto d (by decide), fun d => ok_aload_n d rfl, fun d => ok_getfield (ci := 1) (f := 1) (N := 14) (C := RX2) (T := TX2) d rfl inX2 (by decide) q318, fun d => ok_bipush d (by decide), fun d => ok_dup2 d, fun d => ok_iak (ok_iaload d) (by decide), fun d => ok_iload_n d rfl, fun d => ok_iadd d, fun d => ok_isk (ok_iastore d) (by decide), fun d => ok_iload_n d rfl, fun d => ok_ireturn d rfl, trivial⟩
theorem tX2_unifyAll (l : Launch) (D : va_G) (τ : ClassId × ClassId × ClassId × ClassId) (ad : Nat → Nat) : ∀ as μ r, mX2_unifyAll as μ = some r → gMt (D, τ, LB, ad) l yX2_unifyAll MX2_unifyAll as μ r := fun _ _ _ h => gMt_of (plainFor_of_name (by decide +kernel)) rfl dcX2_unifyAll (okX2_unifyAll l D τ ad) h
/-! GangMatrix$Board.runOne()I (LB) -/
abbrev MX2_runOne : gMi := (cX2_runOne, 3, RX2, some .int, 7)
noncomputable def PX2_runOne : gP := [(0, .aload_n 0, 1, i_ald 1 0), (1, .invokevirtual 249, 3, i_cvv LB 0 1 mX2_bringArrivals), (4, .aload_n 0, 1, i_ald 1 0), (5, .invokevirtual 252, 3, i_cvv LB 0 1 mX2_goOn), (8, .aload_n 0, 1, i_ald 1 0), (9, .getfield 59, 3, i_gfd LB 1 8), (12, .invokevirtual 255, 3, i_cvv LB 0 7 mX3_clear), (15, .aload_n 0, 1, i_ald 1 0), (16, .getfield 35, 3, i_gfd LB 1 4), (19, .invokevirtual 258, 3, i_cvi LB 0 4 mX7_next), (22, .istore_n 1, 1, i_ist 1 1), (23, .iload_n 1, 1, i_ild 1 1), (24, .iconst (-1), 1, i_psh 1 (.int (-1))), (25, .if_icmp .eq 8, 3, i_ceq 33), (28, .aload_n 0, 1, i_ald 1 0), (29, .iload_n 1, 1, i_ild 1 1), (30, .invokevirtual 261, 3, i_cvv LB 1 1 mX2_takeTurn), (33, .aload_n 0, 1, i_ald 1 0), (34, .iload_n 1, 1, i_ild 1 1), (35, .invokevirtual 264, 3, i_cvv LB 1 1 mX2_countColumns), (38, .aload_n 0, 1, i_ald 1 0), (39, .getfield 53, 3, i_gfd LB 1 7), (42, .iload_n 1, 1, i_ild 1 1), (43, .aload_n 0, 1, i_ald 1 0), (44, .getfield 59, 3, i_gfd LB 1 8), (47, .getfield 267, 3, i_gfd LB 7 3), (50, .aload_n 0, 1, i_ald 1 0), (51, .getfield 59, 3, i_gfd LB 1 8), (54, .getfield 270, 3, i_gfd LB 7 4), (57, .aload_n 0, 1, i_ald 1 0), (58, .getfield 59, 3, i_gfd LB 1 8), (61, .getfield 273, 3, i_gfd LB 7 5), (64, .invokestatic 276, 3, i_csi 1 mJ6_bitCount_0f7a4), (67, .iconst (-1), 1, i_psh 1 (.int (-1))), (68, .invokevirtual 134, 3, i_cvv LB 5 6 mX6_add), (71, .aload_n 0, 1, i_ald 1 0), (72, .dup, 1, i_dup), (73, .getfield 96, 3, i_gfd LB 1 12), (76, .iconst 1, 1, i_psh 1 (.int 1)), (77, .iadd, 1, i_bin (fun x y => (x + y))), (78, .putfield 96, 3, i_pfd LB 1 12), (81, .aload_n 0, 1, i_ald 1 0), (82, .invokevirtual 281, 3, i_cvi LB 0 1 mX2_endJobs), (85, .istore_n 2, 1, i_ist 1 2), (86, .aload_n 0, 1, i_ald 1 0), (87, .invokevirtual 284, 3, i_cvv LB 0 1 mX2_wakeHeld), (90, .aload_n 0, 1, i_ald 1 0), (91, .getfield 9, 3, i_gfd LB 1 0), (94, .bipush 9, 2, i_psh 2 (.int 9)), (96, .iaload, 1, i_iak LB 9 9), (97, .iconst 1, 1, i_psh 1 (.int 1)), (98, .if_icmp .ne 8, 3, i_cne 106), (101, .aload_n 0, 1, i_ald 1 0), (102, .invokevirtual 287, 3, i_cvi LB 0 1 mX2_unifyAll), (105, .pop, 1, i_pop), (106, .aload_n 0, 1, i_ald 1 0), (107, .invokevirtual 252, 3, i_cvv LB 0 1 mX2_goOn), (110, .iload_n 2, 1, i_ild 1 2), (111, .ireturn, 1, i_irt)]
noncomputable def mX2_runOne : gF := g_m PX2_runOne 3
set_option maxRecDepth 20000 in
theorem dtX2_runOne : gDts PX2_runOne := ⟨dt_ald, dt_cvv, dt_ald, dt_cvv, dt_ald, dt_gfd, dt_cvv, dt_ald, dt_gfd, dt_cvi, dt_ist, dt_ild, dt_psh, dt_ceq, dt_ald, dt_ild, dt_cvv, dt_ald, dt_ild, dt_cvv, dt_ald, dt_gfd, dt_ild, dt_ald, dt_gfd, dt_gfd, dt_ald, dt_gfd, dt_gfd, dt_ald, dt_gfd, dt_gfd, dt_csi, dt_psh, dt_cvv, dt_ald, dt_dup, dt_gfd, dt_psh, dt_bin, dt_pfd, dt_ald, dt_cvi, dt_ist, dt_ald, dt_cvv, dt_ald, dt_gfd, dt_psh, dt_iak, dt_psh, dt_cne, dt_ald, dt_cvi, dt_pop, dt_ald, dt_cvv, dt_ild, dt_irt, trivial⟩
set_option maxRecDepth 20000 in
theorem dcX2_runOne : gDec MX2_runOne PX2_runOne := by unfold gDec PX2_runOne; decide +kernel
set_option maxRecDepth 20000 in
theorem okX2_runOne (l : Launch) (D : va_G) (τ : ClassId × ClassId × ClassId × ClassId) (ad : Nat → Nat) : gOks (D, τ, LB, ad) l MX2_runOne PX2_runOne := ⟨fun d => ok_aload_n d rfl, fun d => ok_cvv (ok_callV (M' := MX2_bringArrivals) (ci := 1) (C := RX2) (T := TX2) (N := 14) d (tX2_bringArrivals l D τ ad) rfl q657 q659 q9 q142 q660 (by decide +kernel) (by decide)), fun d => ok_aload_n d rfl, fun d => ok_cvv (ok_callV (M' := MX2_goOn) (ci := 1) (C := RX2) (T := TX2) (N := 14) d (tX2_goOn l D τ ad) rfl q683 q439 q440 q142 q441 (by decide +kernel) (by decide)), fun d => ok_aload_n d rfl, fun d => ok_getfield (ci := 1) (f := 8) (N := 14) (C := RX2) (T := TX2) d rfl inX2 (by decide) q335, fun d => ok_cvv (ok_callV (M' := MX3_clear) (ci := 7) (C := RX3) (T := TX3) (N := 6) d (tX3_clear l D τ ad) rfl q684 q685 q686 q148 q687 (by decide +kernel) (by decide)), fun d => ok_aload_n d rfl, fun d => ok_getfield (ci := 1) (f := 4) (N := 14) (C := RX2) (T := TX2) d rfl inX2 (by decide) q327, fun d => ok_cvi (ok_callV (M' := MX7_next) (ci := 4) (C := RX7) (T := TX7) (N := 4) d (tX7_next l D τ ad) rfl q688 q689 q690 q145 q691 (by decide +kernel) (by decide)), fun d => ok_istore_n d rfl, fun d => ok_iload_n d rfl, fun d => ok_iconst d (by decide), fun d => ok_icmpeq d (by decide), fun d => ok_aload_n d rfl, fun d => ok_iload_n d rfl, fun d => ok_cvv (ok_callV (M' := MX2_takeTurn) (ci := 1) (C := RX2) (T := TX2) (N := 14) d (tX2_takeTurn l D τ ad) rfl q692 q694 q10 q142 q695 (by decide +kernel) (by decide)), fun d => ok_aload_n d rfl, fun d => ok_iload_n d rfl, fun d => ok_cvv (ok_callV (M' := MX2_countColumns) (ci := 1) (C := RX2) (T := TX2) (N := 14) d (tX2_countColumns l D τ ad) rfl q736 q738 q15 q142 q739 (by decide +kernel) (by decide)), fun d => ok_aload_n d rfl, fun d => ok_getfield (ci := 1) (f := 7) (N := 14) (C := RX2) (T := TX2) d rfl inX2 (by decide) q333, fun d => ok_iload_n d rfl, fun d => ok_aload_n d rfl, fun d => ok_getfield (ci := 1) (f := 8) (N := 14) (C := RX2) (T := TX2) d rfl inX2 (by decide) q335, fun d => ok_getfield (ci := 7) (f := 3) (N := 6) (C := RX3) (T := TX3) d rfl inX3 (by decide) q296, fun d => ok_aload_n d rfl, fun d => ok_getfield (ci := 1) (f := 8) (N := 14) (C := RX2) (T := TX2) d rfl inX2 (by decide) q335, fun d => ok_getfield (ci := 7) (f := 4) (N := 6) (C := RX3) (T := TX3) d rfl inX3 (by decide) q298, fun d => ok_aload_n d rfl, fun d => ok_getfield (ci := 1) (f := 8) (N := 14) (C := RX2) (T := TX2) d rfl inX2 (by decide) q335, fun d => ok_getfield (ci := 7) (f := 5) (N := 6) (C := RX3) (T := TX3) d rfl inX3 (by decide) q301, fun d => ok_csi (ok_callS (M' := MJ6_bitCount_0f7a4) d (tJ6_bitCount_0f7a4 l _) q745 q497 q153 q498 (by decide +kernel) (by decide)), fun d => ok_iconst d (by decide), fun d => ok_cvv (ok_callV (M' := MX6_add) (ci := 6) (C := RX6) (T := TX6) (N := 2) d (tX6_add l D τ ad) rfl q558 q559 q560 q147 q561 (by decide +kernel) (by decide)), fun d => ok_aload_n d rfl, fun d => ok_dup d, fun d => ok_getfield (ci := 1) (f := 12) (N := 14) (C := RX2) (T := TX2) d rfl inX2 (by decide) q341, fun d => ok_iconst d (by decide), fun d => ok_iadd d, fun d => ok_putfield (ci := 1) (f := 12) (N := 14) (C := RX2) (T := TX2) d rfl inX2 tyX2_ok nmX2 (by decide) q341 rfl (by decide), fun d => ok_aload_n d rfl, fun d => ok_cvi (ok_callV (M' := MX2_endJobs) (ci := 1) (C := RX2) (T := TX2) (N := 14) d (tX2_endJobs l D τ ad) rfl q746 q748 q16 q142 q749 (by decide +kernel) (by decide)), fun d => ok_istore_n d rfl, fun d => ok_aload_n d rfl, fun d => ok_cvv (ok_callV (M' := MX2_wakeHeld) (ci := 1) (C := RX2) (T := TX2) (N := 14) d (tX2_wakeHeld l D τ ad) rfl q750 q752 q17 q142 q753 (by decide +kernel) (by decide)), fun d => ok_aload_n d rfl, fun d => ok_getfield (ci := 1) (f := 0) (N := 14) (C := RX2) (T := TX2) d rfl inX2 (by decide) q315, fun d => ok_bipush d (by decide), fun d => ok_iak (ok_iaload d) (by decide), fun d => ok_iconst d (by decide), fun d => ok_icmpne d (by decide), fun d => ok_aload_n d rfl, fun d => ok_cvi (ok_callV (M' := MX2_unifyAll) (ci := 1) (C := RX2) (T := TX2) (N := 14) d (tX2_unifyAll l D τ ad) rfl q759 q760 q761 q142 q762 (by decide +kernel) (by decide)), fun d => ok_pop d, fun d => ok_aload_n d rfl, fun d => ok_cvv (ok_callV (M' := MX2_goOn) (ci := 1) (C := RX2) (T := TX2) (N := 14) d (tX2_goOn l D τ ad) rfl q683 q439 q440 q142 q441 (by decide +kernel) (by decide)), fun d => ok_iload_n d rfl, fun d => ok_ireturn d rfl, trivial⟩
theorem tX2_runOne (l : Launch) (D : va_G) (τ : ClassId × ClassId × ClassId × ClassId) (ad : Nat → Nat) : ∀ as μ r, mX2_runOne as μ = some r → gMt (D, τ, LB, ad) l yX2_runOne MX2_runOne as μ r := fun _ _ _ h => gMt_of (plainFor_of_name (by decide +kernel)) rfl dcX2_runOne (okX2_runOne l D τ ad) h
/-! GangMatrix$Board.sortKeys([II)V (LB) -/
abbrev MX2_sortKeys : gMi := (cX2_sortKeys, 5, RX2, none, 1)
noncomputable def PX2_sortKeys : gP := [(0, .iconst 1, 1, i_psh 1 (.int 1)), (1, .istore_n 2, 1, i_kll [3, 4] (i_ist 1 2)), (2, .iload_n 2, 1, i_ild 1 2), (3, .iload_n 1, 1, i_ild 1 1), (4, .if_icmp .ge 58, 3, i_cge 62), (7, .iload_n 2, 1, i_ild 1 2), (8, .aload_n 0, 1, i_ald 1 0), (9, .arraylength, 1, i_aln LB), (10, .if_icmp .ge 52, 3, i_cge 62), (13, .aload_n 0, 1, i_ald 1 0), (14, .iload_n 2, 1, i_ild 1 2), (15, .iaload, 1, i_iad LB), (16, .istore_n 3, 1, i_ist 1 3), (17, .iload_n 2, 1, i_ild 1 2), (18, .istore 4, 2, i_ist 2 4), (20, .iload 4, 2, i_ild 2 4), (22, .ifCond .le 29, 3, i_fle 51), (25, .aload_n 0, 1, i_ald 1 0), (26, .iload 4, 2, i_ild 2 4), (28, .iconst 1, 1, i_psh 1 (.int 1)), (29, .isub, 1, i_bin (fun x y => (x - y))), (30, .iaload, 1, i_iad LB), (31, .iload_n 3, 1, i_ild 1 3), (32, .if_icmp .le 19, 3, i_cle 51), (35, .aload_n 0, 1, i_ald 1 0), (36, .iload 4, 2, i_ild 2 4), (38, .aload_n 0, 1, i_ald 1 0), (39, .iload 4, 2, i_ild 2 4), (41, .iconst 1, 1, i_psh 1 (.int 1)), (42, .isub, 1, i_bin (fun x y => (x - y))), (43, .iaload, 1, i_iad LB), (44, .iastore, 1, i_ias LB), (45, .iinc 4 (-1), 3, i_inc 4 (-1)), (48, .goto (-28), 3, i_gto 20), (51, .aload_n 0, 1, i_ald 1 0), (52, .iload 4, 2, i_ild 2 4), (54, .iload_n 3, 1, i_ild 1 3), (55, .iastore, 1, i_ias LB), (56, .iinc 2 1, 3, i_inc 2 1), (59, .goto (-57), 3, i_kll [3, 4] (i_gto 2)), (62, .return_, 1, i_vrt)]
noncomputable def mX2_sortKeys : gF := g_m PX2_sortKeys 5
set_option maxRecDepth 20000 in
theorem dtX2_sortKeys : gDts PX2_sortKeys := ⟨dt_psh, dt_kll dt_ist, dt_ild, dt_ild, dt_cge, dt_ild, dt_ald, dt_aln, dt_cge, dt_ald, dt_ild, dt_iad, dt_ist, dt_ild, dt_ist, dt_ild, dt_fle, dt_ald, dt_ild, dt_psh, dt_bin, dt_iad, dt_ild, dt_cle, dt_ald, dt_ild, dt_ald, dt_ild, dt_psh, dt_bin, dt_iad, dt_ias, dt_inc, dt_gto, dt_ald, dt_ild, dt_ild, dt_ias, dt_inc, dt_kll dt_gto, dt_vrt, trivial⟩
set_option maxRecDepth 20000 in
theorem dcX2_sortKeys : gDec MX2_sortKeys PX2_sortKeys := by unfold gDec PX2_sortKeys; decide +kernel
set_option maxRecDepth 20000 in
theorem okX2_sortKeys (l : Launch) (D : va_G) (τ : ClassId × ClassId × ClassId × ClassId) (ad : Nat → Nat) : gOks (D, τ, LB, ad) l MX2_sortKeys PX2_sortKeys := ⟨fun d => ok_iconst d (by decide), fun d => ok_kll (ok_istore_n d rfl), fun d => ok_iload_n d rfl, fun d => ok_iload_n d rfl, fun d => ok_icmpge d (by decide), fun d => ok_iload_n d rfl, fun d => ok_aload_n d rfl, fun d => ok_alen d, fun d => ok_icmpge d (by decide), fun d => ok_aload_n d rfl, fun d => ok_iload_n d rfl, fun d => ok_iaload d, fun d => ok_istore_n d rfl, fun d => ok_iload_n d rfl, fun d => ok_istore d, fun d => ok_iload d, fun d => ok_ifle d (by decide), fun d => ok_aload_n d rfl, fun d => ok_iload d, fun d => ok_iconst d (by decide), fun d => ok_isub d, fun d => ok_iaload d, fun d => ok_iload_n d rfl, fun d => ok_icmple d (by decide), fun d => ok_aload_n d rfl, fun d => ok_iload d, fun d => ok_aload_n d rfl, fun d => ok_iload d, fun d => ok_iconst d (by decide), fun d => ok_isub d, fun d => ok_iaload d, fun d => ok_iastore d, fun d => ok_iinc d (by decide), fun d => ok_goto d (by decide), fun d => ok_aload_n d rfl, fun d => ok_iload d, fun d => ok_iload_n d rfl, fun d => ok_iastore d, fun d => ok_iinc d (by decide), fun d => ok_kll (ok_goto d (by decide)), fun d => ok_vreturn d rfl, trivial⟩
theorem tX2_sortKeys (l : Launch) (D : va_G) (τ : ClassId × ClassId × ClassId × ClassId) (ad : Nat → Nat) : ∀ as μ r, mX2_sortKeys as μ = some r → gMt (D, τ, LB, ad) l yX2_sortKeys MX2_sortKeys as μ r := fun _ _ _ h => gMt_of (plainFor_of_name (by decide +kernel)) rfl dcX2_sortKeys (okX2_sortKeys l D τ ad) h
/-! GangMatrix$Board.sortForRepack()I (LB) -/
abbrev MX2_sortForRepack : gMi := (cX2_sortForRepack, 5, RX2, some .int, 3)
noncomputable def PX2_sortForRepack : gP := [(0, .iconst 0, 1, i_psh 1 (.int 0)), (1, .istore_n 1, 1, i_ist 1 1), (2, .iconst 0, 1, i_psh 1 (.int 0)), (3, .istore_n 2, 1, i_kll [3, 4] (i_ist 1 2)), (4, .iload_n 2, 1, i_ild 1 2), (5, .aload_n 0, 1, i_ald 1 0), (6, .getfield 21, 3, i_gfd LB 1 2), (9, .getfield 124, 3, i_gfd LB 2 2), (12, .if_icmp .ge 89, 3, i_cge 101), (15, .aload_n 0, 1, i_ald 1 0), (16, .getfield 21, 3, i_gfd LB 1 2), (19, .iload_n 2, 1, i_ild 1 2), (20, .invokevirtual 338, 3, i_cvi LB 1 2 mX4_isPlaced), (23, .ifCond .eq 72, 3, i_feq 95), (26, .bipush 32, 2, i_psh 2 (.int 32)), (28, .aload_n 0, 1, i_ald 1 0), (29, .getfield 21, 3, i_gfd LB 1 2), (32, .getfield 130, 3, i_gfd LB 2 0), (35, .bipush 9, 2, i_psh 2 (.int 9)), (37, .aaload, 1, i_aak LB 9 9 14), (38, .iload_n 2, 1, i_ild 1 2), (39, .iaload, 1, i_iad LB), (40, .isub, 1, i_bin (fun x y => (x - y))), (41, .istore_n 3, 1, i_ist 1 3), (42, .aload_n 0, 1, i_ald 1 0), (43, .getfield 21, 3, i_gfd LB 1 2), (46, .getfield 130, 3, i_gfd LB 2 0), (49, .bipush 7, 2, i_psh 2 (.int 7)), (51, .aaload, 1, i_aak LB 7 7 12), (52, .iload_n 2, 1, i_ild 1 2), (53, .iaload, 1, i_iad LB), (54, .aload_n 0, 1, i_ald 1 0), (55, .getfield 21, 3, i_gfd LB 1 2), (58, .getfield 130, 3, i_gfd LB 2 0), (61, .bipush 8, 2, i_psh 2 (.int 8)), (63, .aaload, 1, i_aak LB 8 8 13), (64, .iload_n 2, 1, i_ild 1 2), (65, .iaload, 1, i_iad LB), (66, .invokestatic 169, 3, i_csi 2 mX1_spot), (69, .istore 4, 2, i_ist 2 4), (71, .aload_n 0, 1, i_ald 1 0), (72, .getfield 66, 3, i_gfd LB 1 10), (75, .iload_n 1, 1, i_ild 1 1), (76, .iload_n 3, 1, i_ild 1 3), (77, .bipush 8, 2, i_psh 2 (.int 8)), (79, .imul, 1, i_bin (fun x y => (x * y))), (80, .bipush 32, 2, i_psh 2 (.int 32)), (82, .imul, 1, i_bin (fun x y => (x * y))), (83, .iload 4, 2, i_ild 2 4), (85, .iadd, 1, i_bin (fun x y => (x + y))), (86, .bipush 64, 2, i_psh 2 (.int 64)), (88, .imul, 1, i_bin (fun x y => (x * y))), (89, .iload_n 2, 1, i_ild 1 2), (90, .iadd, 1, i_bin (fun x y => (x + y))), (91, .iastore, 1, i_ias LB), (92, .iinc 1 1, 3, i_inc 1 1), (95, .iinc 2 1, 3, i_inc 2 1), (98, .goto (-94), 3, i_kll [3, 4] (i_gto 4)), (101, .aload_n 0, 1, i_ald 1 0), (102, .getfield 66, 3, i_gfd LB 1 10), (105, .iload_n 1, 1, i_ild 1 1), (106, .invokestatic 376, 3, i_csv 2 mX2_sortKeys), (109, .iload_n 1, 1, i_ild 1 1), (110, .ireturn, 1, i_irt)]
noncomputable def mX2_sortForRepack : gF := g_m PX2_sortForRepack 5
set_option maxRecDepth 20000 in
theorem dtX2_sortForRepack : gDts PX2_sortForRepack := ⟨dt_psh, dt_ist, dt_psh, dt_kll dt_ist, dt_ild, dt_ald, dt_gfd, dt_gfd, dt_cge, dt_ald, dt_gfd, dt_ild, dt_cvi, dt_feq, dt_psh, dt_ald, dt_gfd, dt_gfd, dt_psh, dt_aak, dt_ild, dt_iad, dt_bin, dt_ist, dt_ald, dt_gfd, dt_gfd, dt_psh, dt_aak, dt_ild, dt_iad, dt_ald, dt_gfd, dt_gfd, dt_psh, dt_aak, dt_ild, dt_iad, dt_csi, dt_ist, dt_ald, dt_gfd, dt_ild, dt_ild, dt_psh, dt_bin, dt_psh, dt_bin, dt_ild, dt_bin, dt_psh, dt_bin, dt_ild, dt_bin, dt_ias, dt_inc, dt_inc, dt_kll dt_gto, dt_ald, dt_gfd, dt_ild, dt_csv, dt_ild, dt_irt, trivial⟩
set_option maxRecDepth 20000 in
theorem dcX2_sortForRepack : gDec MX2_sortForRepack PX2_sortForRepack := by unfold gDec PX2_sortForRepack; decide +kernel
set_option maxRecDepth 20000 in
theorem okX2_sortForRepack (l : Launch) (D : va_G) (τ : ClassId × ClassId × ClassId × ClassId) (ad : Nat → Nat) : gOks (D, τ, LB, ad) l MX2_sortForRepack PX2_sortForRepack := ⟨fun d => ok_iconst d (by decide), fun d => ok_istore_n d rfl, fun d => ok_iconst d (by decide), fun d => ok_kll (ok_istore_n d rfl), fun d => ok_iload_n d rfl, fun d => ok_aload_n d rfl, fun d => ok_getfield (ci := 1) (f := 2) (N := 14) (C := RX2) (T := TX2) d rfl inX2 (by decide) q322, fun d => ok_getfield (ci := 2) (f := 2) (N := 4) (C := RX4) (T := TX4) d rfl inX4 (by decide) q186, fun d => ok_icmpge d (by decide), fun d => ok_aload_n d rfl, fun d => ok_getfield (ci := 1) (f := 2) (N := 14) (C := RX2) (T := TX2) d rfl inX2 (by decide) q322, fun d => ok_iload_n d rfl, fun d => ok_cvi (ok_callV (M' := MX4_isPlaced) (ci := 2) (C := RX4) (T := TX4) (N := 4) d (tX4_isPlaced l D τ ad) rfl q735 q707 q708 q143 q709 (by decide +kernel) (by decide)), fun d => ok_ifeq d (by decide), fun d => ok_bipush d (by decide), fun d => ok_aload_n d rfl, fun d => ok_getfield (ci := 1) (f := 2) (N := 14) (C := RX2) (T := TX2) d rfl inX2 (by decide) q322, fun d => ok_getfield (ci := 2) (f := 0) (N := 4) (C := RX4) (T := TX4) d rfl inX4 (by decide) q180, fun d => ok_bipush d (by decide), fun d => ok_aak (ok_aaload d) (by decide), fun d => ok_iload_n d rfl, fun d => ok_iaload d, fun d => ok_isub d, fun d => ok_istore_n d rfl, fun d => ok_aload_n d rfl, fun d => ok_getfield (ci := 1) (f := 2) (N := 14) (C := RX2) (T := TX2) d rfl inX2 (by decide) q322, fun d => ok_getfield (ci := 2) (f := 0) (N := 4) (C := RX4) (T := TX4) d rfl inX4 (by decide) q180, fun d => ok_bipush d (by decide), fun d => ok_aak (ok_aaload d) (by decide), fun d => ok_iload_n d rfl, fun d => ok_iaload d, fun d => ok_aload_n d rfl, fun d => ok_getfield (ci := 1) (f := 2) (N := 14) (C := RX2) (T := TX2) d rfl inX2 (by decide) q322, fun d => ok_getfield (ci := 2) (f := 0) (N := 4) (C := RX4) (T := TX4) d rfl inX4 (by decide) q180, fun d => ok_bipush d (by decide), fun d => ok_aak (ok_aaload d) (by decide), fun d => ok_iload_n d rfl, fun d => ok_iaload d, fun d => ok_csi (ok_callS (M' := MX1_spot) d (tX1_spot l _) q516 q517 q151 q518 (by decide +kernel) (by decide)), fun d => ok_istore d, fun d => ok_aload_n d rfl, fun d => ok_getfield (ci := 1) (f := 10) (N := 14) (C := RX2) (T := TX2) d rfl inX2 (by decide) q339, fun d => ok_iload_n d rfl, fun d => ok_iload_n d rfl, fun d => ok_bipush d (by decide), fun d => ok_imul d, fun d => ok_bipush d (by decide), fun d => ok_imul d, fun d => ok_iload d, fun d => ok_iadd d, fun d => ok_bipush d (by decide), fun d => ok_imul d, fun d => ok_iload_n d rfl, fun d => ok_iadd d, fun d => ok_iastore d, fun d => ok_iinc d (by decide), fun d => ok_iinc d (by decide), fun d => ok_kll (ok_goto d (by decide)), fun d => ok_aload_n d rfl, fun d => ok_getfield (ci := 1) (f := 10) (N := 14) (C := RX2) (T := TX2) d rfl inX2 (by decide) q339, fun d => ok_iload_n d rfl, fun d => ok_csv (ok_callS (M' := MX2_sortKeys) d (tX2_sortKeys l D τ ad) q828 q829 q142 q830 (by decide +kernel) (by decide)), fun d => ok_iload_n d rfl, fun d => ok_ireturn d rfl, trivial⟩
theorem tX2_sortForRepack (l : Launch) (D : va_G) (τ : ClassId × ClassId × ClassId × ClassId) (ad : Nat → Nat) : ∀ as μ r, mX2_sortForRepack as μ = some r → gMt (D, τ, LB, ad) l yX2_sortForRepack MX2_sortForRepack as μ r := fun _ _ _ h => gMt_of (plainFor_of_name (by decide +kernel)) rfl dcX2_sortForRepack (okX2_sortForRepack l D τ ad) h
/-! GangMatrix$Slots.firstClear(I)I (LB) -/
abbrev MX7_firstClear : gMi := (cX7_firstClear, 3, RX7, some .int, 1)
noncomputable def PX7_firstClear : gP := [(0, .iconst 0, 1, i_psh 1 (.int 0)), (1, .istore_n 2, 1, i_ist 1 2), (2, .iload_n 2, 1, i_ild 1 2), (3, .aload_n 0, 1, i_ald 1 0), (4, .getfield 22, 3, i_gfd LB 4 3), (7, .if_icmp .ge 20, 3, i_cge 27), (10, .aload_n 0, 1, i_ald 1 0), (11, .getfield 19, 3, i_gfd LB 4 2), (14, .iload_n 2, 1, i_ild 1 2), (15, .iaload, 1, i_iad LB), (16, .iload_n 1, 1, i_ild 1 1), (17, .iand, 1, i_bin (fun x y => (x &&& y))), (18, .ifCond .eq 9, 3, i_feq 27), (21, .iinc 2 1, 3, i_inc 2 1), (24, .goto (-22), 3, i_gto 2), (27, .iload_n 2, 1, i_ild 1 2), (28, .ireturn, 1, i_irt)]
noncomputable def mX7_firstClear : gF := g_m PX7_firstClear 3
set_option maxRecDepth 20000 in
theorem dtX7_firstClear : gDts PX7_firstClear := ⟨dt_psh, dt_ist, dt_ild, dt_ald, dt_gfd, dt_cge, dt_ald, dt_gfd, dt_ild, dt_iad, dt_ild, dt_bin, dt_feq, dt_inc, dt_gto, dt_ild, dt_irt, trivial⟩
set_option maxRecDepth 20000 in
theorem dcX7_firstClear : gDec MX7_firstClear PX7_firstClear := by unfold gDec PX7_firstClear; decide +kernel
set_option maxRecDepth 20000 in
theorem okX7_firstClear (l : Launch) (D : va_G) (τ : ClassId × ClassId × ClassId × ClassId) (ad : Nat → Nat) : gOks (D, τ, LB, ad) l MX7_firstClear PX7_firstClear := ⟨fun d => ok_iconst d (by decide), fun d => ok_istore_n d rfl, fun d => ok_iload_n d rfl, fun d => ok_aload_n d rfl, fun d => ok_getfield (ci := 4) (f := 3) (N := 4) (C := RX7) (T := TX7) d rfl inX7 (by decide) q240, fun d => ok_icmpge d (by decide), fun d => ok_aload_n d rfl, fun d => ok_getfield (ci := 4) (f := 2) (N := 4) (C := RX7) (T := TX7) d rfl inX7 (by decide) q236, fun d => ok_iload_n d rfl, fun d => ok_iaload d, fun d => ok_iload_n d rfl, fun d => ok_iand d, fun d => ok_ifeq d (by decide), fun d => ok_iinc d (by decide), fun d => ok_goto d (by decide), fun d => ok_iload_n d rfl, fun d => ok_ireturn d rfl, trivial⟩
theorem tX7_firstClear (l : Launch) (D : va_G) (τ : ClassId × ClassId × ClassId × ClassId) (ad : Nat → Nat) : ∀ as μ r, mX7_firstClear as μ = some r → gMt (D, τ, LB, ad) l yX7_firstClear MX7_firstClear as μ r := fun _ _ _ h => gMt_of (plainFor_of_name (by decide +kernel)) rfl dcX7_firstClear (okX7_firstClear l D τ ad) h
/-! GangMatrix$Slots.passAllAt(J)V (LB) -/
abbrev MX7_passAllAt : gMi := (cX7_passAllAt, 4, RX7, none, 1)
noncomputable def PX7_passAllAt : gP := [(0, .iconst 0, 1, i_psh 1 (.int 0)), (1, .istore_n 3, 1, i_ist 1 3), (2, .iload_n 3, 1, i_ild 1 3), (3, .aload_n 0, 1, i_ald 1 0), (4, .getfield 22, 3, i_gfd LB 4 3), (7, .if_icmp .ge 16, 3, i_cge 23), (10, .aload_n 0, 1, i_ald 1 0), (11, .getfield 11, 3, i_gfd LB 4 0), (14, .iload_n 3, 1, i_ild 1 3), (15, .lload_n 1, 1, i_lld 1 1), (16, .lastore, 1, i_las LB), (17, .iinc 3 1, 3, i_inc 3 1), (20, .goto (-18), 3, i_gto 2), (23, .return_, 1, i_vrt)]
noncomputable def mX7_passAllAt : gF := g_m PX7_passAllAt 4
set_option maxRecDepth 20000 in
theorem dtX7_passAllAt : gDts PX7_passAllAt := ⟨dt_psh, dt_ist, dt_ild, dt_ald, dt_gfd, dt_cge, dt_ald, dt_gfd, dt_ild, dt_lld, dt_las, dt_inc, dt_gto, dt_vrt, trivial⟩
set_option maxRecDepth 20000 in
theorem dcX7_passAllAt : gDec MX7_passAllAt PX7_passAllAt := by unfold gDec PX7_passAllAt; decide +kernel
set_option maxRecDepth 20000 in
theorem okX7_passAllAt (l : Launch) (D : va_G) (τ : ClassId × ClassId × ClassId × ClassId) (ad : Nat → Nat) : gOks (D, τ, LB, ad) l MX7_passAllAt PX7_passAllAt := ⟨fun d => ok_iconst d (by decide), fun d => ok_istore_n d rfl, fun d => ok_iload_n d rfl, fun d => ok_aload_n d rfl, fun d => ok_getfield (ci := 4) (f := 3) (N := 4) (C := RX7) (T := TX7) d rfl inX7 (by decide) q240, fun d => ok_icmpge d (by decide), fun d => ok_aload_n d rfl, fun d => ok_getfield (ci := 4) (f := 0) (N := 4) (C := RX7) (T := TX7) d rfl inX7 (by decide) q230, fun d => ok_iload_n d rfl, fun d => ok_lload_n d rfl, fun d => ok_lastore d, fun d => ok_iinc d (by decide), fun d => ok_goto d (by decide), fun d => ok_vreturn d rfl, trivial⟩
theorem tX7_passAllAt (l : Launch) (D : va_G) (τ : ClassId × ClassId × ClassId × ClassId) (ad : Nat → Nat) : ∀ as μ r, mX7_passAllAt as μ = some r → gMt (D, τ, LB, ad) l yX7_passAllAt MX7_passAllAt as μ r := fun _ _ _ h => gMt_of (plainFor_of_name (by decide +kernel)) rfl dcX7_passAllAt (okX7_passAllAt l D τ ad) h
/-! GangMatrix$Board.repackAll()V (LB) -/
abbrev MX2_repackAll : gMi := (cX2_repackAll, 6, RX2, none, 4)
noncomputable def PX2_repackAll : gP := [(0, .aload_n 0, 1, i_ald 1 0), (1, .getfield 35, 3, i_gfd LB 1 4), (4, .invokevirtual 362, 3, i_cvl LB 0 4 mX7_leastPass), (7, .lstore_n 1, 1, i_lst 1 1), (8, .aload_n 0, 1, i_ald 1 0), (9, .invokevirtual 366, 3, i_cvi LB 0 1 mX2_sortForRepack), (12, .istore_n 3, 1, i_ist 1 3), (13, .aload_n 0, 1, i_ald 1 0), (14, .getfield 35, 3, i_gfd LB 1 4), (17, .iconst 0, 1, i_psh 1 (.int 0)), (18, .putfield 160, 3, i_pfd LB 4 3), (21, .iconst 0, 1, i_psh 1 (.int 0)), (22, .istore 4, 2, i_kll [5] (i_ist 2 4)), (24, .iload 4, 2, i_ild 2 4), (26, .iload_n 3, 1, i_ild 1 3), (27, .if_icmp .ge 56, 3, i_cge 83), (30, .aload_n 0, 1, i_ald 1 0), (31, .getfield 66, 3, i_gfd LB 1 10), (34, .iload 4, 2, i_ild 2 4), (36, .iaload, 1, i_iad LB), (37, .bipush 64, 2, i_psh 2 (.int 64)), (39, .irem, 1, i_dvr (fun x y => (x - x / y * y))), (40, .istore 5, 2, i_ist 2 5), (42, .aload_n 0, 1, i_ald 1 0), (43, .iload 5, 2, i_ild 2 5), (45, .aload_n 0, 1, i_ald 1 0), (46, .getfield 35, 3, i_gfd LB 1 4), (49, .aload_n 0, 1, i_ald 1 0), (50, .getfield 21, 3, i_gfd LB 1 2), (53, .iload 5, 2, i_ild 2 5), (55, .invokevirtual 237, 3, i_cvi LB 1 2 mX4_block), (58, .invokevirtual 369, 3, i_cvi LB 1 4 mX7_firstClear), (61, .aload_n 0, 1, i_ald 1 0), (62, .getfield 21, 3, i_gfd LB 1 2), (65, .getfield 130, 3, i_gfd LB 2 0), (68, .bipush 8, 2, i_psh 2 (.int 8)), (70, .aaload, 1, i_aak LB 8 8 13), (71, .iload 5, 2, i_ild 2 5), (73, .iaload, 1, i_iad LB), (74, .invokevirtual 228, 3, i_cvv LB 3 1 mX2_settle), (77, .iinc 4 1, 3, i_inc 4 1), (80, .goto (-56), 3, i_kll [5] (i_gto 24)), (83, .aload_n 0, 1, i_ald 1 0), (84, .getfield 35, 3, i_gfd LB 1 4), (87, .lload_n 1, 1, i_lld 1 1), (88, .invokevirtual 372, 3, i_cvv LB 1 4 mX7_passAllAt), (91, .return_, 1, i_vrt)]
noncomputable def mX2_repackAll : gF := g_m PX2_repackAll 6
set_option maxRecDepth 20000 in
theorem dtX2_repackAll : gDts PX2_repackAll := ⟨dt_ald, dt_gfd, dt_cvl, dt_lst, dt_ald, dt_cvi, dt_ist, dt_ald, dt_gfd, dt_psh, dt_pfd, dt_psh, dt_kll dt_ist, dt_ild, dt_ild, dt_cge, dt_ald, dt_gfd, dt_ild, dt_iad, dt_psh, dt_dvr, dt_ist, dt_ald, dt_ild, dt_ald, dt_gfd, dt_ald, dt_gfd, dt_ild, dt_cvi, dt_cvi, dt_ald, dt_gfd, dt_gfd, dt_psh, dt_aak, dt_ild, dt_iad, dt_cvv, dt_inc, dt_kll dt_gto, dt_ald, dt_gfd, dt_lld, dt_cvv, dt_vrt, trivial⟩
set_option maxRecDepth 20000 in
theorem dcX2_repackAll : gDec MX2_repackAll PX2_repackAll := by unfold gDec PX2_repackAll; decide +kernel
set_option maxRecDepth 20000 in
theorem okX2_repackAll (l : Launch) (D : va_G) (τ : ClassId × ClassId × ClassId × ClassId) (ad : Nat → Nat) : gOks (D, τ, LB, ad) l MX2_repackAll PX2_repackAll := ⟨fun d => ok_aload_n d rfl, fun d => ok_getfield (ci := 1) (f := 4) (N := 14) (C := RX2) (T := TX2) d rfl inX2 (by decide) q327, fun d => ok_cvl (ok_callV (M' := MX7_leastPass) (ci := 4) (C := RX7) (T := TX7) (N := 4) d (tX7_leastPass l D τ ad) rfl q823 q542 q543 q145 q544 (by decide +kernel) (by decide)), fun d => ok_lstore_n d rfl, fun d => ok_aload_n d rfl, fun d => ok_cvi (ok_callV (M' := MX2_sortForRepack) (ci := 1) (C := RX2) (T := TX2) (N := 14) d (tX2_sortForRepack l D τ ad) rfl q824 q826 q21 q142 q827 (by decide +kernel) (by decide)), fun d => ok_istore_n d rfl, fun d => ok_aload_n d rfl, fun d => ok_getfield (ci := 1) (f := 4) (N := 14) (C := RX2) (T := TX2) d rfl inX2 (by decide) q327, fun d => ok_iconst d (by decide), fun d => ok_putfield (ci := 4) (f := 3) (N := 4) (C := RX7) (T := TX7) d rfl inX7 tyX7_ok nmX7 (by decide) q243 rfl (by decide), fun d => ok_iconst d (by decide), fun d => ok_kll (ok_istore d), fun d => ok_iload d, fun d => ok_iload_n d rfl, fun d => ok_icmpge d (by decide), fun d => ok_aload_n d rfl, fun d => ok_getfield (ci := 1) (f := 10) (N := 14) (C := RX2) (T := TX2) d rfl inX2 (by decide) q339, fun d => ok_iload d, fun d => ok_iaload d, fun d => ok_bipush d (by decide), fun d => ok_irem d, fun d => ok_istore d, fun d => ok_aload_n d rfl, fun d => ok_iload d, fun d => ok_aload_n d rfl, fun d => ok_getfield (ci := 1) (f := 4) (N := 14) (C := RX2) (T := TX2) d rfl inX2 (by decide) q327, fun d => ok_aload_n d rfl, fun d => ok_getfield (ci := 1) (f := 2) (N := 14) (C := RX2) (T := TX2) d rfl inX2 (by decide) q322, fun d => ok_iload d, fun d => ok_cvi (ok_callV (M' := MX4_block) (ci := 2) (C := RX4) (T := TX4) (N := 4) d (tX4_block l D τ ad) rfl q549 q550 q551 q143 q552 (by decide +kernel) (by decide)), fun d => ok_cvi (ok_callV (M' := MX7_firstClear) (ci := 4) (C := RX7) (T := TX7) (N := 4) d (tX7_firstClear l D τ ad) rfl q831 q832 q833 q145 q834 (by decide +kernel) (by decide)), fun d => ok_aload_n d rfl, fun d => ok_getfield (ci := 1) (f := 2) (N := 14) (C := RX2) (T := TX2) d rfl inX2 (by decide) q322, fun d => ok_getfield (ci := 2) (f := 0) (N := 4) (C := RX4) (T := TX4) d rfl inX4 (by decide) q180, fun d => ok_bipush d (by decide), fun d => ok_aak (ok_aaload d) (by decide), fun d => ok_iload d, fun d => ok_iaload d, fun d => ok_cvv (ok_callV (M' := MX2_settle) (ci := 1) (C := RX2) (T := TX2) (N := 14) d (tX2_settle l D τ ad) rfl q533 q534 q535 q142 q536 (by decide +kernel) (by decide)), fun d => ok_iinc d (by decide), fun d => ok_kll (ok_goto d (by decide)), fun d => ok_aload_n d rfl, fun d => ok_getfield (ci := 1) (f := 4) (N := 14) (C := RX2) (T := TX2) d rfl inX2 (by decide) q327, fun d => ok_lload_n d rfl, fun d => ok_cvv (ok_callV (M' := MX7_passAllAt) (ci := 4) (C := RX7) (T := TX7) (N := 4) d (tX7_passAllAt l D τ ad) rfl q835 q836 q837 q145 q838 (by decide +kernel) (by decide)), fun d => ok_vreturn d rfl, trivial⟩
theorem tX2_repackAll (l : Launch) (D : va_G) (τ : ClassId × ClassId × ClassId × ClassId) (ad : Nat → Nat) : ∀ as μ r, mX2_repackAll as μ = some r → gMt (D, τ, LB, ad) l yX2_repackAll MX2_repackAll as μ r := fun _ _ _ h => gMt_of (plainFor_of_name (by decide +kernel)) rfl dcX2_repackAll (okX2_repackAll l D τ ad) h
/-! GangMatrix$Board.end(I)V (LB) -/
abbrev MX2_end : gMi := (cX2_end, 2, RX2, none, 4)
noncomputable def PX2_end : gP := [(0, .aload_n 0, 1, i_ald 1 0), (1, .iload_n 1, 1, i_ild 1 1), (2, .invokevirtual 344, 3, i_cvv LB 1 1 mX2_takeOut), (5, .aload_n 0, 1, i_ald 1 0), (6, .getfield 21, 3, i_gfd LB 1 2), (9, .iload_n 1, 1, i_ild 1 1), (10, .invokevirtual 219, 3, i_cvv LB 1 2 mX4_fromLine), (13, .aload_n 0, 1, i_ald 1 0), (14, .getfield 21, 3, i_gfd LB 1 2), (17, .getfield 130, 3, i_gfd LB 2 0), (20, .iconst 4, 1, i_psh 1 (.int 4)), (21, .aaload, 1, i_aak LB 4 4 9), (22, .iload_n 1, 1, i_ild 1 1), (23, .iconst 4, 1, i_psh 1 (.int 4)), (24, .iastore, 1, i_ias LB), (25, .aload_n 0, 1, i_ald 1 0), (26, .getfield 21, 3, i_gfd LB 1 2), (29, .getfield 130, 3, i_gfd LB 2 0), (32, .bipush 15, 2, i_psh 2 (.int 15)), (34, .aaload, 1, i_aak LB 15 15 20), (35, .iload_n 1, 1, i_ild 1 1), (36, .aload_n 0, 1, i_ald 1 0), (37, .getfield 96, 3, i_gfd LB 1 12), (40, .iastore, 1, i_ias LB), (41, .aload_n 0, 1, i_ald 1 0), (42, .iconst 4, 1, i_psh 1 (.int 4)), (43, .iload_n 1, 1, i_ild 1 1), (44, .invokevirtual 148, 3, i_cvv LB 2 1 mX2_note), (47, .return_, 1, i_vrt)]
noncomputable def mX2_end : gF := g_m PX2_end 2
set_option maxRecDepth 20000 in
theorem dtX2_end : gDts PX2_end := ⟨dt_ald, dt_ild, dt_cvv, dt_ald, dt_gfd, dt_ild, dt_cvv, dt_ald, dt_gfd, dt_gfd, dt_psh, dt_aak, dt_ild, dt_psh, dt_ias, dt_ald, dt_gfd, dt_gfd, dt_psh, dt_aak, dt_ild, dt_ald, dt_gfd, dt_ias, dt_ald, dt_psh, dt_ild, dt_cvv, dt_vrt, trivial⟩
set_option maxRecDepth 20000 in
theorem dcX2_end : gDec MX2_end PX2_end := by unfold gDec PX2_end; decide +kernel
set_option maxRecDepth 20000 in
theorem okX2_end (l : Launch) (D : va_G) (τ : ClassId × ClassId × ClassId × ClassId) (ad : Nat → Nat) : gOks (D, τ, LB, ad) l MX2_end PX2_end := ⟨fun d => ok_aload_n d rfl, fun d => ok_iload_n d rfl, fun d => ok_cvv (ok_callV (M' := MX2_takeOut) (ci := 1) (C := RX2) (T := TX2) (N := 14) d (tX2_takeOut l D τ ad) rfl q629 q630 q631 q142 q632 (by decide +kernel) (by decide)), fun d => ok_aload_n d rfl, fun d => ok_getfield (ci := 1) (f := 2) (N := 14) (C := RX2) (T := TX2) d rfl inX2 (by decide) q322, fun d => ok_iload_n d rfl, fun d => ok_cvv (ok_callV (M' := MX4_fromLine) (ci := 2) (C := RX4) (T := TX4) (N := 4) d (tX4_fromLine l D τ ad) rfl q523 q524 q525 q143 q526 (by decide +kernel) (by decide)), fun d => ok_aload_n d rfl, fun d => ok_getfield (ci := 1) (f := 2) (N := 14) (C := RX2) (T := TX2) d rfl inX2 (by decide) q322, fun d => ok_getfield (ci := 2) (f := 0) (N := 4) (C := RX4) (T := TX4) d rfl inX4 (by decide) q180, fun d => ok_iconst d (by decide), fun d => ok_aak (ok_aaload d) (by decide), fun d => ok_iload_n d rfl, fun d => ok_iconst d (by decide), fun d => ok_iastore d, fun d => ok_aload_n d rfl, fun d => ok_getfield (ci := 1) (f := 2) (N := 14) (C := RX2) (T := TX2) d rfl inX2 (by decide) q322, fun d => ok_getfield (ci := 2) (f := 0) (N := 4) (C := RX4) (T := TX4) d rfl inX4 (by decide) q180, fun d => ok_bipush d (by decide), fun d => ok_aak (ok_aaload d) (by decide), fun d => ok_iload_n d rfl, fun d => ok_aload_n d rfl, fun d => ok_getfield (ci := 1) (f := 12) (N := 14) (C := RX2) (T := TX2) d rfl inX2 (by decide) q341, fun d => ok_iastore d, fun d => ok_aload_n d rfl, fun d => ok_iconst d (by decide), fun d => ok_iload_n d rfl, fun d => ok_cvv (ok_callV (M' := MX2_note) (ci := 1) (C := RX2) (T := TX2) (N := 14) d (tX2_note l D τ ad) rfl q554 q555 q556 q142 q557 (by decide +kernel) (by decide)), fun d => ok_vreturn d rfl, trivial⟩
theorem tX2_end (l : Launch) (D : va_G) (τ : ClassId × ClassId × ClassId × ClassId) (ad : Nat → Nat) : ∀ as μ r, mX2_end as μ = some r → gMt (D, τ, LB, ad) l yX2_end MX2_end as μ r := fun _ _ _ h => gMt_of (plainFor_of_name (by decide +kernel)) rfl dcX2_end (okX2_end l D τ ad) h
/-! GangMatrix$Board.nextHeldBy(II)I (LB) -/
abbrev MX2_nextHeldBy : gMi := (cX2_nextHeldBy, 4, RX2, some .int, 2)
noncomputable def PX2_nextHeldBy : gP := [(0, .iload_n 2, 1, i_ild 1 2), (1, .istore_n 3, 1, i_kll [2] (i_ist 1 3)), (2, .iload_n 3, 1, i_ild 1 3), (3, .aload_n 0, 1, i_ald 1 0), (4, .getfield 21, 3, i_gfd LB 1 2), (7, .getfield 124, 3, i_gfd LB 2 2), (10, .if_icmp .ge 37, 3, i_cge 47), (13, .aload_n 0, 1, i_ald 1 0), (14, .getfield 21, 3, i_gfd LB 1 2), (17, .iload_n 3, 1, i_ild 1 3), (18, .invokevirtual 141, 3, i_cvi LB 1 2 mX4_state), (21, .ifCond .ne 20, 3, i_fne 41), (24, .aload_n 0, 1, i_ald 1 0), (25, .getfield 21, 3, i_gfd LB 1 2), (28, .getfield 130, 3, i_gfd LB 2 0), (31, .iconst 3, 1, i_psh 1 (.int 3)), (32, .aaload, 1, i_aak LB 3 3 8), (33, .iload_n 3, 1, i_ild 1 3), (34, .iaload, 1, i_iad LB), (35, .iload_n 1, 1, i_ild 1 1), (36, .if_icmp .ne 5, 3, i_cne 41), (39, .iload_n 3, 1, i_ild 1 3), (40, .ireturn, 1, i_irt), (41, .iinc 3 1, 3, i_inc 3 1), (44, .goto (-42), 3, i_kll [2] (i_gto 2)), (47, .iconst (-1), 1, i_psh 1 (.int (-1))), (48, .ireturn, 1, i_irt)]
noncomputable def mX2_nextHeldBy : gF := g_m PX2_nextHeldBy 4
set_option maxRecDepth 20000 in
theorem dtX2_nextHeldBy : gDts PX2_nextHeldBy := ⟨dt_ild, dt_kll dt_ist, dt_ild, dt_ald, dt_gfd, dt_gfd, dt_cge, dt_ald, dt_gfd, dt_ild, dt_cvi, dt_fne, dt_ald, dt_gfd, dt_gfd, dt_psh, dt_aak, dt_ild, dt_iad, dt_ild, dt_cne, dt_ild, dt_irt, dt_inc, dt_kll dt_gto, dt_psh, dt_irt, trivial⟩
set_option maxRecDepth 20000 in
theorem dcX2_nextHeldBy : gDec MX2_nextHeldBy PX2_nextHeldBy := by unfold gDec PX2_nextHeldBy; decide +kernel
set_option maxRecDepth 20000 in
theorem okX2_nextHeldBy (l : Launch) (D : va_G) (τ : ClassId × ClassId × ClassId × ClassId) (ad : Nat → Nat) : gOks (D, τ, LB, ad) l MX2_nextHeldBy PX2_nextHeldBy := ⟨fun d => ok_iload_n d rfl, fun d => ok_kll (ok_istore_n d rfl), fun d => ok_iload_n d rfl, fun d => ok_aload_n d rfl, fun d => ok_getfield (ci := 1) (f := 2) (N := 14) (C := RX2) (T := TX2) d rfl inX2 (by decide) q322, fun d => ok_getfield (ci := 2) (f := 2) (N := 4) (C := RX4) (T := TX4) d rfl inX4 (by decide) q186, fun d => ok_icmpge d (by decide), fun d => ok_aload_n d rfl, fun d => ok_getfield (ci := 1) (f := 2) (N := 14) (C := RX2) (T := TX2) d rfl inX2 (by decide) q322, fun d => ok_iload_n d rfl, fun d => ok_cvi (ok_callV (M' := MX4_state) (ci := 2) (C := RX4) (T := TX4) (N := 4) d (tX4_state l D τ ad) rfl q598 q599 q600 q143 q601 (by decide +kernel) (by decide)), fun d => ok_ifne d (by decide), fun d => ok_aload_n d rfl, fun d => ok_getfield (ci := 1) (f := 2) (N := 14) (C := RX2) (T := TX2) d rfl inX2 (by decide) q322, fun d => ok_getfield (ci := 2) (f := 0) (N := 4) (C := RX4) (T := TX4) d rfl inX4 (by decide) q180, fun d => ok_iconst d (by decide), fun d => ok_aak (ok_aaload d) (by decide), fun d => ok_iload_n d rfl, fun d => ok_iaload d, fun d => ok_iload_n d rfl, fun d => ok_icmpne d (by decide), fun d => ok_iload_n d rfl, fun d => ok_ireturn d rfl, fun d => ok_iinc d (by decide), fun d => ok_kll (ok_goto d (by decide)), fun d => ok_iconst d (by decide), fun d => ok_ireturn d rfl, trivial⟩
theorem tX2_nextHeldBy (l : Launch) (D : va_G) (τ : ClassId × ClassId × ClassId × ClassId) (ad : Nat → Nat) : ∀ as μ r, mX2_nextHeldBy as μ = some r → gMt (D, τ, LB, ad) l yX2_nextHeldBy MX2_nextHeldBy as μ r := fun _ _ _ h => gMt_of (plainFor_of_name (by decide +kernel)) rfl dcX2_nextHeldBy (okX2_nextHeldBy l D τ ad) h
/-! GangMatrix$Board.killWithHeld(I)I (LB) -/
abbrev MX2_killWithHeld : gMi := (cX2_killWithHeld, 7, RX2, some .int, 5)
noncomputable def PX2_killWithHeld : gP := [(0, .iconst 1, 1, i_psh 1 (.int 1)), (1, .istore_n 2, 1, i_ist 1 2), (2, .iload_n 1, 1, i_ild 1 1), (3, .istore_n 3, 1, i_ist 1 3), (4, .iload_n 1, 1, i_ild 1 1), (5, .iconst 1, 1, i_psh 1 (.int 1)), (6, .iadd, 1, i_bin (fun x y => (x + y))), (7, .istore 4, 2, i_ist 2 4), (9, .aload_n 0, 1, i_ald 1 0), (10, .iload_n 1, 1, i_ild 1 1), (11, .invokevirtual 380, 3, i_cvv LB 1 1 mX2_end), (14, .aload_n 0, 1, i_ald 1 0), (15, .invokevirtual 347, 3, i_cvv LB 0 1 mX2_dropEmpty), (18, .iconst 0, 1, i_psh 1 (.int 0)), (19, .istore 5, 2, i_kll [6] (i_ist 2 5)), (21, .iload 5, 2, i_ild 2 5), (23, .bipush 120, 2, i_psh 2 (.int 120)), (25, .if_icmp .ge 70, 3, i_cge 95), (28, .aload_n 0, 1, i_ald 1 0), (29, .iload_n 3, 1, i_ild 1 3), (30, .iload 4, 2, i_ild 2 4), (32, .invokevirtual 383, 3, i_cvi LB 2 1 mX2_nextHeldBy), (35, .istore 6, 2, i_ist 2 6), (37, .iload 6, 2, i_ild 2 6), (39, .iconst (-1), 1, i_psh 1 (.int (-1))), (40, .if_icmp .eq 24, 3, i_ceq 64), (43, .aload_n 0, 1, i_ald 1 0), (44, .iload 6, 2, i_ild 2 6), (46, .invokevirtual 380, 3, i_cvv LB 1 1 mX2_end), (49, .iinc 2 1, 3, i_inc 2 1), (52, .iload 6, 2, i_ild 2 6), (54, .istore_n 3, 1, i_ist 1 3), (55, .iload 6, 2, i_ild 2 6), (57, .iconst 1, 1, i_psh 1 (.int 1)), (58, .iadd, 1, i_bin (fun x y => (x + y))), (59, .istore 4, 2, i_ist 2 4), (61, .goto 28, 3, i_gto 89), (64, .iload_n 3, 1, i_ild 1 3), (65, .iload_n 1, 1, i_ild 1 1), (66, .if_icmp .ne 6, 3, i_cne 72), (69, .goto 26, 3, i_gto 95), (72, .iload_n 3, 1, i_ild 1 3), (73, .iconst 1, 1, i_psh 1 (.int 1)), (74, .iadd, 1, i_bin (fun x y => (x + y))), (75, .istore 4, 2, i_ist 2 4), (77, .aload_n 0, 1, i_ald 1 0), (78, .getfield 21, 3, i_gfd LB 1 2), (81, .getfield 130, 3, i_gfd LB 2 0), (84, .iconst 3, 1, i_psh 1 (.int 3)), (85, .aaload, 1, i_aak LB 3 3 8), (86, .iload_n 3, 1, i_ild 1 3), (87, .iaload, 1, i_iad LB), (88, .istore_n 3, 1, i_ist 1 3), (89, .iinc 5 1, 3, i_inc 5 1), (92, .goto (-71), 3, i_kll [6] (i_gto 21)), (95, .iload_n 2, 1, i_ild 1 2), (96, .ireturn, 1, i_irt)]
noncomputable def mX2_killWithHeld : gF := g_m PX2_killWithHeld 7
set_option maxRecDepth 20000 in
theorem dtX2_killWithHeld : gDts PX2_killWithHeld := ⟨dt_psh, dt_ist, dt_ild, dt_ist, dt_ild, dt_psh, dt_bin, dt_ist, dt_ald, dt_ild, dt_cvv, dt_ald, dt_cvv, dt_psh, dt_kll dt_ist, dt_ild, dt_psh, dt_cge, dt_ald, dt_ild, dt_ild, dt_cvi, dt_ist, dt_ild, dt_psh, dt_ceq, dt_ald, dt_ild, dt_cvv, dt_inc, dt_ild, dt_ist, dt_ild, dt_psh, dt_bin, dt_ist, dt_gto, dt_ild, dt_ild, dt_cne, dt_gto, dt_ild, dt_psh, dt_bin, dt_ist, dt_ald, dt_gfd, dt_gfd, dt_psh, dt_aak, dt_ild, dt_iad, dt_ist, dt_inc, dt_kll dt_gto, dt_ild, dt_irt, trivial⟩
set_option maxRecDepth 20000 in
theorem dcX2_killWithHeld : gDec MX2_killWithHeld PX2_killWithHeld := by unfold gDec PX2_killWithHeld; decide +kernel
set_option maxRecDepth 20000 in
theorem okX2_killWithHeld (l : Launch) (D : va_G) (τ : ClassId × ClassId × ClassId × ClassId) (ad : Nat → Nat) : gOks (D, τ, LB, ad) l MX2_killWithHeld PX2_killWithHeld := ⟨fun d => ok_iconst d (by decide), fun d => ok_istore_n d rfl, fun d => ok_iload_n d rfl, fun d => ok_istore_n d rfl, fun d => ok_iload_n d rfl, fun d => ok_iconst d (by decide), fun d => ok_iadd d, fun d => ok_istore d, fun d => ok_aload_n d rfl, fun d => ok_iload_n d rfl, fun d => ok_cvv (ok_callV (M' := MX2_end) (ci := 1) (C := RX2) (T := TX2) (N := 14) d (tX2_end l D τ ad) rfl q625 q627 q6 q142 q628 (by decide +kernel) (by decide)), fun d => ok_aload_n d rfl, fun d => ok_cvv (ok_callV (M' := MX2_dropEmpty) (ci := 1) (C := RX2) (T := TX2) (N := 14) d (tX2_dropEmpty l D τ ad) rfl q633 q634 q635 q142 q636 (by decide +kernel) (by decide)), fun d => ok_iconst d (by decide), fun d => ok_kll (ok_istore d), fun d => ok_iload d, fun d => ok_bipush d (by decide), fun d => ok_icmpge d (by decide), fun d => ok_aload_n d rfl, fun d => ok_iload_n d rfl, fun d => ok_iload d, fun d => ok_cvi (ok_callV (M' := MX2_nextHeldBy) (ci := 1) (C := RX2) (T := TX2) (N := 14) d (tX2_nextHeldBy l D τ ad) rfl q645 q647 q8 q142 q648 (by decide +kernel) (by decide)), fun d => ok_istore d, fun d => ok_iload d, fun d => ok_iconst d (by decide), fun d => ok_icmpeq d (by decide), fun d => ok_aload_n d rfl, fun d => ok_iload d, fun d => ok_cvv (ok_callV (M' := MX2_end) (ci := 1) (C := RX2) (T := TX2) (N := 14) d (tX2_end l D τ ad) rfl q625 q627 q6 q142 q628 (by decide +kernel) (by decide)), fun d => ok_iinc d (by decide), fun d => ok_iload d, fun d => ok_istore_n d rfl, fun d => ok_iload d, fun d => ok_iconst d (by decide), fun d => ok_iadd d, fun d => ok_istore d, fun d => ok_goto d (by decide), fun d => ok_iload_n d rfl, fun d => ok_iload_n d rfl, fun d => ok_icmpne d (by decide), fun d => ok_goto d (by decide), fun d => ok_iload_n d rfl, fun d => ok_iconst d (by decide), fun d => ok_iadd d, fun d => ok_istore d, fun d => ok_aload_n d rfl, fun d => ok_getfield (ci := 1) (f := 2) (N := 14) (C := RX2) (T := TX2) d rfl inX2 (by decide) q322, fun d => ok_getfield (ci := 2) (f := 0) (N := 4) (C := RX4) (T := TX4) d rfl inX4 (by decide) q180, fun d => ok_iconst d (by decide), fun d => ok_aak (ok_aaload d) (by decide), fun d => ok_iload_n d rfl, fun d => ok_iaload d, fun d => ok_istore_n d rfl, fun d => ok_iinc d (by decide), fun d => ok_kll (ok_goto d (by decide)), fun d => ok_iload_n d rfl, fun d => ok_ireturn d rfl, trivial⟩
theorem tX2_killWithHeld (l : Launch) (D : va_G) (τ : ClassId × ClassId × ClassId × ClassId) (ad : Nat → Nat) : ∀ as μ r, mX2_killWithHeld as μ = some r → gMt (D, τ, LB, ad) l yX2_killWithHeld MX2_killWithHeld as μ r := fun _ _ _ h => gMt_of (plainFor_of_name (by decide +kernel)) rfl dcX2_killWithHeld (okX2_killWithHeld l D τ ad) h
/-! GangMatrix$Board.stands(II)Z (LB) -/
abbrev MX2_stands : gMi := (cX2_stands, 3, RX2, some .boolean, 3)
noncomputable def PX2_stands : gP := [(0, .aload_n 0, 1, i_ald 1 0), (1, .getfield 21, 3, i_gfd LB 1 2), (4, .iload_n 1, 1, i_ild 1 1), (5, .invokevirtual 338, 3, i_cvi LB 1 2 mX4_isPlaced), (8, .ifCond .eq 28, 3, i_feq 36), (11, .iload_n 2, 1, i_ild 1 2), (12, .iconst (-1), 1, i_psh 1 (.int (-1))), (13, .if_icmp .eq 19, 3, i_ceq 32), (16, .aload_n 0, 1, i_ald 1 0), (17, .getfield 21, 3, i_gfd LB 1 2), (20, .getfield 130, 3, i_gfd LB 2 0), (23, .bipush 7, 2, i_psh 2 (.int 7)), (25, .aaload, 1, i_aak LB 7 7 12), (26, .iload_n 1, 1, i_ild 1 1), (27, .iaload, 1, i_iad LB), (28, .iload_n 2, 1, i_ild 1 2), (29, .if_icmp .ne 7, 3, i_cne 36), (32, .iconst 1, 1, i_psh 1 (.int 1)), (33, .goto 4, 3, i_gto 37), (36, .iconst 0, 1, i_psh 1 (.int 0)), (37, .ireturn, 1, i_zrt)]
noncomputable def mX2_stands : gF := g_m PX2_stands 3
set_option maxRecDepth 20000 in
theorem dtX2_stands : gDts PX2_stands := ⟨dt_ald, dt_gfd, dt_ild, dt_cvi, dt_feq, dt_ild, dt_psh, dt_ceq, dt_ald, dt_gfd, dt_gfd, dt_psh, dt_aak, dt_ild, dt_iad, dt_ild, dt_cne, dt_psh, dt_gto, dt_psh, dt_zrt, trivial⟩
set_option maxRecDepth 20000 in
theorem dcX2_stands : gDec MX2_stands PX2_stands := by unfold gDec PX2_stands; decide +kernel
set_option maxRecDepth 20000 in
theorem okX2_stands (l : Launch) (D : va_G) (τ : ClassId × ClassId × ClassId × ClassId) (ad : Nat → Nat) : gOks (D, τ, LB, ad) l MX2_stands PX2_stands := ⟨fun d => ok_aload_n d rfl, fun d => ok_getfield (ci := 1) (f := 2) (N := 14) (C := RX2) (T := TX2) d rfl inX2 (by decide) q322, fun d => ok_iload_n d rfl, fun d => ok_cvi (ok_callV (M' := MX4_isPlaced) (ci := 2) (C := RX4) (T := TX4) (N := 4) d (tX4_isPlaced l D τ ad) rfl q735 q707 q708 q143 q709 (by decide +kernel) (by decide)), fun d => ok_ifeq d (by decide), fun d => ok_iload_n d rfl, fun d => ok_iconst d (by decide), fun d => ok_icmpeq d (by decide), fun d => ok_aload_n d rfl, fun d => ok_getfield (ci := 1) (f := 2) (N := 14) (C := RX2) (T := TX2) d rfl inX2 (by decide) q322, fun d => ok_getfield (ci := 2) (f := 0) (N := 4) (C := RX4) (T := TX4) d rfl inX4 (by decide) q180, fun d => ok_bipush d (by decide), fun d => ok_aak (ok_aaload d) (by decide), fun d => ok_iload_n d rfl, fun d => ok_iaload d, fun d => ok_iload_n d rfl, fun d => ok_icmpne d (by decide), fun d => ok_iconst d (by decide), fun d => ok_goto d (by decide), fun d => ok_iconst d (by decide), fun d => ok_zreturn d rfl, trivial⟩
theorem tX2_stands (l : Launch) (D : va_G) (τ : ClassId × ClassId × ClassId × ClassId) (ad : Nat → Nat) : ∀ as μ r, mX2_stands as μ = some r → gMt (D, τ, LB, ad) l yX2_stands MX2_stands as μ r := fun _ _ _ h => gMt_of (plainFor_of_name (by decide +kernel)) rfl dcX2_stands (okX2_stands l D τ ad) h
/-! GangMatrix$Jobs.lossOf(I)I (LB) -/
abbrev MX4_lossOf : gMi := (cX4_lossOf, 2, RX4, some .int, 1)
noncomputable def PX4_lossOf : gP := [(0, .aload_n 0, 1, i_ald 1 0), (1, .getfield 13, 3, i_gfd LB 2 0), (4, .iconst 0, 1, i_psh 1 (.int 0)), (5, .aaload, 1, i_aak LB 0 0 5), (6, .iload_n 1, 1, i_ild 1 1), (7, .iaload, 1, i_iad LB), (8, .aload_n 0, 1, i_ald 1 0), (9, .getfield 13, 3, i_gfd LB 2 0), (12, .bipush 6, 2, i_psh 2 (.int 6)), (14, .aaload, 1, i_aak LB 6 6 11), (15, .iload_n 1, 1, i_ild 1 1), (16, .iaload, 1, i_iad LB), (17, .aload_n 0, 1, i_ald 1 0), (18, .getfield 13, 3, i_gfd LB 2 0), (21, .iconst 5, 1, i_psh 1 (.int 5)), (22, .aaload, 1, i_aak LB 5 5 10), (23, .iload_n 1, 1, i_ild 1 1), (24, .iaload, 1, i_iad LB), (25, .isub, 1, i_bin (fun x y => (x - y))), (26, .imul, 1, i_bin (fun x y => (x * y))), (27, .ireturn, 1, i_irt)]
noncomputable def mX4_lossOf : gF := g_m PX4_lossOf 2
set_option maxRecDepth 20000 in
theorem dtX4_lossOf : gDts PX4_lossOf := ⟨dt_ald, dt_gfd, dt_psh, dt_aak, dt_ild, dt_iad, dt_ald, dt_gfd, dt_psh, dt_aak, dt_ild, dt_iad, dt_ald, dt_gfd, dt_psh, dt_aak, dt_ild, dt_iad, dt_bin, dt_bin, dt_irt, trivial⟩
set_option maxRecDepth 20000 in
theorem dcX4_lossOf : gDec MX4_lossOf PX4_lossOf := by unfold gDec PX4_lossOf; decide +kernel
set_option maxRecDepth 20000 in
theorem okX4_lossOf (l : Launch) (D : va_G) (τ : ClassId × ClassId × ClassId × ClassId) (ad : Nat → Nat) : gOks (D, τ, LB, ad) l MX4_lossOf PX4_lossOf := ⟨fun d => ok_aload_n d rfl, fun d => ok_getfield (ci := 2) (f := 0) (N := 4) (C := RX4) (T := TX4) d rfl inX4 (by decide) q177, fun d => ok_iconst d (by decide), fun d => ok_aak (ok_aaload d) (by decide), fun d => ok_iload_n d rfl, fun d => ok_iaload d, fun d => ok_aload_n d rfl, fun d => ok_getfield (ci := 2) (f := 0) (N := 4) (C := RX4) (T := TX4) d rfl inX4 (by decide) q177, fun d => ok_bipush d (by decide), fun d => ok_aak (ok_aaload d) (by decide), fun d => ok_iload_n d rfl, fun d => ok_iaload d, fun d => ok_aload_n d rfl, fun d => ok_getfield (ci := 2) (f := 0) (N := 4) (C := RX4) (T := TX4) d rfl inX4 (by decide) q177, fun d => ok_iconst d (by decide), fun d => ok_aak (ok_aaload d) (by decide), fun d => ok_iload_n d rfl, fun d => ok_iaload d, fun d => ok_isub d, fun d => ok_imul d, fun d => ok_ireturn d rfl, trivial⟩
theorem tX4_lossOf (l : Launch) (D : va_G) (τ : ClassId × ClassId × ClassId × ClassId) (ad : Nat → Nat) : ∀ as μ r, mX4_lossOf as μ = some r → gMt (D, τ, LB, ad) l yX4_lossOf MX4_lossOf as μ r := fun _ _ _ h => gMt_of (plainFor_of_name (by decide +kernel)) rfl dcX4_lossOf (okX4_lossOf l D τ ad) h
/-! GangMatrix$Board.putBack(II)V (LB) -/
abbrev MX2_putBack : gMi := (cX2_putBack, 4, RX2, none, 4)
noncomputable def PX2_putBack : gP := [(0, .iconst 0, 1, i_psh 1 (.int 0)), (1, .istore_n 3, 1, i_ist 1 3), (2, .iload_n 3, 1, i_ild 1 3), (3, .aload_n 0, 1, i_ald 1 0), (4, .getfield 21, 3, i_gfd LB 1 2), (7, .getfield 124, 3, i_gfd LB 2 2), (10, .if_icmp .ge 130, 3, i_cge 140), (13, .aload_n 0, 1, i_ald 1 0), (14, .iload_n 3, 1, i_ild 1 3), (15, .iload_n 1, 1, i_ild 1 1), (16, .invokevirtual 389, 3, i_cvi LB 2 1 mX2_stands), (19, .ifCond .eq 115, 3, i_feq 134), (22, .aload_n 0, 1, i_ald 1 0), (23, .getfield 21, 3, i_gfd LB 1 2), (26, .iload_n 3, 1, i_ild 1 3), (27, .invokevirtual 237, 3, i_cvi LB 1 2 mX4_block), (30, .iload_n 2, 1, i_ild 1 2), (31, .iand, 1, i_bin (fun x y => (x &&& y))), (32, .ifCond .eq 102, 3, i_feq 134), (35, .aload_n 0, 1, i_ald 1 0), (36, .iconst 5, 1, i_psh 1 (.int 5)), (37, .iload_n 3, 1, i_ild 1 3), (38, .invokevirtual 148, 3, i_cvv LB 2 1 mX2_note), (41, .aload_n 0, 1, i_ald 1 0), (42, .iload_n 3, 1, i_ild 1 3), (43, .invokevirtual 344, 3, i_cvv LB 1 1 mX2_takeOut), (46, .aload_n 0, 1, i_ald 1 0), (47, .getfield 15, 3, i_gfd LB 1 1), (50, .iconst 5, 1, i_psh 1 (.int 5)), (51, .dup2, 1, i_du2), (52, .iaload, 1, i_iak LB 5 5), (53, .aload_n 0, 1, i_ald 1 0), (54, .getfield 21, 3, i_gfd LB 1 2), (57, .iload_n 3, 1, i_ild 1 3), (58, .invokevirtual 392, 3, i_cvi LB 1 2 mX4_lossOf), (61, .iadd, 1, i_bin (fun x y => (x + y))), (62, .iastore, 1, i_isk LB 5 5), (63, .aload_n 0, 1, i_ald 1 0), (64, .getfield 15, 3, i_gfd LB 1 1), (67, .bipush 8, 2, i_psh 2 (.int 8)), (69, .dup2, 1, i_du2), (70, .iaload, 1, i_iak LB 8 8), (71, .iconst 1, 1, i_psh 1 (.int 1)), (72, .iadd, 1, i_bin (fun x y => (x + y))), (73, .iastore, 1, i_isk LB 8 8), (74, .aload_n 0, 1, i_ald 1 0), (75, .getfield 21, 3, i_gfd LB 1 2), (78, .getfield 130, 3, i_gfd LB 2 0), (81, .iconst 5, 1, i_psh 1 (.int 5)), (82, .aaload, 1, i_aak LB 5 5 10), (83, .iload_n 3, 1, i_ild 1 3), (84, .aload_n 0, 1, i_ald 1 0), (85, .getfield 21, 3, i_gfd LB 1 2), (88, .getfield 130, 3, i_gfd LB 2 0), (91, .bipush 6, 2, i_psh 2 (.int 6)), (93, .aaload, 1, i_aak LB 6 6 11), (94, .iload_n 3, 1, i_ild 1 3), (95, .iaload, 1, i_iad LB), (96, .iastore, 1, i_ias LB), (97, .aload_n 0, 1, i_ald 1 0), (98, .getfield 21, 3, i_gfd LB 1 2), (101, .getfield 130, 3, i_gfd LB 2 0), (104, .bipush 12, 2, i_psh 2 (.int 12)), (106, .aaload, 1, i_aak LB 12 12 17), (107, .iload_n 3, 1, i_ild 1 3), (108, .iconst 0, 1, i_psh 1 (.int 0)), (109, .iastore, 1, i_ias LB), (110, .aload_n 0, 1, i_ald 1 0), (111, .getfield 21, 3, i_gfd LB 1 2), (114, .getfield 130, 3, i_gfd LB 2 0), (117, .bipush 16, 2, i_psh 2 (.int 16)), (119, .aaload, 1, i_aak LB 16 16 21), (120, .iload_n 3, 1, i_ild 1 3), (121, .dup2, 1, i_du2), (122, .iaload, 1, i_iad LB), (123, .iconst 1, 1, i_psh 1 (.int 1)), (124, .iadd, 1, i_bin (fun x y => (x + y))), (125, .iastore, 1, i_ias LB), (126, .aload_n 0, 1, i_ald 1 0), (127, .getfield 21, 3, i_gfd LB 1 2), (130, .iload_n 3, 1, i_ild 1 3), (131, .invokevirtual 144, 3, i_cvv LB 1 2 mX4_toLine), (134, .iinc 3 1, 3, i_inc 3 1), (137, .goto (-135), 3, i_gto 2), (140, .return_, 1, i_vrt)]
noncomputable def mX2_putBack : gF := g_m PX2_putBack 4
set_option maxRecDepth 20000 in
theorem dtX2_putBack : gDts PX2_putBack := ⟨dt_psh, dt_ist, dt_ild, dt_ald, dt_gfd, dt_gfd, dt_cge, dt_ald, dt_ild, dt_ild, dt_cvi, dt_feq, dt_ald, dt_gfd, dt_ild, dt_cvi, dt_ild, dt_bin, dt_feq, dt_ald, dt_psh, dt_ild, dt_cvv, dt_ald, dt_ild, dt_cvv, dt_ald, dt_gfd, dt_psh, dt_du2, dt_iak, dt_ald, dt_gfd, dt_ild, dt_cvi, dt_bin, dt_isk, dt_ald, dt_gfd, dt_psh, dt_du2, dt_iak, dt_psh, dt_bin, dt_isk, dt_ald, dt_gfd, dt_gfd, dt_psh, dt_aak, dt_ild, dt_ald, dt_gfd, dt_gfd, dt_psh, dt_aak, dt_ild, dt_iad, dt_ias, dt_ald, dt_gfd, dt_gfd, dt_psh, dt_aak, dt_ild, dt_psh, dt_ias, dt_ald, dt_gfd, dt_gfd, dt_psh, dt_aak, dt_ild, dt_du2, dt_iad, dt_psh, dt_bin, dt_ias, dt_ald, dt_gfd, dt_ild, dt_cvv, dt_inc, dt_gto, dt_vrt, trivial⟩
set_option maxRecDepth 20000 in
theorem dcX2_putBack : gDec MX2_putBack PX2_putBack := by unfold gDec PX2_putBack; decide +kernel
set_option maxRecDepth 20000 in
theorem okX2_putBack (l : Launch) (D : va_G) (τ : ClassId × ClassId × ClassId × ClassId) (ad : Nat → Nat) : gOks (D, τ, LB, ad) l MX2_putBack PX2_putBack := ⟨fun d => ok_iconst d (by decide), fun d => ok_istore_n d rfl, fun d => ok_iload_n d rfl, fun d => ok_aload_n d rfl, fun d => ok_getfield (ci := 1) (f := 2) (N := 14) (C := RX2) (T := TX2) d rfl inX2 (by decide) q322, fun d => ok_getfield (ci := 2) (f := 2) (N := 4) (C := RX4) (T := TX4) d rfl inX4 (by decide) q186, fun d => ok_icmpge d (by decide), fun d => ok_aload_n d rfl, fun d => ok_iload_n d rfl, fun d => ok_iload_n d rfl, fun d => ok_cvi (ok_callV (M' := MX2_stands) (ci := 1) (C := RX2) (T := TX2) (N := 14) d (tX2_stands l D τ ad) rfl q798 q799 q800 q142 q801 (by decide +kernel) (by decide)), fun d => ok_ifeq d (by decide), fun d => ok_aload_n d rfl, fun d => ok_getfield (ci := 1) (f := 2) (N := 14) (C := RX2) (T := TX2) d rfl inX2 (by decide) q322, fun d => ok_iload_n d rfl, fun d => ok_cvi (ok_callV (M' := MX4_block) (ci := 2) (C := RX4) (T := TX4) (N := 4) d (tX4_block l D τ ad) rfl q549 q550 q551 q143 q552 (by decide +kernel) (by decide)), fun d => ok_iload_n d rfl, fun d => ok_iand d, fun d => ok_ifeq d (by decide), fun d => ok_aload_n d rfl, fun d => ok_iconst d (by decide), fun d => ok_iload_n d rfl, fun d => ok_cvv (ok_callV (M' := MX2_note) (ci := 1) (C := RX2) (T := TX2) (N := 14) d (tX2_note l D τ ad) rfl q554 q555 q556 q142 q557 (by decide +kernel) (by decide)), fun d => ok_aload_n d rfl, fun d => ok_iload_n d rfl, fun d => ok_cvv (ok_callV (M' := MX2_takeOut) (ci := 1) (C := RX2) (T := TX2) (N := 14) d (tX2_takeOut l D τ ad) rfl q629 q630 q631 q142 q632 (by decide +kernel) (by decide)), fun d => ok_aload_n d rfl, fun d => ok_getfield (ci := 1) (f := 1) (N := 14) (C := RX2) (T := TX2) d rfl inX2 (by decide) q318, fun d => ok_iconst d (by decide), fun d => ok_dup2 d, fun d => ok_iak (ok_iaload d) (by decide), fun d => ok_aload_n d rfl, fun d => ok_getfield (ci := 1) (f := 2) (N := 14) (C := RX2) (T := TX2) d rfl inX2 (by decide) q322, fun d => ok_iload_n d rfl, fun d => ok_cvi (ok_callV (M' := MX4_lossOf) (ci := 2) (C := RX4) (T := TX4) (N := 4) d (tX4_lossOf l D τ ad) rfl q802 q803 q804 q143 q805 (by decide +kernel) (by decide)), fun d => ok_iadd d, fun d => ok_isk (ok_iastore d) (by decide), fun d => ok_aload_n d rfl, fun d => ok_getfield (ci := 1) (f := 1) (N := 14) (C := RX2) (T := TX2) d rfl inX2 (by decide) q318, fun d => ok_bipush d (by decide), fun d => ok_dup2 d, fun d => ok_iak (ok_iaload d) (by decide), fun d => ok_iconst d (by decide), fun d => ok_iadd d, fun d => ok_isk (ok_iastore d) (by decide), fun d => ok_aload_n d rfl, fun d => ok_getfield (ci := 1) (f := 2) (N := 14) (C := RX2) (T := TX2) d rfl inX2 (by decide) q322, fun d => ok_getfield (ci := 2) (f := 0) (N := 4) (C := RX4) (T := TX4) d rfl inX4 (by decide) q180, fun d => ok_iconst d (by decide), fun d => ok_aak (ok_aaload d) (by decide), fun d => ok_iload_n d rfl, fun d => ok_aload_n d rfl, fun d => ok_getfield (ci := 1) (f := 2) (N := 14) (C := RX2) (T := TX2) d rfl inX2 (by decide) q322, fun d => ok_getfield (ci := 2) (f := 0) (N := 4) (C := RX4) (T := TX4) d rfl inX4 (by decide) q180, fun d => ok_bipush d (by decide), fun d => ok_aak (ok_aaload d) (by decide), fun d => ok_iload_n d rfl, fun d => ok_iaload d, fun d => ok_iastore d, fun d => ok_aload_n d rfl, fun d => ok_getfield (ci := 1) (f := 2) (N := 14) (C := RX2) (T := TX2) d rfl inX2 (by decide) q322, fun d => ok_getfield (ci := 2) (f := 0) (N := 4) (C := RX4) (T := TX4) d rfl inX4 (by decide) q180, fun d => ok_bipush d (by decide), fun d => ok_aak (ok_aaload d) (by decide), fun d => ok_iload_n d rfl, fun d => ok_iconst d (by decide), fun d => ok_iastore d, fun d => ok_aload_n d rfl, fun d => ok_getfield (ci := 1) (f := 2) (N := 14) (C := RX2) (T := TX2) d rfl inX2 (by decide) q322, fun d => ok_getfield (ci := 2) (f := 0) (N := 4) (C := RX4) (T := TX4) d rfl inX4 (by decide) q180, fun d => ok_bipush d (by decide), fun d => ok_aak (ok_aaload d) (by decide), fun d => ok_iload_n d rfl, fun d => ok_dup2 d, fun d => ok_iaload d, fun d => ok_iconst d (by decide), fun d => ok_iadd d, fun d => ok_iastore d, fun d => ok_aload_n d rfl, fun d => ok_getfield (ci := 1) (f := 2) (N := 14) (C := RX2) (T := TX2) d rfl inX2 (by decide) q322, fun d => ok_iload_n d rfl, fun d => ok_cvv (ok_callV (M' := MX4_toLine) (ci := 2) (C := RX4) (T := TX4) (N := 4) d (tX4_toLine l D τ ad) rfl q602 q603 q604 q143 q605 (by decide +kernel) (by decide)), fun d => ok_iinc d (by decide), fun d => ok_goto d (by decide), fun d => ok_vreturn d rfl, trivial⟩
theorem tX2_putBack (l : Launch) (D : va_G) (τ : ClassId × ClassId × ClassId × ClassId) (ad : Nat → Nat) : ∀ as μ r, mX2_putBack as μ = some r → gMt (D, τ, LB, ad) l yX2_putBack MX2_putBack as μ r := fun _ _ _ h => gMt_of (plainFor_of_name (by decide +kernel)) rfl dcX2_putBack (okX2_putBack l D τ ad) h
/-! GangMatrix$Board.fail(I)V (LB) -/
abbrev MX2_fail : gMi := (cX2_fail, 2, RX2, none, 5)
noncomputable def PX2_fail : gP := [(0, .aload_n 0, 1, i_ald 1 0), (1, .dup, 1, i_dup), (2, .getfield 100, 3, i_gfd LB 1 13), (5, .iconst 1, 1, i_psh 1 (.int 1)), (6, .iload_n 1, 1, i_ild 1 1), (7, .ishl, 1, i_bin (fun x y => (x <<< (y &&& 31)))), (8, .ior, 1, i_bin (fun x y => (x ||| y))), (9, .putfield 100, 3, i_pfd LB 1 13), (12, .aload_n 0, 1, i_ald 1 0), (13, .iconst (-1), 1, i_psh 1 (.int (-1))), (14, .iconst 1, 1, i_psh 1 (.int 1)), (15, .iload_n 1, 1, i_ild 1 1), (16, .ishl, 1, i_bin (fun x y => (x <<< (y &&& 31)))), (17, .invokevirtual 386, 3, i_cvv LB 2 1 mX2_putBack), (20, .aload_n 0, 1, i_ald 1 0), (21, .invokevirtual 347, 3, i_cvv LB 0 1 mX2_dropEmpty), (24, .return_, 1, i_vrt)]
noncomputable def mX2_fail : gF := g_m PX2_fail 2
set_option maxRecDepth 20000 in
theorem dtX2_fail : gDts PX2_fail := ⟨dt_ald, dt_dup, dt_gfd, dt_psh, dt_ild, dt_bin, dt_bin, dt_pfd, dt_ald, dt_psh, dt_psh, dt_ild, dt_bin, dt_cvv, dt_ald, dt_cvv, dt_vrt, trivial⟩
set_option maxRecDepth 20000 in
theorem dcX2_fail : gDec MX2_fail PX2_fail := by unfold gDec PX2_fail; decide +kernel
set_option maxRecDepth 20000 in
theorem okX2_fail (l : Launch) (D : va_G) (τ : ClassId × ClassId × ClassId × ClassId) (ad : Nat → Nat) : gOks (D, τ, LB, ad) l MX2_fail PX2_fail := ⟨fun d => ok_aload_n d rfl, fun d => ok_dup d, fun d => ok_getfield (ci := 1) (f := 13) (N := 14) (C := RX2) (T := TX2) d rfl inX2 (by decide) q343, fun d => ok_iconst d (by decide), fun d => ok_iload_n d rfl, fun d => ok_ishl d, fun d => ok_ior d, fun d => ok_putfield (ci := 1) (f := 13) (N := 14) (C := RX2) (T := TX2) d rfl inX2 tyX2_ok nmX2 (by decide) q343 rfl (by decide), fun d => ok_aload_n d rfl, fun d => ok_iconst d (by decide), fun d => ok_iconst d (by decide), fun d => ok_iload_n d rfl, fun d => ok_ishl d, fun d => ok_cvv (ok_callV (M' := MX2_putBack) (ci := 1) (C := RX2) (T := TX2) (N := 14) d (tX2_putBack l D τ ad) rfl q794 q795 q796 q142 q797 (by decide +kernel) (by decide)), fun d => ok_aload_n d rfl, fun d => ok_cvv (ok_callV (M' := MX2_dropEmpty) (ci := 1) (C := RX2) (T := TX2) (N := 14) d (tX2_dropEmpty l D τ ad) rfl q633 q634 q635 q142 q636 (by decide +kernel) (by decide)), fun d => ok_vreturn d rfl, trivial⟩
theorem tX2_fail (l : Launch) (D : va_G) (τ : ClassId × ClassId × ClassId × ClassId) (ad : Nat → Nat) : ∀ as μ r, mX2_fail as μ = some r → gMt (D, τ, LB, ad) l yX2_fail MX2_fail as μ r := fun _ _ _ h => gMt_of (plainFor_of_name (by decide +kernel)) rfl dcX2_fail (okX2_fail l D τ ad) h
/-! GangMatrix$Crew.lentAt(I)I (LB) -/
abbrev MX3_lentAt : gMi := (cX3_lentAt, 2, RX3, some .int, 1)
noncomputable def PX3_lentAt : gP := [(0, .iload_n 1, 1, i_ild 1 1), (1, .ifCond .lt 25, 3, i_flt 26), (4, .iload_n 1, 1, i_ild 1 1), (5, .aload_n 0, 1, i_ald 1 0), (6, .getfield 24, 3, i_gfd LB 7 4), (9, .if_icmp .ge 17, 3, i_cge 26), (12, .aload_n 0, 1, i_ald 1 0), (13, .getfield 11, 3, i_gfd LB 7 0), (16, .aload_n 0, 1, i_ald 1 0), (17, .getfield 20, 3, i_gfd LB 7 3), (20, .iload_n 1, 1, i_ild 1 1), (21, .iadd, 1, i_bin (fun x y => (x + y))), (22, .iaload, 1, i_iad LB), (23, .goto 4, 3, i_gto 27), (26, .iconst (-1), 1, i_psh 1 (.int (-1))), (27, .ireturn, 1, i_irt)]
noncomputable def mX3_lentAt : gF := g_m PX3_lentAt 2
set_option maxRecDepth 20000 in
theorem dtX3_lentAt : gDts PX3_lentAt := ⟨dt_ild, dt_flt, dt_ild, dt_ald, dt_gfd, dt_cge, dt_ald, dt_gfd, dt_ald, dt_gfd, dt_ild, dt_bin, dt_iad, dt_gto, dt_psh, dt_irt, trivial⟩
set_option maxRecDepth 20000 in
theorem dcX3_lentAt : gDec MX3_lentAt PX3_lentAt := by unfold gDec PX3_lentAt; decide +kernel
set_option maxRecDepth 20000 in
theorem okX3_lentAt (l : Launch) (D : va_G) (τ : ClassId × ClassId × ClassId × ClassId) (ad : Nat → Nat) : gOks (D, τ, LB, ad) l MX3_lentAt PX3_lentAt := ⟨fun d => ok_iload_n d rfl, fun d => ok_iflt d (by decide), fun d => ok_iload_n d rfl, fun d => ok_aload_n d rfl, fun d => ok_getfield (ci := 7) (f := 4) (N := 6) (C := RX3) (T := TX3) d rfl inX3 (by decide) q297, fun d => ok_icmpge d (by decide), fun d => ok_aload_n d rfl, fun d => ok_getfield (ci := 7) (f := 0) (N := 6) (C := RX3) (T := TX3) d rfl inX3 (by decide) q291, fun d => ok_aload_n d rfl, fun d => ok_getfield (ci := 7) (f := 3) (N := 6) (C := RX3) (T := TX3) d rfl inX3 (by decide) q295, fun d => ok_iload_n d rfl, fun d => ok_iadd d, fun d => ok_iaload d, fun d => ok_goto d (by decide), fun d => ok_iconst d (by decide), fun d => ok_ireturn d rfl, trivial⟩
theorem tX3_lentAt (l : Launch) (D : va_G) (τ : ClassId × ClassId × ClassId × ClassId) (ad : Nat → Nat) : ∀ as μ r, mX3_lentAt as μ = some r → gMt (D, τ, LB, ad) l yX3_lentAt MX3_lentAt as μ r := fun _ _ _ h => gMt_of (plainFor_of_name (by decide +kernel)) rfl dcX3_lentAt (okX3_lentAt l D τ ad) h
/-! GangMatrix$Jobs.isWaiting(I)Z (LB) -/
abbrev MX4_isWaiting : gMi := (cX4_isWaiting, 2, RX4, some .boolean, 2)
noncomputable def PX4_isWaiting : gP := [(0, .aload_n 0, 1, i_ald 1 0), (1, .iload_n 1, 1, i_ild 1 1), (2, .invokevirtual 24, 3, i_cvi LB 1 2 mX4_has), (5, .ifCond .eq 19, 3, i_feq 24), (8, .aload_n 0, 1, i_ald 1 0), (9, .getfield 13, 3, i_gfd LB 2 0), (12, .iconst 4, 1, i_psh 1 (.int 4)), (13, .aaload, 1, i_aak LB 4 4 9), (14, .iload_n 1, 1, i_ild 1 1), (15, .iaload, 1, i_iad LB), (16, .iconst 1, 1, i_psh 1 (.int 1)), (17, .if_icmp .ne 7, 3, i_cne 24), (20, .iconst 1, 1, i_psh 1 (.int 1)), (21, .goto 4, 3, i_gto 25), (24, .iconst 0, 1, i_psh 1 (.int 0)), (25, .ireturn, 1, i_zrt)]
noncomputable def mX4_isWaiting : gF := g_m PX4_isWaiting 2
set_option maxRecDepth 20000 in
theorem dtX4_isWaiting : gDts PX4_isWaiting := ⟨dt_ald, dt_ild, dt_cvi, dt_feq, dt_ald, dt_gfd, dt_psh, dt_aak, dt_ild, dt_iad, dt_psh, dt_cne, dt_psh, dt_gto, dt_psh, dt_zrt, trivial⟩
set_option maxRecDepth 20000 in
theorem dcX4_isWaiting : gDec MX4_isWaiting PX4_isWaiting := by unfold gDec PX4_isWaiting; decide +kernel
set_option maxRecDepth 20000 in
theorem okX4_isWaiting (l : Launch) (D : va_G) (τ : ClassId × ClassId × ClassId × ClassId) (ad : Nat → Nat) : gOks (D, τ, LB, ad) l MX4_isWaiting PX4_isWaiting := ⟨fun d => ok_aload_n d rfl, fun d => ok_iload_n d rfl, fun d => ok_cvi (ok_callV (M' := MX4_has) (ci := 2) (C := RX4) (T := TX4) (N := 4) d (tX4_has l D τ ad) rfl q585 q586 q587 q143 q588 (by decide +kernel) (by decide)), fun d => ok_ifeq d (by decide), fun d => ok_aload_n d rfl, fun d => ok_getfield (ci := 2) (f := 0) (N := 4) (C := RX4) (T := TX4) d rfl inX4 (by decide) q177, fun d => ok_iconst d (by decide), fun d => ok_aak (ok_aaload d) (by decide), fun d => ok_iload_n d rfl, fun d => ok_iaload d, fun d => ok_iconst d (by decide), fun d => ok_icmpne d (by decide), fun d => ok_iconst d (by decide), fun d => ok_goto d (by decide), fun d => ok_iconst d (by decide), fun d => ok_zreturn d rfl, trivial⟩
theorem tX4_isWaiting (l : Launch) (D : va_G) (τ : ClassId × ClassId × ClassId × ClassId) (ad : Nat → Nat) : ∀ as μ r, mX4_isWaiting as μ = some r → gMt (D, τ, LB, ad) l yX4_isWaiting MX4_isWaiting as μ r := fun _ _ _ h => gMt_of (plainFor_of_name (by decide +kernel)) rfl dcX4_isWaiting (okX4_isWaiting l D τ ad) h
/-! GangMatrix$Jobs.canFollow(I)Z (LB) -/
abbrev MX4_canFollow : gMi := (cX4_canFollow, 2, RX4, some .boolean, 2)
noncomputable def PX4_canFollow : gP := [(0, .iload_n 1, 1, i_ild 1 1), (1, .iconst (-1), 1, i_psh 1 (.int (-1))), (2, .if_icmp .eq 23, 3, i_ceq 25), (5, .aload_n 0, 1, i_ald 1 0), (6, .iload_n 1, 1, i_ild 1 1), (7, .invokevirtual 24, 3, i_cvi LB 1 2 mX4_has), (10, .ifCond .eq 19, 3, i_feq 29), (13, .aload_n 0, 1, i_ald 1 0), (14, .getfield 13, 3, i_gfd LB 2 0), (17, .iconst 4, 1, i_psh 1 (.int 4)), (18, .aaload, 1, i_aak LB 4 4 9), (19, .iload_n 1, 1, i_ild 1 1), (20, .iaload, 1, i_iad LB), (21, .iconst 4, 1, i_psh 1 (.int 4)), (22, .if_icmp .eq 7, 3, i_ceq 29), (25, .iconst 1, 1, i_psh 1 (.int 1)), (26, .goto 4, 3, i_gto 30), (29, .iconst 0, 1, i_psh 1 (.int 0)), (30, .ireturn, 1, i_zrt)]
noncomputable def mX4_canFollow : gF := g_m PX4_canFollow 2
set_option maxRecDepth 20000 in
theorem dtX4_canFollow : gDts PX4_canFollow := ⟨dt_ild, dt_psh, dt_ceq, dt_ald, dt_ild, dt_cvi, dt_feq, dt_ald, dt_gfd, dt_psh, dt_aak, dt_ild, dt_iad, dt_psh, dt_ceq, dt_psh, dt_gto, dt_psh, dt_zrt, trivial⟩
set_option maxRecDepth 20000 in
theorem dcX4_canFollow : gDec MX4_canFollow PX4_canFollow := by unfold gDec PX4_canFollow; decide +kernel
set_option maxRecDepth 20000 in
theorem okX4_canFollow (l : Launch) (D : va_G) (τ : ClassId × ClassId × ClassId × ClassId) (ad : Nat → Nat) : gOks (D, τ, LB, ad) l MX4_canFollow PX4_canFollow := ⟨fun d => ok_iload_n d rfl, fun d => ok_iconst d (by decide), fun d => ok_icmpeq d (by decide), fun d => ok_aload_n d rfl, fun d => ok_iload_n d rfl, fun d => ok_cvi (ok_callV (M' := MX4_has) (ci := 2) (C := RX4) (T := TX4) (N := 4) d (tX4_has l D τ ad) rfl q585 q586 q587 q143 q588 (by decide +kernel) (by decide)), fun d => ok_ifeq d (by decide), fun d => ok_aload_n d rfl, fun d => ok_getfield (ci := 2) (f := 0) (N := 4) (C := RX4) (T := TX4) d rfl inX4 (by decide) q177, fun d => ok_iconst d (by decide), fun d => ok_aak (ok_aaload d) (by decide), fun d => ok_iload_n d rfl, fun d => ok_iaload d, fun d => ok_iconst d (by decide), fun d => ok_icmpeq d (by decide), fun d => ok_iconst d (by decide), fun d => ok_goto d (by decide), fun d => ok_iconst d (by decide), fun d => ok_zreturn d rfl, trivial⟩
theorem tX4_canFollow (l : Launch) (D : va_G) (τ : ClassId × ClassId × ClassId × ClassId) (ad : Nat → Nat) : ∀ as μ r, mX4_canFollow as μ = some r → gMt (D, τ, LB, ad) l yX4_canFollow MX4_canFollow as μ r := fun _ _ _ h => gMt_of (plainFor_of_name (by decide +kernel)) rfl dcX4_canFollow (okX4_canFollow l D τ ad) h
/-! GangMatrix$Jobs.inBlock(II)I (LB) -/
abbrev MX4_inBlock : gMi := (cX4_inBlock, 4, RX4, some .int, 3)
noncomputable def PX4_inBlock : gP := [(0, .iconst 0, 1, i_psh 1 (.int 0)), (1, .istore_n 3, 1, i_ist 1 3), (2, .iload_n 3, 1, i_ild 1 3), (3, .aload_n 0, 1, i_ald 1 0), (4, .getfield 20, 3, i_gfd LB 2 2), (7, .if_icmp .ge 37, 3, i_cge 44), (10, .aload_n 0, 1, i_ald 1 0), (11, .getfield 13, 3, i_gfd LB 2 0), (14, .bipush 7, 2, i_psh 2 (.int 7)), (16, .aaload, 1, i_aak LB 7 7 12), (17, .iload_n 3, 1, i_ild 1 3), (18, .iaload, 1, i_iad LB), (19, .iload_n 1, 1, i_ild 1 1), (20, .if_icmp .ne 18, 3, i_cne 38), (23, .aload_n 0, 1, i_ald 1 0), (24, .iload_n 3, 1, i_ild 1 3), (25, .invokevirtual 41, 3, i_cvi LB 1 2 mX4_block), (28, .iload_n 2, 1, i_ild 1 2), (29, .iushr, 1, i_bin (fun x y => (g_ushr x y))), (30, .iconst 1, 1, i_psh 1 (.int 1)), (31, .iand, 1, i_bin (fun x y => (x &&& y))), (32, .iconst 1, 1, i_psh 1 (.int 1)), (33, .if_icmp .ne 5, 3, i_cne 38), (36, .iload_n 3, 1, i_ild 1 3), (37, .ireturn, 1, i_irt), (38, .iinc 3 1, 3, i_inc 3 1), (41, .goto (-39), 3, i_gto 2), (44, .iconst (-1), 1, i_psh 1 (.int (-1))), (45, .ireturn, 1, i_irt)]
noncomputable def mX4_inBlock : gF := g_m PX4_inBlock 4
set_option maxRecDepth 20000 in
theorem dtX4_inBlock : gDts PX4_inBlock := ⟨dt_psh, dt_ist, dt_ild, dt_ald, dt_gfd, dt_cge, dt_ald, dt_gfd, dt_psh, dt_aak, dt_ild, dt_iad, dt_ild, dt_cne, dt_ald, dt_ild, dt_cvi, dt_ild, dt_bin, dt_psh, dt_bin, dt_psh, dt_cne, dt_ild, dt_irt, dt_inc, dt_gto, dt_psh, dt_irt, trivial⟩
set_option maxRecDepth 20000 in
theorem dcX4_inBlock : gDec MX4_inBlock PX4_inBlock := by unfold gDec PX4_inBlock; decide +kernel
set_option maxRecDepth 20000 in
theorem okX4_inBlock (l : Launch) (D : va_G) (τ : ClassId × ClassId × ClassId × ClassId) (ad : Nat → Nat) : gOks (D, τ, LB, ad) l MX4_inBlock PX4_inBlock := ⟨fun d => ok_iconst d (by decide), fun d => ok_istore_n d rfl, fun d => ok_iload_n d rfl, fun d => ok_aload_n d rfl, fun d => ok_getfield (ci := 2) (f := 2) (N := 4) (C := RX4) (T := TX4) d rfl inX4 (by decide) q184, fun d => ok_icmpge d (by decide), fun d => ok_aload_n d rfl, fun d => ok_getfield (ci := 2) (f := 0) (N := 4) (C := RX4) (T := TX4) d rfl inX4 (by decide) q177, fun d => ok_bipush d (by decide), fun d => ok_aak (ok_aaload d) (by decide), fun d => ok_iload_n d rfl, fun d => ok_iaload d, fun d => ok_iload_n d rfl, fun d => ok_icmpne d (by decide), fun d => ok_aload_n d rfl, fun d => ok_iload_n d rfl, fun d => ok_cvi (ok_callV (M' := MX4_block) (ci := 2) (C := RX4) (T := TX4) (N := 4) d (tX4_block l D τ ad) rfl q1062 q550 q551 q143 q552 (by decide +kernel) (by decide)), fun d => ok_iload_n d rfl, fun d => ok_iushr d, fun d => ok_iconst d (by decide), fun d => ok_iand d, fun d => ok_iconst d (by decide), fun d => ok_icmpne d (by decide), fun d => ok_iload_n d rfl, fun d => ok_ireturn d rfl, fun d => ok_iinc d (by decide), fun d => ok_goto d (by decide), fun d => ok_iconst d (by decide), fun d => ok_ireturn d rfl, trivial⟩
theorem tX4_inBlock (l : Launch) (D : va_G) (τ : ClassId × ClassId × ClassId × ClassId) (ad : Nat → Nat) : ∀ as μ r, mX4_inBlock as μ = some r → gMt (D, τ, LB, ad) l yX4_inBlock MX4_inBlock as μ r := fun _ _ _ h => gMt_of (plainFor_of_name (by decide +kernel)) rfl dcX4_inBlock (okX4_inBlock l D τ ad) h
/-! GangMatrix$Jobs.inState(I)I (LB) -/
abbrev MX4_inState : gMi := (cX4_inState, 4, RX4, some .int, 1)
noncomputable def PX4_inState : gP := [(0, .iconst 0, 1, i_psh 1 (.int 0)), (1, .istore_n 2, 1, i_ist 1 2), (2, .iconst 0, 1, i_psh 1 (.int 0)), (3, .istore_n 3, 1, i_ist 1 3), (4, .iload_n 3, 1, i_ild 1 3), (5, .aload_n 0, 1, i_ald 1 0), (6, .getfield 20, 3, i_gfd LB 2 2), (9, .if_icmp .ge 24, 3, i_cge 33), (12, .aload_n 0, 1, i_ald 1 0), (13, .getfield 13, 3, i_gfd LB 2 0), (16, .iconst 4, 1, i_psh 1 (.int 4)), (17, .aaload, 1, i_aak LB 4 4 9), (18, .iload_n 3, 1, i_ild 1 3), (19, .iaload, 1, i_iad LB), (20, .iload_n 1, 1, i_ild 1 1), (21, .if_icmp .ne 6, 3, i_cne 27), (24, .iinc 2 1, 3, i_inc 2 1), (27, .iinc 3 1, 3, i_inc 3 1), (30, .goto (-26), 3, i_gto 4), (33, .iload_n 2, 1, i_ild 1 2), (34, .ireturn, 1, i_irt)]
noncomputable def mX4_inState : gF := g_m PX4_inState 4
set_option maxRecDepth 20000 in
theorem dtX4_inState : gDts PX4_inState := ⟨dt_psh, dt_ist, dt_psh, dt_ist, dt_ild, dt_ald, dt_gfd, dt_cge, dt_ald, dt_gfd, dt_psh, dt_aak, dt_ild, dt_iad, dt_ild, dt_cne, dt_inc, dt_inc, dt_gto, dt_ild, dt_irt, trivial⟩
set_option maxRecDepth 20000 in
theorem dcX4_inState : gDec MX4_inState PX4_inState := by unfold gDec PX4_inState; decide +kernel
set_option maxRecDepth 20000 in
theorem okX4_inState (l : Launch) (D : va_G) (τ : ClassId × ClassId × ClassId × ClassId) (ad : Nat → Nat) : gOks (D, τ, LB, ad) l MX4_inState PX4_inState := ⟨fun d => ok_iconst d (by decide), fun d => ok_istore_n d rfl, fun d => ok_iconst d (by decide), fun d => ok_istore_n d rfl, fun d => ok_iload_n d rfl, fun d => ok_aload_n d rfl, fun d => ok_getfield (ci := 2) (f := 2) (N := 4) (C := RX4) (T := TX4) d rfl inX4 (by decide) q184, fun d => ok_icmpge d (by decide), fun d => ok_aload_n d rfl, fun d => ok_getfield (ci := 2) (f := 0) (N := 4) (C := RX4) (T := TX4) d rfl inX4 (by decide) q177, fun d => ok_iconst d (by decide), fun d => ok_aak (ok_aaload d) (by decide), fun d => ok_iload_n d rfl, fun d => ok_iaload d, fun d => ok_iload_n d rfl, fun d => ok_icmpne d (by decide), fun d => ok_iinc d (by decide), fun d => ok_iinc d (by decide), fun d => ok_goto d (by decide), fun d => ok_iload_n d rfl, fun d => ok_ireturn d rfl, trivial⟩
theorem tX4_inState (l : Launch) (D : va_G) (τ : ClassId × ClassId × ClassId × ClassId) (ad : Nat → Nat) : ∀ as μ r, mX4_inState as μ = some r → gMt (D, τ, LB, ad) l yX4_inState MX4_inState as μ r := fun _ _ _ h => gMt_of (plainFor_of_name (by decide +kernel)) rfl dcX4_inState (okX4_inState l D τ ad) h
/-! GangMatrix$Jobs.inSlot(I)I (LB) -/
abbrev MX4_inSlot : gMi := (cX4_inSlot, 4, RX4, some .int, 1)
noncomputable def PX4_inSlot : gP := [(0, .iconst 0, 1, i_psh 1 (.int 0)), (1, .istore_n 2, 1, i_ist 1 2), (2, .iconst 0, 1, i_psh 1 (.int 0)), (3, .istore_n 3, 1, i_ist 1 3), (4, .iload_n 3, 1, i_ild 1 3), (5, .aload_n 0, 1, i_ald 1 0), (6, .getfield 20, 3, i_gfd LB 2 2), (9, .if_icmp .ge 25, 3, i_cge 34), (12, .aload_n 0, 1, i_ald 1 0), (13, .getfield 13, 3, i_gfd LB 2 0), (16, .bipush 7, 2, i_psh 2 (.int 7)), (18, .aaload, 1, i_aak LB 7 7 12), (19, .iload_n 3, 1, i_ild 1 3), (20, .iaload, 1, i_iad LB), (21, .iload_n 1, 1, i_ild 1 1), (22, .if_icmp .ne 6, 3, i_cne 28), (25, .iinc 2 1, 3, i_inc 2 1), (28, .iinc 3 1, 3, i_inc 3 1), (31, .goto (-27), 3, i_gto 4), (34, .iload_n 2, 1, i_ild 1 2), (35, .ireturn, 1, i_irt)]
noncomputable def mX4_inSlot : gF := g_m PX4_inSlot 4
set_option maxRecDepth 20000 in
theorem dtX4_inSlot : gDts PX4_inSlot := ⟨dt_psh, dt_ist, dt_psh, dt_ist, dt_ild, dt_ald, dt_gfd, dt_cge, dt_ald, dt_gfd, dt_psh, dt_aak, dt_ild, dt_iad, dt_ild, dt_cne, dt_inc, dt_inc, dt_gto, dt_ild, dt_irt, trivial⟩
set_option maxRecDepth 20000 in
theorem dcX4_inSlot : gDec MX4_inSlot PX4_inSlot := by unfold gDec PX4_inSlot; decide +kernel
set_option maxRecDepth 20000 in
theorem okX4_inSlot (l : Launch) (D : va_G) (τ : ClassId × ClassId × ClassId × ClassId) (ad : Nat → Nat) : gOks (D, τ, LB, ad) l MX4_inSlot PX4_inSlot := ⟨fun d => ok_iconst d (by decide), fun d => ok_istore_n d rfl, fun d => ok_iconst d (by decide), fun d => ok_istore_n d rfl, fun d => ok_iload_n d rfl, fun d => ok_aload_n d rfl, fun d => ok_getfield (ci := 2) (f := 2) (N := 4) (C := RX4) (T := TX4) d rfl inX4 (by decide) q184, fun d => ok_icmpge d (by decide), fun d => ok_aload_n d rfl, fun d => ok_getfield (ci := 2) (f := 0) (N := 4) (C := RX4) (T := TX4) d rfl inX4 (by decide) q177, fun d => ok_bipush d (by decide), fun d => ok_aak (ok_aaload d) (by decide), fun d => ok_iload_n d rfl, fun d => ok_iaload d, fun d => ok_iload_n d rfl, fun d => ok_icmpne d (by decide), fun d => ok_iinc d (by decide), fun d => ok_iinc d (by decide), fun d => ok_goto d (by decide), fun d => ok_iload_n d rfl, fun d => ok_ireturn d rfl, trivial⟩
theorem tX4_inSlot (l : Launch) (D : va_G) (τ : ClassId × ClassId × ClassId × ClassId) (ad : Nat → Nat) : ∀ as μ r, mX4_inSlot as μ = some r → gMt (D, τ, LB, ad) l yX4_inSlot MX4_inSlot as μ r := fun _ _ _ h => gMt_of (plainFor_of_name (by decide +kernel)) rfl dcX4_inSlot (okX4_inSlot l D τ ad) h
/-! GangMatrix$Jobs.ofUser(III)I (LB) -/
abbrev MX4_ofUser : gMi := (cX4_ofUser, 6, RX4, some .int, 1)
noncomputable def PX4_ofUser : gP := [(0, .iconst 0, 1, i_psh 1 (.int 0)), (1, .istore 4, 2, i_ist 2 4), (3, .iconst 0, 1, i_psh 1 (.int 0)), (4, .istore 5, 2, i_ist 2 5), (6, .iload 5, 2, i_ild 2 5), (8, .aload_n 0, 1, i_ald 1 0), (9, .getfield 20, 3, i_gfd LB 2 2), (12, .if_icmp .ge 51, 3, i_cge 63), (15, .aload_n 0, 1, i_ald 1 0), (16, .getfield 13, 3, i_gfd LB 2 0), (19, .iconst 2, 1, i_psh 1 (.int 2)), (20, .aaload, 1, i_aak LB 2 2 7), (21, .iload 5, 2, i_ild 2 5), (23, .iaload, 1, i_iad LB), (24, .iload_n 1, 1, i_ild 1 1), (25, .if_icmp .ne 32, 3, i_cne 57), (28, .aload_n 0, 1, i_ald 1 0), (29, .getfield 13, 3, i_gfd LB 2 0), (32, .iconst 4, 1, i_psh 1 (.int 4)), (33, .aaload, 1, i_aak LB 4 4 9), (34, .iload 5, 2, i_ild 2 5), (36, .iaload, 1, i_iad LB), (37, .iload_n 2, 1, i_ild 1 2), (38, .if_icmp .lt 19, 3, i_clt 57), (41, .aload_n 0, 1, i_ald 1 0), (42, .getfield 13, 3, i_gfd LB 2 0), (45, .iconst 4, 1, i_psh 1 (.int 4)), (46, .aaload, 1, i_aak LB 4 4 9), (47, .iload 5, 2, i_ild 2 5), (49, .iaload, 1, i_iad LB), (50, .iload_n 3, 1, i_ild 1 3), (51, .if_icmp .gt 6, 3, i_cgt 57), (54, .iinc 4 1, 3, i_inc 4 1), (57, .iinc 5 1, 3, i_inc 5 1), (60, .goto (-54), 3, i_gto 6), (63, .iload 4, 2, i_ild 2 4), (65, .ireturn, 1, i_irt)]
noncomputable def mX4_ofUser : gF := g_m PX4_ofUser 6
set_option maxRecDepth 20000 in
theorem dtX4_ofUser : gDts PX4_ofUser := ⟨dt_psh, dt_ist, dt_psh, dt_ist, dt_ild, dt_ald, dt_gfd, dt_cge, dt_ald, dt_gfd, dt_psh, dt_aak, dt_ild, dt_iad, dt_ild, dt_cne, dt_ald, dt_gfd, dt_psh, dt_aak, dt_ild, dt_iad, dt_ild, dt_clt, dt_ald, dt_gfd, dt_psh, dt_aak, dt_ild, dt_iad, dt_ild, dt_cgt, dt_inc, dt_inc, dt_gto, dt_ild, dt_irt, trivial⟩
set_option maxRecDepth 20000 in
theorem dcX4_ofUser : gDec MX4_ofUser PX4_ofUser := by unfold gDec PX4_ofUser; decide +kernel
set_option maxRecDepth 20000 in
theorem okX4_ofUser (l : Launch) (D : va_G) (τ : ClassId × ClassId × ClassId × ClassId) (ad : Nat → Nat) : gOks (D, τ, LB, ad) l MX4_ofUser PX4_ofUser := ⟨fun d => ok_iconst d (by decide), fun d => ok_istore d, fun d => ok_iconst d (by decide), fun d => ok_istore d, fun d => ok_iload d, fun d => ok_aload_n d rfl, fun d => ok_getfield (ci := 2) (f := 2) (N := 4) (C := RX4) (T := TX4) d rfl inX4 (by decide) q184, fun d => ok_icmpge d (by decide), fun d => ok_aload_n d rfl, fun d => ok_getfield (ci := 2) (f := 0) (N := 4) (C := RX4) (T := TX4) d rfl inX4 (by decide) q177, fun d => ok_iconst d (by decide), fun d => ok_aak (ok_aaload d) (by decide), fun d => ok_iload d, fun d => ok_iaload d, fun d => ok_iload_n d rfl, fun d => ok_icmpne d (by decide), fun d => ok_aload_n d rfl, fun d => ok_getfield (ci := 2) (f := 0) (N := 4) (C := RX4) (T := TX4) d rfl inX4 (by decide) q177, fun d => ok_iconst d (by decide), fun d => ok_aak (ok_aaload d) (by decide), fun d => ok_iload d, fun d => ok_iaload d, fun d => ok_iload_n d rfl, fun d => ok_icmplt d (by decide), fun d => ok_aload_n d rfl, fun d => ok_getfield (ci := 2) (f := 0) (N := 4) (C := RX4) (T := TX4) d rfl inX4 (by decide) q177, fun d => ok_iconst d (by decide), fun d => ok_aak (ok_aaload d) (by decide), fun d => ok_iload d, fun d => ok_iaload d, fun d => ok_iload_n d rfl, fun d => ok_icmpgt d (by decide), fun d => ok_iinc d (by decide), fun d => ok_iinc d (by decide), fun d => ok_goto d (by decide), fun d => ok_iload d, fun d => ok_ireturn d rfl, trivial⟩
theorem tX4_ofUser (l : Launch) (D : va_G) (τ : ClassId × ClassId × ClassId × ClassId) (ad : Nat → Nat) : ∀ as μ r, mX4_ofUser as μ = some r → gMt (D, τ, LB, ad) l yX4_ofUser MX4_ofUser as μ r := fun _ _ _ h => gMt_of (plainFor_of_name (by decide +kernel)) rfl dcX4_ofUser (okX4_ofUser l D τ ad) h
/-! GangMatrix$Jobs.waitedOf(I)I (LB) -/
abbrev MX4_waitedOf : gMi := (cX4_waitedOf, 4, RX4, some .int, 1)
noncomputable def PX4_waitedOf : gP := [(0, .iconst 0, 1, i_psh 1 (.int 0)), (1, .istore_n 2, 1, i_ist 1 2), (2, .iconst 0, 1, i_psh 1 (.int 0)), (3, .istore_n 3, 1, i_ist 1 3), (4, .iload_n 3, 1, i_ild 1 3), (5, .aload_n 0, 1, i_ald 1 0), (6, .getfield 20, 3, i_gfd LB 2 2), (9, .if_icmp .ge 56, 3, i_cge 65), (12, .aload_n 0, 1, i_ald 1 0), (13, .getfield 13, 3, i_gfd LB 2 0), (16, .iconst 2, 1, i_psh 1 (.int 2)), (17, .aaload, 1, i_aak LB 2 2 7), (18, .iload_n 3, 1, i_ild 1 3), (19, .iaload, 1, i_iad LB), (20, .iload_n 1, 1, i_ild 1 1), (21, .if_icmp .ne 38, 3, i_cne 59), (24, .aload_n 0, 1, i_ald 1 0), (25, .getfield 13, 3, i_gfd LB 2 0), (28, .bipush 14, 2, i_psh 2 (.int 14)), (30, .aaload, 1, i_aak LB 14 14 19), (31, .iload_n 3, 1, i_ild 1 3), (32, .iaload, 1, i_iad LB), (33, .iconst (-1), 1, i_psh 1 (.int (-1))), (34, .if_icmp .eq 25, 3, i_ceq 59), (37, .iload_n 2, 1, i_ild 1 2), (38, .aload_n 0, 1, i_ald 1 0), (39, .getfield 13, 3, i_gfd LB 2 0), (42, .bipush 14, 2, i_psh 2 (.int 14)), (44, .aaload, 1, i_aak LB 14 14 19), (45, .iload_n 3, 1, i_ild 1 3), (46, .iaload, 1, i_iad LB), (47, .aload_n 0, 1, i_ald 1 0), (48, .getfield 13, 3, i_gfd LB 2 0), (51, .bipush 13, 2, i_psh 2 (.int 13)), (53, .aaload, 1, i_aak LB 13 13 18), (54, .iload_n 3, 1, i_ild 1 3), (55, .iaload, 1, i_iad LB), (56, .isub, 1, i_bin (fun x y => (x - y))), (57, .iadd, 1, i_bin (fun x y => (x + y))), (58, .istore_n 2, 1, i_ist 1 2), (59, .iinc 3 1, 3, i_inc 3 1), (62, .goto (-58), 3, i_gto 4), (65, .iload_n 2, 1, i_ild 1 2), (66, .ireturn, 1, i_irt)]
noncomputable def mX4_waitedOf : gF := g_m PX4_waitedOf 4
set_option maxRecDepth 20000 in
theorem dtX4_waitedOf : gDts PX4_waitedOf := ⟨dt_psh, dt_ist, dt_psh, dt_ist, dt_ild, dt_ald, dt_gfd, dt_cge, dt_ald, dt_gfd, dt_psh, dt_aak, dt_ild, dt_iad, dt_ild, dt_cne, dt_ald, dt_gfd, dt_psh, dt_aak, dt_ild, dt_iad, dt_psh, dt_ceq, dt_ild, dt_ald, dt_gfd, dt_psh, dt_aak, dt_ild, dt_iad, dt_ald, dt_gfd, dt_psh, dt_aak, dt_ild, dt_iad, dt_bin, dt_bin, dt_ist, dt_inc, dt_gto, dt_ild, dt_irt, trivial⟩
set_option maxRecDepth 20000 in
theorem dcX4_waitedOf : gDec MX4_waitedOf PX4_waitedOf := by unfold gDec PX4_waitedOf; decide +kernel
set_option maxRecDepth 20000 in
theorem okX4_waitedOf (l : Launch) (D : va_G) (τ : ClassId × ClassId × ClassId × ClassId) (ad : Nat → Nat) : gOks (D, τ, LB, ad) l MX4_waitedOf PX4_waitedOf := ⟨fun d => ok_iconst d (by decide), fun d => ok_istore_n d rfl, fun d => ok_iconst d (by decide), fun d => ok_istore_n d rfl, fun d => ok_iload_n d rfl, fun d => ok_aload_n d rfl, fun d => ok_getfield (ci := 2) (f := 2) (N := 4) (C := RX4) (T := TX4) d rfl inX4 (by decide) q184, fun d => ok_icmpge d (by decide), fun d => ok_aload_n d rfl, fun d => ok_getfield (ci := 2) (f := 0) (N := 4) (C := RX4) (T := TX4) d rfl inX4 (by decide) q177, fun d => ok_iconst d (by decide), fun d => ok_aak (ok_aaload d) (by decide), fun d => ok_iload_n d rfl, fun d => ok_iaload d, fun d => ok_iload_n d rfl, fun d => ok_icmpne d (by decide), fun d => ok_aload_n d rfl, fun d => ok_getfield (ci := 2) (f := 0) (N := 4) (C := RX4) (T := TX4) d rfl inX4 (by decide) q177, fun d => ok_bipush d (by decide), fun d => ok_aak (ok_aaload d) (by decide), fun d => ok_iload_n d rfl, fun d => ok_iaload d, fun d => ok_iconst d (by decide), fun d => ok_icmpeq d (by decide), fun d => ok_iload_n d rfl, fun d => ok_aload_n d rfl, fun d => ok_getfield (ci := 2) (f := 0) (N := 4) (C := RX4) (T := TX4) d rfl inX4 (by decide) q177, fun d => ok_bipush d (by decide), fun d => ok_aak (ok_aaload d) (by decide), fun d => ok_iload_n d rfl, fun d => ok_iaload d, fun d => ok_aload_n d rfl, fun d => ok_getfield (ci := 2) (f := 0) (N := 4) (C := RX4) (T := TX4) d rfl inX4 (by decide) q177, fun d => ok_bipush d (by decide), fun d => ok_aak (ok_aaload d) (by decide), fun d => ok_iload_n d rfl, fun d => ok_iaload d, fun d => ok_isub d, fun d => ok_iadd d, fun d => ok_istore_n d rfl, fun d => ok_iinc d (by decide), fun d => ok_goto d (by decide), fun d => ok_iload_n d rfl, fun d => ok_ireturn d rfl, trivial⟩
theorem tX4_waitedOf (l : Launch) (D : va_G) (τ : ClassId × ClassId × ClassId × ClassId) (ad : Nat → Nat) : ∀ as μ r, mX4_waitedOf as μ = some r → gMt (D, τ, LB, ad) l yX4_waitedOf MX4_waitedOf as μ r := fun _ _ _ h => gMt_of (plainFor_of_name (by decide +kernel)) rfl dcX4_waitedOf (okX4_waitedOf l D τ ad) h
/-! GangMatrix$Jobs.leastLeft()I (LB) -/
abbrev MX4_leastLeft : gMi := (cX4_leastLeft, 3, RX4, some .int, 2)
noncomputable def PX4_leastLeft : gP := [(0, .iconst (-1), 1, i_psh 1 (.int (-1))), (1, .istore_n 1, 1, i_ist 1 1), (2, .iconst 0, 1, i_psh 1 (.int 0)), (3, .istore_n 2, 1, i_ist 1 2), (4, .iload_n 2, 1, i_ild 1 2), (5, .aload_n 0, 1, i_ald 1 0), (6, .getfield 20, 3, i_gfd LB 2 2), (9, .if_icmp .ge 47, 3, i_cge 56), (12, .aload_n 0, 1, i_ald 1 0), (13, .getfield 13, 3, i_gfd LB 2 0), (16, .iconst 4, 1, i_psh 1 (.int 4)), (17, .aaload, 1, i_aak LB 4 4 9), (18, .iload_n 2, 1, i_ild 1 2), (19, .iaload, 1, i_iad LB), (20, .iconst 2, 1, i_psh 1 (.int 2)), (21, .if_icmp .ne 29, 3, i_cne 50), (24, .iload_n 1, 1, i_ild 1 1), (25, .iconst (-1), 1, i_psh 1 (.int (-1))), (26, .if_icmp .eq 15, 3, i_ceq 41), (29, .aload_n 0, 1, i_ald 1 0), (30, .getfield 13, 3, i_gfd LB 2 0), (33, .iconst 5, 1, i_psh 1 (.int 5)), (34, .aaload, 1, i_aak LB 5 5 10), (35, .iload_n 2, 1, i_ild 1 2), (36, .iaload, 1, i_iad LB), (37, .iload_n 1, 1, i_ild 1 1), (38, .if_icmp .ge 12, 3, i_cge 50), (41, .aload_n 0, 1, i_ald 1 0), (42, .getfield 13, 3, i_gfd LB 2 0), (45, .iconst 5, 1, i_psh 1 (.int 5)), (46, .aaload, 1, i_aak LB 5 5 10), (47, .iload_n 2, 1, i_ild 1 2), (48, .iaload, 1, i_iad LB), (49, .istore_n 1, 1, i_ist 1 1), (50, .iinc 2 1, 3, i_inc 2 1), (53, .goto (-49), 3, i_gto 4), (56, .iload_n 1, 1, i_ild 1 1), (57, .iconst 0, 1, i_psh 1 (.int 0)), (58, .invokestatic 47, 3, i_csi 2 mJ9_max_7cf53), (61, .ireturn, 1, i_irt)]
noncomputable def mX4_leastLeft : gF := g_m PX4_leastLeft 3
set_option maxRecDepth 20000 in
theorem dtX4_leastLeft : gDts PX4_leastLeft := ⟨dt_psh, dt_ist, dt_psh, dt_ist, dt_ild, dt_ald, dt_gfd, dt_cge, dt_ald, dt_gfd, dt_psh, dt_aak, dt_ild, dt_iad, dt_psh, dt_cne, dt_ild, dt_psh, dt_ceq, dt_ald, dt_gfd, dt_psh, dt_aak, dt_ild, dt_iad, dt_ild, dt_cge, dt_ald, dt_gfd, dt_psh, dt_aak, dt_ild, dt_iad, dt_ist, dt_inc, dt_gto, dt_ild, dt_psh, dt_csi, dt_irt, trivial⟩
set_option maxRecDepth 20000 in
theorem dcX4_leastLeft : gDec MX4_leastLeft PX4_leastLeft := by unfold gDec PX4_leastLeft; decide +kernel
set_option maxRecDepth 20000 in
theorem okX4_leastLeft (l : Launch) (D : va_G) (τ : ClassId × ClassId × ClassId × ClassId) (ad : Nat → Nat) : gOks (D, τ, LB, ad) l MX4_leastLeft PX4_leastLeft := ⟨fun d => ok_iconst d (by decide), fun d => ok_istore_n d rfl, fun d => ok_iconst d (by decide), fun d => ok_istore_n d rfl, fun d => ok_iload_n d rfl, fun d => ok_aload_n d rfl, fun d => ok_getfield (ci := 2) (f := 2) (N := 4) (C := RX4) (T := TX4) d rfl inX4 (by decide) q184, fun d => ok_icmpge d (by decide), fun d => ok_aload_n d rfl, fun d => ok_getfield (ci := 2) (f := 0) (N := 4) (C := RX4) (T := TX4) d rfl inX4 (by decide) q177, fun d => ok_iconst d (by decide), fun d => ok_aak (ok_aaload d) (by decide), fun d => ok_iload_n d rfl, fun d => ok_iaload d, fun d => ok_iconst d (by decide), fun d => ok_icmpne d (by decide), fun d => ok_iload_n d rfl, fun d => ok_iconst d (by decide), fun d => ok_icmpeq d (by decide), fun d => ok_aload_n d rfl, fun d => ok_getfield (ci := 2) (f := 0) (N := 4) (C := RX4) (T := TX4) d rfl inX4 (by decide) q177, fun d => ok_iconst d (by decide), fun d => ok_aak (ok_aaload d) (by decide), fun d => ok_iload_n d rfl, fun d => ok_iaload d, fun d => ok_iload_n d rfl, fun d => ok_icmpge d (by decide), fun d => ok_aload_n d rfl, fun d => ok_getfield (ci := 2) (f := 0) (N := 4) (C := RX4) (T := TX4) d rfl inX4 (by decide) q177, fun d => ok_iconst d (by decide), fun d => ok_aak (ok_aaload d) (by decide), fun d => ok_iload_n d rfl, fun d => ok_iaload d, fun d => ok_istore_n d rfl, fun d => ok_iinc d (by decide), fun d => ok_goto d (by decide), fun d => ok_iload_n d rfl, fun d => ok_iconst d (by decide), fun d => ok_csi (ok_callS (M' := MJ9_max_7cf53) d (tJ9_max_7cf53 l _) q914 q511 q154 q512 (by decide +kernel) (by decide)), fun d => ok_ireturn d rfl, trivial⟩
theorem tX4_leastLeft (l : Launch) (D : va_G) (τ : ClassId × ClassId × ClassId × ClassId) (ad : Nat → Nat) : ∀ as μ r, mX4_leastLeft as μ = some r → gMt (D, τ, LB, ad) l yX4_leastLeft MX4_leastLeft as μ r := fun _ _ _ h => gMt_of (plainFor_of_name (by decide +kernel)) rfl dcX4_leastLeft (okX4_leastLeft l D τ ad) h
/-! GangMatrix$Slots.peakColumn()I (LB) -/
abbrev MX7_peakColumn : gMi := (cX7_peakColumn, 3, RX7, some .int, 2)
noncomputable def PX7_peakColumn : gP := [(0, .iconst 0, 1, i_psh 1 (.int 0)), (1, .istore_n 1, 1, i_ist 1 1), (2, .iconst 1, 1, i_psh 1 (.int 1)), (3, .istore_n 2, 1, i_ist 1 2), (4, .iload_n 2, 1, i_ild 1 2), (5, .bipush 32, 2, i_psh 2 (.int 32)), (7, .if_icmp .ge 24, 3, i_cge 31), (10, .aload_n 0, 1, i_ald 1 0), (11, .iload_n 2, 1, i_ild 1 2), (12, .invokevirtual 36, 3, i_cvi LB 1 4 mX7_loadOf), (15, .aload_n 0, 1, i_ald 1 0), (16, .iload_n 1, 1, i_ild 1 1), (17, .invokevirtual 36, 3, i_cvi LB 1 4 mX7_loadOf), (20, .if_icmp .le 5, 3, i_cle 25), (23, .iload_n 2, 1, i_ild 1 2), (24, .istore_n 1, 1, i_ist 1 1), (25, .iinc 2 1, 3, i_inc 2 1), (28, .goto (-24), 3, i_gto 4), (31, .iload_n 1, 1, i_ild 1 1), (32, .ireturn, 1, i_irt)]
noncomputable def mX7_peakColumn : gF := g_m PX7_peakColumn 3
set_option maxRecDepth 20000 in
theorem dtX7_peakColumn : gDts PX7_peakColumn := ⟨dt_psh, dt_ist, dt_psh, dt_ist, dt_ild, dt_psh, dt_cge, dt_ald, dt_ild, dt_cvi, dt_ald, dt_ild, dt_cvi, dt_cle, dt_ild, dt_ist, dt_inc, dt_gto, dt_ild, dt_irt, trivial⟩
set_option maxRecDepth 20000 in
theorem dcX7_peakColumn : gDec MX7_peakColumn PX7_peakColumn := by unfold gDec PX7_peakColumn; decide +kernel
set_option maxRecDepth 20000 in
theorem okX7_peakColumn (l : Launch) (D : va_G) (τ : ClassId × ClassId × ClassId × ClassId) (ad : Nat → Nat) : gOks (D, τ, LB, ad) l MX7_peakColumn PX7_peakColumn := ⟨fun d => ok_iconst d (by decide), fun d => ok_istore_n d rfl, fun d => ok_iconst d (by decide), fun d => ok_istore_n d rfl, fun d => ok_iload_n d rfl, fun d => ok_bipush d (by decide), fun d => ok_icmpge d (by decide), fun d => ok_aload_n d rfl, fun d => ok_iload_n d rfl, fun d => ok_cvi (ok_callV (M' := MX7_loadOf) (ci := 4) (C := RX7) (T := TX7) (N := 4) d (tX7_loadOf l D τ ad) rfl q481 q482 q483 q145 q484 (by decide +kernel) (by decide)), fun d => ok_aload_n d rfl, fun d => ok_iload_n d rfl, fun d => ok_cvi (ok_callV (M' := MX7_loadOf) (ci := 4) (C := RX7) (T := TX7) (N := 4) d (tX7_loadOf l D τ ad) rfl q481 q482 q483 q145 q484 (by decide +kernel) (by decide)), fun d => ok_icmple d (by decide), fun d => ok_iload_n d rfl, fun d => ok_istore_n d rfl, fun d => ok_iinc d (by decide), fun d => ok_goto d (by decide), fun d => ok_iload_n d rfl, fun d => ok_ireturn d rfl, trivial⟩
theorem tX7_peakColumn (l : Launch) (D : va_G) (τ : ClassId × ClassId × ClassId × ClassId) (ad : Nat → Nat) : ∀ as μ r, mX7_peakColumn as μ = some r → gMt (D, τ, LB, ad) l yX7_peakColumn MX7_peakColumn as μ r := fun _ _ _ h => gMt_of (plainFor_of_name (by decide +kernel)) rfl dcX7_peakColumn (okX7_peakColumn l D τ ad) h
/-! GangMatrix$Slots.peak()I (LB) -/
abbrev MX7_peak : gMi := (cX7_peak, 1, RX7, some .int, 3)
noncomputable def PX7_peak : gP := [(0, .aload_n 0, 1, i_ald 1 0), (1, .aload_n 0, 1, i_ald 1 0), (2, .invokevirtual 42, 3, i_cvi LB 0 4 mX7_peakColumn), (5, .invokevirtual 36, 3, i_cvi LB 1 4 mX7_loadOf), (8, .ireturn, 1, i_irt)]
noncomputable def mX7_peak : gF := g_m PX7_peak 1
set_option maxRecDepth 20000 in
theorem dtX7_peak : gDts PX7_peak := ⟨dt_ald, dt_ald, dt_cvi, dt_cvi, dt_irt, trivial⟩
set_option maxRecDepth 20000 in
theorem dcX7_peak : gDec MX7_peak PX7_peak := by unfold gDec PX7_peak; decide +kernel
set_option maxRecDepth 20000 in
theorem okX7_peak (l : Launch) (D : va_G) (τ : ClassId × ClassId × ClassId × ClassId) (ad : Nat → Nat) : gOks (D, τ, LB, ad) l MX7_peak PX7_peak := ⟨fun d => ok_aload_n d rfl, fun d => ok_aload_n d rfl, fun d => ok_cvi (ok_callV (M' := MX7_peakColumn) (ci := 4) (C := RX7) (T := TX7) (N := 4) d (tX7_peakColumn l D τ ad) rfl q906 q907 q908 q145 q909 (by decide +kernel) (by decide)), fun d => ok_cvi (ok_callV (M' := MX7_loadOf) (ci := 4) (C := RX7) (T := TX7) (N := 4) d (tX7_loadOf l D τ ad) rfl q481 q482 q483 q145 q484 (by decide +kernel) (by decide)), fun d => ok_ireturn d rfl, trivial⟩
theorem tX7_peak (l : Launch) (D : va_G) (τ : ClassId × ClassId × ClassId × ClassId) (ad : Nat → Nat) : ∀ as μ r, mX7_peak as μ = some r → gMt (D, τ, LB, ad) l yX7_peak MX7_peak as μ r := fun _ _ _ h => gMt_of (plainFor_of_name (by decide +kernel)) rfl dcX7_peak (okX7_peak l D τ ad) h
/-! GangMatrix$Ring.valueAt(III)I (LB) -/
abbrev MX6_valueAt : gMi := (cX6_valueAt, 4, RX6, some .int, 2)
noncomputable def PX6_valueAt : gP := [(0, .iload_n 1, 1, i_ild 1 1), (1, .ifCond .lt 16, 3, i_flt 17), (4, .iload_n 1, 1, i_ild 1 1), (5, .aload_n 0, 1, i_ald 1 0), (6, .getfield 16, 3, i_gfd LB 6 1), (9, .bipush 60, 2, i_psh 2 (.int 60)), (11, .invokestatic 26, 3, i_csi 2 mJ9_min_7cf53), (14, .if_icmp .lt 5, 3, i_clt 19), (17, .iconst (-1), 1, i_psh 1 (.int (-1))), (18, .ireturn, 1, i_irt), (19, .iload_n 2, 1, i_ild 1 2), (20, .ifCond .lt 12, 3, i_flt 32), (23, .iload_n 2, 1, i_ild 1 2), (24, .iload_n 3, 1, i_ild 1 3), (25, .iconst 5, 1, i_psh 1 (.int 5)), (26, .invokestatic 26, 3, i_csi 2 mJ9_min_7cf53), (29, .if_icmp .lt 5, 3, i_clt 34), (32, .iconst (-1), 1, i_psh 1 (.int (-1))), (33, .ireturn, 1, i_irt), (34, .aload_n 0, 1, i_ald 1 0), (35, .getfield 13, 3, i_gfd LB 6 0), (38, .iload_n 2, 1, i_ild 1 2), (39, .aaload, 1, i_aad LB), (40, .aload_n 0, 1, i_ald 1 0), (41, .getfield 16, 3, i_gfd LB 6 1), (44, .iconst 1, 1, i_psh 1 (.int 1)), (45, .isub, 1, i_bin (fun x y => (x - y))), (46, .iload_n 1, 1, i_ild 1 1), (47, .isub, 1, i_bin (fun x y => (x - y))), (48, .bipush 60, 2, i_psh 2 (.int 60)), (50, .invokestatic 20, 3, i_csi 2 mJ9_floorMod_7cf53), (53, .iaload, 1, i_iad LB), (54, .ireturn, 1, i_irt)]
noncomputable def mX6_valueAt : gF := g_m PX6_valueAt 4
set_option maxRecDepth 20000 in
theorem dtX6_valueAt : gDts PX6_valueAt := ⟨dt_ild, dt_flt, dt_ild, dt_ald, dt_gfd, dt_psh, dt_csi, dt_clt, dt_psh, dt_irt, dt_ild, dt_flt, dt_ild, dt_ild, dt_psh, dt_csi, dt_clt, dt_psh, dt_irt, dt_ald, dt_gfd, dt_ild, dt_aad, dt_ald, dt_gfd, dt_psh, dt_bin, dt_ild, dt_bin, dt_psh, dt_csi, dt_iad, dt_irt, trivial⟩
set_option maxRecDepth 20000 in
theorem dcX6_valueAt : gDec MX6_valueAt PX6_valueAt := by unfold gDec PX6_valueAt; decide +kernel
set_option maxRecDepth 20000 in
theorem okX6_valueAt (l : Launch) (D : va_G) (τ : ClassId × ClassId × ClassId × ClassId) (ad : Nat → Nat) : gOks (D, τ, LB, ad) l MX6_valueAt PX6_valueAt := ⟨fun d => ok_iload_n d rfl, fun d => ok_iflt d (by decide), fun d => ok_iload_n d rfl, fun d => ok_aload_n d rfl, fun d => ok_getfield (ci := 6) (f := 1) (N := 2) (C := RX6) (T := TX6) d rfl inX6 (by decide) q278, fun d => ok_bipush d (by decide), fun d => ok_csi (ok_callS (M' := MJ9_min_7cf53) d (tJ9_min_7cf53 l _) q1164 q514 q154 q515 (by decide +kernel) (by decide)), fun d => ok_icmplt d (by decide), fun d => ok_iconst d (by decide), fun d => ok_ireturn d rfl, fun d => ok_iload_n d rfl, fun d => ok_iflt d (by decide), fun d => ok_iload_n d rfl, fun d => ok_iload_n d rfl, fun d => ok_iconst d (by decide), fun d => ok_csi (ok_callS (M' := MJ9_min_7cf53) d (tJ9_min_7cf53 l _) q1164 q514 q154 q515 (by decide +kernel) (by decide)), fun d => ok_icmplt d (by decide), fun d => ok_iconst d (by decide), fun d => ok_ireturn d rfl, fun d => ok_aload_n d rfl, fun d => ok_getfield (ci := 6) (f := 0) (N := 2) (C := RX6) (T := TX6) d rfl inX6 (by decide) q277, fun d => ok_iload_n d rfl, fun d => ok_aaload d, fun d => ok_aload_n d rfl, fun d => ok_getfield (ci := 6) (f := 1) (N := 2) (C := RX6) (T := TX6) d rfl inX6 (by decide) q278, fun d => ok_iconst d (by decide), fun d => ok_isub d, fun d => ok_iload_n d rfl, fun d => ok_isub d, fun d => ok_bipush d (by decide), fun d => ok_csi (ok_callS (M' := MJ9_floorMod_7cf53) d (tJ9_floorMod_7cf53 l _) q562 q563 q154 q564 (by decide +kernel) (by decide)), fun d => ok_iaload d, fun d => ok_ireturn d rfl, trivial⟩
theorem tX6_valueAt (l : Launch) (D : va_G) (τ : ClassId × ClassId × ClassId × ClassId) (ad : Nat → Nat) : ∀ as μ r, mX6_valueAt as μ = some r → gMt (D, τ, LB, ad) l yX6_valueAt MX6_valueAt as μ r := fun _ _ _ h => gMt_of (plainFor_of_name (by decide +kernel)) rfl dcX6_valueAt (okX6_valueAt l D τ ad) h
/-! GangMatrix$Users.promise(II)Z (LB) -/
abbrev MX8_promise : gMi := (cX8_promise, 3, RX8, some .boolean, 1)
noncomputable def PX8_promise : gP := [(0, .iload_n 1, 1, i_ild 1 1), (1, .ifCond .lt 20, 3, i_flt 21), (4, .iload_n 1, 1, i_ild 1 1), (5, .bipush 6, 2, i_psh 2 (.int 6)), (7, .if_icmp .ge 14, 3, i_cge 21), (10, .iload_n 2, 1, i_ild 1 2), (11, .iconst 1, 1, i_psh 1 (.int 1)), (12, .if_icmp .lt 9, 3, i_clt 21), (15, .iload_n 2, 1, i_ild 1 2), (16, .bipush 9, 2, i_psh 2 (.int 9)), (18, .if_icmp .le 5, 3, i_cle 23), (21, .iconst 0, 1, i_psh 1 (.int 0)), (22, .ireturn, 1, i_zrt), (23, .aload_n 0, 1, i_ald 1 0), (24, .getfield 7, 3, i_gfd LB 3 0), (27, .iload_n 1, 1, i_ild 1 1), (28, .iload_n 2, 1, i_ild 1 2), (29, .iastore, 1, i_ias LB), (30, .iconst 1, 1, i_psh 1 (.int 1)), (31, .ireturn, 1, i_zrt)]
noncomputable def mX8_promise : gF := g_m PX8_promise 3
set_option maxRecDepth 20000 in
theorem dtX8_promise : gDts PX8_promise := ⟨dt_ild, dt_flt, dt_ild, dt_psh, dt_cge, dt_ild, dt_psh, dt_clt, dt_ild, dt_psh, dt_cle, dt_psh, dt_zrt, dt_ald, dt_gfd, dt_ild, dt_ild, dt_ias, dt_psh, dt_zrt, trivial⟩
set_option maxRecDepth 20000 in
theorem dcX8_promise : gDec MX8_promise PX8_promise := by unfold gDec PX8_promise; decide +kernel
set_option maxRecDepth 20000 in
theorem okX8_promise (l : Launch) (D : va_G) (τ : ClassId × ClassId × ClassId × ClassId) (ad : Nat → Nat) : gOks (D, τ, LB, ad) l MX8_promise PX8_promise := ⟨fun d => ok_iload_n d rfl, fun d => ok_iflt d (by decide), fun d => ok_iload_n d rfl, fun d => ok_bipush d (by decide), fun d => ok_icmpge d (by decide), fun d => ok_iload_n d rfl, fun d => ok_iconst d (by decide), fun d => ok_icmplt d (by decide), fun d => ok_iload_n d rfl, fun d => ok_bipush d (by decide), fun d => ok_icmple d (by decide), fun d => ok_iconst d (by decide), fun d => ok_zreturn d rfl, fun d => ok_aload_n d rfl, fun d => ok_getfield (ci := 3) (f := 0) (N := 3) (C := RX8) (T := TX8) d rfl inX8 (by decide) q208, fun d => ok_iload_n d rfl, fun d => ok_iload_n d rfl, fun d => ok_iastore d, fun d => ok_iconst d (by decide), fun d => ok_zreturn d rfl, trivial⟩
theorem tX8_promise (l : Launch) (D : va_G) (τ : ClassId × ClassId × ClassId × ClassId) (ad : Nat → Nat) : ∀ as μ r, mX8_promise as μ = some r → gMt (D, τ, LB, ad) l yX8_promise MX8_promise as μ r := fun _ _ _ h => gMt_of (plainFor_of_name (by decide +kernel)) rfl dcX8_promise (okX8_promise l D τ ad) h
/-! GangMatrix$Users.owed(I)I (LB) -/
abbrev MX8_owed : gMi := (cX8_owed, 8, RX8, some .int, 1)
noncomputable def PX8_owed : gP := [(0, .lconst 0, 1, i_psh 1 (.long 0)), (1, .lstore_n 2, 1, i_lst 1 2), (2, .lconst 0, 1, i_psh 1 (.long 0)), (3, .lstore 4, 2, i_lst 2 4), (5, .iconst 0, 1, i_psh 1 (.int 0)), (6, .istore 6, 2, i_ist 2 6), (8, .iload 6, 2, i_ild 2 6), (10, .bipush 6, 2, i_psh 2 (.int 6)), (12, .if_icmp .ge 33, 3, i_cge 45), (15, .lload_n 2, 1, i_lld 1 2), (16, .aload_n 0, 1, i_ald 1 0), (17, .getfield 13, 3, i_gfd LB 3 1), (20, .iload 6, 2, i_ild 2 6), (22, .iaload, 1, i_iad LB), (23, .i2l, 1, i_i2l), (24, .ladd, 1, i_lbn (fun x y => x + y)), (25, .lstore_n 2, 1, i_lst 1 2), (26, .lload 4, 2, i_lld 2 4), (28, .aload_n 0, 1, i_ald 1 0), (29, .getfield 7, 3, i_gfd LB 3 0), (32, .iload 6, 2, i_ild 2 6), (34, .iaload, 1, i_iad LB), (35, .i2l, 1, i_i2l), (36, .ladd, 1, i_lbn (fun x y => x + y)), (37, .lstore 4, 2, i_lst 2 4), (39, .iinc 6 1, 3, i_inc 6 1), (42, .goto (-34), 3, i_gto 8), (45, .lload 4, 2, i_lld 2 4), (47, .lconst 0, 1, i_psh 1 (.long 0)), (48, .lcmp, 1, i_lcm), (49, .ifCond .le 18, 3, i_fle 67), (52, .lload_n 2, 1, i_lld 1 2), (53, .aload_n 0, 1, i_ald 1 0), (54, .getfield 7, 3, i_gfd LB 3 0), (57, .iload_n 1, 1, i_ild 1 1), (58, .iaload, 1, i_iad LB), (59, .i2l, 1, i_i2l), (60, .lmul, 1, i_lbn (fun x y => x * y)), (61, .lload 4, 2, i_lld 2 4), (63, .ldiv, 1, i_ldv), (64, .goto 4, 3, i_gto 68), (67, .lconst 0, 1, i_psh 1 (.long 0)), (68, .lstore 6, 2, i_lst 2 6), (70, .lload 6, 2, i_lld 2 6), (72, .aload_n 0, 1, i_ald 1 0), (73, .getfield 13, 3, i_gfd LB 3 1), (76, .iload_n 1, 1, i_ild 1 1), (77, .iaload, 1, i_iad LB), (78, .i2l, 1, i_i2l), (79, .lsub, 1, i_lbn (fun x y => x - y)), (80, .l2i, 1, i_l2i), (81, .ireturn, 1, i_irt)]
noncomputable def mX8_owed : gF := g_m PX8_owed 8
set_option maxRecDepth 20000 in
theorem dtX8_owed : gDts PX8_owed := ⟨dt_psh, dt_lst, dt_psh, dt_lst, dt_psh, dt_ist, dt_ild, dt_psh, dt_cge, dt_lld, dt_ald, dt_gfd, dt_ild, dt_iad, dt_i2l, dt_lbn, dt_lst, dt_lld, dt_ald, dt_gfd, dt_ild, dt_iad, dt_i2l, dt_lbn, dt_lst, dt_inc, dt_gto, dt_lld, dt_psh, dt_lcm, dt_fle, dt_lld, dt_ald, dt_gfd, dt_ild, dt_iad, dt_i2l, dt_lbn, dt_lld, dt_ldv, dt_gto, dt_psh, dt_lst, dt_lld, dt_ald, dt_gfd, dt_ild, dt_iad, dt_i2l, dt_lbn, dt_l2i, dt_irt, trivial⟩
set_option maxRecDepth 20000 in
theorem dcX8_owed : gDec MX8_owed PX8_owed := by unfold gDec PX8_owed; decide +kernel
set_option maxRecDepth 20000 in
theorem okX8_owed (l : Launch) (D : va_G) (τ : ClassId × ClassId × ClassId × ClassId) (ad : Nat → Nat) : gOks (D, τ, LB, ad) l MX8_owed PX8_owed := ⟨fun d => ok_lconst d (by decide), fun d => ok_lstore_n d rfl, fun d => ok_lconst d (by decide), fun d => ok_lstore d, fun d => ok_iconst d (by decide), fun d => ok_istore d, fun d => ok_iload d, fun d => ok_bipush d (by decide), fun d => ok_icmpge d (by decide), fun d => ok_lload_n d rfl, fun d => ok_aload_n d rfl, fun d => ok_getfield (ci := 3) (f := 1) (N := 3) (C := RX8) (T := TX8) d rfl inX8 (by decide) q211, fun d => ok_iload d, fun d => ok_iaload d, fun d => ok_i2l d, fun d => ok_ladd d, fun d => ok_lstore_n d rfl, fun d => ok_lload d, fun d => ok_aload_n d rfl, fun d => ok_getfield (ci := 3) (f := 0) (N := 3) (C := RX8) (T := TX8) d rfl inX8 (by decide) q208, fun d => ok_iload d, fun d => ok_iaload d, fun d => ok_i2l d, fun d => ok_ladd d, fun d => ok_lstore d, fun d => ok_iinc d (by decide), fun d => ok_goto d (by decide), fun d => ok_lload d, fun d => ok_lconst d (by decide), fun d => ok_lcmp d, fun d => ok_ifle d (by decide), fun d => ok_lload_n d rfl, fun d => ok_aload_n d rfl, fun d => ok_getfield (ci := 3) (f := 0) (N := 3) (C := RX8) (T := TX8) d rfl inX8 (by decide) q208, fun d => ok_iload_n d rfl, fun d => ok_iaload d, fun d => ok_i2l d, fun d => ok_lmul d, fun d => ok_lload d, fun d => ok_ldiv d, fun d => ok_goto d (by decide), fun d => ok_lconst d (by decide), fun d => ok_lstore d, fun d => ok_lload d, fun d => ok_aload_n d rfl, fun d => ok_getfield (ci := 3) (f := 1) (N := 3) (C := RX8) (T := TX8) d rfl inX8 (by decide) q211, fun d => ok_iload_n d rfl, fun d => ok_iaload d, fun d => ok_i2l d, fun d => ok_lsub d, fun d => ok_l2i d, fun d => ok_ireturn d rfl, trivial⟩
theorem tX8_owed (l : Launch) (D : va_G) (τ : ClassId × ClassId × ClassId × ClassId) (ad : Nat → Nat) : ∀ as μ r, mX8_owed as μ = some r → gMt (D, τ, LB, ad) l yX8_owed MX8_owed as μ r := fun _ _ _ h => gMt_of (plainFor_of_name (by decide +kernel)) rfl dcX8_owed (okX8_owed l D τ ad) h
end
section
set_option maxRecDepth 100000 in
theorem eX1_bits (v0 : Int32) (v1 : Int32) (μ : gMem) : mX1_bits [.int v0, .int v1] μ = some (some (.int (Int64.toInt32 (((1 <<< (Int32.toInt64 v1 &&& 63)) - 1) <<< (Int32.toInt64 v0 &&& 63)))), μ) := (g_cut dtX1_bits [] 9 0 _ [] μ).trans rfl
noncomputable def rX1_widthOf_2 (v0 : Int32) (v1 : Int32) (μ : gMem) : Option gR := g_run PX1_widthOf 2 [some (.int v0), some (.int v1)] [] μ
set_option maxRecDepth 100000 in
theorem eX1_widthOf (v0 : Int32) (μ : gMem) : mX1_widthOf [.int v0] μ = rX1_widthOf_2 v0 1 μ := (g_cut dtX1_widthOf [2] 15 0 _ [] μ).trans rfl
set_option maxRecDepth 100000 in
theorem eX1_widthOf_2 (v0 : Int32) (v1 : Int32) (μ : gMem) : rX1_widthOf_2 v0 v1 μ = (if v0 ≤ v1 then some (some (.int v1), μ) else (if 32 ≤ v1 then some (some (.int v1), μ) else rX1_widthOf_2 v0 (v1 * 2) μ)) := (g_cut dtX1_widthOf [2] 15 2 _ [] μ).trans rfl
noncomputable def rX1_starts_7 (v1 : Int32) (v2 : Int32) (v3 : Int32) (v4 : Int32) (μ : gMem) : Option gR := g_run PX1_starts 7 [none, some (.int v1), some (.int v2), some (.int v3), some (.int v4)] [] μ
set_option maxRecDepth 100000 in
theorem eX1_starts (v0 : Int32) (v1 : Int32) (μ : gMem) : mX1_starts [.int v0, .int v1] μ = rX1_starts_7 v1 v0 1 1 μ := (g_cut dtX1_starts [7] 31 0 _ [] μ).trans rfl
set_option maxRecDepth 100000 in
theorem eX1_starts_7 (v1 : Int32) (v2 : Int32) (v3 : Int32) (v4 : Int32) (μ : gMem) : rX1_starts_7 v1 v2 v3 v4 μ = (if 6 ≤ v4 then some (some (.int v2), μ) else (if v1 ≤ v3 then some (some (.int v2), μ) else (if g_in v4 6 = true then rX1_starts_7 v1 ((v2 &&& (g_ushr v2 v3)) &&& (g_t0.getD (Int32.toNatClampNeg v4) 0)) (v3 * 2) (v4 + 1) μ else none))) := (g_cut dtX1_starts [7] 31 7 _ [] μ).trans rfl
set_option maxRecDepth 100000 in
theorem eJ6_bitCount_0f7a4 (v0 : Int32) (μ : gMem) : mJ6_bitCount_0f7a4 [.int v0] μ = some (some (.int ((((((((v0 - ((g_ushr v0 1) &&& 1431655765)) &&& 858993459) + ((g_ushr (v0 - ((g_ushr v0 1) &&& 1431655765)) 2) &&& 858993459)) + (g_ushr (((v0 - ((g_ushr v0 1) &&& 1431655765)) &&& 858993459) + ((g_ushr (v0 - ((g_ushr v0 1) &&& 1431655765)) 2) &&& 858993459)) 4)) &&& 252645135) + (g_ushr (((((v0 - ((g_ushr v0 1) &&& 1431655765)) &&& 858993459) + ((g_ushr (v0 - ((g_ushr v0 1) &&& 1431655765)) 2) &&& 858993459)) + (g_ushr (((v0 - ((g_ushr v0 1) &&& 1431655765)) &&& 858993459) + ((g_ushr (v0 - ((g_ushr v0 1) &&& 1431655765)) 2) &&& 858993459)) 4)) &&& 252645135) 8)) + (g_ushr ((((((v0 - ((g_ushr v0 1) &&& 1431655765)) &&& 858993459) + ((g_ushr (v0 - ((g_ushr v0 1) &&& 1431655765)) 2) &&& 858993459)) + (g_ushr (((v0 - ((g_ushr v0 1) &&& 1431655765)) &&& 858993459) + ((g_ushr (v0 - ((g_ushr v0 1) &&& 1431655765)) 2) &&& 858993459)) 4)) &&& 252645135) + (g_ushr (((((v0 - ((g_ushr v0 1) &&& 1431655765)) &&& 858993459) + ((g_ushr (v0 - ((g_ushr v0 1) &&& 1431655765)) 2) &&& 858993459)) + (g_ushr (((v0 - ((g_ushr v0 1) &&& 1431655765)) &&& 858993459) + ((g_ushr (v0 - ((g_ushr v0 1) &&& 1431655765)) 2) &&& 858993459)) 4)) &&& 252645135) 8)) 16)) &&& 63)), μ) := (g_cut dtJ6_bitCount_0f7a4 [] 42 0 _ [] μ).trans rfl
set_option maxRecDepth 100000 in
theorem eX1_lowest (v0 : Int32) (μ : gMem) : mX1_lowest [.int v0] μ = (if v0 = 0 then some (some (.int (-1)), μ) else (g_ci (mJ6_bitCount_0f7a4 [.int ((v0 &&& (-v0)) - 1)] μ) (fun a1 u1 => some (some (.int a1), u1)))) := (g_cut dtX1_lowest [] 12 0 _ [] μ).trans rfl
set_option maxRecDepth 100000 in
theorem eX1_spot (v0 : Int32) (v1 : Int32) (μ : gMem) : mX1_spot [.int v0, .int v1] μ = some (some (.int ((v0 * 32) + v1)), μ) := (g_cut dtX1_spot [] 6 0 _ [] μ).trans rfl
set_option maxRecDepth 100000 in
theorem eX1_slotOf (v0 : Int32) (μ : gMem) : mX1_slotOf [.int v0] μ = some (some (.int (v0 / 32)), μ) := (g_cut dtX1_slotOf [] 4 0 _ [] μ).trans rfl
set_option maxRecDepth 100000 in
theorem eX1_columnOf (v0 : Int32) (μ : gMem) : mX1_columnOf [.int v0] μ = some (some (.int (v0 - v0 / 32 * 32)), μ) := (g_cut dtX1_columnOf [] 4 0 _ [] μ).trans rfl
set_option maxRecDepth 100000 in
theorem eJ9_floorMod_7cf53 (v0 : Int32) (v1 : Int32) (μ : gMem) : mJ9_floorMod_7cf53 [.int v0, .int v1] μ = (if v1 = 0 then none else (if 0 ≤ (v0 ^^^ v1) then some (some (.int (v0 - v0 / v1 * v1)), μ) else (if (v0 - v0 / v1 * v1) = 0 then some (some (.int (v0 - v0 / v1 * v1)), μ) else some (some (.int ((v0 - v0 / v1 * v1) + v1)), μ)))) := (g_cut dtJ9_floorMod_7cf53 [] 16 0 _ [] μ).trans rfl
set_option maxRecDepth 100000 in
theorem eJ9_max_7cf53 (v0 : Int32) (v1 : Int32) (μ : gMem) : mJ9_max_7cf53 [.int v0, .int v1] μ = (if v0 < v1 then some (some (.int v1), μ) else some (some (.int v0), μ)) := (g_cut dtJ9_max_7cf53 [] 7 0 _ [] μ).trans rfl
set_option maxRecDepth 100000 in
theorem eJ9_min_7cf53 (v0 : Int32) (v1 : Int32) (μ : gMem) : mJ9_min_7cf53 [.int v0, .int v1] μ = (if v1 < v0 then some (some (.int v1), μ) else some (some (.int v0), μ)) := (g_cut dtJ9_min_7cf53 [] 7 0 _ [] μ).trans rfl
set_option maxRecDepth 100000 in
theorem eJ9_min_f86c9 (v0 : Int64) (v2 : Int64) (μ : gMem) : mJ9_min_f86c9 [.long v0, .long v2] μ = (if 0 < (lg_cmp v0 v2) then some (some (.long v2), μ) else some (some (.long v0), μ)) := (g_cut dtJ9_min_f86c9 [] 8 0 _ [] μ).trans rfl
end
section
set_option maxRecDepth 100000 in
theorem eX0_add (v1 : Int32) (v2 : Int32) (v3 : Int32) (v4 : Int32) (μ : gMem) : mX0_add [.ref 33, .int v1, .int v2, .int v3, .int v4] μ = (if 60 ≤ (μ.1 33 1) then some (none, μ) else (if g_in (μ.1 33 1) 60 = true then (if g_in ((gwI μ 35 (Int32.toNatClampNeg (μ.1 33 1)) v1).1 33 1) 60 = true then (if g_in ((gwI (gwI μ 35 (Int32.toNatClampNeg (μ.1 33 1)) v1) 36 (Int32.toNatClampNeg ((gwI μ 35 (Int32.toNatClampNeg (μ.1 33 1)) v1).1 33 1)) v2).1 33 1) 60 = true then (if g_in ((gwI (gwI (gwI μ 35 (Int32.toNatClampNeg (μ.1 33 1)) v1) 36 (Int32.toNatClampNeg ((gwI μ 35 (Int32.toNatClampNeg (μ.1 33 1)) v1).1 33 1)) v2) 37 (Int32.toNatClampNeg ((gwI (gwI μ 35 (Int32.toNatClampNeg (μ.1 33 1)) v1) 36 (Int32.toNatClampNeg ((gwI μ 35 (Int32.toNatClampNeg (μ.1 33 1)) v1).1 33 1)) v2).1 33 1)) v3).1 33 1) 60 = true then some (none, (gwI (gwI (gwI (gwI (gwI μ 35 (Int32.toNatClampNeg (μ.1 33 1)) v1) 36 (Int32.toNatClampNeg ((gwI μ 35 (Int32.toNatClampNeg (μ.1 33 1)) v1).1 33 1)) v2) 37 (Int32.toNatClampNeg ((gwI (gwI μ 35 (Int32.toNatClampNeg (μ.1 33 1)) v1) 36 (Int32.toNatClampNeg ((gwI μ 35 (Int32.toNatClampNeg (μ.1 33 1)) v1).1 33 1)) v2).1 33 1)) v3) 38 (Int32.toNatClampNeg ((gwI (gwI (gwI μ 35 (Int32.toNatClampNeg (μ.1 33 1)) v1) 36 (Int32.toNatClampNeg ((gwI μ 35 (Int32.toNatClampNeg (μ.1 33 1)) v1).1 33 1)) v2) 37 (Int32.toNatClampNeg ((gwI (gwI μ 35 (Int32.toNatClampNeg (μ.1 33 1)) v1) 36 (Int32.toNatClampNeg ((gwI μ 35 (Int32.toNatClampNeg (μ.1 33 1)) v1).1 33 1)) v2).1 33 1)) v3).1 33 1)) v4) 33 1 (((gwI (gwI (gwI (gwI μ 35 (Int32.toNatClampNeg (μ.1 33 1)) v1) 36 (Int32.toNatClampNeg ((gwI μ 35 (Int32.toNatClampNeg (μ.1 33 1)) v1).1 33 1)) v2) 37 (Int32.toNatClampNeg ((gwI (gwI μ 35 (Int32.toNatClampNeg (μ.1 33 1)) v1) 36 (Int32.toNatClampNeg ((gwI μ 35 (Int32.toNatClampNeg (μ.1 33 1)) v1).1 33 1)) v2).1 33 1)) v3) 38 (Int32.toNatClampNeg ((gwI (gwI (gwI μ 35 (Int32.toNatClampNeg (μ.1 33 1)) v1) 36 (Int32.toNatClampNeg ((gwI μ 35 (Int32.toNatClampNeg (μ.1 33 1)) v1).1 33 1)) v2) 37 (Int32.toNatClampNeg ((gwI (gwI μ 35 (Int32.toNatClampNeg (μ.1 33 1)) v1) 36 (Int32.toNatClampNeg ((gwI μ 35 (Int32.toNatClampNeg (μ.1 33 1)) v1).1 33 1)) v2).1 33 1)) v3).1 33 1)) v4).1 33 1) + 1))) else none) else none) else none) else none)) := (g_cut dtX0_add [] 43 0 _ [] μ).trans rfl
set_option maxRecDepth 100000 in
theorem eX0_isDue (v1 : Int32) (v2 : Int32) (μ : gMem) : mX0_isDue [.ref 33, .int v1, .int v2] μ = (if g_in v1 60 = true then (if v2 < (μ.1 35 (Int32.toNatClampNeg v1)) then some (some (.int 0), μ) else some (some (.int 1), μ)) else none) := (g_cut dtX0_isDue [] 12 0 _ [] μ).trans rfl
set_option maxRecDepth 100000 in
theorem eX0_size (v1 : Int32) (μ : gMem) : mX0_size [.ref 33, .int v1] μ = (if g_in v1 60 = true then some (some (.int (μ.1 36 (Int32.toNatClampNeg v1))), μ) else none) := (g_cut dtX0_size [] 7 0 _ [] μ).trans rfl
set_option maxRecDepth 100000 in
theorem eX0_work (v1 : Int32) (μ : gMem) : mX0_work [.ref 33, .int v1] μ = (if g_in v1 60 = true then some (some (.int (μ.1 37 (Int32.toNatClampNeg v1))), μ) else none) := (g_cut dtX0_work [] 7 0 _ [] μ).trans rfl
set_option maxRecDepth 100000 in
theorem eX0_who (v1 : Int32) (μ : gMem) : mX0_who [.ref 33, .int v1] μ = (if g_in v1 60 = true then some (some (.int (μ.1 38 (Int32.toNatClampNeg v1))), μ) else none) := (g_cut dtX0_who [] 7 0 _ [] μ).trans rfl
noncomputable def rX0_dropDue_4 (v1 : Int32) (v2 : Int32) (v3 : Int32) (μ : gMem) : Option gR := g_run PX0_dropDue 4 [some (.ref 33), some (.int v1), some (.int v2), some (.int v3), none] [] μ
noncomputable def rX0_dropDue_24 (v1 : Int32) (v2 : Int32) (v3 : Int32) (v4 : Int32) (μ : gMem) : Option gR := g_run PX0_dropDue 24 [some (.ref 33), some (.int v1), some (.int v2), some (.int v3), some (.int v4)] [] μ
set_option maxRecDepth 100000 in
theorem eX0_dropDue (v1 : Int32) (μ : gMem) : mX0_dropDue [.ref 33, .int v1] μ = rX0_dropDue_4 v1 0 0 μ := (g_cut dtX0_dropDue [4, 24] 39 0 _ [] μ).trans rfl
set_option maxRecDepth 100000 in
theorem eX0_dropDue_4 (v1 : Int32) (v2 : Int32) (v3 : Int32) (μ : gMem) : rX0_dropDue_4 v1 v2 v3 μ = (if (μ.1 33 1) ≤ v3 then some (none, (gwI μ 33 1 v2)) else (g_ci (mX0_isDue [.ref 33, .int v3, .int v1] μ) (fun a1 u1 => (if a1 = 0 then rX0_dropDue_24 v1 v2 v3 0 u1 else rX0_dropDue_4 v1 v2 (v3 + 1) u1)))) := (g_cut dtX0_dropDue [4, 24] 39 4 _ [] μ).trans rfl
set_option maxRecDepth 100000 in
theorem eX0_dropDue_24 (v1 : Int32) (v2 : Int32) (v3 : Int32) (v4 : Int32) (μ : gMem) : rX0_dropDue_24 v1 v2 v3 v4 μ = (if 4 ≤ v4 then rX0_dropDue_4 v1 (v2 + 1) (v3 + 1) μ else (if g_in v4 4 = true then (if g_in v4 4 = true then (if g_in v3 (gLen LB 0 (34 + 1 + (Int32.toNatClampNeg v4))) = true then (if g_in v2 (gLen LB 0 (34 + 1 + (Int32.toNatClampNeg v4))) = true then rX0_dropDue_24 v1 v2 v3 (v4 + 1) (gwI μ (34 + 1 + (Int32.toNatClampNeg v4)) (Int32.toNatClampNeg v2) (μ.1 (34 + 1 + (Int32.toNatClampNeg v4)) (Int32.toNatClampNeg v3))) else none) else none) else none) else none)) := (g_cut dtX0_dropDue [4, 24] 39 24 _ [] μ).trans rfl
set_option maxRecDepth 100000 in
theorem eX2_p  (μ : gMem) : mX2_p [.ref 0] μ = some (some (.int (μ.1 1 0)), μ) := (g_cut dtX2_p [] 5 0 _ [] μ).trans rfl
set_option maxRecDepth 100000 in
theorem eX2_ups  (μ : gMem) : mX2_ups [.ref 0] μ = (g_ci (mX1_bits [.int 0, .int (μ.1 1 0)] μ) (fun a1 u1 => some (some (.int (a1 &&& ((u1.1 0 13) ^^^ (-1)))), u1))) := (g_cut dtX2_ups [] 12 0 _ [] μ).trans rfl
set_option maxRecDepth 100000 in
theorem eX2_hasColumn (v1 : Int32) (μ : gMem) : mX2_hasColumn [.ref 0, .int v1] μ = (if v1 < 0 then some (some (.int 0), μ) else (if (μ.1 1 0) ≤ v1 then some (some (.int 0), μ) else some (some (.int 1), μ))) := (g_cut dtX2_hasColumn [] 12 0 _ [] μ).trans rfl
set_option maxRecDepth 100000 in
theorem eX2_isDown (v1 : Int32) (μ : gMem) : mX2_isDown [.ref 0, .int v1] μ = (if ((g_ushr (μ.1 0 13) v1) &&& 1) = 1 then some (some (.int 1), μ) else some (some (.int 0), μ)) := (g_cut dtX2_isDown [] 12 0 _ [] μ).trans rfl
set_option maxRecDepth 100000 in
theorem eX2_freeIn (v1 : Int32) (μ : gMem) : mX2_freeIn [.ref 0, .int v1] μ = (g_ci (mX2_ups [.ref 0] μ) (fun a1 u1 => (if g_in v1 8 = true then some (some (.int (a1 &&& ((u1.1 32 (Int32.toNatClampNeg v1)) ^^^ (-1)))), u1) else none))) := (g_cut dtX2_freeIn [] 11 0 _ [] μ).trans rfl
set_option maxRecDepth 100000 in
theorem eX2_tell (v1 : Int32) (v2 : Int32) (μ : gMem) : mX2_tell [.ref 0, .int v1, .int v2] μ = (if v1 < 0 then some (some (.int 0), μ) else (if 10 ≤ v1 then some (some (.int 0), μ) else (if g_in v1 10 = true then (if v2 < (g_t1.getD (Int32.toNatClampNeg v1) 0) then some (some (.int 0), μ) else (if g_in v1 10 = true then (if v2 ≤ (g_t2.getD (Int32.toNatClampNeg v1) 0) then (if v1 = 0 then (g_ci (mX1_widthOf [.int v2] μ) (fun a1 u1 => (if a1 = v2 then (if 0 < (u1.1 3 2) then some (some (.int 0), u1) else (if (u1.1 33 1) ≤ 0 then (if g_in v1 10 = true then some (some (.int 1), (gwI (gwI u1 0 13 0) 1 (Int32.toNatClampNeg v1) v2)) else none) else some (some (.int 0), u1))) else some (some (.int 0), u1)))) else (if g_in v1 10 = true then some (some (.int 1), (gwI μ 1 (Int32.toNatClampNeg v1) v2)) else none)) else some (some (.int 0), μ)) else none)) else none))) := (g_cut dtX2_tell [] 45 0 _ [] μ).trans rfl
set_option maxRecDepth 100000 in
theorem eX6_add_39 (v1 : Int32) (v2 : Int32) (v3 : Int32) (v4 : Int32) (v5 : Int32) (μ : gMem) : mX6_add [.ref 39, .int v1, .int v2, .int v3, .int v4, .int v5] μ = (g_ci (mJ9_floorMod_7cf53 [.int (μ.1 39 1), .int 60] μ) (fun a1 u1 => (if g_in a1 60 = true then (if g_in a1 60 = true then (if g_in a1 60 = true then (if g_in a1 60 = true then (if g_in a1 60 = true then some (none, (gwI (gwI (gwI (gwI (gwI (gwI u1 41 (Int32.toNatClampNeg a1) v1) 42 (Int32.toNatClampNeg a1) v2) 43 (Int32.toNatClampNeg a1) v3) 44 (Int32.toNatClampNeg a1) v4) 45 (Int32.toNatClampNeg a1) v5) 39 1 (((gwI (gwI (gwI (gwI (gwI u1 41 (Int32.toNatClampNeg a1) v1) 42 (Int32.toNatClampNeg a1) v2) 43 (Int32.toNatClampNeg a1) v3) 44 (Int32.toNatClampNeg a1) v4) 45 (Int32.toNatClampNeg a1) v5).1 39 1) + 1))) else none) else none) else none) else none) else none))) := (g_cut dtX6_add [] 47 0 _ [] μ).trans rfl
set_option maxRecDepth 100000 in
theorem eX6_add_46 (v1 : Int32) (v2 : Int32) (v3 : Int32) (v4 : Int32) (v5 : Int32) (μ : gMem) : mX6_add [.ref 46, .int v1, .int v2, .int v3, .int v4, .int v5] μ = (g_ci (mJ9_floorMod_7cf53 [.int (μ.1 46 1), .int 60] μ) (fun a1 u1 => (if g_in a1 60 = true then (if g_in a1 60 = true then (if g_in a1 60 = true then (if g_in a1 60 = true then (if g_in a1 60 = true then some (none, (gwI (gwI (gwI (gwI (gwI (gwI u1 48 (Int32.toNatClampNeg a1) v1) 49 (Int32.toNatClampNeg a1) v2) 50 (Int32.toNatClampNeg a1) v3) 51 (Int32.toNatClampNeg a1) v4) 52 (Int32.toNatClampNeg a1) v5) 46 1 (((gwI (gwI (gwI (gwI (gwI u1 48 (Int32.toNatClampNeg a1) v1) 49 (Int32.toNatClampNeg a1) v2) 50 (Int32.toNatClampNeg a1) v3) 51 (Int32.toNatClampNeg a1) v4) 52 (Int32.toNatClampNeg a1) v5).1 46 1) + 1))) else none) else none) else none) else none) else none))) := (g_cut dtX6_add [] 47 0 _ [] μ).trans rfl
set_option maxRecDepth 100000 in
theorem eX2_note (v1 : Int32) (v2 : Int32) (μ : gMem) : mX2_note [.ref 0, .int v1, .int v2] μ = (if g_in v2 60 = true then (if g_in v2 60 = true then (g_cv (mX6_add [.ref 39, .int (μ.1 0 12), .int v1, .int v2, .int (μ.1 12 (Int32.toNatClampNeg v2)), .int (μ.1 13 (Int32.toNatClampNeg v2))] μ) (fun u1 => some (none, u1))) else none) else none) := (g_cut dtX2_note [] 22 0 _ [] μ).trans rfl
set_option maxRecDepth 100000 in
theorem eX2_canCome (v1 : Int32) (v2 : Int32) (v3 : Int32) (μ : gMem) : mX2_canCome [.ref 0, .int v1, .int v2, .int v3] μ = (if v1 < 1 then some (some (.int 0), μ) else (if (μ.1 1 0) < v1 then some (some (.int 0), μ) else (if v2 < 1 then some (some (.int 0), μ) else (if 9999 < v2 then some (some (.int 0), μ) else (if v3 < 0 then some (some (.int 0), μ) else (if 6 ≤ v3 then some (some (.int 0), μ) else (if 60 ≤ ((μ.1 3 2) + (μ.1 33 1)) then some (some (.int 0), μ) else some (some (.int 1), μ)))))))) := (g_cut dtX2_canCome [] 33 0 _ [] μ).trans rfl
noncomputable def rX4_add_9 (v1 : Int32) (v2 : Int32) (v3 : Int32) (v4 : Int32) (v5 : Int32) (v6 : Int32) (v7 : Int32) (μ : gMem) : Option gR := g_run PX4_add 9 [some (.ref 3), some (.int v1), some (.int v2), some (.int v3), some (.int v4), some (.int v5), some (.int v6), some (.int v7)] [] μ
set_option maxRecDepth 100000 in
theorem eX4_add (v1 : Int32) (v2 : Int32) (v3 : Int32) (v4 : Int32) (v5 : Int32) (μ : gMem) : mX4_add [.ref 3, .int v1, .int v2, .int v3, .int v4, .int v5] μ = rX4_add_9 v1 v2 v3 v4 v5 (μ.1 3 2) 0 μ := (g_cut dtX4_add [9] 110 0 _ [] μ).trans rfl
set_option maxRecDepth 100000 in
theorem eX4_add_9 (v1 : Int32) (v2 : Int32) (v3 : Int32) (v4 : Int32) (v5 : Int32) (v6 : Int32) (v7 : Int32) (μ : gMem) : rX4_add_9 v1 v2 v3 v4 v5 v6 v7 μ = (if 19 ≤ v7 then (if g_in v6 60 = true then (if g_in v6 60 = true then (if g_in v6 60 = true then (if g_in v6 60 = true then (if g_in v6 60 = true then (if g_in v6 60 = true then (if g_in v6 60 = true then (if g_in v6 60 = true then (g_ci (mX1_widthOf [.int v1] (gwI (gwI (gwI (gwI (gwI (gwI (gwI (gwI μ 5 (Int32.toNatClampNeg v6) v1) 6 (Int32.toNatClampNeg v6) v2) 7 (Int32.toNatClampNeg v6) v3) 8 (Int32.toNatClampNeg v6) v4) 10 (Int32.toNatClampNeg v6) v2) 11 (Int32.toNatClampNeg v6) v2) 12 (Int32.toNatClampNeg v6) (-1)) 13 (Int32.toNatClampNeg v6) (-1))) (fun a1 u1 => (if g_in v6 60 = true then (if g_in v6 60 = true then (if g_in v6 60 = true then (if g_in v6 60 = true then some (some (.int v6), (gwI (gwI (gwI (gwI (gwI u1 14 (Int32.toNatClampNeg v6) a1) 18 (Int32.toNatClampNeg v6) v5) 19 (Int32.toNatClampNeg v6) (-1)) 20 (Int32.toNatClampNeg v6) (-1)) 3 2 (((gwI (gwI (gwI (gwI u1 14 (Int32.toNatClampNeg v6) a1) 18 (Int32.toNatClampNeg v6) v5) 19 (Int32.toNatClampNeg v6) (-1)) 20 (Int32.toNatClampNeg v6) (-1)).1 3 2) + 1))) else none) else none) else none) else none))) else none) else none) else none) else none) else none) else none) else none) else none) else (if g_in v7 19 = true then (if g_in v6 (gLen LB 0 (4 + 1 + (Int32.toNatClampNeg v7))) = true then rX4_add_9 v1 v2 v3 v4 v5 v6 (v7 + 1) (gwI μ (4 + 1 + (Int32.toNatClampNeg v7)) (Int32.toNatClampNeg v6) 0) else none) else none)) := (g_cut dtX4_add [9] 110 9 _ [] μ).trans rfl
set_option maxRecDepth 100000 in
theorem eX4_state (v1 : Int32) (μ : gMem) : mX4_state [.ref 3, .int v1] μ = (if g_in v1 60 = true then some (some (.int (μ.1 9 (Int32.toNatClampNeg v1))), μ) else none) := (g_cut dtX4_state [] 7 0 _ [] μ).trans rfl
set_option maxRecDepth 100000 in
theorem eX4_toLine (v1 : Int32) (μ : gMem) : mX4_toLine [.ref 3, .int v1] μ = (if g_in v1 60 = true then (if 60 ≤ ((gwI μ 9 (Int32.toNatClampNeg v1) 1).1 3 3) then some (none, (gwI μ 9 (Int32.toNatClampNeg v1) 1)) else (if g_in ((gwI μ 9 (Int32.toNatClampNeg v1) 1).1 3 3) 60 = true then some (none, (gwI (gwI (gwI μ 9 (Int32.toNatClampNeg v1) 1) 24 (Int32.toNatClampNeg ((gwI μ 9 (Int32.toNatClampNeg v1) 1).1 3 3)) v1) 3 3 (((gwI (gwI μ 9 (Int32.toNatClampNeg v1) 1) 24 (Int32.toNatClampNeg ((gwI μ 9 (Int32.toNatClampNeg v1) 1).1 3 3)) v1).1 3 3) + 1))) else none)) else none) := (g_cut dtX4_toLine [] 24 0 _ [] μ).trans rfl
set_option maxRecDepth 100000 in
theorem eX2_come (v1 : Int32) (v2 : Int32) (v3 : Int32) (v4 : Int32) (μ : gMem) : mX2_come [.ref 0, .int v1, .int v2, .int v3, .int v4] μ = (g_ci (mX4_add [.ref 3, .int v1, .int v2, .int v3, .int v4, .int (μ.1 0 12)] μ) (fun a1 u1 => (if v4 = (-1) then (g_cv (mX4_toLine [.ref 3, .int a1] u1) (fun u2 => (g_cv (mX2_note [.ref 0, .int 0, .int a1] u2) (fun u3 => some (some (.int a1), u3))))) else (g_ci (mX4_state [.ref 3, .int v4] u1) (fun a4 u4 => (if a4 = 3 then (g_cv (mX4_toLine [.ref 3, .int a1] u4) (fun u6 => (g_cv (mX2_note [.ref 0, .int 0, .int a1] u6) (fun u7 => some (some (.int a1), u7))))) else (g_cv (mX2_note [.ref 0, .int 0, .int a1] u4) (fun u5 => some (some (.int a1), u5))))))))) := (g_cut dtX2_come [] 29 0 _ [] μ).trans rfl
noncomputable def rX2_canStand_7 (v1 : Int32) (v2 : Int32) (v3 : Int32) (μ : gMem) : Option gR := g_run PX2_canStand 7 [some (.ref 0), some (.int v1), some (.int v2), some (.int v3)] [] μ
set_option maxRecDepth 100000 in
theorem eX2_canStand (v1 : Int32) (μ : gMem) : mX2_canStand [.ref 0, .int v1] μ = (g_ci (mX2_ups [.ref 0] μ) (fun a1 u1 => rX2_canStand_7 v1 a1 0 u1)) := (g_cut dtX2_canStand [7] 42 0 _ [] μ).trans rfl
set_option maxRecDepth 100000 in
theorem eX2_canStand_7 (v1 : Int32) (v2 : Int32) (v3 : Int32) (μ : gMem) : rX2_canStand_7 v1 v2 v3 μ = (if (μ.1 29 3) ≤ v3 then (if (μ.1 1 1) ≤ (μ.1 29 3) then some (some (.int 0), μ) else (g_ci (mX1_starts [.int v2, .int v1] μ) (fun a1 u1 => (if a1 = 0 then some (some (.int 0), u1) else some (some (.int 1), u1))))) else (if g_in v3 8 = true then (g_ci (mX1_starts [.int (v2 &&& ((μ.1 32 (Int32.toNatClampNeg v3)) ^^^ (-1))), .int v1] μ) (fun a2 u2 => (if a2 = 0 then rX2_canStand_7 v1 v2 (v3 + 1) u2 else some (some (.int 1), u2)))) else none)) := (g_cut dtX2_canStand [7] 42 7 _ [] μ).trans rfl
noncomputable def rX7_loadOf_4 (v1 : Int32) (v2 : Int32) (v3 : Int32) (μ : gMem) : Option gR := g_run PX7_loadOf 4 [some (.ref 29), some (.int v1), some (.int v2), some (.int v3)] [] μ
set_option maxRecDepth 100000 in
theorem eX7_loadOf (v1 : Int32) (μ : gMem) : mX7_loadOf [.ref 29, .int v1] μ = rX7_loadOf_4 v1 0 0 μ := (g_cut dtX7_loadOf [4] 23 0 _ [] μ).trans rfl
set_option maxRecDepth 100000 in
theorem eX7_loadOf_4 (v1 : Int32) (v2 : Int32) (v3 : Int32) (μ : gMem) : rX7_loadOf_4 v1 v2 v3 μ = (if (μ.1 29 3) ≤ v3 then some (some (.int v2), μ) else (if g_in v3 8 = true then rX7_loadOf_4 v1 (v2 + ((g_ushr (μ.1 32 (Int32.toNatClampNeg v3)) v1) &&& 1)) (v3 + 1) μ else none)) := (g_cut dtX7_loadOf [4] 23 4 _ [] μ).trans rfl
noncomputable def rX7_loadsInto_2 (v2 : Int32) (μ : gMem) : Option gR := g_run PX7_loadsInto 2 [some (.ref 29), some (.ref 58), some (.int v2)] [] μ
set_option maxRecDepth 100000 in
theorem eX7_loadsInto  (μ : gMem) : mX7_loadsInto [.ref 29, .ref 58] μ = rX7_loadsInto_2 0 μ := (g_cut dtX7_loadsInto [2] 15 0 _ [] μ).trans rfl
set_option maxRecDepth 100000 in
theorem eX7_loadsInto_2 (v2 : Int32) (μ : gMem) : rX7_loadsInto_2 v2 μ = (if 32 ≤ v2 then some (none, μ) else (g_ci (mX7_loadOf [.ref 29, .int v2] μ) (fun a1 u1 => (if g_in v2 32 = true then rX7_loadsInto_2 (v2 + 1) (gwI u1 58 (Int32.toNatClampNeg v2) a1) else none)))) := (g_cut dtX7_loadsInto [2] 15 2 _ [] μ).trans rfl
noncomputable def rX2_roomOf_6 (v1 : Int32) (v2 : Int32) (v3 : Int32) (v4 : Int32) (v5 : Int32) (μ : gMem) : Option gR := g_run PX2_roomOf 6 [none, some (.int v1), some (.int v2), some (.int v3), some (.int v4), some (.int v5), none] [] μ
set_option maxRecDepth 100000 in
theorem eX2_roomOf (v1 : Int32) (v2 : Int32) (v3 : Int32) (μ : gMem) : mX2_roomOf [.ref 0, .int v1, .int v2, .int v3] μ = rX2_roomOf_6 v1 v2 v3 v3 2 μ := (g_cut dtX2_roomOf [6] 33 0 _ [] μ).trans rfl
set_option maxRecDepth 100000 in
theorem eX2_roomOf_6 (v1 : Int32) (v2 : Int32) (v3 : Int32) (v4 : Int32) (v5 : Int32) (μ : gMem) : rX2_roomOf_6 v1 v2 v3 v4 v5 μ = (if 32 < v5 then some (some (.int v4), μ) else (if v5 = 0 then none else (g_ci (mX1_bits [.int ((v2 / v5) * v5), .int v5] μ) (fun a1 u1 => (if v5 ≤ v3 then rX2_roomOf_6 v1 v2 v3 v4 (v5 * 2) u1 else (if (a1 &&& (v1 ^^^ (-1))) = 0 then rX2_roomOf_6 v1 v2 v3 v5 (v5 * 2) u1 else rX2_roomOf_6 v1 v2 v3 v4 (v5 * 2) u1)))))) := (g_cut dtX2_roomOf [6] 33 6 _ [] μ).trans rfl
noncomputable def rX2_loadRank_8 (v1 : Int32) (v2 : Int32) (v3 : Int32) (v4 : Int32) (v5 : Int32) (μ : gMem) : Option gR := g_run PX2_loadRank 8 [some (.ref 0), some (.int v1), some (.int v2), some (.int v3), some (.int v4), some (.int v5)] [] μ
set_option maxRecDepth 100000 in
theorem eX2_loadRank (v1 : Int32) (v2 : Int32) (μ : gMem) : mX2_loadRank [.ref 0, .int v1, .int v2] μ = rX2_loadRank_8 v1 v2 0 0 v1 μ := (g_cut dtX2_loadRank [8] 38 0 _ [] μ).trans rfl
set_option maxRecDepth 100000 in
theorem eX2_loadRank_8 (v1 : Int32) (v2 : Int32) (v3 : Int32) (v4 : Int32) (v5 : Int32) (μ : gMem) : rX2_loadRank_8 v1 v2 v3 v4 v5 μ = (if (v1 + v2) ≤ v5 then some (some (.int ((v3 * 1000) + v4)), μ) else (if 32 ≤ v5 then some (some (.int ((v3 * 1000) + v4)), μ) else (if g_in v5 32 = true then (g_ci (mJ9_max_7cf53 [.int v3, .int (μ.1 58 (Int32.toNatClampNeg v5))] μ) (fun a1 u1 => (if g_in v5 32 = true then rX2_loadRank_8 v1 v2 a1 (v4 + (u1.1 58 (Int32.toNatClampNeg v5))) (v5 + 1) u1 else none))) else none))) := (g_cut dtX2_loadRank [8] 38 8 _ [] μ).trans rfl
noncomputable def rX2_rankedStart_30 (v1 : Int32) (v2 : Int32) (v3 : Int32) (v4 : Int32) (v5 : Int32) (μ : gMem) : Option gR := g_run PX2_rankedStart 30 [some (.ref 0), some (.int v1), some (.int v2), some (.int v3), some (.int v4), some (.int v5), none, none] [] μ
set_option maxRecDepth 100000 in
theorem eX2_rankedStart (v1 : Int32) (v2 : Int32) (μ : gMem) : mX2_rankedStart [.ref 0, .int v1, .int v2] μ = (g_ci (mX1_starts [.int v1, .int v2] μ) (fun a1 u1 => (if a1 = 0 then (g_ci (mX1_lowest [.int a1] u1) (fun a2 u2 => some (some (.int a2), u2))) else (if (u1.1 1 2) = 0 then (g_ci (mX1_lowest [.int a1] u1) (fun a3 u3 => some (some (.int a3), u3))) else rX2_rankedStart_30 v1 v2 a1 (-1) 0 u1)))) := (g_cut dtX2_rankedStart [30] 67 0 _ [] μ).trans rfl
set_option maxRecDepth 100000 in
theorem eX2_rankedStart_30 (v1 : Int32) (v2 : Int32) (v3 : Int32) (v4 : Int32) (v5 : Int32) (μ : gMem) : rX2_rankedStart_30 v1 v2 v3 v4 v5 μ = (if (μ.1 1 0) ≤ v5 then some (some (.int v4), μ) else (if ((g_ushr v3 v5) &&& 1) = 1 then (if (μ.1 1 2) = 1 then (g_ci (mX2_roomOf [.ref 0, .int v1, .int v5, .int v2] μ) (fun a3 u3 => (if v4 = (-1) then rX2_rankedStart_30 v1 v2 v3 ((a3 * 32) + v5) (v5 + 1) u3 else (g_ci (mJ9_min_7cf53 [.int v4, .int ((a3 * 32) + v5)] u3) (fun a4 u4 => rX2_rankedStart_30 v1 v2 v3 a4 (v5 + 1) u4))))) else (g_ci (mX2_loadRank [.ref 0, .int v5, .int v2] μ) (fun a1 u1 => (if v4 = (-1) then rX2_rankedStart_30 v1 v2 v3 ((a1 * 32) + v5) (v5 + 1) u1 else (g_ci (mJ9_min_7cf53 [.int v4, .int ((a1 * 32) + v5)] u1) (fun a2 u2 => rX2_rankedStart_30 v1 v2 v3 a2 (v5 + 1) u2)))))) else rX2_rankedStart_30 v1 v2 v3 v4 (v5 + 1) μ)) := (g_cut dtX2_rankedStart [30] 67 30 _ [] μ).trans rfl
noncomputable def rX2_spotFor_38 (v1 : Int32) (v2 : Int32) (v3 : Int32) (v4 : Int32) (μ : gMem) : Option gR := g_run PX2_spotFor 38 [some (.ref 0), some (.int v1), some (.int v2), some (.int v3), some (.int v4), none, none] [] μ
set_option maxRecDepth 100000 in
theorem eX2_spotFor (v1 : Int32) (μ : gMem) : mX2_spotFor [.ref 0, .int v1] μ = (g_ci (mX2_canStand [.ref 0, .int v1] μ) (fun a1 u1 => (if a1 = 0 then some (some (.int (-1)), u1) else (if (u1.1 1 2) = 2 then (g_cv (mX7_loadsInto [.ref 29, .ref 58] u1) (fun u2 => rX2_spotFor_38 v1 (-1) 0 0 u2)) else rX2_spotFor_38 v1 (-1) 0 0 u1)))) := (g_cut dtX2_spotFor [38] 90 0 _ [] μ).trans rfl
set_option maxRecDepth 100000 in
theorem eX2_spotFor_38 (v1 : Int32) (v2 : Int32) (v3 : Int32) (v4 : Int32) (μ : gMem) : rX2_spotFor_38 v1 v2 v3 v4 μ = (if (μ.1 29 3) ≤ v4 then (if v2 = (-1) then (if (μ.1 29 3) < (μ.1 1 1) then (g_ci (mX2_ups [.ref 0] μ) (fun a1 u1 => (g_ci (mX2_rankedStart [.ref 0, .int a1, .int v1] u1) (fun a2 u2 => (if a2 = (-1) then some (some (.int (-1)), u2) else (g_ci (mX1_spot [.int (u2.1 29 3), .int (a2 - a2 / 32 * 32)] u2) (fun a3 u3 => some (some (.int a3), u3)))))))) else some (some (.int v2), μ)) else some (some (.int v2), μ)) else (g_ci (mX2_freeIn [.ref 0, .int v4] μ) (fun a4 u4 => (g_ci (mX2_rankedStart [.ref 0, .int a4, .int v1] u4) (fun a5 u5 => (if a5 = (-1) then rX2_spotFor_38 v1 v2 v3 (v4 + 1) u5 else (if v2 = (-1) then (g_ci (mX1_spot [.int v4, .int (a5 - a5 / 32 * 32)] u5) (fun a6 u6 => rX2_spotFor_38 v1 a6 (a5 / 32) (v4 + 1) u6)) else (if v3 ≤ (a5 / 32) then rX2_spotFor_38 v1 v2 v3 (v4 + 1) u5 else (g_ci (mX1_spot [.int v4, .int (a5 - a5 / 32 * 32)] u5) (fun a7 u7 => rX2_spotFor_38 v1 a7 (a5 / 32) (v4 + 1) u7)))))))))) := (g_cut dtX2_spotFor [38] 90 38 _ [] μ).trans rfl
noncomputable def rX8_rankAll_2 (v1 : Int32) (μ : gMem) : Option gR := g_run PX8_rankAll 2 [some (.ref 25), some (.int v1), none] [] μ
noncomputable def rX8_rankAll_17 (v1 : Int32) (v2 : Int32) (μ : gMem) : Option gR := g_run PX8_rankAll 17 [some (.ref 25), some (.int v1), some (.int v2)] [] μ
set_option maxRecDepth 100000 in
theorem eX8_rankAll  (μ : gMem) : mX8_rankAll [.ref 25] μ = rX8_rankAll_2 0 μ := (g_cut dtX8_rankAll [2, 17] 52 0 _ [] μ).trans rfl
set_option maxRecDepth 100000 in
theorem eX8_rankAll_2 (v1 : Int32) (μ : gMem) : rX8_rankAll_2 v1 μ = (if 6 ≤ v1 then some (none, μ) else (if g_in v1 6 = true then rX8_rankAll_17 v1 0 (gwI μ 28 (Int32.toNatClampNeg v1) 0) else none)) := (g_cut dtX8_rankAll [2, 17] 52 2 _ [] μ).trans rfl
set_option maxRecDepth 100000 in
theorem eX8_rankAll_17 (v1 : Int32) (v2 : Int32) (μ : gMem) : rX8_rankAll_17 v1 v2 μ = (if 6 ≤ v2 then rX8_rankAll_2 (v1 + 1) μ else (if g_in v2 6 = true then (if g_in v1 6 = true then (if g_in v1 6 = true then (if g_in v2 6 = true then (if 0 ≤ (lg_cmp ((Int32.toInt64 (μ.1 27 (Int32.toNatClampNeg v2))) * (Int32.toInt64 (μ.1 26 (Int32.toNatClampNeg v1)))) ((Int32.toInt64 (μ.1 27 (Int32.toNatClampNeg v1))) * (Int32.toInt64 (μ.1 26 (Int32.toNatClampNeg v2))))) then rX8_rankAll_17 v1 (v2 + 1) μ else (if g_in v1 6 = true then (if g_in v1 6 = true then rX8_rankAll_17 v1 (v2 + 1) (gwI μ 28 (Int32.toNatClampNeg v1) ((μ.1 28 (Int32.toNatClampNeg v1)) + 1)) else none) else none)) else none) else none) else none) else none)) := (g_cut dtX8_rankAll [2, 17] 52 17 _ [] μ).trans rfl
noncomputable def rX2_lineUp_51 (v1 : Int32) (v2 : Int32) (μ : gMem) : Option gR := g_run PX2_lineUp 51 [some (.ref 0), some (.int v1), some (.int v2), none] [] μ
noncomputable def rX2_lineUp_59 (v1 : Int32) (v2 : Int32) (v3 : Int32) (μ : gMem) : Option gR := g_run PX2_lineUp 59 [some (.ref 0), some (.int v1), some (.int v2), some (.int v3)] [] μ
set_option maxRecDepth 100000 in
theorem eX2_lineUp  (μ : gMem) : mX2_lineUp [.ref 0] μ = (if (μ.1 1 3) = 0 then (if (0 : Int32) = 0 ∧ (0 : Int32) = 0 ∧ ¬ ((μ.1 3 3) : Int32) < 0 ∧ Int32.toNatClampNeg (μ.1 3 3) ≤ 60 ∧ Int32.toNatClampNeg (μ.1 3 3) ≤ 60 ∧ 0 < 60 ∧ 0 < 60 then some (some (.int ((gcI μ 24 56 (Int32.toNatClampNeg (μ.1 3 3))).1 3 3)), (gcI μ 24 56 (Int32.toNatClampNeg (μ.1 3 3)))) else none) else (g_cv (mX8_rankAll [.ref 25] μ) (fun u1 => rX2_lineUp_51 0 0 u1))) := (g_cut dtX2_lineUp [51, 59] 70 0 _ [] μ).trans rfl
set_option maxRecDepth 100000 in
theorem eX2_lineUp_51 (v1 : Int32) (v2 : Int32) (μ : gMem) : rX2_lineUp_51 v1 v2 μ = (if 6 ≤ v2 then some (some (.int v1), μ) else rX2_lineUp_59 v1 v2 0 μ) := (g_cut dtX2_lineUp [51, 59] 70 51 _ [] μ).trans rfl
set_option maxRecDepth 100000 in
theorem eX2_lineUp_59 (v1 : Int32) (v2 : Int32) (v3 : Int32) (μ : gMem) : rX2_lineUp_59 v1 v2 v3 μ = (if (μ.1 3 3) ≤ v3 then rX2_lineUp_51 v1 (v2 + 1) μ else (if g_in v3 60 = true then (if g_in (μ.1 24 (Int32.toNatClampNeg v3)) 60 = true then (if g_in (μ.1 7 (Int32.toNatClampNeg (μ.1 24 (Int32.toNatClampNeg v3)))) 6 = true then (if (μ.1 28 (Int32.toNatClampNeg (μ.1 7 (Int32.toNatClampNeg (μ.1 24 (Int32.toNatClampNeg v3)))))) = v2 then (if g_in v3 60 = true then (if g_in v1 60 = true then rX2_lineUp_59 (v1 + 1) v2 (v3 + 1) (gwI μ 56 (Int32.toNatClampNeg v1) (μ.1 24 (Int32.toNatClampNeg v3))) else none) else none) else rX2_lineUp_59 v1 v2 (v3 + 1) μ) else none) else none) else none)) := (g_cut dtX2_lineUp [51, 59] 70 59 _ [] μ).trans rfl
noncomputable def rX4_fromLine_4 (v1 : Int32) (v2 : Int32) (v3 : Int32) (μ : gMem) : Option gR := g_run PX4_fromLine 4 [some (.ref 3), some (.int v1), some (.int v2), some (.int v3)] [] μ
set_option maxRecDepth 100000 in
theorem eX4_fromLine (v1 : Int32) (μ : gMem) : mX4_fromLine [.ref 3, .int v1] μ = rX4_fromLine_4 v1 0 0 μ := (g_cut dtX4_fromLine [4] 29 0 _ [] μ).trans rfl
set_option maxRecDepth 100000 in
theorem eX4_fromLine_4 (v1 : Int32) (v2 : Int32) (v3 : Int32) (μ : gMem) : rX4_fromLine_4 v1 v2 v3 μ = (if (μ.1 3 3) ≤ v3 then some (none, (gwI μ 3 3 v2)) else (if g_in v3 60 = true then (if (μ.1 24 (Int32.toNatClampNeg v3)) = v1 then rX4_fromLine_4 v1 v2 (v3 + 1) μ else (if g_in v3 60 = true then (if g_in v2 60 = true then rX4_fromLine_4 v1 (v2 + 1) (v3 + 1) (gwI μ 24 (Int32.toNatClampNeg v2) (μ.1 24 (Int32.toNatClampNeg v3))) else none) else none)) else none)) := (g_cut dtX4_fromLine [4] 29 4 _ [] μ).trans rfl
noncomputable def rX7_leastPass_20 (v1 : Int64) (v3 : Int32) (μ : gMem) : Option gR := g_run PX7_leastPass 20 [some (.ref 29), some (.long v1), none, some (.int v3)] [] μ
set_option maxRecDepth 100000 in
theorem eX7_leastPass  (μ : gMem) : mX7_leastPass [.ref 29] μ = (if (μ.1 29 3) ≤ 0 then rX7_leastPass_20 0 1 μ else rX7_leastPass_20 (μ.2 30 0) 1 μ) := (g_cut dtX7_leastPass [20] 32 0 _ [] μ).trans rfl
set_option maxRecDepth 100000 in
theorem eX7_leastPass_20 (v1 : Int64) (v3 : Int32) (μ : gMem) : rX7_leastPass_20 v1 v3 μ = (if (μ.1 29 3) ≤ v3 then some (some (.long v1), μ) else (if g_in v3 8 = true then (if 0 ≤ (lg_cmp (μ.2 30 (Int32.toNatClampNeg v3)) v1) then rX7_leastPass_20 v1 (v3 + 1) μ else (if g_in v3 8 = true then rX7_leastPass_20 (μ.2 30 (Int32.toNatClampNeg v3)) (v3 + 1) μ else none)) else none)) := (g_cut dtX7_leastPass [20] 32 20 _ [] μ).trans rfl
set_option maxRecDepth 100000 in
theorem eX7_open  (μ : gMem) : mX7_open [.ref 29] μ = (if 8 ≤ (μ.1 29 3) then some (none, μ) else (g_cl (mX7_leastPass [.ref 29] μ) (fun a1 u1 => (if g_in (μ.1 29 3) 8 = true then (if g_in ((gwL u1 30 (Int32.toNatClampNeg (μ.1 29 3)) a1).1 29 3) 8 = true then (if g_in ((gwI (gwL u1 30 (Int32.toNatClampNeg (μ.1 29 3)) a1) 31 (Int32.toNatClampNeg ((gwL u1 30 (Int32.toNatClampNeg (μ.1 29 3)) a1).1 29 3)) 0).1 29 3) 8 = true then some (none, (gwI (gwI (gwI (gwL u1 30 (Int32.toNatClampNeg (μ.1 29 3)) a1) 31 (Int32.toNatClampNeg ((gwL u1 30 (Int32.toNatClampNeg (μ.1 29 3)) a1).1 29 3)) 0) 32 (Int32.toNatClampNeg ((gwI (gwL u1 30 (Int32.toNatClampNeg (μ.1 29 3)) a1) 31 (Int32.toNatClampNeg ((gwL u1 30 (Int32.toNatClampNeg (μ.1 29 3)) a1).1 29 3)) 0).1 29 3)) 0) 29 3 (((gwI (gwI (gwL u1 30 (Int32.toNatClampNeg (μ.1 29 3)) a1) 31 (Int32.toNatClampNeg ((gwL u1 30 (Int32.toNatClampNeg (μ.1 29 3)) a1).1 29 3)) 0) 32 (Int32.toNatClampNeg ((gwI (gwL u1 30 (Int32.toNatClampNeg (μ.1 29 3)) a1) 31 (Int32.toNatClampNeg ((gwL u1 30 (Int32.toNatClampNeg (μ.1 29 3)) a1).1 29 3)) 0).1 29 3)) 0).1 29 3) + 1))) else none) else none) else none)))) := (g_cut dtX7_open [] 30 0 _ [] μ).trans rfl
set_option maxRecDepth 100000 in
theorem eX7_has (v1 : Int32) (μ : gMem) : mX7_has [.ref 29, .int v1] μ = (if v1 < 0 then some (some (.int 0), μ) else (if (μ.1 29 3) ≤ v1 then some (some (.int 0), μ) else some (some (.int 1), μ))) := (g_cut dtX7_has [] 10 0 _ [] μ).trans rfl
set_option maxRecDepth 100000 in
theorem eX4_block (v1 : Int32) (μ : gMem) : mX4_block [.ref 3, .int v1] μ = (if g_in v1 60 = true then (if g_in v1 60 = true then (g_ci (mX1_bits [.int (μ.1 13 (Int32.toNatClampNeg v1)), .int (μ.1 14 (Int32.toNatClampNeg v1))] μ) (fun a1 u1 => some (some (.int a1), u1))) else none) else none) := (g_cut dtX4_block [] 14 0 _ [] μ).trans rfl
set_option maxRecDepth 100000 in
theorem eX2_settle (v1 : Int32) (v2 : Int32) (v3 : Int32) (μ : gMem) : mX2_settle [.ref 0, .int v1, .int v2, .int v3] μ = (if v2 = (μ.1 29 3) then (g_cv (mX7_open [.ref 29] μ) (fun u3 => (g_ci (mX7_has [.ref 29, .int v2] u3) (fun a4 u4 => (if a4 = 0 then some (none, u4) else (if g_in v1 60 = true then (if g_in v1 60 = true then (if g_in v2 8 = true then (g_ci (mX4_block [.ref 3, .int v1] (gwI (gwI u4 12 (Int32.toNatClampNeg v1) v2) 13 (Int32.toNatClampNeg v1) v3)) (fun a5 u5 => (if g_in v2 8 = true then some (none, (gwI u5 32 (Int32.toNatClampNeg v2) (((gwI (gwI u4 12 (Int32.toNatClampNeg v1) v2) 13 (Int32.toNatClampNeg v1) v3).1 32 (Int32.toNatClampNeg v2)) ||| a5))) else none))) else none) else none) else none)))))) else (g_ci (mX7_has [.ref 29, .int v2] μ) (fun a1 u1 => (if a1 = 0 then some (none, u1) else (if g_in v1 60 = true then (if g_in v1 60 = true then (if g_in v2 8 = true then (g_ci (mX4_block [.ref 3, .int v1] (gwI (gwI u1 12 (Int32.toNatClampNeg v1) v2) 13 (Int32.toNatClampNeg v1) v3)) (fun a2 u2 => (if g_in v2 8 = true then some (none, (gwI u2 32 (Int32.toNatClampNeg v2) (((gwI (gwI u1 12 (Int32.toNatClampNeg v1) v2) 13 (Int32.toNatClampNeg v1) v3).1 32 (Int32.toNatClampNeg v2)) ||| a2))) else none))) else none) else none) else none))))) := (g_cut dtX2_settle [] 42 0 _ [] μ).trans rfl
set_option maxRecDepth 100000 in
theorem eX2_placeAt (v1 : Int32) (v2 : Int32) (v3 : Int32) (μ : gMem) : mX2_placeAt [.ref 0, .int v1, .int v2, .int v3] μ = (g_cv (mX4_fromLine [.ref 3, .int v1] μ) (fun u1 => (if g_in v1 60 = true then (if g_in v1 60 = true then (if ((gwI u1 9 (Int32.toNatClampNeg v1) 2).1 19 (Int32.toNatClampNeg v1)) = (-1) then (if g_in v1 60 = true then (g_ci (mX1_slotOf [.int v2] (gwI (gwI u1 9 (Int32.toNatClampNeg v1) 2) 19 (Int32.toNatClampNeg v1) ((gwI u1 9 (Int32.toNatClampNeg v1) 2).1 0 12))) (fun a6 u6 => (g_ci (mX1_columnOf [.int v2] u6) (fun a7 u7 => (g_cv (mX2_settle [.ref 0, .int v1, .int a6, .int a7] u7) (fun u8 => (g_cv (mX2_note [.ref 0, .int v3, .int v1] u8) (fun u9 => some (none, u9))))))))) else none) else (g_ci (mX1_slotOf [.int v2] (gwI u1 9 (Int32.toNatClampNeg v1) 2)) (fun a2 u2 => (g_ci (mX1_columnOf [.int v2] u2) (fun a3 u3 => (g_cv (mX2_settle [.ref 0, .int v1, .int a2, .int a3] u3) (fun u4 => (g_cv (mX2_note [.ref 0, .int v3, .int v1] u4) (fun u5 => some (none, u5)))))))))) else none) else none))) := (g_cut dtX2_placeAt [] 42 0 _ [] μ).trans rfl
set_option maxRecDepth 100000 in
theorem eX2_tryPlace (v1 : Int32) (v2 : Int32) (μ : gMem) : mX2_tryPlace [.ref 0, .int v1, .int v2] μ = (if g_in v1 60 = true then (g_ci (mX2_spotFor [.ref 0, .int (μ.1 14 (Int32.toNatClampNeg v1))] μ) (fun a1 u1 => (if a1 = (-1) then some (some (.int 0), u1) else (g_cv (mX2_placeAt [.ref 0, .int v1, .int a1, .int v2] u1) (fun u2 => some (some (.int 1), u2)))))) else none) := (g_cut dtX2_tryPlace [] 22 0 _ [] μ).trans rfl
noncomputable def rX2_goOn_21 (v1 : Int32) (v2 : Int32) (μ : gMem) : Option gR := g_run PX2_goOn 21 [some (.ref 0), some (.int v1), some (.int v2), none, none, none] [] μ
noncomputable def rX2_goOn_76 (v2 : Int32) (v3 : Int32) (v4 : Int32) (μ : gMem) : Option gR := g_run PX2_goOn 76 [some (.ref 0), none, some (.int v2), some (.int v3), some (.int v4), some (.ref 22)] [] μ
set_option maxRecDepth 100000 in
theorem eX2_goOn  (μ : gMem) : mX2_goOn [.ref 0] μ = (if (μ.1 3 3) ≤ 0 then rX2_goOn_21 0 0 μ else (g_ci (mX2_lineUp [.ref 0] μ) (fun a1 u1 => rX2_goOn_21 a1 0 u1))) := (g_cut dtX2_goOn [21, 76] 86 0 _ [] μ).trans rfl
set_option maxRecDepth 100000 in
theorem eX2_goOn_21 (v1 : Int32) (v2 : Int32) (μ : gMem) : rX2_goOn_21 v1 v2 μ = (if v1 ≤ v2 then (g_ci (mJ9_min_7cf53 [.int v1, .int ((v2 + 1) + (μ.1 1 4))] μ) (fun a1 u1 => rX2_goOn_76 v2 (v2 + 1) a1 u1)) else (if g_in v2 60 = true then (g_ci (mX2_tryPlace [.ref 0, .int (μ.1 56 (Int32.toNatClampNeg v2)), .int 1] μ) (fun a2 u2 => (if a2 = 0 then (g_ci (mJ9_min_7cf53 [.int v1, .int ((v2 + 1) + (u2.1 1 4))] u2) (fun a3 u3 => rX2_goOn_76 v2 (v2 + 1) a3 u3)) else rX2_goOn_21 v1 (v2 + 1) u2))) else none)) := (g_cut dtX2_goOn [21, 76] 86 21 _ [] μ).trans rfl
set_option maxRecDepth 100000 in
theorem eX2_goOn_76 (v2 : Int32) (v3 : Int32) (v4 : Int32) (μ : gMem) : rX2_goOn_76 v2 v3 v4 μ = (if v4 ≤ v3 then some (none, μ) else (if g_in v2 60 = true then (if g_in (μ.1 56 (Int32.toNatClampNeg v2)) 60 = true then (if (μ.1 1 5) ≤ (μ.1 22 (Int32.toNatClampNeg (μ.1 56 (Int32.toNatClampNeg v2)))) then some (none, μ) else (if g_in v3 60 = true then (g_ci (mX2_tryPlace [.ref 0, .int (μ.1 56 (Int32.toNatClampNeg v3)), .int 2] μ) (fun a1 u1 => (if a1 = 0 then rX2_goOn_76 v2 (v3 + 1) v4 u1 else (if g_in v2 60 = true then (if g_in (u1.1 56 (Int32.toNatClampNeg v2)) 60 = true then (if g_in (u1.1 56 (Int32.toNatClampNeg v2)) 60 = true then rX2_goOn_76 v2 (v3 + 1) v4 (gwI (gwI u1 22 (Int32.toNatClampNeg (u1.1 56 (Int32.toNatClampNeg v2))) ((u1.1 22 (Int32.toNatClampNeg (u1.1 56 (Int32.toNatClampNeg v2)))) + 1)) 2 9 (((gwI u1 22 (Int32.toNatClampNeg (u1.1 56 (Int32.toNatClampNeg v2))) ((u1.1 22 (Int32.toNatClampNeg (u1.1 56 (Int32.toNatClampNeg v2)))) + 1)).1 2 9) + 1)) else none) else none) else none)))) else none)) else none) else none)) := (g_cut dtX2_goOn [21, 76] 86 76 _ [] μ).trans rfl
set_option maxRecDepth 100000 in
theorem eX2_takeOut (v1 : Int32) (μ : gMem) : mX2_takeOut [.ref 0, .int v1] μ = (if g_in v1 60 = true then (g_ci (mX7_has [.ref 29, .int (μ.1 12 (Int32.toNatClampNeg v1))] μ) (fun a1 u1 => (if a1 = 0 then (if g_in v1 60 = true then (if g_in v1 60 = true then some (none, (gwI (gwI u1 12 (Int32.toNatClampNeg v1) (-1)) 13 (Int32.toNatClampNeg v1) (-1))) else none) else none) else (if g_in (μ.1 12 (Int32.toNatClampNeg v1)) 8 = true then (g_ci (mX4_block [.ref 3, .int v1] u1) (fun a2 u2 => (if g_in (μ.1 12 (Int32.toNatClampNeg v1)) 8 = true then (if g_in v1 60 = true then (if g_in v1 60 = true then some (none, (gwI (gwI (gwI u2 32 (Int32.toNatClampNeg (μ.1 12 (Int32.toNatClampNeg v1))) ((u1.1 32 (Int32.toNatClampNeg (μ.1 12 (Int32.toNatClampNeg v1)))) &&& (a2 ^^^ (-1)))) 12 (Int32.toNatClampNeg v1) (-1)) 13 (Int32.toNatClampNeg v1) (-1))) else none) else none) else none))) else none)))) else none) := (g_cut dtX2_takeOut [] 44 0 _ [] μ).trans rfl
noncomputable def rX7_drop_4 (v2 : Int32) (μ : gMem) : Option gR := g_run PX7_drop 4 [some (.ref 29), none, some (.int v2)] [] μ
set_option maxRecDepth 100000 in
theorem eX7_drop (v1 : Int32) (μ : gMem) : mX7_drop [.ref 29, .int v1] μ = rX7_drop_4 (v1 + 1) μ := (g_cut dtX7_drop [4] 47 0 _ [] μ).trans rfl
set_option maxRecDepth 100000 in
theorem eX7_drop_4 (v2 : Int32) (μ : gMem) : rX7_drop_4 v2 μ = (if (μ.1 29 3) ≤ v2 then some (none, (gwI μ 29 3 ((μ.1 29 3) - 1))) else (if g_in v2 8 = true then (if g_in (v2 - 1) 8 = true then (if g_in v2 8 = true then (if g_in (v2 - 1) 8 = true then (if g_in v2 8 = true then (if g_in (v2 - 1) 8 = true then rX7_drop_4 (v2 + 1) (gwI (gwI (gwL μ 30 (Int32.toNatClampNeg (v2 - 1)) (μ.2 30 (Int32.toNatClampNeg v2))) 31 (Int32.toNatClampNeg (v2 - 1)) ((gwL μ 30 (Int32.toNatClampNeg (v2 - 1)) (μ.2 30 (Int32.toNatClampNeg v2))).1 31 (Int32.toNatClampNeg v2))) 32 (Int32.toNatClampNeg (v2 - 1)) ((gwI (gwL μ 30 (Int32.toNatClampNeg (v2 - 1)) (μ.2 30 (Int32.toNatClampNeg v2))) 31 (Int32.toNatClampNeg (v2 - 1)) ((gwL μ 30 (Int32.toNatClampNeg (v2 - 1)) (μ.2 30 (Int32.toNatClampNeg v2))).1 31 (Int32.toNatClampNeg v2))).1 32 (Int32.toNatClampNeg v2))) else none) else none) else none) else none) else none) else none)) := (g_cut dtX7_drop [4] 47 4 _ [] μ).trans rfl
noncomputable def rX2_dropSlot_21 (v1 : Int32) (v3 : Int32) (μ : gMem) : Option gR := g_run PX2_dropSlot 21 [some (.ref 0), some (.int v1), some (.ref 12), some (.int v3)] [] μ
set_option maxRecDepth 100000 in
theorem eX2_dropSlot (v1 : Int32) (μ : gMem) : mX2_dropSlot [.ref 0, .int v1] μ = (g_cv (mX7_drop [.ref 29, .int v1] μ) (fun u1 => rX2_dropSlot_21 v1 0 u1)) := (g_cut dtX2_dropSlot [21] 32 0 _ [] μ).trans rfl
set_option maxRecDepth 100000 in
theorem eX2_dropSlot_21 (v1 : Int32) (v3 : Int32) (μ : gMem) : rX2_dropSlot_21 v1 v3 μ = (if (μ.1 3 2) ≤ v3 then some (none, μ) else (if g_in v3 60 = true then (if (μ.1 12 (Int32.toNatClampNeg v3)) ≤ v1 then rX2_dropSlot_21 v1 (v3 + 1) μ else (if g_in v3 60 = true then (if g_in v3 60 = true then rX2_dropSlot_21 v1 (v3 + 1) (gwI μ 12 (Int32.toNatClampNeg v3) ((μ.1 12 (Int32.toNatClampNeg v3)) - 1)) else none) else none)) else none)) := (g_cut dtX2_dropSlot [21] 32 21 _ [] μ).trans rfl
noncomputable def rX2_dropEmpty_10 (v1 : Int32) (μ : gMem) : Option gR := g_run PX2_dropEmpty 10 [some (.ref 0), some (.int v1)] [] μ
set_option maxRecDepth 100000 in
theorem eX2_dropEmpty  (μ : gMem) : mX2_dropEmpty [.ref 0] μ = rX2_dropEmpty_10 ((μ.1 29 3) - 1) μ := (g_cut dtX2_dropEmpty [10] 20 0 _ [] μ).trans rfl
set_option maxRecDepth 100000 in
theorem eX2_dropEmpty_10 (v1 : Int32) (μ : gMem) : rX2_dropEmpty_10 v1 μ = (if v1 < 0 then some (none, μ) else (if g_in v1 8 = true then (if (μ.1 32 (Int32.toNatClampNeg v1)) = 0 then (g_cv (mX2_dropSlot [.ref 0, .int v1] μ) (fun u1 => rX2_dropEmpty_10 (v1 + (-1)) u1)) else rX2_dropEmpty_10 (v1 + (-1)) μ) else none)) := (g_cut dtX2_dropEmpty [10] 20 10 _ [] μ).trans rfl
noncomputable def rX2_weightOf_4 (v1 : Int32) (v2 : Int32) (v3 : Int32) (μ : gMem) : Option gR := g_run PX2_weightOf 4 [some (.ref 0), some (.int v1), some (.int v2), some (.int v3)] [] μ
set_option maxRecDepth 100000 in
theorem eX2_weightOf (v1 : Int32) (μ : gMem) : mX2_weightOf [.ref 0, .int v1] μ = rX2_weightOf_4 v1 0 0 μ := (g_cut dtX2_weightOf [4] 36 0 _ [] μ).trans rfl
set_option maxRecDepth 100000 in
theorem eX2_weightOf_4 (v1 : Int32) (v2 : Int32) (v3 : Int32) (μ : gMem) : rX2_weightOf_4 v1 v2 v3 μ = (if (μ.1 3 2) ≤ v3 then some (some (.int v2), μ) else (if g_in v3 60 = true then (if (μ.1 12 (Int32.toNatClampNeg v3)) = v1 then (if g_in v3 60 = true then (if g_in (μ.1 7 (Int32.toNatClampNeg v3)) 6 = true then rX2_weightOf_4 v1 (v2 + (μ.1 26 (Int32.toNatClampNeg (μ.1 7 (Int32.toNatClampNeg v3))))) (v3 + 1) μ else none) else none) else rX2_weightOf_4 v1 v2 (v3 + 1) μ) else none)) := (g_cut dtX2_weightOf [4] 36 4 _ [] μ).trans rfl
noncomputable def rX2_bringArrivals_2 (v1 : Int32) (μ : gMem) : Option gR := g_run PX2_bringArrivals 2 [some (.ref 0), some (.int v1)] [] μ
set_option maxRecDepth 100000 in
theorem eX2_bringArrivals  (μ : gMem) : mX2_bringArrivals [.ref 0] μ = rX2_bringArrivals_2 0 μ := (g_cut dtX2_bringArrivals [2] 43 0 _ [] μ).trans rfl
set_option maxRecDepth 100000 in
theorem eX2_bringArrivals_2 (v1 : Int32) (μ : gMem) : rX2_bringArrivals_2 v1 μ = (if (μ.1 33 1) ≤ v1 then (g_cv (mX0_dropDue [.ref 33, .int (μ.1 0 12)] μ) (fun u1 => some (none, u1))) else (g_ci (mX0_isDue [.ref 33, .int v1, .int (μ.1 0 12)] μ) (fun a2 u2 => (if a2 = 0 then rX2_bringArrivals_2 (v1 + 1) u2 else (if 60 ≤ (u2.1 3 2) then rX2_bringArrivals_2 (v1 + 1) u2 else (g_ci (mX0_size [.ref 33, .int v1] u2) (fun a3 u3 => (g_ci (mX0_work [.ref 33, .int v1] u3) (fun a4 u4 => (g_ci (mX0_who [.ref 33, .int v1] u4) (fun a5 u5 => (g_ci (mX2_come [.ref 0, .int a3, .int a4, .int a5, .int (-1)] u5) (fun a6 u6 => rX2_bringArrivals_2 (v1 + 1) u6))))))))))))) := (g_cut dtX2_bringArrivals [2] 43 2 _ [] μ).trans rfl
set_option maxRecDepth 100000 in
theorem eX3_clear  (μ : gMem) : mX3_clear [.ref 53] μ = some (none, (gwI (gwI (gwI μ 53 3 0) 53 4 0) 53 5 0)) := (g_cut dtX3_clear [] 10 0 _ [] μ).trans rfl
noncomputable def rX7_next_4 (v1 : Int32) (v2 : Int32) (μ : gMem) : Option gR := g_run PX7_next 4 [some (.ref 29), some (.int v1), some (.int v2)] [] μ
set_option maxRecDepth 100000 in
theorem eX7_next  (μ : gMem) : mX7_next [.ref 29] μ = rX7_next_4 (-1) 0 μ := (g_cut dtX7_next [4] 27 0 _ [] μ).trans rfl
set_option maxRecDepth 100000 in
theorem eX7_next_4 (v1 : Int32) (v2 : Int32) (μ : gMem) : rX7_next_4 v1 v2 μ = (if (μ.1 29 3) ≤ v2 then some (some (.int v1), μ) else (if v1 = (-1) then rX7_next_4 v2 (v2 + 1) μ else (if g_in v2 8 = true then (if g_in v1 8 = true then (if 0 ≤ (lg_cmp (μ.2 30 (Int32.toNatClampNeg v2)) (μ.2 30 (Int32.toNatClampNeg v1))) then rX7_next_4 v1 (v2 + 1) μ else rX7_next_4 v2 (v2 + 1) μ) else none) else none))) := (g_cut dtX7_next [4] 27 4 _ [] μ).trans rfl
set_option maxRecDepth 100000 in
theorem eX4_has (v1 : Int32) (μ : gMem) : mX4_has [.ref 3, .int v1] μ = (if v1 < 0 then some (some (.int 0), μ) else (if (μ.1 3 2) ≤ v1 then some (some (.int 0), μ) else some (some (.int 1), μ))) := (g_cut dtX4_has [] 10 0 _ [] μ).trans rfl
set_option maxRecDepth 100000 in
theorem eX4_isPlaced (v1 : Int32) (μ : gMem) : mX4_isPlaced [.ref 3, .int v1] μ = (g_ci (mX4_has [.ref 3, .int v1] μ) (fun a1 u1 => (if a1 = 0 then some (some (.int 0), u1) else (if g_in v1 60 = true then (if (u1.1 9 (Int32.toNatClampNeg v1)) = 2 then some (some (.int 1), u1) else some (some (.int 0), u1)) else none)))) := (g_cut dtX4_isPlaced [] 16 0 _ [] μ).trans rfl
set_option maxRecDepth 100000 in
theorem eX4_cells (v1 : Int32) (μ : gMem) : mX4_cells [.ref 3, .int v1] μ = (if g_in v1 60 = true then (if g_in v1 60 = true then (g_ci (mX1_bits [.int (μ.1 13 (Int32.toNatClampNeg v1)), .int (μ.1 5 (Int32.toNatClampNeg v1))] μ) (fun a1 u1 => some (some (.int a1), u1))) else none) else none) := (g_cut dtX4_cells [] 14 0 _ [] μ).trans rfl
set_option maxRecDepth 100000 in
theorem eX3_sort (v2 : Int32) (v3 : Int32) (μ : gMem) : mX3_sort [.ref 53, .ref 3, .int v2, .int v3] μ = (if g_in v2 60 = true then (if (μ.1 12 (Int32.toNatClampNeg v2)) = v3 then (if g_in (μ.1 53 3) 60 = true then (g_ci (mX4_cells [.ref 3, .int v2] (gwI (gwI μ 54 (Int32.toNatClampNeg (μ.1 53 3)) v2) 53 3 (((gwI μ 54 (Int32.toNatClampNeg (μ.1 53 3)) v2).1 53 3) + 1))) (fun a1 u1 => some (none, (gwI u1 53 5 (((gwI (gwI μ 54 (Int32.toNatClampNeg (μ.1 53 3)) v2) 53 3 (((gwI μ 54 (Int32.toNatClampNeg (μ.1 53 3)) v2).1 53 3) + 1)).1 53 5) ||| a1))))) else none) else (if g_in (μ.1 53 2) 60 = true then some (none, (gwI (gwI μ 55 (Int32.toNatClampNeg (μ.1 53 2)) v2) 53 2 (((gwI μ 55 (Int32.toNatClampNeg (μ.1 53 2)) v2).1 53 2) + 1))) else none)) else none) := (g_cut dtX3_sort [] 42 0 _ [] μ).trans rfl
noncomputable def rX3_lendTo_3 (v3 : Int32) (v4 : Int32) (μ : gMem) : Option gR := g_run PX3_lendTo 3 [some (.ref 53), some (.ref 3), some (.ref 25), some (.int v3), some (.int v4), none, none] [] μ
set_option maxRecDepth 100000 in
theorem eX3_lendTo (v3 : Int32) (μ : gMem) : mX3_lendTo [.ref 53, .ref 3, .ref 25, .int v3] μ = rX3_lendTo_3 v3 0 μ := (g_cut dtX3_lendTo [3] 61 0 _ [] μ).trans rfl
set_option maxRecDepth 100000 in
theorem eX3_lendTo_3 (v3 : Int32) (v4 : Int32) (μ : gMem) : rX3_lendTo_3 v3 v4 μ = (if (μ.1 53 2) ≤ v4 then some (none, μ) else (if g_in v4 60 = true then (if g_in (μ.1 55 (Int32.toNatClampNeg v4)) 60 = true then (if g_in (μ.1 7 (Int32.toNatClampNeg (μ.1 55 (Int32.toNatClampNeg v4)))) 6 = true then (if (μ.1 28 (Int32.toNatClampNeg (μ.1 7 (Int32.toNatClampNeg (μ.1 55 (Int32.toNatClampNeg v4)))))) = v3 then (if (1 : Int32) = 0 then rX3_lendTo_3 v3 (v4 + 1) μ else (g_ci (mX4_cells [.ref 3, .int (μ.1 55 (Int32.toNatClampNeg v4))] μ) (fun a3 u3 => (if (a3 &&& (u3.1 53 5)) = 0 then (if g_in ((u3.1 53 3) + (u3.1 53 4)) 60 = true then (g_ci (mX4_cells [.ref 3, .int (μ.1 55 (Int32.toNatClampNeg v4))] (gwI (gwI u3 54 (Int32.toNatClampNeg ((u3.1 53 3) + (u3.1 53 4))) (μ.1 55 (Int32.toNatClampNeg v4))) 53 4 (((gwI u3 54 (Int32.toNatClampNeg ((u3.1 53 3) + (u3.1 53 4))) (μ.1 55 (Int32.toNatClampNeg v4))).1 53 4) + 1))) (fun a4 u4 => rX3_lendTo_3 v3 (v4 + 1) (gwI u4 53 5 (((gwI (gwI u3 54 (Int32.toNatClampNeg ((u3.1 53 3) + (u3.1 53 4))) (μ.1 55 (Int32.toNatClampNeg v4))) 53 4 (((gwI u3 54 (Int32.toNatClampNeg ((u3.1 53 3) + (u3.1 53 4))) (μ.1 55 (Int32.toNatClampNeg v4))).1 53 4) + 1)).1 53 5) ||| a4)))) else none) else rX3_lendTo_3 v3 (v4 + 1) u3)))) else (if (0 : Int32) = 0 then rX3_lendTo_3 v3 (v4 + 1) μ else (g_ci (mX4_cells [.ref 3, .int (μ.1 55 (Int32.toNatClampNeg v4))] μ) (fun a1 u1 => (if (a1 &&& (u1.1 53 5)) = 0 then (if g_in ((u1.1 53 3) + (u1.1 53 4)) 60 = true then (g_ci (mX4_cells [.ref 3, .int (μ.1 55 (Int32.toNatClampNeg v4))] (gwI (gwI u1 54 (Int32.toNatClampNeg ((u1.1 53 3) + (u1.1 53 4))) (μ.1 55 (Int32.toNatClampNeg v4))) 53 4 (((gwI u1 54 (Int32.toNatClampNeg ((u1.1 53 3) + (u1.1 53 4))) (μ.1 55 (Int32.toNatClampNeg v4))).1 53 4) + 1))) (fun a2 u2 => rX3_lendTo_3 v3 (v4 + 1) (gwI u2 53 5 (((gwI (gwI u1 54 (Int32.toNatClampNeg ((u1.1 53 3) + (u1.1 53 4))) (μ.1 55 (Int32.toNatClampNeg v4))) 53 4 (((gwI u1 54 (Int32.toNatClampNeg ((u1.1 53 3) + (u1.1 53 4))) (μ.1 55 (Int32.toNatClampNeg v4))).1 53 4) + 1)).1 53 5) ||| a2)))) else none) else rX3_lendTo_3 v3 (v4 + 1) u1))))) else none) else none) else none)) := (g_cut dtX3_lendTo [3] 61 3 _ [] μ).trans rfl
noncomputable def rX3_choose_12 (v3 : Int32) (v4 : Int32) (v5 : Int32) (μ : gMem) : Option gR := g_run PX3_choose 12 [some (.ref 53), some (.ref 3), some (.ref 25), some (.int v3), some (.int v4), some (.int v5)] [] μ
noncomputable def rX3_choose_76 (v5 : Int32) (μ : gMem) : Option gR := g_run PX3_choose 76 [some (.ref 53), some (.ref 3), some (.ref 25), none, none, some (.int v5)] [] μ
set_option maxRecDepth 100000 in
theorem eX3_choose (v3 : Int32) (v4 : Int32) (μ : gMem) : mX3_choose [.ref 53, .ref 3, .ref 25, .int v3, .int v4] μ = (g_cv (mX3_clear [.ref 53] μ) (fun u1 => rX3_choose_12 v3 v4 0 (gwI u1 53 2 0))) := (g_cut dtX3_choose [12, 76] 49 0 _ [] μ).trans rfl
set_option maxRecDepth 100000 in
theorem eX3_choose_12 (v3 : Int32) (v4 : Int32) (v5 : Int32) (μ : gMem) : rX3_choose_12 v3 v4 v5 μ = (if (μ.1 3 2) ≤ v5 then (if v4 = 0 then some (none, μ) else (if (μ.1 53 2) ≤ 0 then some (none, μ) else (g_cv (mX8_rankAll [.ref 25] μ) (fun u1 => rX3_choose_76 0 u1)))) else (g_ci (mX4_isPlaced [.ref 3, .int v5] μ) (fun a2 u2 => (if a2 = 0 then rX3_choose_12 v3 v4 (v5 + 1) u2 else (if g_in v5 60 = true then (if (u2.1 17 (Int32.toNatClampNeg v5)) = 0 then (g_cv (mX3_sort [.ref 53, .ref 3, .int v5, .int v3] u2) (fun u3 => rX3_choose_12 v3 v4 (v5 + 1) u3)) else rX3_choose_12 v3 v4 (v5 + 1) u2) else none))))) := (g_cut dtX3_choose [12, 76] 49 12 _ [] μ).trans rfl
set_option maxRecDepth 100000 in
theorem eX3_choose_76 (v5 : Int32) (μ : gMem) : rX3_choose_76 v5 μ = (if 6 ≤ v5 then some (none, μ) else (g_cv (mX3_lendTo [.ref 53, .ref 3, .ref 25, .int v5] μ) (fun u1 => rX3_choose_76 (v5 + 1) u1))) := (g_cut dtX3_choose [12, 76] 49 76 _ [] μ).trans rfl
set_option maxRecDepth 100000 in
theorem eX3_size  (μ : gMem) : mX3_size [.ref 53] μ = some (some (.int ((μ.1 53 3) + (μ.1 53 4))), μ) := (g_cut dtX3_size [] 6 0 _ [] μ).trans rfl
set_option maxRecDepth 100000 in
theorem eX2_run (v1 : Int32) (v2 : Int32) (μ : gMem) : mX2_run [.ref 0, .int v1, .int v2] μ = (if g_in v1 60 = true then (if g_in v1 60 = true then (if g_in v2 19 = true then (if g_in v1 (gLen LB 0 (4 + 1 + (Int32.toNatClampNeg v2))) = true then (if g_in v1 (gLen LB 0 (4 + 1 + (Int32.toNatClampNeg v2))) = true then (if g_in v1 60 = true then (if g_in ((gwI (gwI μ 10 (Int32.toNatClampNeg v1) ((μ.1 10 (Int32.toNatClampNeg v1)) - 1)) (4 + 1 + (Int32.toNatClampNeg v2)) (Int32.toNatClampNeg v1) (((gwI μ 10 (Int32.toNatClampNeg v1) ((μ.1 10 (Int32.toNatClampNeg v1)) - 1)).1 (4 + 1 + (Int32.toNatClampNeg v2)) (Int32.toNatClampNeg v1)) + 1)).1 7 (Int32.toNatClampNeg v1)) 6 = true then (if g_in v1 60 = true then (if g_in ((gwI (gwI μ 10 (Int32.toNatClampNeg v1) ((μ.1 10 (Int32.toNatClampNeg v1)) - 1)) (4 + 1 + (Int32.toNatClampNeg v2)) (Int32.toNatClampNeg v1) (((gwI μ 10 (Int32.toNatClampNeg v1) ((μ.1 10 (Int32.toNatClampNeg v1)) - 1)).1 (4 + 1 + (Int32.toNatClampNeg v2)) (Int32.toNatClampNeg v1)) + 1)).1 7 (Int32.toNatClampNeg v1)) 6 = true then (if g_in v1 60 = true then (if g_in v1 60 = true then (if ((gwI (gwI (gwI μ 10 (Int32.toNatClampNeg v1) ((μ.1 10 (Int32.toNatClampNeg v1)) - 1)) (4 + 1 + (Int32.toNatClampNeg v2)) (Int32.toNatClampNeg v1) (((gwI μ 10 (Int32.toNatClampNeg v1) ((μ.1 10 (Int32.toNatClampNeg v1)) - 1)).1 (4 + 1 + (Int32.toNatClampNeg v2)) (Int32.toNatClampNeg v1)) + 1)) 27 (Int32.toNatClampNeg ((gwI (gwI μ 10 (Int32.toNatClampNeg v1) ((μ.1 10 (Int32.toNatClampNeg v1)) - 1)) (4 + 1 + (Int32.toNatClampNeg v2)) (Int32.toNatClampNeg v1) (((gwI μ 10 (Int32.toNatClampNeg v1) ((μ.1 10 (Int32.toNatClampNeg v1)) - 1)).1 (4 + 1 + (Int32.toNatClampNeg v2)) (Int32.toNatClampNeg v1)) + 1)).1 7 (Int32.toNatClampNeg v1))) (((gwI (gwI μ 10 (Int32.toNatClampNeg v1) ((μ.1 10 (Int32.toNatClampNeg v1)) - 1)) (4 + 1 + (Int32.toNatClampNeg v2)) (Int32.toNatClampNeg v1) (((gwI μ 10 (Int32.toNatClampNeg v1) ((μ.1 10 (Int32.toNatClampNeg v1)) - 1)).1 (4 + 1 + (Int32.toNatClampNeg v2)) (Int32.toNatClampNeg v1)) + 1)).1 27 (Int32.toNatClampNeg ((gwI (gwI μ 10 (Int32.toNatClampNeg v1) ((μ.1 10 (Int32.toNatClampNeg v1)) - 1)) (4 + 1 + (Int32.toNatClampNeg v2)) (Int32.toNatClampNeg v1) (((gwI μ 10 (Int32.toNatClampNeg v1) ((μ.1 10 (Int32.toNatClampNeg v1)) - 1)).1 (4 + 1 + (Int32.toNatClampNeg v2)) (Int32.toNatClampNeg v1)) + 1)).1 7 (Int32.toNatClampNeg v1)))) + ((gwI (gwI μ 10 (Int32.toNatClampNeg v1) ((μ.1 10 (Int32.toNatClampNeg v1)) - 1)) (4 + 1 + (Int32.toNatClampNeg v2)) (Int32.toNatClampNeg v1) (((gwI μ 10 (Int32.toNatClampNeg v1) ((μ.1 10 (Int32.toNatClampNeg v1)) - 1)).1 (4 + 1 + (Int32.toNatClampNeg v2)) (Int32.toNatClampNeg v1)) + 1)).1 5 (Int32.toNatClampNeg v1)))).1 1 7) ≤ 0 then some (none, (gwI (gwI (gwI μ 10 (Int32.toNatClampNeg v1) ((μ.1 10 (Int32.toNatClampNeg v1)) - 1)) (4 + 1 + (Int32.toNatClampNeg v2)) (Int32.toNatClampNeg v1) (((gwI μ 10 (Int32.toNatClampNeg v1) ((μ.1 10 (Int32.toNatClampNeg v1)) - 1)).1 (4 + 1 + (Int32.toNatClampNeg v2)) (Int32.toNatClampNeg v1)) + 1)) 27 (Int32.toNatClampNeg ((gwI (gwI μ 10 (Int32.toNatClampNeg v1) ((μ.1 10 (Int32.toNatClampNeg v1)) - 1)) (4 + 1 + (Int32.toNatClampNeg v2)) (Int32.toNatClampNeg v1) (((gwI μ 10 (Int32.toNatClampNeg v1) ((μ.1 10 (Int32.toNatClampNeg v1)) - 1)).1 (4 + 1 + (Int32.toNatClampNeg v2)) (Int32.toNatClampNeg v1)) + 1)).1 7 (Int32.toNatClampNeg v1))) (((gwI (gwI μ 10 (Int32.toNatClampNeg v1) ((μ.1 10 (Int32.toNatClampNeg v1)) - 1)) (4 + 1 + (Int32.toNatClampNeg v2)) (Int32.toNatClampNeg v1) (((gwI μ 10 (Int32.toNatClampNeg v1) ((μ.1 10 (Int32.toNatClampNeg v1)) - 1)).1 (4 + 1 + (Int32.toNatClampNeg v2)) (Int32.toNatClampNeg v1)) + 1)).1 27 (Int32.toNatClampNeg ((gwI (gwI μ 10 (Int32.toNatClampNeg v1) ((μ.1 10 (Int32.toNatClampNeg v1)) - 1)) (4 + 1 + (Int32.toNatClampNeg v2)) (Int32.toNatClampNeg v1) (((gwI μ 10 (Int32.toNatClampNeg v1) ((μ.1 10 (Int32.toNatClampNeg v1)) - 1)).1 (4 + 1 + (Int32.toNatClampNeg v2)) (Int32.toNatClampNeg v1)) + 1)).1 7 (Int32.toNatClampNeg v1)))) + ((gwI (gwI μ 10 (Int32.toNatClampNeg v1) ((μ.1 10 (Int32.toNatClampNeg v1)) - 1)) (4 + 1 + (Int32.toNatClampNeg v2)) (Int32.toNatClampNeg v1) (((gwI μ 10 (Int32.toNatClampNeg v1) ((μ.1 10 (Int32.toNatClampNeg v1)) - 1)).1 (4 + 1 + (Int32.toNatClampNeg v2)) (Int32.toNatClampNeg v1)) + 1)).1 5 (Int32.toNatClampNeg v1))))) else (if ((gwI (gwI (gwI μ 10 (Int32.toNatClampNeg v1) ((μ.1 10 (Int32.toNatClampNeg v1)) - 1)) (4 + 1 + (Int32.toNatClampNeg v2)) (Int32.toNatClampNeg v1) (((gwI μ 10 (Int32.toNatClampNeg v1) ((μ.1 10 (Int32.toNatClampNeg v1)) - 1)).1 (4 + 1 + (Int32.toNatClampNeg v2)) (Int32.toNatClampNeg v1)) + 1)) 27 (Int32.toNatClampNeg ((gwI (gwI μ 10 (Int32.toNatClampNeg v1) ((μ.1 10 (Int32.toNatClampNeg v1)) - 1)) (4 + 1 + (Int32.toNatClampNeg v2)) (Int32.toNatClampNeg v1) (((gwI μ 10 (Int32.toNatClampNeg v1) ((μ.1 10 (Int32.toNatClampNeg v1)) - 1)).1 (4 + 1 + (Int32.toNatClampNeg v2)) (Int32.toNatClampNeg v1)) + 1)).1 7 (Int32.toNatClampNeg v1))) (((gwI (gwI μ 10 (Int32.toNatClampNeg v1) ((μ.1 10 (Int32.toNatClampNeg v1)) - 1)) (4 + 1 + (Int32.toNatClampNeg v2)) (Int32.toNatClampNeg v1) (((gwI μ 10 (Int32.toNatClampNeg v1) ((μ.1 10 (Int32.toNatClampNeg v1)) - 1)).1 (4 + 1 + (Int32.toNatClampNeg v2)) (Int32.toNatClampNeg v1)) + 1)).1 27 (Int32.toNatClampNeg ((gwI (gwI μ 10 (Int32.toNatClampNeg v1) ((μ.1 10 (Int32.toNatClampNeg v1)) - 1)) (4 + 1 + (Int32.toNatClampNeg v2)) (Int32.toNatClampNeg v1) (((gwI μ 10 (Int32.toNatClampNeg v1) ((μ.1 10 (Int32.toNatClampNeg v1)) - 1)).1 (4 + 1 + (Int32.toNatClampNeg v2)) (Int32.toNatClampNeg v1)) + 1)).1 7 (Int32.toNatClampNeg v1)))) + ((gwI (gwI μ 10 (Int32.toNatClampNeg v1) ((μ.1 10 (Int32.toNatClampNeg v1)) - 1)) (4 + 1 + (Int32.toNatClampNeg v2)) (Int32.toNatClampNeg v1) (((gwI μ 10 (Int32.toNatClampNeg v1) ((μ.1 10 (Int32.toNatClampNeg v1)) - 1)).1 (4 + 1 + (Int32.toNatClampNeg v2)) (Int32.toNatClampNeg v1)) + 1)).1 5 (Int32.toNatClampNeg v1)))).1 1 7) = 0 then none else (if ((((gwI (gwI (gwI μ 10 (Int32.toNatClampNeg v1) ((μ.1 10 (Int32.toNatClampNeg v1)) - 1)) (4 + 1 + (Int32.toNatClampNeg v2)) (Int32.toNatClampNeg v1) (((gwI μ 10 (Int32.toNatClampNeg v1) ((μ.1 10 (Int32.toNatClampNeg v1)) - 1)).1 (4 + 1 + (Int32.toNatClampNeg v2)) (Int32.toNatClampNeg v1)) + 1)) 27 (Int32.toNatClampNeg ((gwI (gwI μ 10 (Int32.toNatClampNeg v1) ((μ.1 10 (Int32.toNatClampNeg v1)) - 1)) (4 + 1 + (Int32.toNatClampNeg v2)) (Int32.toNatClampNeg v1) (((gwI μ 10 (Int32.toNatClampNeg v1) ((μ.1 10 (Int32.toNatClampNeg v1)) - 1)).1 (4 + 1 + (Int32.toNatClampNeg v2)) (Int32.toNatClampNeg v1)) + 1)).1 7 (Int32.toNatClampNeg v1))) (((gwI (gwI μ 10 (Int32.toNatClampNeg v1) ((μ.1 10 (Int32.toNatClampNeg v1)) - 1)) (4 + 1 + (Int32.toNatClampNeg v2)) (Int32.toNatClampNeg v1) (((gwI μ 10 (Int32.toNatClampNeg v1) ((μ.1 10 (Int32.toNatClampNeg v1)) - 1)).1 (4 + 1 + (Int32.toNatClampNeg v2)) (Int32.toNatClampNeg v1)) + 1)).1 27 (Int32.toNatClampNeg ((gwI (gwI μ 10 (Int32.toNatClampNeg v1) ((μ.1 10 (Int32.toNatClampNeg v1)) - 1)) (4 + 1 + (Int32.toNatClampNeg v2)) (Int32.toNatClampNeg v1) (((gwI μ 10 (Int32.toNatClampNeg v1) ((μ.1 10 (Int32.toNatClampNeg v1)) - 1)).1 (4 + 1 + (Int32.toNatClampNeg v2)) (Int32.toNatClampNeg v1)) + 1)).1 7 (Int32.toNatClampNeg v1)))) + ((gwI (gwI μ 10 (Int32.toNatClampNeg v1) ((μ.1 10 (Int32.toNatClampNeg v1)) - 1)) (4 + 1 + (Int32.toNatClampNeg v2)) (Int32.toNatClampNeg v1) (((gwI μ 10 (Int32.toNatClampNeg v1) ((μ.1 10 (Int32.toNatClampNeg v1)) - 1)).1 (4 + 1 + (Int32.toNatClampNeg v2)) (Int32.toNatClampNeg v1)) + 1)).1 5 (Int32.toNatClampNeg v1)))).1 15 (Int32.toNatClampNeg v1)) + ((gwI (gwI (gwI μ 10 (Int32.toNatClampNeg v1) ((μ.1 10 (Int32.toNatClampNeg v1)) - 1)) (4 + 1 + (Int32.toNatClampNeg v2)) (Int32.toNatClampNeg v1) (((gwI μ 10 (Int32.toNatClampNeg v1) ((μ.1 10 (Int32.toNatClampNeg v1)) - 1)).1 (4 + 1 + (Int32.toNatClampNeg v2)) (Int32.toNatClampNeg v1)) + 1)) 27 (Int32.toNatClampNeg ((gwI (gwI μ 10 (Int32.toNatClampNeg v1) ((μ.1 10 (Int32.toNatClampNeg v1)) - 1)) (4 + 1 + (Int32.toNatClampNeg v2)) (Int32.toNatClampNeg v1) (((gwI μ 10 (Int32.toNatClampNeg v1) ((μ.1 10 (Int32.toNatClampNeg v1)) - 1)).1 (4 + 1 + (Int32.toNatClampNeg v2)) (Int32.toNatClampNeg v1)) + 1)).1 7 (Int32.toNatClampNeg v1))) (((gwI (gwI μ 10 (Int32.toNatClampNeg v1) ((μ.1 10 (Int32.toNatClampNeg v1)) - 1)) (4 + 1 + (Int32.toNatClampNeg v2)) (Int32.toNatClampNeg v1) (((gwI μ 10 (Int32.toNatClampNeg v1) ((μ.1 10 (Int32.toNatClampNeg v1)) - 1)).1 (4 + 1 + (Int32.toNatClampNeg v2)) (Int32.toNatClampNeg v1)) + 1)).1 27 (Int32.toNatClampNeg ((gwI (gwI μ 10 (Int32.toNatClampNeg v1) ((μ.1 10 (Int32.toNatClampNeg v1)) - 1)) (4 + 1 + (Int32.toNatClampNeg v2)) (Int32.toNatClampNeg v1) (((gwI μ 10 (Int32.toNatClampNeg v1) ((μ.1 10 (Int32.toNatClampNeg v1)) - 1)).1 (4 + 1 + (Int32.toNatClampNeg v2)) (Int32.toNatClampNeg v1)) + 1)).1 7 (Int32.toNatClampNeg v1)))) + ((gwI (gwI μ 10 (Int32.toNatClampNeg v1) ((μ.1 10 (Int32.toNatClampNeg v1)) - 1)) (4 + 1 + (Int32.toNatClampNeg v2)) (Int32.toNatClampNeg v1) (((gwI μ 10 (Int32.toNatClampNeg v1) ((μ.1 10 (Int32.toNatClampNeg v1)) - 1)).1 (4 + 1 + (Int32.toNatClampNeg v2)) (Int32.toNatClampNeg v1)) + 1)).1 5 (Int32.toNatClampNeg v1)))).1 16 (Int32.toNatClampNeg v1))) - (((gwI (gwI (gwI μ 10 (Int32.toNatClampNeg v1) ((μ.1 10 (Int32.toNatClampNeg v1)) - 1)) (4 + 1 + (Int32.toNatClampNeg v2)) (Int32.toNatClampNeg v1) (((gwI μ 10 (Int32.toNatClampNeg v1) ((μ.1 10 (Int32.toNatClampNeg v1)) - 1)).1 (4 + 1 + (Int32.toNatClampNeg v2)) (Int32.toNatClampNeg v1)) + 1)) 27 (Int32.toNatClampNeg ((gwI (gwI μ 10 (Int32.toNatClampNeg v1) ((μ.1 10 (Int32.toNatClampNeg v1)) - 1)) (4 + 1 + (Int32.toNatClampNeg v2)) (Int32.toNatClampNeg v1) (((gwI μ 10 (Int32.toNatClampNeg v1) ((μ.1 10 (Int32.toNatClampNeg v1)) - 1)).1 (4 + 1 + (Int32.toNatClampNeg v2)) (Int32.toNatClampNeg v1)) + 1)).1 7 (Int32.toNatClampNeg v1))) (((gwI (gwI μ 10 (Int32.toNatClampNeg v1) ((μ.1 10 (Int32.toNatClampNeg v1)) - 1)) (4 + 1 + (Int32.toNatClampNeg v2)) (Int32.toNatClampNeg v1) (((gwI μ 10 (Int32.toNatClampNeg v1) ((μ.1 10 (Int32.toNatClampNeg v1)) - 1)).1 (4 + 1 + (Int32.toNatClampNeg v2)) (Int32.toNatClampNeg v1)) + 1)).1 27 (Int32.toNatClampNeg ((gwI (gwI μ 10 (Int32.toNatClampNeg v1) ((μ.1 10 (Int32.toNatClampNeg v1)) - 1)) (4 + 1 + (Int32.toNatClampNeg v2)) (Int32.toNatClampNeg v1) (((gwI μ 10 (Int32.toNatClampNeg v1) ((μ.1 10 (Int32.toNatClampNeg v1)) - 1)).1 (4 + 1 + (Int32.toNatClampNeg v2)) (Int32.toNatClampNeg v1)) + 1)).1 7 (Int32.toNatClampNeg v1)))) + ((gwI (gwI μ 10 (Int32.toNatClampNeg v1) ((μ.1 10 (Int32.toNatClampNeg v1)) - 1)) (4 + 1 + (Int32.toNatClampNeg v2)) (Int32.toNatClampNeg v1) (((gwI μ 10 (Int32.toNatClampNeg v1) ((μ.1 10 (Int32.toNatClampNeg v1)) - 1)).1 (4 + 1 + (Int32.toNatClampNeg v2)) (Int32.toNatClampNeg v1)) + 1)).1 5 (Int32.toNatClampNeg v1)))).1 15 (Int32.toNatClampNeg v1)) + ((gwI (gwI (gwI μ 10 (Int32.toNatClampNeg v1) ((μ.1 10 (Int32.toNatClampNeg v1)) - 1)) (4 + 1 + (Int32.toNatClampNeg v2)) (Int32.toNatClampNeg v1) (((gwI μ 10 (Int32.toNatClampNeg v1) ((μ.1 10 (Int32.toNatClampNeg v1)) - 1)).1 (4 + 1 + (Int32.toNatClampNeg v2)) (Int32.toNatClampNeg v1)) + 1)) 27 (Int32.toNatClampNeg ((gwI (gwI μ 10 (Int32.toNatClampNeg v1) ((μ.1 10 (Int32.toNatClampNeg v1)) - 1)) (4 + 1 + (Int32.toNatClampNeg v2)) (Int32.toNatClampNeg v1) (((gwI μ 10 (Int32.toNatClampNeg v1) ((μ.1 10 (Int32.toNatClampNeg v1)) - 1)).1 (4 + 1 + (Int32.toNatClampNeg v2)) (Int32.toNatClampNeg v1)) + 1)).1 7 (Int32.toNatClampNeg v1))) (((gwI (gwI μ 10 (Int32.toNatClampNeg v1) ((μ.1 10 (Int32.toNatClampNeg v1)) - 1)) (4 + 1 + (Int32.toNatClampNeg v2)) (Int32.toNatClampNeg v1) (((gwI μ 10 (Int32.toNatClampNeg v1) ((μ.1 10 (Int32.toNatClampNeg v1)) - 1)).1 (4 + 1 + (Int32.toNatClampNeg v2)) (Int32.toNatClampNeg v1)) + 1)).1 27 (Int32.toNatClampNeg ((gwI (gwI μ 10 (Int32.toNatClampNeg v1) ((μ.1 10 (Int32.toNatClampNeg v1)) - 1)) (4 + 1 + (Int32.toNatClampNeg v2)) (Int32.toNatClampNeg v1) (((gwI μ 10 (Int32.toNatClampNeg v1) ((μ.1 10 (Int32.toNatClampNeg v1)) - 1)).1 (4 + 1 + (Int32.toNatClampNeg v2)) (Int32.toNatClampNeg v1)) + 1)).1 7 (Int32.toNatClampNeg v1)))) + ((gwI (gwI μ 10 (Int32.toNatClampNeg v1) ((μ.1 10 (Int32.toNatClampNeg v1)) - 1)) (4 + 1 + (Int32.toNatClampNeg v2)) (Int32.toNatClampNeg v1) (((gwI μ 10 (Int32.toNatClampNeg v1) ((μ.1 10 (Int32.toNatClampNeg v1)) - 1)).1 (4 + 1 + (Int32.toNatClampNeg v2)) (Int32.toNatClampNeg v1)) + 1)).1 5 (Int32.toNatClampNeg v1)))).1 16 (Int32.toNatClampNeg v1))) / ((gwI (gwI (gwI μ 10 (Int32.toNatClampNeg v1) ((μ.1 10 (Int32.toNatClampNeg v1)) - 1)) (4 + 1 + (Int32.toNatClampNeg v2)) (Int32.toNatClampNeg v1) (((gwI μ 10 (Int32.toNatClampNeg v1) ((μ.1 10 (Int32.toNatClampNeg v1)) - 1)).1 (4 + 1 + (Int32.toNatClampNeg v2)) (Int32.toNatClampNeg v1)) + 1)) 27 (Int32.toNatClampNeg ((gwI (gwI μ 10 (Int32.toNatClampNeg v1) ((μ.1 10 (Int32.toNatClampNeg v1)) - 1)) (4 + 1 + (Int32.toNatClampNeg v2)) (Int32.toNatClampNeg v1) (((gwI μ 10 (Int32.toNatClampNeg v1) ((μ.1 10 (Int32.toNatClampNeg v1)) - 1)).1 (4 + 1 + (Int32.toNatClampNeg v2)) (Int32.toNatClampNeg v1)) + 1)).1 7 (Int32.toNatClampNeg v1))) (((gwI (gwI μ 10 (Int32.toNatClampNeg v1) ((μ.1 10 (Int32.toNatClampNeg v1)) - 1)) (4 + 1 + (Int32.toNatClampNeg v2)) (Int32.toNatClampNeg v1) (((gwI μ 10 (Int32.toNatClampNeg v1) ((μ.1 10 (Int32.toNatClampNeg v1)) - 1)).1 (4 + 1 + (Int32.toNatClampNeg v2)) (Int32.toNatClampNeg v1)) + 1)).1 27 (Int32.toNatClampNeg ((gwI (gwI μ 10 (Int32.toNatClampNeg v1) ((μ.1 10 (Int32.toNatClampNeg v1)) - 1)) (4 + 1 + (Int32.toNatClampNeg v2)) (Int32.toNatClampNeg v1) (((gwI μ 10 (Int32.toNatClampNeg v1) ((μ.1 10 (Int32.toNatClampNeg v1)) - 1)).1 (4 + 1 + (Int32.toNatClampNeg v2)) (Int32.toNatClampNeg v1)) + 1)).1 7 (Int32.toNatClampNeg v1)))) + ((gwI (gwI μ 10 (Int32.toNatClampNeg v1) ((μ.1 10 (Int32.toNatClampNeg v1)) - 1)) (4 + 1 + (Int32.toNatClampNeg v2)) (Int32.toNatClampNeg v1) (((gwI μ 10 (Int32.toNatClampNeg v1) ((μ.1 10 (Int32.toNatClampNeg v1)) - 1)).1 (4 + 1 + (Int32.toNatClampNeg v2)) (Int32.toNatClampNeg v1)) + 1)).1 5 (Int32.toNatClampNeg v1)))).1 1 7) * ((gwI (gwI (gwI μ 10 (Int32.toNatClampNeg v1) ((μ.1 10 (Int32.toNatClampNeg v1)) - 1)) (4 + 1 + (Int32.toNatClampNeg v2)) (Int32.toNatClampNeg v1) (((gwI μ 10 (Int32.toNatClampNeg v1) ((μ.1 10 (Int32.toNatClampNeg v1)) - 1)).1 (4 + 1 + (Int32.toNatClampNeg v2)) (Int32.toNatClampNeg v1)) + 1)) 27 (Int32.toNatClampNeg ((gwI (gwI μ 10 (Int32.toNatClampNeg v1) ((μ.1 10 (Int32.toNatClampNeg v1)) - 1)) (4 + 1 + (Int32.toNatClampNeg v2)) (Int32.toNatClampNeg v1) (((gwI μ 10 (Int32.toNatClampNeg v1) ((μ.1 10 (Int32.toNatClampNeg v1)) - 1)).1 (4 + 1 + (Int32.toNatClampNeg v2)) (Int32.toNatClampNeg v1)) + 1)).1 7 (Int32.toNatClampNeg v1))) (((gwI (gwI μ 10 (Int32.toNatClampNeg v1) ((μ.1 10 (Int32.toNatClampNeg v1)) - 1)) (4 + 1 + (Int32.toNatClampNeg v2)) (Int32.toNatClampNeg v1) (((gwI μ 10 (Int32.toNatClampNeg v1) ((μ.1 10 (Int32.toNatClampNeg v1)) - 1)).1 (4 + 1 + (Int32.toNatClampNeg v2)) (Int32.toNatClampNeg v1)) + 1)).1 27 (Int32.toNatClampNeg ((gwI (gwI μ 10 (Int32.toNatClampNeg v1) ((μ.1 10 (Int32.toNatClampNeg v1)) - 1)) (4 + 1 + (Int32.toNatClampNeg v2)) (Int32.toNatClampNeg v1) (((gwI μ 10 (Int32.toNatClampNeg v1) ((μ.1 10 (Int32.toNatClampNeg v1)) - 1)).1 (4 + 1 + (Int32.toNatClampNeg v2)) (Int32.toNatClampNeg v1)) + 1)).1 7 (Int32.toNatClampNeg v1)))) + ((gwI (gwI μ 10 (Int32.toNatClampNeg v1) ((μ.1 10 (Int32.toNatClampNeg v1)) - 1)) (4 + 1 + (Int32.toNatClampNeg v2)) (Int32.toNatClampNeg v1) (((gwI μ 10 (Int32.toNatClampNeg v1) ((μ.1 10 (Int32.toNatClampNeg v1)) - 1)).1 (4 + 1 + (Int32.toNatClampNeg v2)) (Int32.toNatClampNeg v1)) + 1)).1 5 (Int32.toNatClampNeg v1)))).1 1 7)) = 0 then (if g_in v1 60 = true then (if g_in v1 60 = true then some (none, (gwI (gwI (gwI (gwI μ 10 (Int32.toNatClampNeg v1) ((μ.1 10 (Int32.toNatClampNeg v1)) - 1)) (4 + 1 + (Int32.toNatClampNeg v2)) (Int32.toNatClampNeg v1) (((gwI μ 10 (Int32.toNatClampNeg v1) ((μ.1 10 (Int32.toNatClampNeg v1)) - 1)).1 (4 + 1 + (Int32.toNatClampNeg v2)) (Int32.toNatClampNeg v1)) + 1)) 27 (Int32.toNatClampNeg ((gwI (gwI μ 10 (Int32.toNatClampNeg v1) ((μ.1 10 (Int32.toNatClampNeg v1)) - 1)) (4 + 1 + (Int32.toNatClampNeg v2)) (Int32.toNatClampNeg v1) (((gwI μ 10 (Int32.toNatClampNeg v1) ((μ.1 10 (Int32.toNatClampNeg v1)) - 1)).1 (4 + 1 + (Int32.toNatClampNeg v2)) (Int32.toNatClampNeg v1)) + 1)).1 7 (Int32.toNatClampNeg v1))) (((gwI (gwI μ 10 (Int32.toNatClampNeg v1) ((μ.1 10 (Int32.toNatClampNeg v1)) - 1)) (4 + 1 + (Int32.toNatClampNeg v2)) (Int32.toNatClampNeg v1) (((gwI μ 10 (Int32.toNatClampNeg v1) ((μ.1 10 (Int32.toNatClampNeg v1)) - 1)).1 (4 + 1 + (Int32.toNatClampNeg v2)) (Int32.toNatClampNeg v1)) + 1)).1 27 (Int32.toNatClampNeg ((gwI (gwI μ 10 (Int32.toNatClampNeg v1) ((μ.1 10 (Int32.toNatClampNeg v1)) - 1)) (4 + 1 + (Int32.toNatClampNeg v2)) (Int32.toNatClampNeg v1) (((gwI μ 10 (Int32.toNatClampNeg v1) ((μ.1 10 (Int32.toNatClampNeg v1)) - 1)).1 (4 + 1 + (Int32.toNatClampNeg v2)) (Int32.toNatClampNeg v1)) + 1)).1 7 (Int32.toNatClampNeg v1)))) + ((gwI (gwI μ 10 (Int32.toNatClampNeg v1) ((μ.1 10 (Int32.toNatClampNeg v1)) - 1)) (4 + 1 + (Int32.toNatClampNeg v2)) (Int32.toNatClampNeg v1) (((gwI μ 10 (Int32.toNatClampNeg v1) ((μ.1 10 (Int32.toNatClampNeg v1)) - 1)).1 (4 + 1 + (Int32.toNatClampNeg v2)) (Int32.toNatClampNeg v1)) + 1)).1 5 (Int32.toNatClampNeg v1)))) 11 (Int32.toNatClampNeg v1) ((gwI (gwI (gwI μ 10 (Int32.toNatClampNeg v1) ((μ.1 10 (Int32.toNatClampNeg v1)) - 1)) (4 + 1 + (Int32.toNatClampNeg v2)) (Int32.toNatClampNeg v1) (((gwI μ 10 (Int32.toNatClampNeg v1) ((μ.1 10 (Int32.toNatClampNeg v1)) - 1)).1 (4 + 1 + (Int32.toNatClampNeg v2)) (Int32.toNatClampNeg v1)) + 1)) 27 (Int32.toNatClampNeg ((gwI (gwI μ 10 (Int32.toNatClampNeg v1) ((μ.1 10 (Int32.toNatClampNeg v1)) - 1)) (4 + 1 + (Int32.toNatClampNeg v2)) (Int32.toNatClampNeg v1) (((gwI μ 10 (Int32.toNatClampNeg v1) ((μ.1 10 (Int32.toNatClampNeg v1)) - 1)).1 (4 + 1 + (Int32.toNatClampNeg v2)) (Int32.toNatClampNeg v1)) + 1)).1 7 (Int32.toNatClampNeg v1))) (((gwI (gwI μ 10 (Int32.toNatClampNeg v1) ((μ.1 10 (Int32.toNatClampNeg v1)) - 1)) (4 + 1 + (Int32.toNatClampNeg v2)) (Int32.toNatClampNeg v1) (((gwI μ 10 (Int32.toNatClampNeg v1) ((μ.1 10 (Int32.toNatClampNeg v1)) - 1)).1 (4 + 1 + (Int32.toNatClampNeg v2)) (Int32.toNatClampNeg v1)) + 1)).1 27 (Int32.toNatClampNeg ((gwI (gwI μ 10 (Int32.toNatClampNeg v1) ((μ.1 10 (Int32.toNatClampNeg v1)) - 1)) (4 + 1 + (Int32.toNatClampNeg v2)) (Int32.toNatClampNeg v1) (((gwI μ 10 (Int32.toNatClampNeg v1) ((μ.1 10 (Int32.toNatClampNeg v1)) - 1)).1 (4 + 1 + (Int32.toNatClampNeg v2)) (Int32.toNatClampNeg v1)) + 1)).1 7 (Int32.toNatClampNeg v1)))) + ((gwI (gwI μ 10 (Int32.toNatClampNeg v1) ((μ.1 10 (Int32.toNatClampNeg v1)) - 1)) (4 + 1 + (Int32.toNatClampNeg v2)) (Int32.toNatClampNeg v1) (((gwI μ 10 (Int32.toNatClampNeg v1) ((μ.1 10 (Int32.toNatClampNeg v1)) - 1)).1 (4 + 1 + (Int32.toNatClampNeg v2)) (Int32.toNatClampNeg v1)) + 1)).1 5 (Int32.toNatClampNeg v1)))).1 10 (Int32.toNatClampNeg v1)))) else none) else none) else some (none, (gwI (gwI (gwI μ 10 (Int32.toNatClampNeg v1) ((μ.1 10 (Int32.toNatClampNeg v1)) - 1)) (4 + 1 + (Int32.toNatClampNeg v2)) (Int32.toNatClampNeg v1) (((gwI μ 10 (Int32.toNatClampNeg v1) ((μ.1 10 (Int32.toNatClampNeg v1)) - 1)).1 (4 + 1 + (Int32.toNatClampNeg v2)) (Int32.toNatClampNeg v1)) + 1)) 27 (Int32.toNatClampNeg ((gwI (gwI μ 10 (Int32.toNatClampNeg v1) ((μ.1 10 (Int32.toNatClampNeg v1)) - 1)) (4 + 1 + (Int32.toNatClampNeg v2)) (Int32.toNatClampNeg v1) (((gwI μ 10 (Int32.toNatClampNeg v1) ((μ.1 10 (Int32.toNatClampNeg v1)) - 1)).1 (4 + 1 + (Int32.toNatClampNeg v2)) (Int32.toNatClampNeg v1)) + 1)).1 7 (Int32.toNatClampNeg v1))) (((gwI (gwI μ 10 (Int32.toNatClampNeg v1) ((μ.1 10 (Int32.toNatClampNeg v1)) - 1)) (4 + 1 + (Int32.toNatClampNeg v2)) (Int32.toNatClampNeg v1) (((gwI μ 10 (Int32.toNatClampNeg v1) ((μ.1 10 (Int32.toNatClampNeg v1)) - 1)).1 (4 + 1 + (Int32.toNatClampNeg v2)) (Int32.toNatClampNeg v1)) + 1)).1 27 (Int32.toNatClampNeg ((gwI (gwI μ 10 (Int32.toNatClampNeg v1) ((μ.1 10 (Int32.toNatClampNeg v1)) - 1)) (4 + 1 + (Int32.toNatClampNeg v2)) (Int32.toNatClampNeg v1) (((gwI μ 10 (Int32.toNatClampNeg v1) ((μ.1 10 (Int32.toNatClampNeg v1)) - 1)).1 (4 + 1 + (Int32.toNatClampNeg v2)) (Int32.toNatClampNeg v1)) + 1)).1 7 (Int32.toNatClampNeg v1)))) + ((gwI (gwI μ 10 (Int32.toNatClampNeg v1) ((μ.1 10 (Int32.toNatClampNeg v1)) - 1)) (4 + 1 + (Int32.toNatClampNeg v2)) (Int32.toNatClampNeg v1) (((gwI μ 10 (Int32.toNatClampNeg v1) ((μ.1 10 (Int32.toNatClampNeg v1)) - 1)).1 (4 + 1 + (Int32.toNatClampNeg v2)) (Int32.toNatClampNeg v1)) + 1)).1 5 (Int32.toNatClampNeg v1)))))))) else none) else none) else none) else none) else none) else none) else none) else none) else none) else none) else none) := (g_cut dtX2_run [] 86 0 _ [] μ).trans rfl
noncomputable def rX2_restStopped_2 (v1 : Int32) (μ : gMem) : Option gR := g_run PX2_restStopped 2 [some (.ref 0), some (.int v1)] [] μ
set_option maxRecDepth 100000 in
theorem eX2_restStopped  (μ : gMem) : mX2_restStopped [.ref 0] μ = rX2_restStopped_2 0 μ := (g_cut dtX2_restStopped [2] 34 0 _ [] μ).trans rfl
set_option maxRecDepth 100000 in
theorem eX2_restStopped_2 (v1 : Int32) (μ : gMem) : rX2_restStopped_2 v1 μ = (if (μ.1 3 2) ≤ v1 then some (none, μ) else (g_ci (mX4_isPlaced [.ref 3, .int v1] μ) (fun a1 u1 => (if a1 = 0 then rX2_restStopped_2 (v1 + 1) u1 else (if g_in v1 60 = true then (if (u1.1 17 (Int32.toNatClampNeg v1)) ≤ 0 then rX2_restStopped_2 (v1 + 1) u1 else (if g_in v1 60 = true then (if g_in v1 60 = true then rX2_restStopped_2 (v1 + 1) (gwI u1 17 (Int32.toNatClampNeg v1) ((u1.1 17 (Int32.toNatClampNeg v1)) - 1)) else none) else none)) else none))))) := (g_cut dtX2_restStopped [2] 34 2 _ [] μ).trans rfl
noncomputable def rX2_takeTurn_73 (v2 : Int32) (μ : gMem) : Option gR := g_run PX2_takeTurn 73 [some (.ref 0), none, some (.int v2)] [] μ
set_option maxRecDepth 100000 in
theorem eX2_takeTurn (v1 : Int32) (μ : gMem) : mX2_takeTurn [.ref 0, .int v1] μ = (if g_in v1 8 = true then (g_ci (mX2_weightOf [.ref 0, .int v1] μ) (fun a1 u1 => (g_ci (mJ9_max_7cf53 [.int 1, .int a1] u1) (fun a2 u2 => (if a2 = 0 then none else (if g_in v1 8 = true then (if g_in v1 8 = true then (if g_in v1 8 = true then (if ((gwI (gwL u2 30 (Int32.toNatClampNeg v1) ((μ.2 30 (Int32.toNatClampNeg v1)) + (Int32.toInt64 (1000000 / a2)))) 31 (Int32.toNatClampNeg v1) (((gwL u2 30 (Int32.toNatClampNeg v1) ((μ.2 30 (Int32.toNatClampNeg v1)) + (Int32.toInt64 (1000000 / a2)))).1 31 (Int32.toNatClampNeg v1)) + 1)).1 1 8) = 1 then (g_cv (mX3_choose [.ref 53, .ref 3, .ref 25, .int v1, .int 1] (gwI (gwL u2 30 (Int32.toNatClampNeg v1) ((μ.2 30 (Int32.toNatClampNeg v1)) + (Int32.toInt64 (1000000 / a2)))) 31 (Int32.toNatClampNeg v1) (((gwL u2 30 (Int32.toNatClampNeg v1) ((μ.2 30 (Int32.toNatClampNeg v1)) + (Int32.toInt64 (1000000 / a2)))).1 31 (Int32.toNatClampNeg v1)) + 1))) (fun u4 => rX2_takeTurn_73 0 u4)) else (g_cv (mX3_choose [.ref 53, .ref 3, .ref 25, .int v1, .int 0] (gwI (gwL u2 30 (Int32.toNatClampNeg v1) ((μ.2 30 (Int32.toNatClampNeg v1)) + (Int32.toInt64 (1000000 / a2)))) 31 (Int32.toNatClampNeg v1) (((gwL u2 30 (Int32.toNatClampNeg v1) ((μ.2 30 (Int32.toNatClampNeg v1)) + (Int32.toInt64 (1000000 / a2)))).1 31 (Int32.toNatClampNeg v1)) + 1))) (fun u3 => rX2_takeTurn_73 0 u3))) else none) else none) else none)))))) else none) := (g_cut dtX2_takeTurn [73] 79 0 _ [] μ).trans rfl
set_option maxRecDepth 100000 in
theorem eX2_takeTurn_73 (v2 : Int32) (μ : gMem) : rX2_takeTurn_73 v2 μ = (g_ci (mX3_size [.ref 53] μ) (fun a1 u1 => (if a1 ≤ v2 then (g_cv (mX2_restStopped [.ref 0] (gwI u1 2 10 ((u1.1 2 10) + (u1.1 53 4)))) (fun u2 => some (none, u2))) else (if g_in v2 60 = true then (if (u1.1 53 3) ≤ v2 then (g_cv (mX2_run [.ref 0, .int (u1.1 54 (Int32.toNatClampNeg v2)), .int 11] u1) (fun u3 => rX2_takeTurn_73 (v2 + 1) u3)) else (g_cv (mX2_run [.ref 0, .int (u1.1 54 (Int32.toNatClampNeg v2)), .int 10] u1) (fun u4 => rX2_takeTurn_73 (v2 + 1) u4))) else none)))) := (g_cut dtX2_takeTurn [73] 79 73 _ [] μ).trans rfl
noncomputable def rX4_cellsIn_4 (v1 : Int32) (v2 : Int32) (v3 : Int32) (μ : gMem) : Option gR := g_run PX4_cellsIn 4 [some (.ref 3), some (.int v1), some (.int v2), some (.int v3)] [] μ
set_option maxRecDepth 100000 in
theorem eX4_cellsIn (v1 : Int32) (μ : gMem) : mX4_cellsIn [.ref 3, .int v1] μ = rX4_cellsIn_4 v1 0 0 μ := (g_cut dtX4_cellsIn [4] 26 0 _ [] μ).trans rfl
set_option maxRecDepth 100000 in
theorem eX4_cellsIn_4 (v1 : Int32) (v2 : Int32) (v3 : Int32) (μ : gMem) : rX4_cellsIn_4 v1 v2 v3 μ = (if (μ.1 3 2) ≤ v3 then some (some (.int v2), μ) else (if g_in v3 60 = true then (if (μ.1 12 (Int32.toNatClampNeg v3)) = v1 then (g_ci (mX4_cells [.ref 3, .int v3] μ) (fun a1 u1 => rX4_cellsIn_4 v1 (v2 ||| a1) (v3 + 1) u1)) else rX4_cellsIn_4 v1 v2 (v3 + 1) μ) else none)) := (g_cut dtX4_cellsIn [4] 26 4 _ [] μ).trans rfl
set_option maxRecDepth 100000 in
theorem eX2_countColumns (v1 : Int32) (μ : gMem) : mX2_countColumns [.ref 0, .int v1] μ = (g_ci (mX7_has [.ref 29, .int v1] μ) (fun a1 u1 => (if a1 = 0 then (g_ci (mX7_has [.ref 29, .int v1] u1) (fun a2 u2 => (if a2 = 0 then (g_ci (mX2_ups [.ref 0] u2) (fun a3 u3 => (g_ci (mJ6_bitCount_0f7a4 [.int (u3.1 53 5)] u3) (fun a4 u4 => (g_ci (mJ6_bitCount_0f7a4 [.int ((a3 &&& ((u3.1 53 5) ^^^ (-1))) &&& 0)] (gwI u4 2 0 ((u3.1 2 0) + a4))) (fun a5 u5 => (g_ci (mJ6_bitCount_0f7a4 [.int (((a3 &&& ((u3.1 53 5) ^^^ (-1))) &&& 0) &&& (0 ^^^ (-1)))] (gwI u5 2 1 (((gwI u4 2 0 ((u3.1 2 0) + a4)).1 2 1) + a5))) (fun a6 u6 => (g_ci (mJ6_bitCount_0f7a4 [.int ((a3 &&& ((u3.1 53 5) ^^^ (-1))) &&& (0 ^^^ (-1)))] (gwI u6 2 2 (((gwI u5 2 1 (((gwI u4 2 0 ((u3.1 2 0) + a4)).1 2 1) + a5)).1 2 2) + a6))) (fun a7 u7 => (g_ci (mJ6_bitCount_0f7a4 [.int ((gwI u7 2 3 (((gwI u6 2 2 (((gwI u5 2 1 (((gwI u4 2 0 ((u3.1 2 0) + a4)).1 2 1) + a5)).1 2 2) + a6)).1 2 3) + a7)).1 0 13)] (gwI u7 2 3 (((gwI u6 2 2 (((gwI u5 2 1 (((gwI u4 2 0 ((u3.1 2 0) + a4)).1 2 1) + a5)).1 2 2) + a6)).1 2 3) + a7))) (fun a8 u8 => some (none, (gwI u8 2 4 (((gwI u7 2 3 (((gwI u6 2 2 (((gwI u5 2 1 (((gwI u4 2 0 ((u3.1 2 0) + a4)).1 2 1) + a5)).1 2 2) + a6)).1 2 3) + a7)).1 2 4) + a8))))))))))))))) else (g_ci (mX4_cellsIn [.ref 3, .int v1] u2) (fun a9 u9 => (g_ci (mX2_ups [.ref 0] u9) (fun a10 u10 => (g_ci (mJ6_bitCount_0f7a4 [.int (u10.1 53 5)] u10) (fun a11 u11 => (g_ci (mJ6_bitCount_0f7a4 [.int ((a10 &&& ((u10.1 53 5) ^^^ (-1))) &&& a9)] (gwI u11 2 0 ((u10.1 2 0) + a11))) (fun a12 u12 => (g_ci (mJ6_bitCount_0f7a4 [.int (((a10 &&& ((u10.1 53 5) ^^^ (-1))) &&& 0) &&& (a9 ^^^ (-1)))] (gwI u12 2 1 (((gwI u11 2 0 ((u10.1 2 0) + a11)).1 2 1) + a12))) (fun a13 u13 => (g_ci (mJ6_bitCount_0f7a4 [.int ((a10 &&& ((u10.1 53 5) ^^^ (-1))) &&& (0 ^^^ (-1)))] (gwI u13 2 2 (((gwI u12 2 1 (((gwI u11 2 0 ((u10.1 2 0) + a11)).1 2 1) + a12)).1 2 2) + a13))) (fun a14 u14 => (g_ci (mJ6_bitCount_0f7a4 [.int ((gwI u14 2 3 (((gwI u13 2 2 (((gwI u12 2 1 (((gwI u11 2 0 ((u10.1 2 0) + a11)).1 2 1) + a12)).1 2 2) + a13)).1 2 3) + a14)).1 0 13)] (gwI u14 2 3 (((gwI u13 2 2 (((gwI u12 2 1 (((gwI u11 2 0 ((u10.1 2 0) + a11)).1 2 1) + a12)).1 2 2) + a13)).1 2 3) + a14))) (fun a15 u15 => some (none, (gwI u15 2 4 (((gwI u14 2 3 (((gwI u13 2 2 (((gwI u12 2 1 (((gwI u11 2 0 ((u10.1 2 0) + a11)).1 2 1) + a12)).1 2 2) + a13)).1 2 3) + a14)).1 2 4) + a15)))))))))))))))))))) else (if g_in v1 8 = true then (g_ci (mX7_has [.ref 29, .int v1] u1) (fun a16 u16 => (if a16 = 0 then (g_ci (mX2_ups [.ref 0] u16) (fun a17 u17 => (g_ci (mJ6_bitCount_0f7a4 [.int (u17.1 53 5)] u17) (fun a18 u18 => (g_ci (mJ6_bitCount_0f7a4 [.int ((a17 &&& ((u17.1 53 5) ^^^ (-1))) &&& 0)] (gwI u18 2 0 ((u17.1 2 0) + a18))) (fun a19 u19 => (g_ci (mJ6_bitCount_0f7a4 [.int (((a17 &&& ((u17.1 53 5) ^^^ (-1))) &&& (u1.1 32 (Int32.toNatClampNeg v1))) &&& (0 ^^^ (-1)))] (gwI u19 2 1 (((gwI u18 2 0 ((u17.1 2 0) + a18)).1 2 1) + a19))) (fun a20 u20 => (g_ci (mJ6_bitCount_0f7a4 [.int ((a17 &&& ((u17.1 53 5) ^^^ (-1))) &&& ((u1.1 32 (Int32.toNatClampNeg v1)) ^^^ (-1)))] (gwI u20 2 2 (((gwI u19 2 1 (((gwI u18 2 0 ((u17.1 2 0) + a18)).1 2 1) + a19)).1 2 2) + a20))) (fun a21 u21 => (g_ci (mJ6_bitCount_0f7a4 [.int ((gwI u21 2 3 (((gwI u20 2 2 (((gwI u19 2 1 (((gwI u18 2 0 ((u17.1 2 0) + a18)).1 2 1) + a19)).1 2 2) + a20)).1 2 3) + a21)).1 0 13)] (gwI u21 2 3 (((gwI u20 2 2 (((gwI u19 2 1 (((gwI u18 2 0 ((u17.1 2 0) + a18)).1 2 1) + a19)).1 2 2) + a20)).1 2 3) + a21))) (fun a22 u22 => some (none, (gwI u22 2 4 (((gwI u21 2 3 (((gwI u20 2 2 (((gwI u19 2 1 (((gwI u18 2 0 ((u17.1 2 0) + a18)).1 2 1) + a19)).1 2 2) + a20)).1 2 3) + a21)).1 2 4) + a22))))))))))))))) else (g_ci (mX4_cellsIn [.ref 3, .int v1] u16) (fun a23 u23 => (g_ci (mX2_ups [.ref 0] u23) (fun a24 u24 => (g_ci (mJ6_bitCount_0f7a4 [.int (u24.1 53 5)] u24) (fun a25 u25 => (g_ci (mJ6_bitCount_0f7a4 [.int ((a24 &&& ((u24.1 53 5) ^^^ (-1))) &&& a23)] (gwI u25 2 0 ((u24.1 2 0) + a25))) (fun a26 u26 => (g_ci (mJ6_bitCount_0f7a4 [.int (((a24 &&& ((u24.1 53 5) ^^^ (-1))) &&& (u1.1 32 (Int32.toNatClampNeg v1))) &&& (a23 ^^^ (-1)))] (gwI u26 2 1 (((gwI u25 2 0 ((u24.1 2 0) + a25)).1 2 1) + a26))) (fun a27 u27 => (g_ci (mJ6_bitCount_0f7a4 [.int ((a24 &&& ((u24.1 53 5) ^^^ (-1))) &&& ((u1.1 32 (Int32.toNatClampNeg v1)) ^^^ (-1)))] (gwI u27 2 2 (((gwI u26 2 1 (((gwI u25 2 0 ((u24.1 2 0) + a25)).1 2 1) + a26)).1 2 2) + a27))) (fun a28 u28 => (g_ci (mJ6_bitCount_0f7a4 [.int ((gwI u28 2 3 (((gwI u27 2 2 (((gwI u26 2 1 (((gwI u25 2 0 ((u24.1 2 0) + a25)).1 2 1) + a26)).1 2 2) + a27)).1 2 3) + a28)).1 0 13)] (gwI u28 2 3 (((gwI u27 2 2 (((gwI u26 2 1 (((gwI u25 2 0 ((u24.1 2 0) + a25)).1 2 1) + a26)).1 2 2) + a27)).1 2 3) + a28))) (fun a29 u29 => some (none, (gwI u29 2 4 (((gwI u28 2 3 (((gwI u27 2 2 (((gwI u26 2 1 (((gwI u25 2 0 ((u24.1 2 0) + a25)).1 2 1) + a26)).1 2 2) + a27)).1 2 3) + a28)).1 2 4) + a29)))))))))))))))))))) else none)))) := (g_cut dtX2_countColumns [] 95 0 _ [] μ).trans rfl
noncomputable def rX2_endJobs_4 (v1 : Int32) (v2 : Int32) (μ : gMem) : Option gR := g_run PX2_endJobs 4 [some (.ref 0), some (.int v1), some (.int v2)] [] μ
set_option maxRecDepth 100000 in
theorem eX2_endJobs  (μ : gMem) : mX2_endJobs [.ref 0] μ = rX2_endJobs_4 0 0 μ := (g_cut dtX2_endJobs [4] 53 0 _ [] μ).trans rfl
set_option maxRecDepth 100000 in
theorem eX2_endJobs_4 (v1 : Int32) (v2 : Int32) (μ : gMem) : rX2_endJobs_4 v1 v2 μ = (if (μ.1 3 2) ≤ v2 then (g_cv (mX2_dropEmpty [.ref 0] μ) (fun u1 => some (some (.int v1), u1))) else (g_ci (mX4_isPlaced [.ref 3, .int v2] μ) (fun a2 u2 => (if a2 = 0 then rX2_endJobs_4 v1 (v2 + 1) u2 else (if g_in v2 60 = true then (if (u2.1 10 (Int32.toNatClampNeg v2)) = 0 then (g_cv (mX2_note [.ref 0, .int 3, .int v2] u2) (fun u3 => (g_cv (mX2_takeOut [.ref 0, .int v2] u3) (fun u4 => (if g_in v2 60 = true then (if g_in v2 60 = true then rX2_endJobs_4 (v1 + 1) (v2 + 1) (gwI (gwI u4 9 (Int32.toNatClampNeg v2) 3) 20 (Int32.toNatClampNeg v2) ((gwI u4 9 (Int32.toNatClampNeg v2) 3).1 0 12)) else none) else none))))) else rX2_endJobs_4 v1 (v2 + 1) u2) else none))))) := (g_cut dtX2_endJobs [4] 53 4 _ [] μ).trans rfl
set_option maxRecDepth 100000 in
theorem eX2_isOver (v1 : Int32) (μ : gMem) : mX2_isOver [.ref 0, .int v1] μ = (g_ci (mX4_has [.ref 3, .int v1] μ) (fun a1 u1 => (if a1 = 0 then some (some (.int 0), u1) else (g_ci (mX4_state [.ref 3, .int v1] u1) (fun a2 u2 => (if a2 = 3 then some (some (.int 1), u2) else some (some (.int 0), u2))))))) := (g_cut dtX2_isOver [] 15 0 _ [] μ).trans rfl
noncomputable def rX2_wakeHeld_2 (v1 : Int32) (μ : gMem) : Option gR := g_run PX2_wakeHeld 2 [some (.ref 0), some (.int v1)] [] μ
set_option maxRecDepth 100000 in
theorem eX2_wakeHeld  (μ : gMem) : mX2_wakeHeld [.ref 0] μ = rX2_wakeHeld_2 0 μ := (g_cut dtX2_wakeHeld [2] 29 0 _ [] μ).trans rfl
set_option maxRecDepth 100000 in
theorem eX2_wakeHeld_2 (v1 : Int32) (μ : gMem) : rX2_wakeHeld_2 v1 μ = (if (μ.1 3 2) ≤ v1 then some (none, μ) else (g_ci (mX4_state [.ref 3, .int v1] μ) (fun a1 u1 => (if a1 = 0 then (if g_in v1 60 = true then (g_ci (mX2_isOver [.ref 0, .int (u1.1 8 (Int32.toNatClampNeg v1))] u1) (fun a2 u2 => (if a2 = 0 then rX2_wakeHeld_2 (v1 + 1) u2 else (g_cv (mX4_toLine [.ref 3, .int v1] u2) (fun u3 => rX2_wakeHeld_2 (v1 + 1) u3))))) else none) else rX2_wakeHeld_2 (v1 + 1) u1)))) := (g_cut dtX2_wakeHeld [2] 29 2 _ [] μ).trans rfl
set_option maxRecDepth 100000 in
theorem eX7_unite (v1 : Int32) (v2 : Int32) (μ : gMem) : mX7_unite [.ref 29, .int v1, .int v2] μ = (if g_in v1 8 = true then (if g_in v2 8 = true then (if g_in v1 8 = true then (if g_in v1 8 = true then (if g_in v2 8 = true then (g_cl (mJ9_min_f86c9 [.long ((gwI μ 32 (Int32.toNatClampNeg v1) ((μ.1 32 (Int32.toNatClampNeg v1)) ||| (μ.1 32 (Int32.toNatClampNeg v2)))).2 30 (Int32.toNatClampNeg v1)), .long ((gwI μ 32 (Int32.toNatClampNeg v1) ((μ.1 32 (Int32.toNatClampNeg v1)) ||| (μ.1 32 (Int32.toNatClampNeg v2)))).2 30 (Int32.toNatClampNeg v2))] (gwI μ 32 (Int32.toNatClampNeg v1) ((μ.1 32 (Int32.toNatClampNeg v1)) ||| (μ.1 32 (Int32.toNatClampNeg v2))))) (fun a1 u1 => (if g_in v1 8 = true then (if g_in v1 8 = true then (if g_in v2 8 = true then (if g_in v1 8 = true then some (none, (gwI (gwL u1 30 (Int32.toNatClampNeg v1) a1) 31 (Int32.toNatClampNeg v1) (((gwL u1 30 (Int32.toNatClampNeg v1) a1).1 31 (Int32.toNatClampNeg v1)) + ((gwL u1 30 (Int32.toNatClampNeg v1) a1).1 31 (Int32.toNatClampNeg v2))))) else none) else none) else none) else none))) else none) else none) else none) else none) else none) := (g_cut dtX7_unite [] 36 0 _ [] μ).trans rfl
noncomputable def rX2_unite_39 (v1 : Int32) (v2 : Int32) (v4 : Int32) (μ : gMem) : Option gR := g_run PX2_unite 39 [some (.ref 0), some (.int v1), some (.int v2), some (.ref 12), some (.int v4)] [] μ
set_option maxRecDepth 100000 in
theorem eX2_unite (v1 : Int32) (v2 : Int32) (μ : gMem) : mX2_unite [.ref 0, .int v1, .int v2] μ = (g_cv (mX6_add [.ref 39, .int (μ.1 0 12), .int 7, .int (-1), .int v1, .int v2] μ) (fun u1 => (g_cv (mX7_unite [.ref 29, .int v1, .int v2] u1) (fun u2 => rX2_unite_39 v1 v2 0 u2)))) := (g_cut dtX2_unite [39] 42 0 _ [] μ).trans rfl
set_option maxRecDepth 100000 in
theorem eX2_unite_39 (v1 : Int32) (v2 : Int32) (v4 : Int32) (μ : gMem) : rX2_unite_39 v1 v2 v4 μ = (if (μ.1 3 2) ≤ v4 then (g_cv (mX2_dropSlot [.ref 0, .int v2] μ) (fun u1 => some (none, u1))) else (if g_in v4 60 = true then (if (μ.1 12 (Int32.toNatClampNeg v4)) = v2 then (if g_in v4 60 = true then rX2_unite_39 v1 v2 (v4 + 1) (gwI μ 12 (Int32.toNatClampNeg v4) v1) else none) else rX2_unite_39 v1 v2 (v4 + 1) μ) else none)) := (g_cut dtX2_unite [39] 42 39 _ [] μ).trans rfl
noncomputable def rX2_unifyFirst_2 (v1 : Int32) (μ : gMem) : Option gR := g_run PX2_unifyFirst 2 [some (.ref 0), some (.int v1), none] [] μ
noncomputable def rX2_unifyFirst_17 (v1 : Int32) (v2 : Int32) (μ : gMem) : Option gR := g_run PX2_unifyFirst 17 [some (.ref 0), some (.int v1), some (.int v2)] [] μ
set_option maxRecDepth 100000 in
theorem eX2_unifyFirst  (μ : gMem) : mX2_unifyFirst [.ref 0] μ = rX2_unifyFirst_2 0 μ := (g_cut dtX2_unifyFirst [2, 17] 40 0 _ [] μ).trans rfl
set_option maxRecDepth 100000 in
theorem eX2_unifyFirst_2 (v1 : Int32) (μ : gMem) : rX2_unifyFirst_2 v1 μ = (if (μ.1 29 3) ≤ v1 then some (some (.int 0), μ) else rX2_unifyFirst_17 v1 (v1 + 1) μ) := (g_cut dtX2_unifyFirst [2, 17] 40 2 _ [] μ).trans rfl
set_option maxRecDepth 100000 in
theorem eX2_unifyFirst_17 (v1 : Int32) (v2 : Int32) (μ : gMem) : rX2_unifyFirst_17 v1 v2 μ = (if (μ.1 29 3) ≤ v2 then rX2_unifyFirst_2 (v1 + 1) μ else (if g_in v1 8 = true then (if g_in v2 8 = true then (if ((μ.1 32 (Int32.toNatClampNeg v1)) &&& (μ.1 32 (Int32.toNatClampNeg v2))) = 0 then (g_cv (mX2_unite [.ref 0, .int v1, .int v2] μ) (fun u1 => some (some (.int 1), u1))) else rX2_unifyFirst_17 v1 (v2 + 1) μ) else none) else none)) := (g_cut dtX2_unifyFirst [2, 17] 40 17 _ [] μ).trans rfl
noncomputable def rX2_unifyAll_2 (v1 : Int32) (μ : gMem) : Option gR := g_run PX2_unifyAll 2 [some (.ref 0), some (.int v1)] [] μ
set_option maxRecDepth 100000 in
theorem eX2_unifyAll  (μ : gMem) : mX2_unifyAll [.ref 0] μ = rX2_unifyAll_2 0 μ := (g_cut dtX2_unifyAll [2] 20 0 _ [] μ).trans rfl
set_option maxRecDepth 100000 in
theorem eX2_unifyAll_2 (v1 : Int32) (μ : gMem) : rX2_unifyAll_2 v1 μ = (if 8 ≤ v1 then some (some (.int v1), (gwI μ 2 7 ((μ.1 2 7) + v1))) else (g_ci (mX2_unifyFirst [.ref 0] μ) (fun a1 u1 => (if a1 = 0 then some (some (.int v1), (gwI u1 2 7 ((u1.1 2 7) + v1))) else rX2_unifyAll_2 (v1 + 1) u1)))) := (g_cut dtX2_unifyAll [2] 20 2 _ [] μ).trans rfl
set_option maxRecDepth 100000 in
theorem eX2_runOne  (μ : gMem) : mX2_runOne [.ref 0] μ = (g_cv (mX2_bringArrivals [.ref 0] μ) (fun u1 => (g_cv (mX2_goOn [.ref 0] u1) (fun u2 => (g_cv (mX3_clear [.ref 53] u2) (fun u3 => (g_ci (mX7_next [.ref 29] u3) (fun a4 u4 => (if a4 = (-1) then (g_cv (mX2_countColumns [.ref 0, .int a4] u4) (fun u5 => (g_ci (mJ6_bitCount_0f7a4 [.int (u5.1 53 5)] u5) (fun a6 u6 => (g_cv (mX6_add [.ref 46, .int a4, .int (u5.1 53 3), .int (u5.1 53 4), .int a6, .int (-1)] u6) (fun u7 => (g_ci (mX2_endJobs [.ref 0] (gwI u7 0 12 ((u7.1 0 12) + 1))) (fun a8 u8 => (g_cv (mX2_wakeHeld [.ref 0] u8) (fun u9 => (if (u9.1 1 9) = 1 then (g_ci (mX2_unifyAll [.ref 0] u9) (fun a11 u11 => (g_cv (mX2_goOn [.ref 0] u11) (fun u12 => some (some (.int a8), u12))))) else (g_cv (mX2_goOn [.ref 0] u9) (fun u10 => some (some (.int a8), u10)))))))))))))) else (g_cv (mX2_takeTurn [.ref 0, .int a4] u4) (fun u13 => (g_cv (mX2_countColumns [.ref 0, .int a4] u13) (fun u14 => (g_ci (mJ6_bitCount_0f7a4 [.int (u14.1 53 5)] u14) (fun a15 u15 => (g_cv (mX6_add [.ref 46, .int a4, .int (u14.1 53 3), .int (u14.1 53 4), .int a15, .int (-1)] u15) (fun u16 => (g_ci (mX2_endJobs [.ref 0] (gwI u16 0 12 ((u16.1 0 12) + 1))) (fun a17 u17 => (g_cv (mX2_wakeHeld [.ref 0] u17) (fun u18 => (if (u18.1 1 9) = 1 then (g_ci (mX2_unifyAll [.ref 0] u18) (fun a20 u20 => (g_cv (mX2_goOn [.ref 0] u20) (fun u21 => some (some (.int a17), u21))))) else (g_cv (mX2_goOn [.ref 0] u18) (fun u19 => some (some (.int a17), u19))))))))))))))))))))))))) := (g_cut dtX2_runOne [] 59 0 _ [] μ).trans rfl
noncomputable def rX2_sortKeys_2 (v1 : Int32) (v2 : Int32) (μ : gMem) : Option gR := g_run PX2_sortKeys 2 [some (.ref 57), some (.int v1), some (.int v2), none, none] [] μ
noncomputable def rX2_sortKeys_20 (v1 : Int32) (v2 : Int32) (v3 : Int32) (v4 : Int32) (μ : gMem) : Option gR := g_run PX2_sortKeys 20 [some (.ref 57), some (.int v1), some (.int v2), some (.int v3), some (.int v4)] [] μ
set_option maxRecDepth 100000 in
theorem eX2_sortKeys (v1 : Int32) (μ : gMem) : mX2_sortKeys [.ref 57, .int v1] μ = rX2_sortKeys_2 v1 1 μ := (g_cut dtX2_sortKeys [2, 20] 41 0 _ [] μ).trans rfl
set_option maxRecDepth 100000 in
theorem eX2_sortKeys_2 (v1 : Int32) (v2 : Int32) (μ : gMem) : rX2_sortKeys_2 v1 v2 μ = (if v1 ≤ v2 then some (none, μ) else (if 60 ≤ v2 then some (none, μ) else (if g_in v2 60 = true then rX2_sortKeys_20 v1 v2 (μ.1 57 (Int32.toNatClampNeg v2)) v2 μ else none))) := (g_cut dtX2_sortKeys [2, 20] 41 2 _ [] μ).trans rfl
set_option maxRecDepth 100000 in
theorem eX2_sortKeys_20 (v1 : Int32) (v2 : Int32) (v3 : Int32) (v4 : Int32) (μ : gMem) : rX2_sortKeys_20 v1 v2 v3 v4 μ = (if v4 ≤ 0 then (if g_in v4 60 = true then rX2_sortKeys_2 v1 (v2 + 1) (gwI μ 57 (Int32.toNatClampNeg v4) v3) else none) else (if g_in (v4 - 1) 60 = true then (if (μ.1 57 (Int32.toNatClampNeg (v4 - 1))) ≤ v3 then (if g_in v4 60 = true then rX2_sortKeys_2 v1 (v2 + 1) (gwI μ 57 (Int32.toNatClampNeg v4) v3) else none) else (if g_in (v4 - 1) 60 = true then (if g_in v4 60 = true then rX2_sortKeys_20 v1 v2 v3 (v4 + (-1)) (gwI μ 57 (Int32.toNatClampNeg v4) (μ.1 57 (Int32.toNatClampNeg (v4 - 1)))) else none) else none)) else none)) := (g_cut dtX2_sortKeys [2, 20] 41 20 _ [] μ).trans rfl
noncomputable def rX2_sortForRepack_4 (v1 : Int32) (v2 : Int32) (μ : gMem) : Option gR := g_run PX2_sortForRepack 4 [some (.ref 0), some (.int v1), some (.int v2), none, none] [] μ
set_option maxRecDepth 100000 in
theorem eX2_sortForRepack  (μ : gMem) : mX2_sortForRepack [.ref 0] μ = rX2_sortForRepack_4 0 0 μ := (g_cut dtX2_sortForRepack [4] 64 0 _ [] μ).trans rfl
set_option maxRecDepth 100000 in
theorem eX2_sortForRepack_4 (v1 : Int32) (v2 : Int32) (μ : gMem) : rX2_sortForRepack_4 v1 v2 μ = (if (μ.1 3 2) ≤ v2 then (g_cv (mX2_sortKeys [.ref 57, .int v1] μ) (fun u1 => some (some (.int v1), u1))) else (g_ci (mX4_isPlaced [.ref 3, .int v2] μ) (fun a2 u2 => (if a2 = 0 then rX2_sortForRepack_4 v1 (v2 + 1) u2 else (if g_in v2 60 = true then (if g_in v2 60 = true then (if g_in v2 60 = true then (g_ci (mX1_spot [.int (u2.1 12 (Int32.toNatClampNeg v2)), .int (u2.1 13 (Int32.toNatClampNeg v2))] u2) (fun a3 u3 => (if g_in v1 60 = true then rX2_sortForRepack_4 (v1 + 1) (v2 + 1) (gwI u3 57 (Int32.toNatClampNeg v1) ((((((32 - (u2.1 14 (Int32.toNatClampNeg v2))) * 8) * 32) + a3) * 64) + v2)) else none))) else none) else none) else none))))) := (g_cut dtX2_sortForRepack [4] 64 4 _ [] μ).trans rfl
noncomputable def rX7_firstClear_2 (v1 : Int32) (v2 : Int32) (μ : gMem) : Option gR := g_run PX7_firstClear 2 [some (.ref 29), some (.int v1), some (.int v2)] [] μ
set_option maxRecDepth 100000 in
theorem eX7_firstClear (v1 : Int32) (μ : gMem) : mX7_firstClear [.ref 29, .int v1] μ = rX7_firstClear_2 v1 0 μ := (g_cut dtX7_firstClear [2] 17 0 _ [] μ).trans rfl
set_option maxRecDepth 100000 in
theorem eX7_firstClear_2 (v1 : Int32) (v2 : Int32) (μ : gMem) : rX7_firstClear_2 v1 v2 μ = (if (μ.1 29 3) ≤ v2 then some (some (.int v2), μ) else (if g_in v2 8 = true then (if ((μ.1 32 (Int32.toNatClampNeg v2)) &&& v1) = 0 then some (some (.int v2), μ) else rX7_firstClear_2 v1 (v2 + 1) μ) else none)) := (g_cut dtX7_firstClear [2] 17 2 _ [] μ).trans rfl
noncomputable def rX7_passAllAt_2 (v1 : Int64) (v3 : Int32) (μ : gMem) : Option gR := g_run PX7_passAllAt 2 [some (.ref 29), some (.long v1), none, some (.int v3)] [] μ
set_option maxRecDepth 100000 in
theorem eX7_passAllAt (v1 : Int64) (μ : gMem) : mX7_passAllAt [.ref 29, .long v1] μ = rX7_passAllAt_2 v1 0 μ := (g_cut dtX7_passAllAt [2] 14 0 _ [] μ).trans rfl
set_option maxRecDepth 100000 in
theorem eX7_passAllAt_2 (v1 : Int64) (v3 : Int32) (μ : gMem) : rX7_passAllAt_2 v1 v3 μ = (if (μ.1 29 3) ≤ v3 then some (none, μ) else (if g_in v3 8 = true then rX7_passAllAt_2 v1 (v3 + 1) (gwL μ 30 (Int32.toNatClampNeg v3) v1) else none)) := (g_cut dtX7_passAllAt [2] 14 2 _ [] μ).trans rfl
noncomputable def rX2_repackAll_24 (v1 : Int64) (v3 : Int32) (v4 : Int32) (μ : gMem) : Option gR := g_run PX2_repackAll 24 [some (.ref 0), some (.long v1), none, some (.int v3), some (.int v4), none] [] μ
set_option maxRecDepth 100000 in
theorem eX2_repackAll  (μ : gMem) : mX2_repackAll [.ref 0] μ = (g_cl (mX7_leastPass [.ref 29] μ) (fun a1 u1 => (g_ci (mX2_sortForRepack [.ref 0] u1) (fun a2 u2 => rX2_repackAll_24 a1 a2 0 (gwI u2 29 3 0))))) := (g_cut dtX2_repackAll [24] 47 0 _ [] μ).trans rfl
set_option maxRecDepth 100000 in
theorem eX2_repackAll_24 (v1 : Int64) (v3 : Int32) (v4 : Int32) (μ : gMem) : rX2_repackAll_24 v1 v3 v4 μ = (if v3 ≤ v4 then (g_cv (mX7_passAllAt [.ref 29, .long v1] μ) (fun u1 => some (none, u1))) else (if g_in v4 60 = true then (g_ci (mX4_block [.ref 3, .int ((μ.1 57 (Int32.toNatClampNeg v4)) - (μ.1 57 (Int32.toNatClampNeg v4)) / 64 * 64)] μ) (fun a2 u2 => (g_ci (mX7_firstClear [.ref 29, .int a2] u2) (fun a3 u3 => (if g_in ((μ.1 57 (Int32.toNatClampNeg v4)) - (μ.1 57 (Int32.toNatClampNeg v4)) / 64 * 64) 60 = true then (g_cv (mX2_settle [.ref 0, .int ((μ.1 57 (Int32.toNatClampNeg v4)) - (μ.1 57 (Int32.toNatClampNeg v4)) / 64 * 64), .int a3, .int (u3.1 13 (Int32.toNatClampNeg ((μ.1 57 (Int32.toNatClampNeg v4)) - (μ.1 57 (Int32.toNatClampNeg v4)) / 64 * 64)))] u3) (fun u4 => rX2_repackAll_24 v1 v3 (v4 + 1) u4)) else none))))) else none)) := (g_cut dtX2_repackAll [24] 47 24 _ [] μ).trans rfl
set_option maxRecDepth 100000 in
theorem eX2_end (v1 : Int32) (μ : gMem) : mX2_end [.ref 0, .int v1] μ = (g_cv (mX2_takeOut [.ref 0, .int v1] μ) (fun u1 => (g_cv (mX4_fromLine [.ref 3, .int v1] u1) (fun u2 => (if g_in v1 60 = true then (if g_in v1 60 = true then (g_cv (mX2_note [.ref 0, .int 4, .int v1] (gwI (gwI u2 9 (Int32.toNatClampNeg v1) 4) 20 (Int32.toNatClampNeg v1) ((gwI u2 9 (Int32.toNatClampNeg v1) 4).1 0 12))) (fun u3 => some (none, u3))) else none) else none))))) := (g_cut dtX2_end [] 29 0 _ [] μ).trans rfl
noncomputable def rX2_nextHeldBy_2 (v1 : Int32) (v3 : Int32) (μ : gMem) : Option gR := g_run PX2_nextHeldBy 2 [some (.ref 0), some (.int v1), none, some (.int v3)] [] μ
set_option maxRecDepth 100000 in
theorem eX2_nextHeldBy (v1 : Int32) (v2 : Int32) (μ : gMem) : mX2_nextHeldBy [.ref 0, .int v1, .int v2] μ = rX2_nextHeldBy_2 v1 v2 μ := (g_cut dtX2_nextHeldBy [2] 27 0 _ [] μ).trans rfl
set_option maxRecDepth 100000 in
theorem eX2_nextHeldBy_2 (v1 : Int32) (v3 : Int32) (μ : gMem) : rX2_nextHeldBy_2 v1 v3 μ = (if (μ.1 3 2) ≤ v3 then some (some (.int (-1)), μ) else (g_ci (mX4_state [.ref 3, .int v3] μ) (fun a1 u1 => (if a1 = 0 then (if g_in v3 60 = true then (if (u1.1 8 (Int32.toNatClampNeg v3)) = v1 then some (some (.int v3), u1) else rX2_nextHeldBy_2 v1 (v3 + 1) u1) else none) else rX2_nextHeldBy_2 v1 (v3 + 1) u1)))) := (g_cut dtX2_nextHeldBy [2] 27 2 _ [] μ).trans rfl
noncomputable def rX2_killWithHeld_21 (v1 : Int32) (v2 : Int32) (v3 : Int32) (v4 : Int32) (v5 : Int32) (μ : gMem) : Option gR := g_run PX2_killWithHeld 21 [some (.ref 0), some (.int v1), some (.int v2), some (.int v3), some (.int v4), some (.int v5), none] [] μ
set_option maxRecDepth 100000 in
theorem eX2_killWithHeld (v1 : Int32) (μ : gMem) : mX2_killWithHeld [.ref 0, .int v1] μ = (g_cv (mX2_end [.ref 0, .int v1] μ) (fun u1 => (g_cv (mX2_dropEmpty [.ref 0] u1) (fun u2 => rX2_killWithHeld_21 v1 1 v1 (v1 + 1) 0 u2)))) := (g_cut dtX2_killWithHeld [21] 57 0 _ [] μ).trans rfl
set_option maxRecDepth 100000 in
theorem eX2_killWithHeld_21 (v1 : Int32) (v2 : Int32) (v3 : Int32) (v4 : Int32) (v5 : Int32) (μ : gMem) : rX2_killWithHeld_21 v1 v2 v3 v4 v5 μ = (if 120 ≤ v5 then some (some (.int v2), μ) else (g_ci (mX2_nextHeldBy [.ref 0, .int v3, .int v4] μ) (fun a1 u1 => (if a1 = (-1) then (if v3 = v1 then some (some (.int v2), u1) else (if g_in v3 60 = true then rX2_killWithHeld_21 v1 v2 (u1.1 8 (Int32.toNatClampNeg v3)) (v3 + 1) (v5 + 1) u1 else none)) else (g_cv (mX2_end [.ref 0, .int a1] u1) (fun u2 => rX2_killWithHeld_21 v1 (v2 + 1) a1 (a1 + 1) (v5 + 1) u2)))))) := (g_cut dtX2_killWithHeld [21] 57 21 _ [] μ).trans rfl
set_option maxRecDepth 100000 in
theorem eX2_stands (v1 : Int32) (v2 : Int32) (μ : gMem) : mX2_stands [.ref 0, .int v1, .int v2] μ = (g_ci (mX4_isPlaced [.ref 3, .int v1] μ) (fun a1 u1 => (if a1 = 0 then some (some (.int 0), u1) else (if v2 = (-1) then some (some (.int 1), u1) else (if g_in v1 60 = true then (if (u1.1 12 (Int32.toNatClampNeg v1)) = v2 then some (some (.int 1), u1) else some (some (.int 0), u1)) else none))))) := (g_cut dtX2_stands [] 21 0 _ [] μ).trans rfl
set_option maxRecDepth 100000 in
theorem eX4_lossOf (v1 : Int32) (μ : gMem) : mX4_lossOf [.ref 3, .int v1] μ = (if g_in v1 60 = true then (if g_in v1 60 = true then (if g_in v1 60 = true then some (some (.int ((μ.1 5 (Int32.toNatClampNeg v1)) * ((μ.1 11 (Int32.toNatClampNeg v1)) - (μ.1 10 (Int32.toNatClampNeg v1))))), μ) else none) else none) else none) := (g_cut dtX4_lossOf [] 21 0 _ [] μ).trans rfl
noncomputable def rX2_putBack_2 (v1 : Int32) (v2 : Int32) (v3 : Int32) (μ : gMem) : Option gR := g_run PX2_putBack 2 [some (.ref 0), some (.int v1), some (.int v2), some (.int v3)] [] μ
set_option maxRecDepth 100000 in
theorem eX2_putBack (v1 : Int32) (v2 : Int32) (μ : gMem) : mX2_putBack [.ref 0, .int v1, .int v2] μ = rX2_putBack_2 v1 v2 0 μ := (g_cut dtX2_putBack [2] 85 0 _ [] μ).trans rfl
set_option maxRecDepth 100000 in
theorem eX2_putBack_2 (v1 : Int32) (v2 : Int32) (v3 : Int32) (μ : gMem) : rX2_putBack_2 v1 v2 v3 μ = (if (μ.1 3 2) ≤ v3 then some (none, μ) else (g_ci (mX2_stands [.ref 0, .int v3, .int v1] μ) (fun a1 u1 => (if a1 = 0 then rX2_putBack_2 v1 v2 (v3 + 1) u1 else (g_ci (mX4_block [.ref 3, .int v3] u1) (fun a2 u2 => (if (a2 &&& v2) = 0 then rX2_putBack_2 v1 v2 (v3 + 1) u2 else (g_cv (mX2_note [.ref 0, .int 5, .int v3] u2) (fun u3 => (g_cv (mX2_takeOut [.ref 0, .int v3] u3) (fun u4 => (g_ci (mX4_lossOf [.ref 3, .int v3] u4) (fun a5 u5 => (if g_in v3 60 = true then (if g_in v3 60 = true then (if g_in v3 60 = true then (if g_in v3 60 = true then (if g_in v3 60 = true then (g_cv (mX4_toLine [.ref 3, .int v3] (gwI (gwI (gwI (gwI (gwI u5 2 5 ((u4.1 2 5) + a5)) 2 8 (((gwI u5 2 5 ((u4.1 2 5) + a5)).1 2 8) + 1)) 10 (Int32.toNatClampNeg v3) ((gwI (gwI u5 2 5 ((u4.1 2 5) + a5)) 2 8 (((gwI u5 2 5 ((u4.1 2 5) + a5)).1 2 8) + 1)).1 11 (Int32.toNatClampNeg v3))) 17 (Int32.toNatClampNeg v3) 0) 21 (Int32.toNatClampNeg v3) (((gwI (gwI (gwI (gwI u5 2 5 ((u4.1 2 5) + a5)) 2 8 (((gwI u5 2 5 ((u4.1 2 5) + a5)).1 2 8) + 1)) 10 (Int32.toNatClampNeg v3) ((gwI (gwI u5 2 5 ((u4.1 2 5) + a5)) 2 8 (((gwI u5 2 5 ((u4.1 2 5) + a5)).1 2 8) + 1)).1 11 (Int32.toNatClampNeg v3))) 17 (Int32.toNatClampNeg v3) 0).1 21 (Int32.toNatClampNeg v3)) + 1))) (fun u6 => rX2_putBack_2 v1 v2 (v3 + 1) u6)) else none) else none) else none) else none) else none)))))))))))))) := (g_cut dtX2_putBack [2] 85 2 _ [] μ).trans rfl
set_option maxRecDepth 100000 in
theorem eX2_fail (v1 : Int32) (μ : gMem) : mX2_fail [.ref 0, .int v1] μ = (g_cv (mX2_putBack [.ref 0, .int (-1), .int (1 <<< (v1 &&& 31))] (gwI μ 0 13 ((μ.1 0 13) ||| (1 <<< (v1 &&& 31))))) (fun u1 => (g_cv (mX2_dropEmpty [.ref 0] u1) (fun u2 => some (none, u2))))) := (g_cut dtX2_fail [] 17 0 _ [] μ).trans rfl
set_option maxRecDepth 100000 in
theorem eX3_lentAt (v1 : Int32) (μ : gMem) : mX3_lentAt [.ref 53, .int v1] μ = (if v1 < 0 then some (some (.int (-1)), μ) else (if (μ.1 53 4) ≤ v1 then some (some (.int (-1)), μ) else (if g_in ((μ.1 53 3) + v1) 60 = true then some (some (.int (μ.1 54 (Int32.toNatClampNeg ((μ.1 53 3) + v1)))), μ) else none))) := (g_cut dtX3_lentAt [] 16 0 _ [] μ).trans rfl
set_option maxRecDepth 100000 in
theorem eX4_isWaiting (v1 : Int32) (μ : gMem) : mX4_isWaiting [.ref 3, .int v1] μ = (g_ci (mX4_has [.ref 3, .int v1] μ) (fun a1 u1 => (if a1 = 0 then some (some (.int 0), u1) else (if g_in v1 60 = true then (if (u1.1 9 (Int32.toNatClampNeg v1)) = 1 then some (some (.int 1), u1) else some (some (.int 0), u1)) else none)))) := (g_cut dtX4_isWaiting [] 16 0 _ [] μ).trans rfl
set_option maxRecDepth 100000 in
theorem eX4_canFollow (v1 : Int32) (μ : gMem) : mX4_canFollow [.ref 3, .int v1] μ = (if v1 = (-1) then some (some (.int 1), μ) else (g_ci (mX4_has [.ref 3, .int v1] μ) (fun a1 u1 => (if a1 = 0 then some (some (.int 0), u1) else (if g_in v1 60 = true then (if (u1.1 9 (Int32.toNatClampNeg v1)) = 4 then some (some (.int 0), u1) else some (some (.int 1), u1)) else none))))) := (g_cut dtX4_canFollow [] 19 0 _ [] μ).trans rfl
noncomputable def rX4_inBlock_2 (v1 : Int32) (v2 : Int32) (v3 : Int32) (μ : gMem) : Option gR := g_run PX4_inBlock 2 [some (.ref 3), some (.int v1), some (.int v2), some (.int v3)] [] μ
set_option maxRecDepth 100000 in
theorem eX4_inBlock (v1 : Int32) (v2 : Int32) (μ : gMem) : mX4_inBlock [.ref 3, .int v1, .int v2] μ = rX4_inBlock_2 v1 v2 0 μ := (g_cut dtX4_inBlock [2] 29 0 _ [] μ).trans rfl
set_option maxRecDepth 100000 in
theorem eX4_inBlock_2 (v1 : Int32) (v2 : Int32) (v3 : Int32) (μ : gMem) : rX4_inBlock_2 v1 v2 v3 μ = (if (μ.1 3 2) ≤ v3 then some (some (.int (-1)), μ) else (if g_in v3 60 = true then (if (μ.1 12 (Int32.toNatClampNeg v3)) = v1 then (g_ci (mX4_block [.ref 3, .int v3] μ) (fun a1 u1 => (if ((g_ushr a1 v2) &&& 1) = 1 then some (some (.int v3), u1) else rX4_inBlock_2 v1 v2 (v3 + 1) u1))) else rX4_inBlock_2 v1 v2 (v3 + 1) μ) else none)) := (g_cut dtX4_inBlock [2] 29 2 _ [] μ).trans rfl
noncomputable def rX4_inState_4 (v1 : Int32) (v2 : Int32) (v3 : Int32) (μ : gMem) : Option gR := g_run PX4_inState 4 [some (.ref 3), some (.int v1), some (.int v2), some (.int v3)] [] μ
set_option maxRecDepth 100000 in
theorem eX4_inState (v1 : Int32) (μ : gMem) : mX4_inState [.ref 3, .int v1] μ = rX4_inState_4 v1 0 0 μ := (g_cut dtX4_inState [4] 21 0 _ [] μ).trans rfl
set_option maxRecDepth 100000 in
theorem eX4_inState_4 (v1 : Int32) (v2 : Int32) (v3 : Int32) (μ : gMem) : rX4_inState_4 v1 v2 v3 μ = (if (μ.1 3 2) ≤ v3 then some (some (.int v2), μ) else (if g_in v3 60 = true then (if (μ.1 9 (Int32.toNatClampNeg v3)) = v1 then rX4_inState_4 v1 (v2 + 1) (v3 + 1) μ else rX4_inState_4 v1 v2 (v3 + 1) μ) else none)) := (g_cut dtX4_inState [4] 21 4 _ [] μ).trans rfl
noncomputable def rX4_inSlot_4 (v1 : Int32) (v2 : Int32) (v3 : Int32) (μ : gMem) : Option gR := g_run PX4_inSlot 4 [some (.ref 3), some (.int v1), some (.int v2), some (.int v3)] [] μ
set_option maxRecDepth 100000 in
theorem eX4_inSlot (v1 : Int32) (μ : gMem) : mX4_inSlot [.ref 3, .int v1] μ = rX4_inSlot_4 v1 0 0 μ := (g_cut dtX4_inSlot [4] 21 0 _ [] μ).trans rfl
set_option maxRecDepth 100000 in
theorem eX4_inSlot_4 (v1 : Int32) (v2 : Int32) (v3 : Int32) (μ : gMem) : rX4_inSlot_4 v1 v2 v3 μ = (if (μ.1 3 2) ≤ v3 then some (some (.int v2), μ) else (if g_in v3 60 = true then (if (μ.1 12 (Int32.toNatClampNeg v3)) = v1 then rX4_inSlot_4 v1 (v2 + 1) (v3 + 1) μ else rX4_inSlot_4 v1 v2 (v3 + 1) μ) else none)) := (g_cut dtX4_inSlot [4] 21 4 _ [] μ).trans rfl
noncomputable def rX4_ofUser_6 (v1 : Int32) (v2 : Int32) (v3 : Int32) (v4 : Int32) (v5 : Int32) (μ : gMem) : Option gR := g_run PX4_ofUser 6 [some (.ref 3), some (.int v1), some (.int v2), some (.int v3), some (.int v4), some (.int v5)] [] μ
set_option maxRecDepth 100000 in
theorem eX4_ofUser (v1 : Int32) (v2 : Int32) (v3 : Int32) (μ : gMem) : mX4_ofUser [.ref 3, .int v1, .int v2, .int v3] μ = rX4_ofUser_6 v1 v2 v3 0 0 μ := (g_cut dtX4_ofUser [6] 37 0 _ [] μ).trans rfl
set_option maxRecDepth 100000 in
theorem eX4_ofUser_6 (v1 : Int32) (v2 : Int32) (v3 : Int32) (v4 : Int32) (v5 : Int32) (μ : gMem) : rX4_ofUser_6 v1 v2 v3 v4 v5 μ = (if (μ.1 3 2) ≤ v5 then some (some (.int v4), μ) else (if g_in v5 60 = true then (if (μ.1 7 (Int32.toNatClampNeg v5)) = v1 then (if g_in v5 60 = true then (if (μ.1 9 (Int32.toNatClampNeg v5)) < v2 then rX4_ofUser_6 v1 v2 v3 v4 (v5 + 1) μ else (if g_in v5 60 = true then (if v3 < (μ.1 9 (Int32.toNatClampNeg v5)) then rX4_ofUser_6 v1 v2 v3 v4 (v5 + 1) μ else rX4_ofUser_6 v1 v2 v3 (v4 + 1) (v5 + 1) μ) else none)) else none) else rX4_ofUser_6 v1 v2 v3 v4 (v5 + 1) μ) else none)) := (g_cut dtX4_ofUser [6] 37 6 _ [] μ).trans rfl
noncomputable def rX4_waitedOf_4 (v1 : Int32) (v2 : Int32) (v3 : Int32) (μ : gMem) : Option gR := g_run PX4_waitedOf 4 [some (.ref 3), some (.int v1), some (.int v2), some (.int v3)] [] μ
set_option maxRecDepth 100000 in
theorem eX4_waitedOf (v1 : Int32) (μ : gMem) : mX4_waitedOf [.ref 3, .int v1] μ = rX4_waitedOf_4 v1 0 0 μ := (g_cut dtX4_waitedOf [4] 44 0 _ [] μ).trans rfl
set_option maxRecDepth 100000 in
theorem eX4_waitedOf_4 (v1 : Int32) (v2 : Int32) (v3 : Int32) (μ : gMem) : rX4_waitedOf_4 v1 v2 v3 μ = (if (μ.1 3 2) ≤ v3 then some (some (.int v2), μ) else (if g_in v3 60 = true then (if (μ.1 7 (Int32.toNatClampNeg v3)) = v1 then (if g_in v3 60 = true then (if (μ.1 19 (Int32.toNatClampNeg v3)) = (-1) then rX4_waitedOf_4 v1 v2 (v3 + 1) μ else (if g_in v3 60 = true then (if g_in v3 60 = true then rX4_waitedOf_4 v1 (v2 + ((μ.1 19 (Int32.toNatClampNeg v3)) - (μ.1 18 (Int32.toNatClampNeg v3)))) (v3 + 1) μ else none) else none)) else none) else rX4_waitedOf_4 v1 v2 (v3 + 1) μ) else none)) := (g_cut dtX4_waitedOf [4] 44 4 _ [] μ).trans rfl
noncomputable def rX4_leastLeft_4 (v1 : Int32) (v2 : Int32) (μ : gMem) : Option gR := g_run PX4_leastLeft 4 [some (.ref 3), some (.int v1), some (.int v2)] [] μ
set_option maxRecDepth 100000 in
theorem eX4_leastLeft  (μ : gMem) : mX4_leastLeft [.ref 3] μ = rX4_leastLeft_4 (-1) 0 μ := (g_cut dtX4_leastLeft [4] 40 0 _ [] μ).trans rfl
set_option maxRecDepth 100000 in
theorem eX4_leastLeft_4 (v1 : Int32) (v2 : Int32) (μ : gMem) : rX4_leastLeft_4 v1 v2 μ = (if (μ.1 3 2) ≤ v2 then (g_ci (mJ9_max_7cf53 [.int v1, .int 0] μ) (fun a1 u1 => some (some (.int a1), u1))) else (if g_in v2 60 = true then (if (μ.1 9 (Int32.toNatClampNeg v2)) = 2 then (if v1 = (-1) then (if g_in v2 60 = true then rX4_leastLeft_4 (μ.1 10 (Int32.toNatClampNeg v2)) (v2 + 1) μ else none) else (if g_in v2 60 = true then (if v1 ≤ (μ.1 10 (Int32.toNatClampNeg v2)) then rX4_leastLeft_4 v1 (v2 + 1) μ else (if g_in v2 60 = true then rX4_leastLeft_4 (μ.1 10 (Int32.toNatClampNeg v2)) (v2 + 1) μ else none)) else none)) else rX4_leastLeft_4 v1 (v2 + 1) μ) else none)) := (g_cut dtX4_leastLeft [4] 40 4 _ [] μ).trans rfl
noncomputable def rX7_peakColumn_4 (v1 : Int32) (v2 : Int32) (μ : gMem) : Option gR := g_run PX7_peakColumn 4 [some (.ref 29), some (.int v1), some (.int v2)] [] μ
set_option maxRecDepth 100000 in
theorem eX7_peakColumn  (μ : gMem) : mX7_peakColumn [.ref 29] μ = rX7_peakColumn_4 0 1 μ := (g_cut dtX7_peakColumn [4] 20 0 _ [] μ).trans rfl
set_option maxRecDepth 100000 in
theorem eX7_peakColumn_4 (v1 : Int32) (v2 : Int32) (μ : gMem) : rX7_peakColumn_4 v1 v2 μ = (if 32 ≤ v2 then some (some (.int v1), μ) else (g_ci (mX7_loadOf [.ref 29, .int v2] μ) (fun a1 u1 => (g_ci (mX7_loadOf [.ref 29, .int v1] u1) (fun a2 u2 => (if a1 ≤ a2 then rX7_peakColumn_4 v1 (v2 + 1) u2 else rX7_peakColumn_4 v2 (v2 + 1) u2)))))) := (g_cut dtX7_peakColumn [4] 20 4 _ [] μ).trans rfl
set_option maxRecDepth 100000 in
theorem eX7_peak  (μ : gMem) : mX7_peak [.ref 29] μ = (g_ci (mX7_peakColumn [.ref 29] μ) (fun a1 u1 => (g_ci (mX7_loadOf [.ref 29, .int a1] u1) (fun a2 u2 => some (some (.int a2), u2))))) := (g_cut dtX7_peak [] 5 0 _ [] μ).trans rfl
set_option maxRecDepth 100000 in
theorem eX6_valueAt_39 (v1 : Int32) (v2 : Int32) (v3 : Int32) (μ : gMem) : mX6_valueAt [.ref 39, .int v1, .int v2, .int v3] μ = (if v1 < 0 then some (some (.int (-1)), μ) else (g_ci (mJ9_min_7cf53 [.int (μ.1 39 1), .int 60] μ) (fun a1 u1 => (if v1 < a1 then (if v2 < 0 then some (some (.int (-1)), u1) else (g_ci (mJ9_min_7cf53 [.int v3, .int 5] u1) (fun a2 u2 => (if v2 < a2 then (if g_in v2 5 = true then (g_ci (mJ9_floorMod_7cf53 [.int (((u2.1 39 1) - 1) - v1), .int 60] u2) (fun a3 u3 => (if g_in a3 (gLen LB 0 (40 + 1 + (Int32.toNatClampNeg v2))) = true then some (some (.int (u3.1 (40 + 1 + (Int32.toNatClampNeg v2)) (Int32.toNatClampNeg a3))), u3) else none))) else none) else some (some (.int (-1)), u2))))) else some (some (.int (-1)), u1))))) := (g_cut dtX6_valueAt [] 33 0 _ [] μ).trans rfl
set_option maxRecDepth 100000 in
theorem eX6_valueAt_46 (v1 : Int32) (v2 : Int32) (v3 : Int32) (μ : gMem) : mX6_valueAt [.ref 46, .int v1, .int v2, .int v3] μ = (if v1 < 0 then some (some (.int (-1)), μ) else (g_ci (mJ9_min_7cf53 [.int (μ.1 46 1), .int 60] μ) (fun a1 u1 => (if v1 < a1 then (if v2 < 0 then some (some (.int (-1)), u1) else (g_ci (mJ9_min_7cf53 [.int v3, .int 5] u1) (fun a2 u2 => (if v2 < a2 then (if g_in v2 5 = true then (g_ci (mJ9_floorMod_7cf53 [.int (((u2.1 46 1) - 1) - v1), .int 60] u2) (fun a3 u3 => (if g_in a3 (gLen LB 0 (47 + 1 + (Int32.toNatClampNeg v2))) = true then some (some (.int (u3.1 (47 + 1 + (Int32.toNatClampNeg v2)) (Int32.toNatClampNeg a3))), u3) else none))) else none) else some (some (.int (-1)), u2))))) else some (some (.int (-1)), u1))))) := (g_cut dtX6_valueAt [] 33 0 _ [] μ).trans rfl
set_option maxRecDepth 100000 in
theorem eX8_promise (v1 : Int32) (v2 : Int32) (μ : gMem) : mX8_promise [.ref 25, .int v1, .int v2] μ = (if v1 < 0 then some (some (.int 0), μ) else (if 6 ≤ v1 then some (some (.int 0), μ) else (if v2 < 1 then some (some (.int 0), μ) else (if v2 ≤ 9 then (if g_in v1 6 = true then some (some (.int 1), (gwI μ 26 (Int32.toNatClampNeg v1) v2)) else none) else some (some (.int 0), μ))))) := (g_cut dtX8_promise [] 20 0 _ [] μ).trans rfl
noncomputable def rX8_owed_8 (v1 : Int32) (v2 : Int64) (v4 : Int64) (v6 : Int32) (μ : gMem) : Option gR := g_run PX8_owed 8 [some (.ref 25), some (.int v1), some (.long v2), none, some (.long v4), none, some (.int v6), none] [] μ
set_option maxRecDepth 100000 in
theorem eX8_owed (v1 : Int32) (μ : gMem) : mX8_owed [.ref 25, .int v1] μ = rX8_owed_8 v1 0 0 0 μ := (g_cut dtX8_owed [8] 52 0 _ [] μ).trans rfl
set_option maxRecDepth 100000 in
theorem eX8_owed_8 (v1 : Int32) (v2 : Int64) (v4 : Int64) (v6 : Int32) (μ : gMem) : rX8_owed_8 v1 v2 v4 v6 μ = (if 6 ≤ v6 then (if (lg_cmp v4 0) ≤ 0 then (if g_in v1 6 = true then some (some (.int (Int64.toInt32 (0 - (Int32.toInt64 (μ.1 27 (Int32.toNatClampNeg v1)))))), μ) else none) else (if g_in v1 6 = true then (if v4 = 0 then none else (if g_in v1 6 = true then some (some (.int (Int64.toInt32 (((v2 * (Int32.toInt64 (μ.1 26 (Int32.toNatClampNeg v1)))) / v4) - (Int32.toInt64 (μ.1 27 (Int32.toNatClampNeg v1)))))), μ) else none)) else none)) else (if g_in v6 6 = true then (if g_in v6 6 = true then rX8_owed_8 v1 (v2 + (Int32.toInt64 (μ.1 27 (Int32.toNatClampNeg v6)))) (v4 + (Int32.toInt64 (μ.1 26 (Int32.toNatClampNeg v6)))) (v6 + 1) μ else none) else none)) := (g_cut dtX8_owed [8] 52 8 _ [] μ).trans rfl
end
