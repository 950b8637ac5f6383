-- ===== PART A: goes FIRST, ahead of the names: the tables' words, and 'selects' of the private methods out of them =====
/-- a private method of a class that the tables say can be made, by its rows of tables_1 -/
def lw_okq (q : MethodName × Nat) : Prop := (q.1.cls ≠ "java/lang/invoke/MethodHandle" ∧ q.1.cls ≠ "java/lang/invoke/VarHandle") ∧ Cond.instantiable q.1.cls q.2 ∈ tables_1 ∧ Cond.privateMethod q.1 ∈ tables_1 ∧ Cond.instanceMethod q.1 ∈ tables_1
theorem lw_p0 : lw_okq (⟨"SnowTracks$Tape", "reads", "(C)Z"⟩, 7) := ⟨⟨by decide +kernel, by decide +kernel⟩, List.mem_of_getElem? (i := 29) (by decide +kernel), List.mem_of_getElem? (i := 315) (by decide +kernel), List.mem_of_getElem? (i := 316) (by decide +kernel)⟩
theorem lw_p1 : lw_okq (⟨"SnowTracks$Tape", "skipBlanks", "()V"⟩, 7) := ⟨⟨by decide +kernel, by decide +kernel⟩, List.mem_of_getElem? (i := 29) (by decide +kernel), List.mem_of_getElem? (i := 319) (by decide +kernel), List.mem_of_getElem? (i := 320) (by decide +kernel)⟩
theorem lw_p2 : lw_okq (⟨"SnowTracks$Tape", "readsNumber", "(I)Z"⟩, 7) := ⟨⟨by decide +kernel, by decide +kernel⟩, List.mem_of_getElem? (i := 29) (by decide +kernel), List.mem_of_getElem? (i := 327) (by decide +kernel), List.mem_of_getElem? (i := 328) (by decide +kernel)⟩
theorem lw_p3 : lw_okq (⟨"SnowTracks$Tape", "readsMoves", "()Z"⟩, 7) := ⟨⟨by decide +kernel, by decide +kernel⟩, List.mem_of_getElem? (i := 29) (by decide +kernel), List.mem_of_getElem? (i := 334) (by decide +kernel), List.mem_of_getElem? (i := 335) (by decide +kernel)⟩
theorem lw_p4 : lw_okq (⟨"SnowTracks", "cellAt", "(II)I"⟩, 18) := ⟨⟨by decide +kernel, by decide +kernel⟩, List.mem_of_getElem? (i := 21) (by decide +kernel), List.mem_of_getElem? (i := 346) (by decide +kernel), List.mem_of_getElem? (i := 347) (by decide +kernel)⟩
theorem lw_p5 : lw_okq (⟨"SnowTracks$Walk", "leavePrint", "()V"⟩, 9) := ⟨⟨by decide +kernel, by decide +kernel⟩, List.mem_of_getElem? (i := 344) (by decide +kernel), List.mem_of_getElem? (i := 357) (by decide +kernel), List.mem_of_getElem? (i := 358) (by decide +kernel)⟩
theorem lw_p6 : lw_okq (⟨"SnowTracks$Player", "move", "(LSnowTracks$Walk;I)V"⟩, 6) := ⟨⟨by decide +kernel, by decide +kernel⟩, List.mem_of_getElem? (i := 175) (by decide +kernel), List.mem_of_getElem? (i := 404) (by decide +kernel), List.mem_of_getElem? (i := 405) (by decide +kernel)⟩
theorem lw_p7 : lw_okq (⟨"SnowTracks$Player", "nextCell", "(II)I"⟩, 6) := ⟨⟨by decide +kernel, by decide +kernel⟩, List.mem_of_getElem? (i := 175) (by decide +kernel), List.mem_of_getElem? (i := 416) (by decide +kernel), List.mem_of_getElem? (i := 417) (by decide +kernel)⟩
theorem lw_p8 : lw_okq (⟨"SnowTracks", "walkOf", "(I)LSnowTracks$Walk;"⟩, 18) := ⟨⟨by decide +kernel, by decide +kernel⟩, List.mem_of_getElem? (i := 21) (by decide +kernel), List.mem_of_getElem? (i := 428) (by decide +kernel), List.mem_of_getElem? (i := 429) (by decide +kernel)⟩
theorem lw_p9 : lw_okq (⟨"SnowTracks", "printsIn", "(II)Z"⟩, 18) := ⟨⟨by decide +kernel, by decide +kernel⟩, List.mem_of_getElem? (i := 21) (by decide +kernel), List.mem_of_getElem? (i := 445) (by decide +kernel), List.mem_of_getElem? (i := 446) (by decide +kernel)⟩
theorem lw_p10 : lw_okq (⟨"SnowTracks", "tellAbove", "(IIII)I"⟩, 18) := ⟨⟨by decide +kernel, by decide +kernel⟩, List.mem_of_getElem? (i := 21) (by decide +kernel), List.mem_of_getElem? (i := 456) (by decide +kernel), List.mem_of_getElem? (i := 457) (by decide +kernel)⟩
theorem lw_p11 : lw_okq (⟨"SnowTracks", "isCrossing", "(III)Z"⟩, 18) := ⟨⟨by decide +kernel, by decide +kernel⟩, List.mem_of_getElem? (i := 21) (by decide +kernel), List.mem_of_getElem? (i := 460) (by decide +kernel), List.mem_of_getElem? (i := 461) (by decide +kernel)⟩
theorem lw_p12 : lw_okq (⟨"SnowTracks", "leadToLieAbove", "(III)I"⟩, 18) := ⟨⟨by decide +kernel, by decide +kernel⟩, List.mem_of_getElem? (i := 21) (by decide +kernel), List.mem_of_getElem? (i := 467) (by decide +kernel), List.mem_of_getElem? (i := 468) (by decide +kernel)⟩
theorem lw_p13 : lw_okq (⟨"SnowTracks", "keep", "(IIIII)I"⟩, 18) := ⟨⟨by decide +kernel, by decide +kernel⟩, List.mem_of_getElem? (i := 21) (by decide +kernel), List.mem_of_getElem? (i := 472) (by decide +kernel), List.mem_of_getElem? (i := 473) (by decide +kernel)⟩
theorem lw_p14 : lw_okq (⟨"SnowTracks", "tellPrint", "(IIIII)I"⟩, 18) := ⟨⟨by decide +kernel, by decide +kernel⟩, List.mem_of_getElem? (i := 21) (by decide +kernel), List.mem_of_getElem? (i := 480) (by decide +kernel), List.mem_of_getElem? (i := 481) (by decide +kernel)⟩
theorem lw_p15 : lw_okq (⟨"SnowTracks", "tellBegan", "(IIII)I"⟩, 18) := ⟨⟨by decide +kernel, by decide +kernel⟩, List.mem_of_getElem? (i := 21) (by decide +kernel), List.mem_of_getElem? (i := 488) (by decide +kernel), List.mem_of_getElem? (i := 489) (by decide +kernel)⟩
def lw_privs_1 : List (MethodName × Nat) := [(⟨"SnowTracks$Tape", "reads", "(C)Z"⟩, 7), (⟨"SnowTracks$Tape", "skipBlanks", "()V"⟩, 7), (⟨"SnowTracks$Tape", "readsNumber", "(I)Z"⟩, 7), (⟨"SnowTracks$Tape", "readsMoves", "()Z"⟩, 7), (⟨"SnowTracks", "cellAt", "(II)I"⟩, 18), (⟨"SnowTracks$Walk", "leavePrint", "()V"⟩, 9), (⟨"SnowTracks$Player", "move", "(LSnowTracks$Walk;I)V"⟩, 6), (⟨"SnowTracks$Player", "nextCell", "(II)I"⟩, 6), (⟨"SnowTracks", "walkOf", "(I)LSnowTracks$Walk;"⟩, 18), (⟨"SnowTracks", "printsIn", "(II)Z"⟩, 18), (⟨"SnowTracks", "tellAbove", "(IIII)I"⟩, 18), (⟨"SnowTracks", "isCrossing", "(III)Z"⟩, 18), (⟨"SnowTracks", "leadToLieAbove", "(III)I"⟩, 18), (⟨"SnowTracks", "keep", "(IIIII)I"⟩, 18), (⟨"SnowTracks", "tellPrint", "(IIIII)I"⟩, 18), (⟨"SnowTracks", "tellBegan", "(IIII)I"⟩, 18)]
theorem lw_r1 : ∀ q ∈ lw_privs_1, lw_okq q := List.forall_mem_cons.mpr ⟨lw_p0, List.forall_mem_cons.mpr ⟨lw_p1, List.forall_mem_cons.mpr ⟨lw_p2, List.forall_mem_cons.mpr ⟨lw_p3, List.forall_mem_cons.mpr ⟨lw_p4, List.forall_mem_cons.mpr ⟨lw_p5, List.forall_mem_cons.mpr ⟨lw_p6, List.forall_mem_cons.mpr ⟨lw_p7, List.forall_mem_cons.mpr ⟨lw_p8, List.forall_mem_cons.mpr ⟨lw_p9, List.forall_mem_cons.mpr ⟨lw_p10, List.forall_mem_cons.mpr ⟨lw_p11, List.forall_mem_cons.mpr ⟨lw_p12, List.forall_mem_cons.mpr ⟨lw_p13, List.forall_mem_cons.mpr ⟨lw_p14, List.forall_mem_cons.mpr ⟨lw_p15, fun _ h => absurd h List.not_mem_nil⟩⟩⟩⟩⟩⟩⟩⟩⟩⟩⟩⟩⟩⟩⟩⟩
theorem lw_p16 : lw_okq (⟨"SnowTracks", "tellBehind", "(IIII)I"⟩, 18) := ⟨⟨by decide +kernel, by decide +kernel⟩, List.mem_of_getElem? (i := 21) (by decide +kernel), List.mem_of_getElem? (i := 492) (by decide +kernel), List.mem_of_getElem? (i := 493) (by decide +kernel)⟩
theorem lw_p17 : lw_okq (⟨"SnowTracks", "isSet", "(I)Z"⟩, 18) := ⟨⟨by decide +kernel, by decide +kernel⟩, List.mem_of_getElem? (i := 21) (by decide +kernel), List.mem_of_getElem? (i := 508) (by decide +kernel), List.mem_of_getElem? (i := 509) (by decide +kernel)⟩
theorem lw_p18 : lw_okq (⟨"SnowTracks", "drawNet", "(I)I"⟩, 18) := ⟨⟨by decide +kernel, by decide +kernel⟩, List.mem_of_getElem? (i := 21) (by decide +kernel), List.mem_of_getElem? (i := 512) (by decide +kernel), List.mem_of_getElem? (i := 513) (by decide +kernel)⟩
theorem lw_p19 : lw_okq (⟨"SnowTracks$Net", "widen", "(III)V"⟩, 2) := ⟨⟨by decide +kernel, by decide +kernel⟩, List.mem_of_getElem? (i := 67) (by decide +kernel), List.mem_of_getElem? (i := 545) (by decide +kernel), List.mem_of_getElem? (i := 546) (by decide +kernel)⟩
theorem lw_p20 : lw_okq (⟨"SnowTracks$CoreSearch", "goOver", "(LSnowTracks$Net;III)V"⟩, 2) := ⟨⟨by decide +kernel, by decide +kernel⟩, List.mem_of_getElem? (i := 82) (by decide +kernel), List.mem_of_getElem? (i := 571) (by decide +kernel), List.mem_of_getElem? (i := 572) (by decide +kernel)⟩
theorem lw_p21 : lw_okq (⟨"SnowTracks$CoreSearch", "isRoundTripAbove", "(I)Z"⟩, 2) := ⟨⟨by decide +kernel, by decide +kernel⟩, List.mem_of_getElem? (i := 82) (by decide +kernel), List.mem_of_getElem? (i := 579) (by decide +kernel), List.mem_of_getElem? (i := 580) (by decide +kernel)⟩
theorem lw_p22 : lw_okq (⟨"SnowTracks", "withoutWords", "(II)I"⟩, 18) := ⟨⟨by decide +kernel, by decide +kernel⟩, List.mem_of_getElem? (i := 21) (by decide +kernel), List.mem_of_getElem? (i := 587) (by decide +kernel), List.mem_of_getElem? (i := 588) (by decide +kernel)⟩
theorem lw_p23 : lw_okq (⟨"SnowTracks", "speakersOf", "(I)I"⟩, 18) := ⟨⟨by decide +kernel, by decide +kernel⟩, List.mem_of_getElem? (i := 21) (by decide +kernel), List.mem_of_getElem? (i := 591) (by decide +kernel), List.mem_of_getElem? (i := 592) (by decide +kernel)⟩
theorem lw_p24 : lw_okq (⟨"SnowTracks", "canBe", "(I)Z"⟩, 18) := ⟨⟨by decide +kernel, by decide +kernel⟩, List.mem_of_getElem? (i := 21) (by decide +kernel), List.mem_of_getElem? (i := 602) (by decide +kernel), List.mem_of_getElem? (i := 603) (by decide +kernel)⟩
theorem lw_p25 : lw_okq (⟨"SnowTracks", "verdict", "(III)I"⟩, 18) := ⟨⟨by decide +kernel, by decide +kernel⟩, List.mem_of_getElem? (i := 21) (by decide +kernel), List.mem_of_getElem? (i := 636) (by decide +kernel), List.mem_of_getElem? (i := 637) (by decide +kernel)⟩
theorem lw_p26 : lw_okq (⟨"SnowTracks", "lookAtPair", "(II)V"⟩, 18) := ⟨⟨by decide +kernel, by decide +kernel⟩, List.mem_of_getElem? (i := 21) (by decide +kernel), List.mem_of_getElem? (i := 660) (by decide +kernel), List.mem_of_getElem? (i := 661) (by decide +kernel)⟩
theorem lw_p27 : lw_okq (⟨"SnowTracks", "lookAtCrossing", "(III)V"⟩, 18) := ⟨⟨by decide +kernel, by decide +kernel⟩, List.mem_of_getElem? (i := 21) (by decide +kernel), List.mem_of_getElem? (i := 664) (by decide +kernel), List.mem_of_getElem? (i := 665) (by decide +kernel)⟩
theorem lw_p28 : lw_okq (⟨"SnowTracks$ChainSearch", "link", "(III)V"⟩, 5) := ⟨⟨by decide +kernel, by decide +kernel⟩, List.mem_of_getElem? (i := 95) (by decide +kernel), List.mem_of_getElem? (i := 708) (by decide +kernel), List.mem_of_getElem? (i := 709) (by decide +kernel)⟩
theorem lw_p29 : lw_okq (⟨"SnowTracks$ChainSearch", "mayFollow", "(LSnowTracks$Net;II)Z"⟩, 5) := ⟨⟨by decide +kernel, by decide +kernel⟩, List.mem_of_getElem? (i := 95) (by decide +kernel), List.mem_of_getElem? (i := 714) (by decide +kernel), List.mem_of_getElem? (i := 715) (by decide +kernel)⟩
theorem lw_p30 : lw_okq (⟨"SnowTracks", "startAt", "(I)I"⟩, 18) := ⟨⟨by decide +kernel, by decide +kernel⟩, List.mem_of_getElem? (i := 21) (by decide +kernel), List.mem_of_getElem? (i := 729) (by decide +kernel), List.mem_of_getElem? (i := 730) (by decide +kernel)⟩
theorem lw_p31 : lw_okq (⟨"SnowTracks", "showAll", "(I)V"⟩, 18) := ⟨⟨by decide +kernel, by decide +kernel⟩, List.mem_of_getElem? (i := 21) (by decide +kernel), List.mem_of_getElem? (i := 753) (by decide +kernel), List.mem_of_getElem? (i := 754) (by decide +kernel)⟩
def lw_privs_2 : List (MethodName × Nat) := [(⟨"SnowTracks", "tellBehind", "(IIII)I"⟩, 18), (⟨"SnowTracks", "isSet", "(I)Z"⟩, 18), (⟨"SnowTracks", "drawNet", "(I)I"⟩, 18), (⟨"SnowTracks$Net", "widen", "(III)V"⟩, 2), (⟨"SnowTracks$CoreSearch", "goOver", "(LSnowTracks$Net;III)V"⟩, 2), (⟨"SnowTracks$CoreSearch", "isRoundTripAbove", "(I)Z"⟩, 2), (⟨"SnowTracks", "withoutWords", "(II)I"⟩, 18), (⟨"SnowTracks", "speakersOf", "(I)I"⟩, 18), (⟨"SnowTracks", "canBe", "(I)Z"⟩, 18), (⟨"SnowTracks", "verdict", "(III)I"⟩, 18), (⟨"SnowTracks", "lookAtPair", "(II)V"⟩, 18), (⟨"SnowTracks", "lookAtCrossing", "(III)V"⟩, 18), (⟨"SnowTracks$ChainSearch", "link", "(III)V"⟩, 5), (⟨"SnowTracks$ChainSearch", "mayFollow", "(LSnowTracks$Net;II)Z"⟩, 5), (⟨"SnowTracks", "startAt", "(I)I"⟩, 18), (⟨"SnowTracks", "showAll", "(I)V"⟩, 18)]
theorem lw_r2 : ∀ q ∈ lw_privs_2, lw_okq q := List.forall_mem_cons.mpr ⟨lw_p16, List.forall_mem_cons.mpr ⟨lw_p17, List.forall_mem_cons.mpr ⟨lw_p18, List.forall_mem_cons.mpr ⟨lw_p19, List.forall_mem_cons.mpr ⟨lw_p20, List.forall_mem_cons.mpr ⟨lw_p21, List.forall_mem_cons.mpr ⟨lw_p22, List.forall_mem_cons.mpr ⟨lw_p23, List.forall_mem_cons.mpr ⟨lw_p24, List.forall_mem_cons.mpr ⟨lw_p25, List.forall_mem_cons.mpr ⟨lw_p26, List.forall_mem_cons.mpr ⟨lw_p27, List.forall_mem_cons.mpr ⟨lw_p28, List.forall_mem_cons.mpr ⟨lw_p29, List.forall_mem_cons.mpr ⟨lw_p30, List.forall_mem_cons.mpr ⟨lw_p31, fun _ h => absurd h List.not_mem_nil⟩⟩⟩⟩⟩⟩⟩⟩⟩⟩⟩⟩⟩⟩⟩⟩
theorem lw_p32 : lw_okq (⟨"SnowTracks", "latestSnow", "(I)I"⟩, 18) := ⟨⟨by decide +kernel, by decide +kernel⟩, List.mem_of_getElem? (i := 21) (by decide +kernel), List.mem_of_getElem? (i := 758) (by decide +kernel), List.mem_of_getElem? (i := 759) (by decide +kernel)⟩
theorem lw_p33 : lw_okq (⟨"SnowTracks", "showWalk", "(ILSnowTracks$Walk;II)V"⟩, 18) := ⟨⟨by decide +kernel, by decide +kernel⟩, List.mem_of_getElem? (i := 21) (by decide +kernel), List.mem_of_getElem? (i := 762) (by decide +kernel), List.mem_of_getElem? (i := 763) (by decide +kernel)⟩
theorem lw_p34 : lw_okq (⟨"SnowTracks$RowSearch", "extend", "(III)V"⟩, 5) := ⟨⟨by decide +kernel, by decide +kernel⟩, List.mem_of_getElem? (i := 120) (by decide +kernel), List.mem_of_getElem? (i := 785) (by decide +kernel), List.mem_of_getElem? (i := 786) (by decide +kernel)⟩
theorem lw_p35 : lw_okq (⟨"SnowTracks$RowSearch", "rises", "(III)Z"⟩, 5) := ⟨⟨by decide +kernel, by decide +kernel⟩, List.mem_of_getElem? (i := 120) (by decide +kernel), List.mem_of_getElem? (i := 790) (by decide +kernel), List.mem_of_getElem? (i := 791) (by decide +kernel)⟩
theorem lw_p36 : lw_okq (⟨"java/lang/Throwable", "fillInStackTrace", "(I)Ljava/lang/Throwable;"⟩, 6) := ⟨⟨by decide +kernel, by decide +kernel⟩, List.mem_of_getElem? (i := 853) (by decide +kernel), List.mem_of_getElem? (i := 851) (by decide +kernel), List.mem_of_getElem? (i := 852) (by decide +kernel)⟩
theorem lw_p37 : lw_okq (⟨"SnowTracksModel", "read", "(Z)I"⟩, 41) := ⟨⟨by decide +kernel, by decide +kernel⟩, List.mem_of_getElem? (i := 878) (by decide +kernel), List.mem_of_getElem? (i := 1032) (by decide +kernel), List.mem_of_getElem? (i := 1033) (by decide +kernel)⟩
theorem lw_p38 : lw_okq (⟨"SnowTracksModel", "sign", "(I)V"⟩, 41) := ⟨⟨by decide +kernel, by decide +kernel⟩, List.mem_of_getElem? (i := 878) (by decide +kernel), List.mem_of_getElem? (i := 1036) (by decide +kernel), List.mem_of_getElem? (i := 1037) (by decide +kernel)⟩
theorem lw_p39 : lw_okq (⟨"SnowTracksModel", "look", "()I"⟩, 41) := ⟨⟨by decide +kernel, by decide +kernel⟩, List.mem_of_getElem? (i := 878) (by decide +kernel), List.mem_of_getElem? (i := 1040) (by decide +kernel), List.mem_of_getElem? (i := 1041) (by decide +kernel)⟩
theorem lw_p40 : lw_okq (⟨"SnowTracksModel", "here", "()I"⟩, 41) := ⟨⟨by decide +kernel, by decide +kernel⟩, List.mem_of_getElem? (i := 878) (by decide +kernel), List.mem_of_getElem? (i := 1044) (by decide +kernel), List.mem_of_getElem? (i := 1045) (by decide +kernel)⟩
theorem lw_p41 : lw_okq (⟨"SnowTracksModel", "bad", "()V"⟩, 41) := ⟨⟨by decide +kernel, by decide +kernel⟩, List.mem_of_getElem? (i := 878) (by decide +kernel), List.mem_of_getElem? (i := 1048) (by decide +kernel), List.mem_of_getElem? (i := 1049) (by decide +kernel)⟩
theorem lw_p42 : lw_okq (⟨"SnowTracksModel", "number", "(I)I"⟩, 41) := ⟨⟨by decide +kernel, by decide +kernel⟩, List.mem_of_getElem? (i := 878) (by decide +kernel), List.mem_of_getElem? (i := 1052) (by decide +kernel), List.mem_of_getElem? (i := 1053) (by decide +kernel)⟩
theorem lw_p43 : lw_okq (⟨"SnowTracksModel", "moves", "(Z)V"⟩, 41) := ⟨⟨by decide +kernel, by decide +kernel⟩, List.mem_of_getElem? (i := 878) (by decide +kernel), List.mem_of_getElem? (i := 1059) (by decide +kernel), List.mem_of_getElem? (i := 1060) (by decide +kernel)⟩
theorem lw_p44 : lw_okq (⟨"SnowTracksModel", "move", "(IIZ)V"⟩, 41) := ⟨⟨by decide +kernel, by decide +kernel⟩, List.mem_of_getElem? (i := 878) (by decide +kernel), List.mem_of_getElem? (i := 1066) (by decide +kernel), List.mem_of_getElem? (i := 1067) (by decide +kernel)⟩
theorem lw_p45 : lw_okq (⟨"SnowTracksModel", "step", "(I)V"⟩, 41) := ⟨⟨by decide +kernel, by decide +kernel⟩, List.mem_of_getElem? (i := 878) (by decide +kernel), List.mem_of_getElem? (i := 1070) (by decide +kernel), List.mem_of_getElem? (i := 1071) (by decide +kernel)⟩
theorem lw_p46 : lw_okq (⟨"SnowTracksModel", "stand", "()V"⟩, 41) := ⟨⟨by decide +kernel, by decide +kernel⟩, List.mem_of_getElem? (i := 878) (by decide +kernel), List.mem_of_getElem? (i := 1077) (by decide +kernel), List.mem_of_getElem? (i := 1078) (by decide +kernel)⟩
theorem lw_p47 : lw_okq (⟨"SnowTracksModel", "isWalk", "(I)Z"⟩, 41) := ⟨⟨by decide +kernel, by decide +kernel⟩, List.mem_of_getElem? (i := 878) (by decide +kernel), List.mem_of_getElem? (i := 1089) (by decide +kernel), List.mem_of_getElem? (i := 1090) (by decide +kernel)⟩
def lw_privs_3 : List (MethodName × Nat) := [(⟨"SnowTracks", "latestSnow", "(I)I"⟩, 18), (⟨"SnowTracks", "showWalk", "(ILSnowTracks$Walk;II)V"⟩, 18), (⟨"SnowTracks$RowSearch", "extend", "(III)V"⟩, 5), (⟨"SnowTracks$RowSearch", "rises", "(III)Z"⟩, 5), (⟨"java/lang/Throwable", "fillInStackTrace", "(I)Ljava/lang/Throwable;"⟩, 6), (⟨"SnowTracksModel", "read", "(Z)I"⟩, 41), (⟨"SnowTracksModel", "sign", "(I)V"⟩, 41), (⟨"SnowTracksModel", "look", "()I"⟩, 41), (⟨"SnowTracksModel", "here", "()I"⟩, 41), (⟨"SnowTracksModel", "bad", "()V"⟩, 41), (⟨"SnowTracksModel", "number", "(I)I"⟩, 41), (⟨"SnowTracksModel", "moves", "(Z)V"⟩, 41), (⟨"SnowTracksModel", "move", "(IIZ)V"⟩, 41), (⟨"SnowTracksModel", "step", "(I)V"⟩, 41), (⟨"SnowTracksModel", "stand", "()V"⟩, 41), (⟨"SnowTracksModel", "isWalk", "(I)Z"⟩, 41)]
theorem lw_r3 : ∀ q ∈ lw_privs_3, lw_okq q := List.forall_mem_cons.mpr ⟨lw_p32, List.forall_mem_cons.mpr ⟨lw_p33, List.forall_mem_cons.mpr ⟨lw_p34, List.forall_mem_cons.mpr ⟨lw_p35, List.forall_mem_cons.mpr ⟨lw_p36, List.forall_mem_cons.mpr ⟨lw_p37, List.forall_mem_cons.mpr ⟨lw_p38, List.forall_mem_cons.mpr ⟨lw_p39, List.forall_mem_cons.mpr ⟨lw_p40, List.forall_mem_cons.mpr ⟨lw_p41, List.forall_mem_cons.mpr ⟨lw_p42, List.forall_mem_cons.mpr ⟨lw_p43, List.forall_mem_cons.mpr ⟨lw_p44, List.forall_mem_cons.mpr ⟨lw_p45, List.forall_mem_cons.mpr ⟨lw_p46, List.forall_mem_cons.mpr ⟨lw_p47, fun _ h => absurd h List.not_mem_nil⟩⟩⟩⟩⟩⟩⟩⟩⟩⟩⟩⟩⟩⟩⟩⟩
theorem lw_p48 : lw_okq (⟨"SnowTracksModel", "hasPrint", "(II)Z"⟩, 41) := ⟨⟨by decide +kernel, by decide +kernel⟩, List.mem_of_getElem? (i := 878) (by decide +kernel), List.mem_of_getElem? (i := 1093) (by decide +kernel), List.mem_of_getElem? (i := 1094) (by decide +kernel)⟩
theorem lw_p49 : lw_okq (⟨"SnowTracksModel", "cellAt", "(II)I"⟩, 41) := ⟨⟨by decide +kernel, by decide +kernel⟩, List.mem_of_getElem? (i := 878) (by decide +kernel), List.mem_of_getElem? (i := 1097) (by decide +kernel), List.mem_of_getElem? (i := 1098) (by decide +kernel)⟩
theorem lw_p50 : lw_okq (⟨"SnowTracksModel", "isCell", "(II)Z"⟩, 41) := ⟨⟨by decide +kernel, by decide +kernel⟩, List.mem_of_getElem? (i := 878) (by decide +kernel), List.mem_of_getElem? (i := 1109) (by decide +kernel), List.mem_of_getElem? (i := 1110) (by decide +kernel)⟩
theorem lw_p51 : lw_okq (⟨"SnowTracksModel", "latestIn", "(II)I"⟩, 41) := ⟨⟨by decide +kernel, by decide +kernel⟩, List.mem_of_getElem? (i := 878) (by decide +kernel), List.mem_of_getElem? (i := 1113) (by decide +kernel), List.mem_of_getElem? (i := 1114) (by decide +kernel)⟩
theorem lw_p52 : lw_okq (⟨"SnowTracksModel", "mayBe", "(IIIII)Z"⟩, 41) := ⟨⟨by decide +kernel, by decide +kernel⟩, List.mem_of_getElem? (i := 878) (by decide +kernel), List.mem_of_getElem? (i := 1125) (by decide +kernel), List.mem_of_getElem? (i := 1126) (by decide +kernel)⟩
theorem lw_p53 : lw_okq (⟨"SnowTracksModel", "hasLatest", "(III)Z"⟩, 41) := ⟨⟨by decide +kernel, by decide +kernel⟩, List.mem_of_getElem? (i := 878) (by decide +kernel), List.mem_of_getElem? (i := 1129) (by decide +kernel), List.mem_of_getElem? (i := 1130) (by decide +kernel)⟩
theorem lw_p54 : lw_okq (⟨"SnowTracksModel", "isSet", "(I)Z"⟩, 41) := ⟨⟨by decide +kernel, by decide +kernel⟩, List.mem_of_getElem? (i := 878) (by decide +kernel), List.mem_of_getElem? (i := 1146) (by decide +kernel), List.mem_of_getElem? (i := 1147) (by decide +kernel)⟩
theorem lw_p55 : lw_okq (⟨"SnowTracksModel", "canBe", "(I)Z"⟩, 41) := ⟨⟨by decide +kernel, by decide +kernel⟩, List.mem_of_getElem? (i := 878) (by decide +kernel), List.mem_of_getElem? (i := 1150) (by decide +kernel), List.mem_of_getElem? (i := 1151) (by decide +kernel)⟩
theorem lw_p56 : lw_okq (⟨"SnowTracksModel", "lay", "(I)V"⟩, 41) := ⟨⟨by decide +kernel, by decide +kernel⟩, List.mem_of_getElem? (i := 878) (by decide +kernel), List.mem_of_getElem? (i := 1154) (by decide +kernel), List.mem_of_getElem? (i := 1155) (by decide +kernel)⟩
theorem lw_p57 : lw_okq (⟨"SnowTracksModel", "begin", "()V"⟩, 41) := ⟨⟨by decide +kernel, by decide +kernel⟩, List.mem_of_getElem? (i := 878) (by decide +kernel), List.mem_of_getElem? (i := 1158) (by decide +kernel), List.mem_of_getElem? (i := 1159) (by decide +kernel)⟩
theorem lw_p58 : lw_okq (⟨"SnowTracksModel", "least", "(III)V"⟩, 41) := ⟨⟨by decide +kernel, by decide +kernel⟩, List.mem_of_getElem? (i := 878) (by decide +kernel), List.mem_of_getElem? (i := 1163) (by decide +kernel), List.mem_of_getElem? (i := 1164) (by decide +kernel)⟩
theorem lw_p59 : lw_okq (⟨"SnowTracksModel", "add", "(I)V"⟩, 41) := ⟨⟨by decide +kernel, by decide +kernel⟩, List.mem_of_getElem? (i := 878) (by decide +kernel), List.mem_of_getElem? (i := 1167) (by decide +kernel), List.mem_of_getElem? (i := 1168) (by decide +kernel)⟩
theorem lw_p60 : lw_okq (⟨"SnowTracksModel", "above", "(III)V"⟩, 41) := ⟨⟨by decide +kernel, by decide +kernel⟩, List.mem_of_getElem? (i := 878) (by decide +kernel), List.mem_of_getElem? (i := 1171) (by decide +kernel), List.mem_of_getElem? (i := 1172) (by decide +kernel)⟩
theorem lw_p61 : lw_okq (⟨"SnowTracksModel", "made", "(II)I"⟩, 41) := ⟨⟨by decide +kernel, by decide +kernel⟩, List.mem_of_getElem? (i := 878) (by decide +kernel), List.mem_of_getElem? (i := 1175) (by decide +kernel), List.mem_of_getElem? (i := 1176) (by decide +kernel)⟩
theorem lw_p62 : lw_okq (⟨"SnowTracksModel", "close", "()Z"⟩, 41) := ⟨⟨by decide +kernel, by decide +kernel⟩, List.mem_of_getElem? (i := 878) (by decide +kernel), List.mem_of_getElem? (i := 1179) (by decide +kernel), List.mem_of_getElem? (i := 1180) (by decide +kernel)⟩
theorem lw_p63 : lw_okq (⟨"SnowTracksModel", "wordsOf", "(I)I"⟩, 41) := ⟨⟨by decide +kernel, by decide +kernel⟩, List.mem_of_getElem? (i := 878) (by decide +kernel), List.mem_of_getElem? (i := 1196) (by decide +kernel), List.mem_of_getElem? (i := 1197) (by decide +kernel)⟩
def lw_privs_4 : List (MethodName × Nat) := [(⟨"SnowTracksModel", "hasPrint", "(II)Z"⟩, 41), (⟨"SnowTracksModel", "cellAt", "(II)I"⟩, 41), (⟨"SnowTracksModel", "isCell", "(II)Z"⟩, 41), (⟨"SnowTracksModel", "latestIn", "(II)I"⟩, 41), (⟨"SnowTracksModel", "mayBe", "(IIIII)Z"⟩, 41), (⟨"SnowTracksModel", "hasLatest", "(III)Z"⟩, 41), (⟨"SnowTracksModel", "isSet", "(I)Z"⟩, 41), (⟨"SnowTracksModel", "canBe", "(I)Z"⟩, 41), (⟨"SnowTracksModel", "lay", "(I)V"⟩, 41), (⟨"SnowTracksModel", "begin", "()V"⟩, 41), (⟨"SnowTracksModel", "least", "(III)V"⟩, 41), (⟨"SnowTracksModel", "add", "(I)V"⟩, 41), (⟨"SnowTracksModel", "above", "(III)V"⟩, 41), (⟨"SnowTracksModel", "made", "(II)I"⟩, 41), (⟨"SnowTracksModel", "close", "()Z"⟩, 41), (⟨"SnowTracksModel", "wordsOf", "(I)I"⟩, 41)]
theorem lw_r4 : ∀ q ∈ lw_privs_4, lw_okq q := List.forall_mem_cons.mpr ⟨lw_p48, List.forall_mem_cons.mpr ⟨lw_p49, List.forall_mem_cons.mpr ⟨lw_p50, List.forall_mem_cons.mpr ⟨lw_p51, List.forall_mem_cons.mpr ⟨lw_p52, List.forall_mem_cons.mpr ⟨lw_p53, List.forall_mem_cons.mpr ⟨lw_p54, List.forall_mem_cons.mpr ⟨lw_p55, List.forall_mem_cons.mpr ⟨lw_p56, List.forall_mem_cons.mpr ⟨lw_p57, List.forall_mem_cons.mpr ⟨lw_p58, List.forall_mem_cons.mpr ⟨lw_p59, List.forall_mem_cons.mpr ⟨lw_p60, List.forall_mem_cons.mpr ⟨lw_p61, List.forall_mem_cons.mpr ⟨lw_p62, List.forall_mem_cons.mpr ⟨lw_p63, fun _ h => absurd h List.not_mem_nil⟩⟩⟩⟩⟩⟩⟩⟩⟩⟩⟩⟩⟩⟩⟩⟩
theorem lw_p64 : lw_okq (⟨"SnowTracksModel", "low", "(I)I"⟩, 41) := ⟨⟨by decide +kernel, by decide +kernel⟩, List.mem_of_getElem? (i := 878) (by decide +kernel), List.mem_of_getElem? (i := 1204) (by decide +kernel), List.mem_of_getElem? (i := 1205) (by decide +kernel)⟩
theorem lw_p65 : lw_okq (⟨"SnowTracksModel", "high", "(I)I"⟩, 41) := ⟨⟨by decide +kernel, by decide +kernel⟩, List.mem_of_getElem? (i := 878) (by decide +kernel), List.mem_of_getElem? (i := 1208) (by decide +kernel), List.mem_of_getElem? (i := 1209) (by decide +kernel)⟩
theorem lw_p66 : lw_okq (⟨"SnowTracksModel", "gapLow", "(II)I"⟩, 41) := ⟨⟨by decide +kernel, by decide +kernel⟩, List.mem_of_getElem? (i := 878) (by decide +kernel), List.mem_of_getElem? (i := 1216) (by decide +kernel), List.mem_of_getElem? (i := 1217) (by decide +kernel)⟩
theorem lw_p67 : lw_okq (⟨"SnowTracksModel", "gapHigh", "(II)I"⟩, 41) := ⟨⟨by decide +kernel, by decide +kernel⟩, List.mem_of_getElem? (i := 878) (by decide +kernel), List.mem_of_getElem? (i := 1220) (by decide +kernel), List.mem_of_getElem? (i := 1221) (by decide +kernel)⟩
theorem lw_p68 : lw_okq (⟨"SnowTracksModel", "areTwo", "(II)Z"⟩, 41) := ⟨⟨by decide +kernel, by decide +kernel⟩, List.mem_of_getElem? (i := 878) (by decide +kernel), List.mem_of_getElem? (i := 1229) (by decide +kernel), List.mem_of_getElem? (i := 1230) (by decide +kernel)⟩
theorem lw_p69 : lw_okq (⟨"SnowTracksModel", "cross", "(III)Z"⟩, 41) := ⟨⟨by decide +kernel, by decide +kernel⟩, List.mem_of_getElem? (i := 878) (by decide +kernel), List.mem_of_getElem? (i := 1233) (by decide +kernel), List.mem_of_getElem? (i := 1234) (by decide +kernel)⟩
theorem lw_p70 : lw_okq (⟨"SnowTracksModel", "sureOf", "(III)I"⟩, 41) := ⟨⟨by decide +kernel, by decide +kernel⟩, List.mem_of_getElem? (i := 878) (by decide +kernel), List.mem_of_getElem? (i := 1241) (by decide +kernel), List.mem_of_getElem? (i := 1242) (by decide +kernel)⟩
theorem lw_p71 : lw_okq (⟨"SnowTracksModel", "spanNow", "()I"⟩, 41) := ⟨⟨by decide +kernel, by decide +kernel⟩, List.mem_of_getElem? (i := 878) (by decide +kernel), List.mem_of_getElem? (i := 1253) (by decide +kernel), List.mem_of_getElem? (i := 1254) (by decide +kernel)⟩
theorem lw_p72 : lw_okq (⟨"SnowTracksModel", "findLook", "(I)V"⟩, 41) := ⟨⟨by decide +kernel, by decide +kernel⟩, List.mem_of_getElem? (i := 878) (by decide +kernel), List.mem_of_getElem? (i := 1261) (by decide +kernel), List.mem_of_getElem? (i := 1262) (by decide +kernel)⟩
theorem lw_p73 : lw_okq (⟨"SnowTracksModel", "weigh", "(IIII)V"⟩, 41) := ⟨⟨by decide +kernel, by decide +kernel⟩, List.mem_of_getElem? (i := 878) (by decide +kernel), List.mem_of_getElem? (i := 1265) (by decide +kernel), List.mem_of_getElem? (i := 1266) (by decide +kernel)⟩
theorem lw_p74 : lw_okq (⟨"SnowTracksModel", "spanWith", "(IIII)I"⟩, 41) := ⟨⟨by decide +kernel, by decide +kernel⟩, List.mem_of_getElem? (i := 878) (by decide +kernel), List.mem_of_getElem? (i := 1269) (by decide +kernel), List.mem_of_getElem? (i := 1270) (by decide +kernel)⟩
theorem lw_p75 : lw_okq (⟨"SnowTracksModel", "length", "(I)I"⟩, 41) := ⟨⟨by decide +kernel, by decide +kernel⟩, List.mem_of_getElem? (i := 878) (by decide +kernel), List.mem_of_getElem? (i := 1281) (by decide +kernel), List.mem_of_getElem? (i := 1282) (by decide +kernel)⟩
theorem lw_p76 : lw_okq (⟨"SnowTracksModel", "seek", "(III)V"⟩, 41) := ⟨⟨by decide +kernel, by decide +kernel⟩, List.mem_of_getElem? (i := 878) (by decide +kernel), List.mem_of_getElem? (i := 1289) (by decide +kernel), List.mem_of_getElem? (i := 1290) (by decide +kernel)⟩
theorem lw_p77 : lw_okq (⟨"SnowTracksModel", "isTaken", "(II)Z"⟩, 41) := ⟨⟨by decide +kernel, by decide +kernel⟩, List.mem_of_getElem? (i := 878) (by decide +kernel), List.mem_of_getElem? (i := 1293) (by decide +kernel), List.mem_of_getElem? (i := 1294) (by decide +kernel)⟩
theorem lw_p78 : lw_okq (⟨"SnowTracksModel", "holds", "(I)Z"⟩, 41) := ⟨⟨by decide +kernel, by decide +kernel⟩, List.mem_of_getElem? (i := 878) (by decide +kernel), List.mem_of_getElem? (i := 1305) (by decide +kernel), List.mem_of_getElem? (i := 1306) (by decide +kernel)⟩
theorem lw_p79 : lw_okq (⟨"SnowTracksModel", "shownIn", "(II)I"⟩, 41) := ⟨⟨by decide +kernel, by decide +kernel⟩, List.mem_of_getElem? (i := 878) (by decide +kernel), List.mem_of_getElem? (i := 1325) (by decide +kernel), List.mem_of_getElem? (i := 1326) (by decide +kernel)⟩
def lw_privs_5 : List (MethodName × Nat) := [(⟨"SnowTracksModel", "low", "(I)I"⟩, 41), (⟨"SnowTracksModel", "high", "(I)I"⟩, 41), (⟨"SnowTracksModel", "gapLow", "(II)I"⟩, 41), (⟨"SnowTracksModel", "gapHigh", "(II)I"⟩, 41), (⟨"SnowTracksModel", "areTwo", "(II)Z"⟩, 41), (⟨"SnowTracksModel", "cross", "(III)Z"⟩, 41), (⟨"SnowTracksModel", "sureOf", "(III)I"⟩, 41), (⟨"SnowTracksModel", "spanNow", "()I"⟩, 41), (⟨"SnowTracksModel", "findLook", "(I)V"⟩, 41), (⟨"SnowTracksModel", "weigh", "(IIII)V"⟩, 41), (⟨"SnowTracksModel", "spanWith", "(IIII)I"⟩, 41), (⟨"SnowTracksModel", "length", "(I)I"⟩, 41), (⟨"SnowTracksModel", "seek", "(III)V"⟩, 41), (⟨"SnowTracksModel", "isTaken", "(II)Z"⟩, 41), (⟨"SnowTracksModel", "holds", "(I)Z"⟩, 41), (⟨"SnowTracksModel", "shownIn", "(II)I"⟩, 41)]
theorem lw_r5 : ∀ q ∈ lw_privs_5, lw_okq q := List.forall_mem_cons.mpr ⟨lw_p64, List.forall_mem_cons.mpr ⟨lw_p65, List.forall_mem_cons.mpr ⟨lw_p66, List.forall_mem_cons.mpr ⟨lw_p67, List.forall_mem_cons.mpr ⟨lw_p68, List.forall_mem_cons.mpr ⟨lw_p69, List.forall_mem_cons.mpr ⟨lw_p70, List.forall_mem_cons.mpr ⟨lw_p71, List.forall_mem_cons.mpr ⟨lw_p72, List.forall_mem_cons.mpr ⟨lw_p73, List.forall_mem_cons.mpr ⟨lw_p74, List.forall_mem_cons.mpr ⟨lw_p75, List.forall_mem_cons.mpr ⟨lw_p76, List.forall_mem_cons.mpr ⟨lw_p77, List.forall_mem_cons.mpr ⟨lw_p78, List.forall_mem_cons.mpr ⟨lw_p79, fun _ h => absurd h List.not_mem_nil⟩⟩⟩⟩⟩⟩⟩⟩⟩⟩⟩⟩⟩⟩⟩⟩
theorem lw_p80 : lw_okq (⟨"SnowTracksModel", "rise", "(III)V"⟩, 41) := ⟨⟨by decide +kernel, by decide +kernel⟩, List.mem_of_getElem? (i := 878) (by decide +kernel), List.mem_of_getElem? (i := 1337) (by decide +kernel), List.mem_of_getElem? (i := 1338) (by decide +kernel)⟩
def lw_privs_6 : List (MethodName × Nat) := [(⟨"SnowTracksModel", "rise", "(III)V"⟩, 41)]
theorem lw_r6 : ∀ q ∈ lw_privs_6, lw_okq q := List.forall_mem_cons.mpr ⟨lw_p80, fun _ h => absurd h List.not_mem_nil⟩
def lw_privs : List (MethodName × Nat) := lw_privs_1 ++ (lw_privs_2 ++ (lw_privs_3 ++ (lw_privs_4 ++ (lw_privs_5 ++ (lw_privs_6)))))
def lw_tbl : List Cond := k2_sels lw_privs ++ tables_1
theorem lw_privs_ok : ∀ q ∈ lw_privs, lw_okq q := by
  show ∀ q ∈ lw_privs_1 ++ (lw_privs_2 ++ (lw_privs_3 ++ (lw_privs_4 ++ (lw_privs_5 ++ (lw_privs_6))))), lw_okq q
  exact List.forall_mem_append.mpr ⟨lw_r1, List.forall_mem_append.mpr ⟨lw_r2, List.forall_mem_append.mpr ⟨lw_r3, List.forall_mem_append.mpr ⟨lw_r4, List.forall_mem_append.mpr ⟨lw_r5, lw_r6⟩⟩⟩⟩⟩
def RX0 : String := "SnowTracks$ChainSearch"
def TX0 : u_T := fun k => match k with
  | 0 => ("SnowTracks$ChainSearch", "nets", "[LSnowTracks$Net;", true)
  | 1 => ("SnowTracks$ChainSearch", "boots", "[I", true)
  | 2 => ("SnowTracks$ChainSearch", "lengths", "[I", true)
  | 3 => ("SnowTracks$ChainSearch", "walkCount", "I", false)
  | _ => ("SnowTracks$ChainSearch", "best", "I", false)
def tyX0 : Nat → FieldType := fun k => match k with
  | 0 => .array (.object "SnowTracks$Net")
  | 1 => .array .int
  | 2 => .array .int
  | 3 => .int
  | _ => .int
theorem nmX0 : ∀ a, a < 5 → ∀ b, b < 5 → a ≠ b → (TX0 a).2.1 ≠ (TX0 b).2.1 := by decide +kernel
theorem tyX0_ok : ∀ k, k < 5 → parseFieldDescriptor (TX0 k).2.2.1 = some (tyX0 k) := by decide +kernel
abbrev cX0_init : ByteArray := prog_2_method_1_code
def yX0_init : MethodName := ⟨RX0, "<init>", "()V"⟩
abbrev cX0_mostLinks : ByteArray := prog_2_method_2_code
def yX0_mostLinks : MethodName := ⟨RX0, "mostLinks", "(LSnowTracks$Net;[LSnowTracks$Walk;I)I"⟩
abbrev cX0_link : ByteArray := prog_2_method_3_code
def yX0_link : MethodName := ⟨RX0, "link", "(III)V"⟩
abbrev cX0_mayFollow : ByteArray := prog_2_method_4_code
def yX0_mayFollow : MethodName := ⟨RX0, "mayFollow", "(LSnowTracks$Net;II)Z"⟩
def RX1 : String := "SnowTracks$CoreSearch"
def TX1 : u_T := fun k => match k with
  | 0 => ("SnowTracks$CoreSearch", "before", "[I", true)
  | _ => ("SnowTracks$CoreSearch", "after", "[I", true)
def tyX1 : Nat → FieldType := fun k => match k with
  | 0 => .array .int
  | _ => .array .int
theorem nmX1 : ∀ a, a < 2 → ∀ b, b < 2 → a ≠ b → (TX1 a).2.1 ≠ (TX1 b).2.1 := by decide +kernel
theorem tyX1_ok : ∀ k, k < 2 → parseFieldDescriptor (TX1 k).2.2.1 = some (tyX1 k) := by decide +kernel
abbrev cX1_init : ByteArray := prog_3_method_1_code
def yX1_init : MethodName := ⟨RX1, "<init>", "()V"⟩
abbrev cX1_fewest : ByteArray := prog_3_method_2_code
def yX1_fewest : MethodName := ⟨RX1, "fewest", "(LSnowTracks$Net;[LSnowTracks$Fact;II)I"⟩
abbrev cX1_goOver : ByteArray := prog_3_method_3_code
def yX1_goOver : MethodName := ⟨RX1, "goOver", "(LSnowTracks$Net;III)V"⟩
abbrev cX1_isRoundTripAbove : ByteArray := prog_3_method_4_code
def yX1_isRoundTripAbove : MethodName := ⟨RX1, "isRoundTripAbove", "(I)Z"⟩
def RX2 : String := "SnowTracks$Fact"
def TX2 : u_T := fun k => match k with
  | 0 => ("SnowTracks$Fact", "who", "I", false)
  | 1 => ("SnowTracks$Fact", "over", "I", false)
  | 2 => ("SnowTracks$Fact", "under", "I", false)
  | 3 => ("SnowTracks$Fact", "least", "I", false)
  | _ => ("SnowTracks$Fact", "most", "I", false)
def tyX2 : Nat → FieldType := fun k => match k with
  | 0 => .int
  | 1 => .int
  | 2 => .int
  | 3 => .int
  | _ => .int
theorem nmX2 : ∀ a, a < 5 → ∀ b, b < 5 → a ≠ b → (TX2 a).2.1 ≠ (TX2 b).2.1 := by decide +kernel
theorem tyX2_ok : ∀ k, k < 5 → parseFieldDescriptor (TX2 k).2.2.1 = some (tyX2 k) := by decide +kernel
abbrev cX2_init : ByteArray := prog_4_method_1_code
def yX2_init : MethodName := ⟨RX2, "<init>", "()V"⟩
abbrev cX2_tell : ByteArray := prog_4_method_2_code
def yX2_tell : MethodName := ⟨RX2, "tell", "(IIIII)V"⟩
def RX3 : String := "SnowTracks$Glance"
def TX3 : u_T := fun k => match k with
  | 0 => ("SnowTracks$Glance", "a", "I", false)
  | 1 => ("SnowTracks$Glance", "b", "I", false)
  | 2 => ("SnowTracks$Glance", "cell", "I", false)
  | _ => ("SnowTracks$Glance", "widest", "I", false)
def tyX3 : Nat → FieldType := fun k => match k with
  | 0 => .int
  | 1 => .int
  | 2 => .int
  | _ => .int
theorem nmX3 : ∀ a, a < 4 → ∀ b, b < 4 → a ≠ b → (TX3 a).2.1 ≠ (TX3 b).2.1 := by decide +kernel
theorem tyX3_ok : ∀ k, k < 4 → parseFieldDescriptor (TX3 k).2.2.1 = some (tyX3 k) := by decide +kernel
abbrev cX3_init : ByteArray := prog_5_method_1_code
def yX3_init : MethodName := ⟨RX3, "<init>", "()V"⟩
abbrev cX3_clear : ByteArray := prog_5_method_2_code
def yX3_clear : MethodName := ⟨RX3, "clear", "()V"⟩
abbrev cX3_isBetter : ByteArray := prog_5_method_3_code
def yX3_isBetter : MethodName := ⟨RX3, "isBetter", "(I)Z"⟩
abbrev cX3_offer : ByteArray := prog_5_method_4_code
def yX3_offer : MethodName := ⟨RX3, "offer", "(IIII)V"⟩
def RX4 : String := "SnowTracks$Net"
def TX4 : u_T := fun k => match k with
  | 0 => ("SnowTracks$Net", "gaps", "[I", true)
  | _ => ("SnowTracks$Net", "points", "I", false)
def tyX4 : Nat → FieldType := fun k => match k with
  | 0 => .array .int
  | _ => .int
theorem nmX4 : ∀ a, a < 2 → ∀ b, b < 2 → a ≠ b → (TX4 a).2.1 ≠ (TX4 b).2.1 := by decide +kernel
theorem tyX4_ok : ∀ k, k < 2 → parseFieldDescriptor (TX4 k).2.2.1 = some (tyX4 k) := by decide +kernel
abbrev cX4_init : ByteArray := prog_6_method_1_code
def yX4_init : MethodName := ⟨RX4, "<init>", "()V"⟩
abbrev cX4_clear : ByteArray := prog_6_method_2_code
def yX4_clear : MethodName := ⟨RX4, "clear", "(II)V"⟩
abbrev cX4_copy : ByteArray := prog_6_method_3_code
def yX4_copy : MethodName := ⟨RX4, "copy", "(LSnowTracks$Net;)V"⟩
abbrev cX4_isPoint : ByteArray := prog_6_method_4_code
def yX4_isPoint : MethodName := ⟨RX4, "isPoint", "(I)Z"⟩
abbrev cX4_least : ByteArray := prog_6_method_5_code
def yX4_least : MethodName := ⟨RX4, "least", "(II)I"⟩
abbrev cX4_takes : ByteArray := prog_6_method_6_code
def yX4_takes : MethodName := ⟨RX4, "takes", "(LSnowTracks$Fact;)Z"⟩
abbrev cX4_fits : ByteArray := prog_6_method_7_code
def yX4_fits : MethodName := ⟨RX4, "fits", "(III)Z"⟩
abbrev cX4_takesGap : ByteArray := prog_6_method_8_code
def yX4_takesGap : MethodName := ⟨RX4, "takesGap", "(III)Z"⟩
abbrev cX4_widen : ByteArray := prog_6_method_9_code
def yX4_widen : MethodName := ⟨RX4, "widen", "(III)V"⟩
abbrev cX4_leastGap : ByteArray := prog_6_method_10_code
def yX4_leastGap : MethodName := ⟨RX4, "leastGap", "(II)I"⟩
abbrev cX4_greatestGap : ByteArray := prog_6_method_11_code
def yX4_greatestGap : MethodName := ⟨RX4, "greatestGap", "(II)I"⟩
abbrev cX4_firstOf : ByteArray := prog_6_method_12_code
def yX4_firstOf : MethodName := ⟨RX4, "firstOf", "(I)I"⟩
abbrev cX4_lastOf : ByteArray := prog_6_method_13_code
def yX4_lastOf : MethodName := ⟨RX4, "lastOf", "(I)I"⟩
abbrev cX4_wholeSpan : ByteArray := prog_6_method_14_code
def yX4_wholeSpan : MethodName := ⟨RX4, "wholeSpan", "()I"⟩
abbrev cX4_spanWith : ByteArray := prog_6_method_15_code
def yX4_spanWith : MethodName := ⟨RX4, "spanWith", "(III)I"⟩
def RX5 : String := "SnowTracks$Player"
def TX5 : u_T := fun k => match k with
  | 0 => ("SnowTracks$Player", "wide", "I", true)
  | 1 => ("SnowTracks$Player", "deep", "I", true)
  | 2 => ("SnowTracks$Player", "left", "[I", true)
  | 3 => ("SnowTracks$Player", "leftCount", "I", false)
  | 4 => ("SnowTracks$Player", "againFrom", "[I", true)
  | _ => ("SnowTracks$Player", "againTimes", "[I", true)
def tyX5 : Nat → FieldType := fun k => match k with
  | 0 => .int
  | 1 => .int
  | 2 => .array .int
  | 3 => .int
  | 4 => .array .int
  | _ => .array .int
theorem nmX5 : ∀ a, a < 6 → ∀ b, b < 6 → a ≠ b → (TX5 a).2.1 ≠ (TX5 b).2.1 := by decide +kernel
theorem tyX5_ok : ∀ k, k < 6 → parseFieldDescriptor (TX5 k).2.2.1 = some (tyX5 k) := by decide +kernel
abbrev cX5_init : ByteArray := prog_7_method_1_code
def yX5_init : MethodName := ⟨RX5, "<init>", "(II)V"⟩
abbrev cX5_play : ByteArray := prog_7_method_2_code
def yX5_play : MethodName := ⟨RX5, "play", "(LSnowTracks$Tape;LSnowTracks$Walk;)V"⟩
abbrev cX5_move : ByteArray := prog_7_method_3_code
def yX5_move : MethodName := ⟨RX5, "move", "(LSnowTracks$Walk;I)V"⟩
abbrev cX5_nextCell : ByteArray := prog_7_method_4_code
def yX5_nextCell : MethodName := ⟨RX5, "nextCell", "(II)I"⟩
def RX6 : String := "SnowTracks$RowSearch"
def TX6 : u_T := fun k => match k with
  | 0 => ("SnowTracks$RowSearch", "nets", "[LSnowTracks$Net;", true)
  | 1 => ("SnowTracks$RowSearch", "walkCount", "I", false)
  | 2 => ("SnowTracks$RowSearch", "wanted", "I", false)
  | 3 => ("SnowTracks$RowSearch", "counted", "I", false)
  | _ => ("SnowTracks$RowSearch", "found", "I", false)
def tyX6 : Nat → FieldType := fun k => match k with
  | 0 => .array (.object "SnowTracks$Net")
  | 1 => .int
  | 2 => .int
  | 3 => .int
  | _ => .int
theorem nmX6 : ∀ a, a < 5 → ∀ b, b < 5 → a ≠ b → (TX6 a).2.1 ≠ (TX6 b).2.1 := by decide +kernel
theorem tyX6_ok : ∀ k, k < 5 → parseFieldDescriptor (TX6 k).2.2.1 = some (tyX6 k) := by decide +kernel
abbrev cX6_init : ByteArray := prog_8_method_1_code
def yX6_init : MethodName := ⟨RX6, "<init>", "()V"⟩
abbrev cX6_seek : ByteArray := prog_8_method_2_code
def yX6_seek : MethodName := ⟨RX6, "seek", "(LSnowTracks$Net;II)V"⟩
abbrev cX6_extend : ByteArray := prog_8_method_3_code
def yX6_extend : MethodName := ⟨RX6, "extend", "(III)V"⟩
abbrev cX6_rises : ByteArray := prog_8_method_4_code
def yX6_rises : MethodName := ⟨RX6, "rises", "(III)Z"⟩
def RX7 : String := "SnowTracks$Tape"
def TX7 : u_T := fun k => match k with
  | 0 => ("SnowTracks$Tape", "bytes", "[I", true)
  | 1 => ("SnowTracks$Tape", "size", "I", false)
  | 2 => ("SnowTracks$Tape", "at", "I", false)
  | 3 => ("SnowTracks$Tape", "number", "I", false)
  | 4 => ("SnowTracks$Tape", "x", "I", false)
  | 5 => ("SnowTracks$Tape", "y", "I", false)
  | _ => ("SnowTracks$Tape", "movesAt", "I", false)
def tyX7 : Nat → FieldType := fun k => match k with
  | 0 => .array .int
  | 1 => .int
  | 2 => .int
  | 3 => .int
  | 4 => .int
  | 5 => .int
  | _ => .int
theorem nmX7 : ∀ a, a < 7 → ∀ b, b < 7 → a ≠ b → (TX7 a).2.1 ≠ (TX7 b).2.1 := by decide +kernel
theorem tyX7_ok : ∀ k, k < 7 → parseFieldDescriptor (TX7 k).2.2.1 = some (tyX7 k) := by decide +kernel
abbrev cX7_init : ByteArray := prog_9_method_1_code
def yX7_init : MethodName := ⟨RX7, "<init>", "()V"⟩
abbrev cX7_byteAt : ByteArray := prog_9_method_2_code
def yX7_byteAt : MethodName := ⟨RX7, "byteAt", "(I)I"⟩
abbrev cX7_cut : ByteArray := prog_9_method_3_code
def yX7_cut : MethodName := ⟨RX7, "cut", "(I)Z"⟩
abbrev cX7_append : ByteArray := prog_9_method_4_code
def yX7_append : MethodName := ⟨RX7, "append", "(I)Z"⟩
abbrev cX7_wrongAt : ByteArray := prog_9_method_5_code
def yX7_wrongAt : MethodName := ⟨RX7, "wrongAt", "(II)I"⟩
abbrev cX7_skipBlanks : ByteArray := prog_9_method_6_code
def yX7_skipBlanks : MethodName := ⟨RX7, "skipBlanks", "()V"⟩
abbrev cX7_reads : ByteArray := prog_9_method_7_code
def yX7_reads : MethodName := ⟨RX7, "reads", "(C)Z"⟩
abbrev cX7_readsNumber : ByteArray := prog_9_method_8_code
def yX7_readsNumber : MethodName := ⟨RX7, "readsNumber", "(I)Z"⟩
abbrev cX7_readsMoves : ByteArray := prog_9_method_9_code
def yX7_readsMoves : MethodName := ⟨RX7, "readsMoves", "()Z"⟩
abbrev cX7_isDigit : ByteArray := prog_9_method_10_code
def yX7_isDigit : MethodName := ⟨RX7, "isDigit", "(I)Z"⟩
abbrev cX7_isMove : ByteArray := prog_9_method_11_code
def yX7_isMove : MethodName := ⟨RX7, "isMove", "(I)Z"⟩
def RX8 : String := "SnowTracks$Walk"
def TX8 : u_T := fun k => match k with
  | 0 => ("SnowTracks$Walk", "pace", "I", true)
  | 1 => ("SnowTracks$Walk", "boot", "I", true)
  | 2 => ("SnowTracks$Walk", "cells", "[I", true)
  | 3 => ("SnowTracks$Walk", "latestMoments", "[I", true)
  | 4 => ("SnowTracks$Walk", "places", "[I", true)
  | 5 => ("SnowTracks$Walk", "placeCount", "I", false)
  | 6 => ("SnowTracks$Walk", "last", "I", false)
  | 7 => ("SnowTracks$Walk", "printCount", "I", false)
  | _ => ("SnowTracks$Walk", "begun", "I", false)
def tyX8 : Nat → FieldType := fun k => match k with
  | 0 => .int
  | 1 => .int
  | 2 => .array .int
  | 3 => .array .int
  | 4 => .array .int
  | 5 => .int
  | 6 => .int
  | 7 => .int
  | _ => .int
theorem nmX8 : ∀ a, a < 9 → ∀ b, b < 9 → a ≠ b → (TX8 a).2.1 ≠ (TX8 b).2.1 := by decide +kernel
theorem tyX8_ok : ∀ k, k < 9 → parseFieldDescriptor (TX8 k).2.2.1 = some (tyX8 k) := by decide +kernel
abbrev cX8_init : ByteArray := prog_10_method_1_code
def yX8_init : MethodName := ⟨RX8, "<init>", "(III)V"⟩
abbrev cX8_come : ByteArray := prog_10_method_2_code
def yX8_come : MethodName := ⟨RX8, "come", "(I)V"⟩
abbrev cX8_leavePrint : ByteArray := prog_10_method_3_code
def yX8_leavePrint : MethodName := ⟨RX8, "leavePrint", "()V"⟩
abbrev cX8_listPlaces : ByteArray := prog_10_method_4_code
def yX8_listPlaces : MethodName := ⟨RX8, "listPlaces", "()V"⟩
abbrev cX8_cellOf : ByteArray := prog_10_method_5_code
def yX8_cellOf : MethodName := ⟨RX8, "cellOf", "(I)I"⟩
abbrev cX8_latestIn : ByteArray := prog_10_method_6_code
def yX8_latestIn : MethodName := ⟨RX8, "latestIn", "(I)I"⟩
abbrev cX8_isPrint : ByteArray := prog_10_method_7_code
def yX8_isPrint : MethodName := ⟨RX8, "isPrint", "(I)Z"⟩
abbrev cX8_tickOf : ByteArray := prog_10_method_8_code
def yX8_tickOf : MethodName := ⟨RX8, "tickOf", "(I)I"⟩
abbrev cX8_ticksToEnd : ByteArray := prog_10_method_9_code
def yX8_ticksToEnd : MethodName := ⟨RX8, "ticksToEnd", "()I"⟩
def RX9 : String := "SnowTracks"
def TX9 : u_T := fun k => match k with
  | 0 => ("SnowTracks", "wide", "I", true)
  | 1 => ("SnowTracks", "deep", "I", true)
  | 2 => ("SnowTracks", "day", "I", true)
  | 3 => ("SnowTracks", "tape", "LSnowTracks$Tape;", true)
  | 4 => ("SnowTracks", "player", "LSnowTracks$Player;", true)
  | 5 => ("SnowTracks", "walks", "[LSnowTracks$Walk;", true)
  | 6 => ("SnowTracks", "walkCount", "I", false)
  | 7 => ("SnowTracks", "facts", "[LSnowTracks$Fact;", true)
  | 8 => ("SnowTracks", "factCount", "I", false)
  | 9 => ("SnowTracks", "snows", "[I", true)
  | 10 => ("SnowTracks", "snowCount", "I", false)
  | 11 => ("SnowTracks", "net", "LSnowTracks$Net;", true)
  | 12 => ("SnowTracks", "coreSearch", "LSnowTracks$CoreSearch;", true)
  | 13 => ("SnowTracks", "chainSearch", "LSnowTracks$ChainSearch;", true)
  | 14 => ("SnowTracks", "rowSearch", "LSnowTracks$RowSearch;", true)
  | 15 => ("SnowTracks", "glance", "LSnowTracks$Glance;", true)
  | 16 => ("SnowTracks", "shownTicks", "[I", true)
  | _ => ("SnowTracks", "shownWalks", "[I", true)
def tyX9 : Nat → FieldType := fun k => match k with
  | 0 => .int
  | 1 => .int
  | 2 => .int
  | 3 => .object "SnowTracks$Tape"
  | 4 => .object "SnowTracks$Player"
  | 5 => .array (.object "SnowTracks$Walk")
  | 6 => .int
  | 7 => .array (.object "SnowTracks$Fact")
  | 8 => .int
  | 9 => .array .int
  | 10 => .int
  | 11 => .object "SnowTracks$Net"
  | 12 => .object "SnowTracks$CoreSearch"
  | 13 => .object "SnowTracks$ChainSearch"
  | 14 => .object "SnowTracks$RowSearch"
  | 15 => .object "SnowTracks$Glance"
  | 16 => .array .int
  | _ => .array .int
theorem nmX9 : ∀ a, a < 18 → ∀ b, b < 18 → a ≠ b → (TX9 a).2.1 ≠ (TX9 b).2.1 := by decide +kernel
theorem tyX9_ok : ∀ k, k < 18 → parseFieldDescriptor (TX9 k).2.2.1 = some (tyX9 k) := by decide +kernel
abbrev cX9_init : ByteArray := prog_1_method_1_code
def yX9_init : MethodName := ⟨RX9, "<init>", "(III)V"⟩
abbrev cX9_feed : ByteArray := prog_1_method_2_code
def yX9_feed : MethodName := ⟨RX9, "feed", "(IIIII)I"⟩
abbrev cX9_end : ByteArray := prog_1_method_3_code
def yX9_end : MethodName := ⟨RX9, "end", "(I)Z"⟩
abbrev cX9_fault : ByteArray := prog_1_method_4_code
def yX9_fault : MethodName := ⟨RX9, "fault", "()I"⟩
abbrev cX9_walk : ByteArray := prog_1_method_5_code
def yX9_walk : MethodName := ⟨RX9, "walk", "(II)I"⟩
abbrev cX9_told : ByteArray := prog_1_method_6_code
def yX9_told : MethodName := ⟨RX9, "told", "(II)I"⟩
abbrev cX9_where : ByteArray := prog_1_method_7_code
def yX9_where : MethodName := ⟨RX9, "where", "(II)I"⟩
abbrev cX9_latest : ByteArray := prog_1_method_8_code
def yX9_latest : MethodName := ⟨RX9, "latest", "(III)I"⟩
abbrev cX9_prints : ByteArray := prog_1_method_9_code
def yX9_prints : MethodName := ⟨RX9, "prints", "(II)I"⟩
abbrev cX9_fact : ByteArray := prog_1_method_10_code
def yX9_fact : MethodName := ⟨RX9, "fact", "(IIIIII)I"⟩
abbrev cX9_undo : ByteArray := prog_1_method_11_code
def yX9_undo : MethodName := ⟨RX9, "undo", "()I"⟩
abbrev cX9_words : ByteArray := prog_1_method_12_code
def yX9_words : MethodName := ⟨RX9, "words", "(I)I"⟩
abbrev cX9_can : ByteArray := prog_1_method_13_code
def yX9_can : MethodName := ⟨RX9, "can", "(I)I"⟩
abbrev cX9_bars : ByteArray := prog_1_method_14_code
def yX9_bars : MethodName := ⟨RX9, "bars", "(I)I"⟩
abbrev cX9_core : ByteArray := prog_1_method_15_code
def yX9_core : MethodName := ⟨RX9, "core", "(I)I"⟩
abbrev cX9_liars : ByteArray := prog_1_method_16_code
def yX9_liars : MethodName := ⟨RX9, "liars", "(I)I"⟩
abbrev cX9_begins : ByteArray := prog_1_method_17_code
def yX9_begins : MethodName := ⟨RX9, "begins", "(III)I"⟩
abbrev cX9_gap : ByteArray := prog_1_method_18_code
def yX9_gap : MethodName := ⟨RX9, "gap", "(IIII)I"⟩
abbrev cX9_crossings : ByteArray := prog_1_method_19_code
def yX9_crossings : MethodName := ⟨RX9, "crossings", "(III)I"⟩
abbrev cX9_sure : ByteArray := prog_1_method_20_code
def yX9_sure : MethodName := ⟨RX9, "sure", "(IIIII)I"⟩
abbrev cX9_ahead : ByteArray := prog_1_method_21_code
def yX9_ahead : MethodName := ⟨RX9, "ahead", "(III)I"⟩
abbrev cX9_span : ByteArray := prog_1_method_22_code
def yX9_span : MethodName := ⟨RX9, "span", "(I)I"⟩
abbrev cX9_look : ByteArray := prog_1_method_23_code
def yX9_look : MethodName := ⟨RX9, "look", "(II)I"⟩
abbrev cX9_meets : ByteArray := prog_1_method_24_code
def yX9_meets : MethodName := ⟨RX9, "meets", "(III)I"⟩
abbrev cX9_one : ByteArray := prog_1_method_25_code
def yX9_one : MethodName := ⟨RX9, "one", "(III)I"⟩
abbrev cX9_walkers : ByteArray := prog_1_method_26_code
def yX9_walkers : MethodName := ⟨RX9, "walkers", "(I)I"⟩
abbrev cX9_start : ByteArray := prog_1_method_27_code
def yX9_start : MethodName := ⟨RX9, "start", "(II)Z"⟩
abbrev cX9_judge : ByteArray := prog_1_method_28_code
def yX9_judge : MethodName := ⟨RX9, "judge", "(I)I"⟩
abbrev cX9_top : ByteArray := prog_1_method_29_code
def yX9_top : MethodName := ⟨RX9, "top", "(II)I"⟩
abbrev cX9_settle : ByteArray := prog_1_method_30_code
def yX9_settle : MethodName := ⟨RX9, "settle", "(I)Z"⟩
abbrev cX9_snow : ByteArray := prog_1_method_31_code
def yX9_snow : MethodName := ⟨RX9, "snow", "(I)I"⟩
abbrev cX9_shown : ByteArray := prog_1_method_32_code
def yX9_shown : MethodName := ⟨RX9, "shown", "(III)I"⟩
abbrev cX9_trail : ByteArray := prog_1_method_33_code
def yX9_trail : MethodName := ⟨RX9, "trail", "(II)I"⟩
abbrev cX9_orders : ByteArray := prog_1_method_34_code
def yX9_orders : MethodName := ⟨RX9, "orders", "(II)I"⟩
abbrev cX9_photo : ByteArray := prog_1_method_35_code
def yX9_photo : MethodName := ⟨RX9, "photo", "(IIII)I"⟩
abbrev cX9_count : ByteArray := prog_1_method_36_code
def yX9_count : MethodName := ⟨RX9, "count", "(I)I"⟩
abbrev cX9_walkOf : ByteArray := prog_1_method_37_code
def yX9_walkOf : MethodName := ⟨RX9, "walkOf", "(I)LSnowTracks$Walk;"⟩
abbrev cX9_cellAt : ByteArray := prog_1_method_38_code
def yX9_cellAt : MethodName := ⟨RX9, "cellAt", "(II)I"⟩
abbrev cX9_printsIn : ByteArray := prog_1_method_39_code
def yX9_printsIn : MethodName := ⟨RX9, "printsIn", "(II)Z"⟩
abbrev cX9_isCrossing : ByteArray := prog_1_method_40_code
def yX9_isCrossing : MethodName := ⟨RX9, "isCrossing", "(III)Z"⟩
abbrev cX9_isSet : ByteArray := prog_1_method_41_code
def yX9_isSet : MethodName := ⟨RX9, "isSet", "(I)Z"⟩
abbrev cX9_isIn : ByteArray := prog_1_method_42_code
def yX9_isIn : MethodName := ⟨RX9, "isIn", "(II)Z"⟩
abbrev cX9_isWho : ByteArray := prog_1_method_43_code
def yX9_isWho : MethodName := ⟨RX9, "isWho", "(I)Z"⟩
abbrev cX9_isTick : ByteArray := prog_1_method_44_code
def yX9_isTick : MethodName := ⟨RX9, "isTick", "(I)Z"⟩
abbrev cX9_pointOf : ByteArray := prog_1_method_45_code
def yX9_pointOf : MethodName := ⟨RX9, "pointOf", "(I)I"⟩
abbrev cX9_startAt : ByteArray := prog_1_method_46_code
def yX9_startAt : MethodName := ⟨RX9, "startAt", "(I)I"⟩
abbrev cX9_tellAbove : ByteArray := prog_1_method_47_code
def yX9_tellAbove : MethodName := ⟨RX9, "tellAbove", "(IIII)I"⟩
abbrev cX9_tellPrint : ByteArray := prog_1_method_48_code
def yX9_tellPrint : MethodName := ⟨RX9, "tellPrint", "(IIIII)I"⟩
abbrev cX9_tellBegan : ByteArray := prog_1_method_49_code
def yX9_tellBegan : MethodName := ⟨RX9, "tellBegan", "(IIII)I"⟩
abbrev cX9_tellBehind : ByteArray := prog_1_method_50_code
def yX9_tellBehind : MethodName := ⟨RX9, "tellBehind", "(IIII)I"⟩
abbrev cX9_keep : ByteArray := prog_1_method_51_code
def yX9_keep : MethodName := ⟨RX9, "keep", "(IIIII)I"⟩
abbrev cX9_leadToLieAbove : ByteArray := prog_1_method_52_code
def yX9_leadToLieAbove : MethodName := ⟨RX9, "leadToLieAbove", "(III)I"⟩
abbrev cX9_drawNet : ByteArray := prog_1_method_53_code
def yX9_drawNet : MethodName := ⟨RX9, "drawNet", "(I)I"⟩
abbrev cX9_canBe : ByteArray := prog_1_method_54_code
def yX9_canBe : MethodName := ⟨RX9, "canBe", "(I)Z"⟩
abbrev cX9_verdict : ByteArray := prog_1_method_55_code
def yX9_verdict : MethodName := ⟨RX9, "verdict", "(III)I"⟩
abbrev cX9_withoutWords : ByteArray := prog_1_method_56_code
def yX9_withoutWords : MethodName := ⟨RX9, "withoutWords", "(II)I"⟩
abbrev cX9_speakersOf : ByteArray := prog_1_method_57_code
def yX9_speakersOf : MethodName := ⟨RX9, "speakersOf", "(I)I"⟩
abbrev cX9_isBlamedBefore : ByteArray := prog_1_method_58_code
def yX9_isBlamedBefore : MethodName := ⟨RX9, "isBlamedBefore", "(II)Z"⟩
abbrev cX9_lookAtPair : ByteArray := prog_1_method_59_code
def yX9_lookAtPair : MethodName := ⟨RX9, "lookAtPair", "(II)V"⟩
abbrev cX9_lookAtCrossing : ByteArray := prog_1_method_60_code
def yX9_lookAtCrossing : MethodName := ⟨RX9, "lookAtCrossing", "(III)V"⟩
abbrev cX9_latestSnow : ByteArray := prog_1_method_61_code
def yX9_latestSnow : MethodName := ⟨RX9, "latestSnow", "(I)I"⟩
abbrev cX9_showAll : ByteArray := prog_1_method_62_code
def yX9_showAll : MethodName := ⟨RX9, "showAll", "(I)V"⟩
abbrev cX9_showWalk : ByteArray := prog_1_method_63_code
def yX9_showWalk : MethodName := ⟨RX9, "showWalk", "(ILSnowTracks$Walk;II)V"⟩
def RX10 : String := "SnowTracksModel"
def TX10 : u_T := fun k => match k with
  | 0 => ("SnowTracksModel", "thrown", "I", false)
  | 1 => ("SnowTracksModel", "wide", "I", true)
  | 2 => ("SnowTracksModel", "deep", "I", true)
  | 3 => ("SnowTracksModel", "day", "I", true)
  | 4 => ("SnowTracksModel", "tape", "[I", true)
  | 5 => ("SnowTracksModel", "size", "I", false)
  | 6 => ("SnowTracksModel", "at", "I", false)
  | 7 => ("SnowTracksModel", "wrong", "I", false)
  | 8 => ("SnowTracksModel", "deepness", "I", false)
  | 9 => ("SnowTracksModel", "trod", "[I", true)
  | 10 => ("SnowTracksModel", "steps", "[I", true)
  | 11 => ("SnowTracksModel", "moments", "I", false)
  | 12 => ("SnowTracksModel", "stepMany", "I", false)
  | 13 => ("SnowTracksModel", "x", "I", false)
  | 14 => ("SnowTracksModel", "y", "I", false)
  | 15 => ("SnowTracksModel", "cells", "[I", true)
  | 16 => ("SnowTracksModel", "last", "[I", true)
  | 17 => ("SnowTracksModel", "pace", "[I", true)
  | 18 => ("SnowTracksModel", "boot", "[I", true)
  | 19 => ("SnowTracksModel", "told", "[I", true)
  | 20 => ("SnowTracksModel", "walks", "I", false)
  | 21 => ("SnowTracksModel", "who", "[I", true)
  | 22 => ("SnowTracksModel", "kind", "[I", true)
  | 23 => ("SnowTracksModel", "one", "[I", true)
  | 24 => ("SnowTracksModel", "other", "[I", true)
  | 25 => ("SnowTracksModel", "first", "[I", true)
  | 26 => ("SnowTracksModel", "second", "[I", true)
  | 27 => ("SnowTracksModel", "facts", "I", false)
  | 28 => ("SnowTracksModel", "apart", "[I", true)
  | 29 => ("SnowTracksModel", "lookOne", "I", false)
  | 30 => ("SnowTracksModel", "lookOther", "I", false)
  | 31 => ("SnowTracksModel", "lookCell", "I", false)
  | 32 => ("SnowTracksModel", "lookSpan", "I", false)
  | 33 => ("SnowTracksModel", "ahead", "[I", true)
  | 34 => ("SnowTracksModel", "fewest", "I", false)
  | 35 => ("SnowTracksModel", "snows", "[I", true)
  | 36 => ("SnowTracksModel", "snowMany", "I", false)
  | 37 => ("SnowTracksModel", "order", "[I", true)
  | 38 => ("SnowTracksModel", "orderMany", "I", false)
  | 39 => ("SnowTracksModel", "orderAsked", "I", false)
  | _ => ("SnowTracksModel", "orderFound", "I", false)
def tyX10 : Nat → FieldType := fun k => match k with
  | 0 => .int
  | 1 => .int
  | 2 => .int
  | 3 => .int
  | 4 => .array .int
  | 5 => .int
  | 6 => .int
  | 7 => .int
  | 8 => .int
  | 9 => .array .int
  | 10 => .array .int
  | 11 => .int
  | 12 => .int
  | 13 => .int
  | 14 => .int
  | 15 => .array .int
  | 16 => .array .int
  | 17 => .array .int
  | 18 => .array .int
  | 19 => .array .int
  | 20 => .int
  | 21 => .array .int
  | 22 => .array .int
  | 23 => .array .int
  | 24 => .array .int
  | 25 => .array .int
  | 26 => .array .int
  | 27 => .int
  | 28 => .array .int
  | 29 => .int
  | 30 => .int
  | 31 => .int
  | 32 => .int
  | 33 => .array .int
  | 34 => .int
  | 35 => .array .int
  | 36 => .int
  | 37 => .array .int
  | 38 => .int
  | 39 => .int
  | _ => .int
theorem nmX10 : ∀ a, a < 41 → ∀ b, b < 41 → a ≠ b → (TX10 a).2.1 ≠ (TX10 b).2.1 := by decide +kernel
theorem tyX10_ok : ∀ k, k < 41 → parseFieldDescriptor (TX10 k).2.2.1 = some (tyX10 k) := by decide +kernel
abbrev cX10_in : ByteArray := prog_12_method_1_code
def yX10_in : MethodName := ⟨RX10, "in", "(III)Z"⟩
abbrev cX10_within : ByteArray := prog_12_method_2_code
def yX10_within : MethodName := ⟨RX10, "within", "(III)I"⟩
abbrev cX10_init : ByteArray := prog_12_method_3_code
def yX10_init : MethodName := ⟨RX10, "<init>", "(III)V"⟩
abbrev cX10_thrown : ByteArray := prog_12_method_4_code
def yX10_thrown : MethodName := ⟨RX10, "thrown", "()I"⟩
abbrev cX10_byteOf : ByteArray := prog_12_method_5_code
def yX10_byteOf : MethodName := ⟨RX10, "byteOf", "(IIIIII)I"⟩
abbrev cX10_feed : ByteArray := prog_12_method_6_code
def yX10_feed : MethodName := ⟨RX10, "feed", "(IIIII)I"⟩
abbrev cX10_end : ByteArray := prog_12_method_7_code
def yX10_end : MethodName := ⟨RX10, "end", "(I)Z"⟩
abbrev cX10_here : ByteArray := prog_12_method_8_code
def yX10_here : MethodName := ⟨RX10, "here", "()I"⟩
abbrev cX10_look : ByteArray := prog_12_method_9_code
def yX10_look : MethodName := ⟨RX10, "look", "()I"⟩
abbrev cX10_bad : ByteArray := prog_12_method_10_code
def yX10_bad : MethodName := ⟨RX10, "bad", "()V"⟩
abbrev cX10_isDigit : ByteArray := prog_12_method_11_code
def yX10_isDigit : MethodName := ⟨RX10, "isDigit", "(I)Z"⟩
abbrev cX10_sign : ByteArray := prog_12_method_12_code
def yX10_sign : MethodName := ⟨RX10, "sign", "(I)V"⟩
abbrev cX10_number : ByteArray := prog_12_method_13_code
def yX10_number : MethodName := ⟨RX10, "number", "(I)I"⟩
abbrev cX10_isStep : ByteArray := prog_12_method_14_code
def yX10_isStep : MethodName := ⟨RX10, "isStep", "(I)Z"⟩
abbrev cX10_moves : ByteArray := prog_12_method_15_code
def yX10_moves : MethodName := ⟨RX10, "moves", "(Z)V"⟩
abbrev cX10_move : ByteArray := prog_12_method_16_code
def yX10_move : MethodName := ⟨RX10, "move", "(IIZ)V"⟩
abbrev cX10_stand : ByteArray := prog_12_method_17_code
def yX10_stand : MethodName := ⟨RX10, "stand", "()V"⟩
abbrev cX10_step : ByteArray := prog_12_method_18_code
def yX10_step : MethodName := ⟨RX10, "step", "(I)V"⟩
abbrev cX10_read : ByteArray := prog_12_method_19_code
def yX10_read : MethodName := ⟨RX10, "read", "(Z)I"⟩
abbrev cX10_fault : ByteArray := prog_12_method_20_code
def yX10_fault : MethodName := ⟨RX10, "fault", "()I"⟩
abbrev cX10_walk : ByteArray := prog_12_method_21_code
def yX10_walk : MethodName := ⟨RX10, "walk", "(II)I"⟩
abbrev cX10_isWalk : ByteArray := prog_12_method_22_code
def yX10_isWalk : MethodName := ⟨RX10, "isWalk", "(I)Z"⟩
abbrev cX10_cellAt : ByteArray := prog_12_method_23_code
def yX10_cellAt : MethodName := ⟨RX10, "cellAt", "(II)I"⟩
abbrev cX10_hasPrint : ByteArray := prog_12_method_24_code
def yX10_hasPrint : MethodName := ⟨RX10, "hasPrint", "(II)Z"⟩
abbrev cX10_told : ByteArray := prog_12_method_25_code
def yX10_told : MethodName := ⟨RX10, "told", "(II)I"⟩
abbrev cX10_where : ByteArray := prog_12_method_26_code
def yX10_where : MethodName := ⟨RX10, "where", "(II)I"⟩
abbrev cX10_isCell : ByteArray := prog_12_method_27_code
def yX10_isCell : MethodName := ⟨RX10, "isCell", "(II)Z"⟩
abbrev cX10_latestIn : ByteArray := prog_12_method_28_code
def yX10_latestIn : MethodName := ⟨RX10, "latestIn", "(II)I"⟩
abbrev cX10_latest : ByteArray := prog_12_method_29_code
def yX10_latest : MethodName := ⟨RX10, "latest", "(III)I"⟩
abbrev cX10_prints : ByteArray := prog_12_method_30_code
def yX10_prints : MethodName := ⟨RX10, "prints", "(II)I"⟩
abbrev cX10_hasLatest : ByteArray := prog_12_method_31_code
def yX10_hasLatest : MethodName := ⟨RX10, "hasLatest", "(III)Z"⟩
abbrev cX10_mayBe : ByteArray := prog_12_method_32_code
def yX10_mayBe : MethodName := ⟨RX10, "mayBe", "(IIIII)Z"⟩
abbrev cX10_fact : ByteArray := prog_12_method_33_code
def yX10_fact : MethodName := ⟨RX10, "fact", "(IIIIII)I"⟩
abbrev cX10_undo : ByteArray := prog_12_method_34_code
def yX10_undo : MethodName := ⟨RX10, "undo", "()I"⟩
abbrev cX10_words : ByteArray := prog_12_method_35_code
def yX10_words : MethodName := ⟨RX10, "words", "(I)I"⟩
abbrev cX10_least : ByteArray := prog_12_method_36_code
def yX10_least : MethodName := ⟨RX10, "least", "(III)V"⟩
abbrev cX10_begin : ByteArray := prog_12_method_38_code
def yX10_begin : MethodName := ⟨RX10, "begin", "()V"⟩
abbrev cX10_made : ByteArray := prog_12_method_39_code
def yX10_made : MethodName := ⟨RX10, "made", "(II)I"⟩
abbrev cX10_above : ByteArray := prog_12_method_40_code
def yX10_above : MethodName := ⟨RX10, "above", "(III)V"⟩
abbrev cX10_add : ByteArray := prog_12_method_41_code
def yX10_add : MethodName := ⟨RX10, "add", "(I)V"⟩
abbrev cX10_close : ByteArray := prog_12_method_42_code
def yX10_close : MethodName := ⟨RX10, "close", "()Z"⟩
abbrev cX10_lay : ByteArray := prog_12_method_43_code
def yX10_lay : MethodName := ⟨RX10, "lay", "(I)V"⟩
abbrev cX10_canBe : ByteArray := prog_12_method_44_code
def yX10_canBe : MethodName := ⟨RX10, "canBe", "(I)Z"⟩
abbrev cX10_isSet : ByteArray := prog_12_method_45_code
def yX10_isSet : MethodName := ⟨RX10, "isSet", "(I)Z"⟩
abbrev cX10_can : ByteArray := prog_12_method_46_code
def yX10_can : MethodName := ⟨RX10, "can", "(I)I"⟩
abbrev cX10_bars : ByteArray := prog_12_method_47_code
def yX10_bars : MethodName := ⟨RX10, "bars", "(I)I"⟩
abbrev cX10_core : ByteArray := prog_12_method_48_code
def yX10_core : MethodName := ⟨RX10, "core", "(I)I"⟩
abbrev cX10_liars : ByteArray := prog_12_method_49_code
def yX10_liars : MethodName := ⟨RX10, "liars", "(I)I"⟩
abbrev cX10_wordsOf : ByteArray := prog_12_method_50_code
def yX10_wordsOf : MethodName := ⟨RX10, "wordsOf", "(I)I"⟩
abbrev cX10_low : ByteArray := prog_12_method_51_code
def yX10_low : MethodName := ⟨RX10, "low", "(I)I"⟩
abbrev cX10_high : ByteArray := prog_12_method_52_code
def yX10_high : MethodName := ⟨RX10, "high", "(I)I"⟩
abbrev cX10_begins : ByteArray := prog_12_method_53_code
def yX10_begins : MethodName := ⟨RX10, "begins", "(III)I"⟩
abbrev cX10_gapLow : ByteArray := prog_12_method_54_code
def yX10_gapLow : MethodName := ⟨RX10, "gapLow", "(II)I"⟩
abbrev cX10_gapHigh : ByteArray := prog_12_method_55_code
def yX10_gapHigh : MethodName := ⟨RX10, "gapHigh", "(II)I"⟩
abbrev cX10_gap : ByteArray := prog_12_method_56_code
def yX10_gap : MethodName := ⟨RX10, "gap", "(IIII)I"⟩
abbrev cX10_areTwo : ByteArray := prog_12_method_57_code
def yX10_areTwo : MethodName := ⟨RX10, "areTwo", "(II)Z"⟩
abbrev cX10_cross : ByteArray := prog_12_method_58_code
def yX10_cross : MethodName := ⟨RX10, "cross", "(III)Z"⟩
abbrev cX10_crossings : ByteArray := prog_12_method_59_code
def yX10_crossings : MethodName := ⟨RX10, "crossings", "(III)I"⟩
abbrev cX10_sureOf : ByteArray := prog_12_method_60_code
def yX10_sureOf : MethodName := ⟨RX10, "sureOf", "(III)I"⟩
abbrev cX10_sure : ByteArray := prog_12_method_61_code
def yX10_sure : MethodName := ⟨RX10, "sure", "(IIIII)I"⟩
abbrev cX10_ahead : ByteArray := prog_12_method_62_code
def yX10_ahead : MethodName := ⟨RX10, "ahead", "(III)I"⟩
abbrev cX10_spanNow : ByteArray := prog_12_method_63_code
def yX10_spanNow : MethodName := ⟨RX10, "spanNow", "()I"⟩
abbrev cX10_span : ByteArray := prog_12_method_64_code
def yX10_span : MethodName := ⟨RX10, "span", "(I)I"⟩
abbrev cX10_spanWith : ByteArray := prog_12_method_65_code
def yX10_spanWith : MethodName := ⟨RX10, "spanWith", "(IIII)I"⟩
abbrev cX10_findLook : ByteArray := prog_12_method_66_code
def yX10_findLook : MethodName := ⟨RX10, "findLook", "(I)V"⟩
abbrev cX10_weigh : ByteArray := prog_12_method_67_code
def yX10_weigh : MethodName := ⟨RX10, "weigh", "(IIII)V"⟩
abbrev cX10_look_ : ByteArray := prog_12_method_68_code
def yX10_look_ : MethodName := ⟨RX10, "look", "(II)I"⟩
abbrev cX10_meets : ByteArray := prog_12_method_69_code
def yX10_meets : MethodName := ⟨RX10, "meets", "(III)I"⟩
abbrev cX10_length : ByteArray := prog_12_method_70_code
def yX10_length : MethodName := ⟨RX10, "length", "(I)I"⟩
abbrev cX10_one : ByteArray := prog_12_method_71_code
def yX10_one : MethodName := ⟨RX10, "one", "(III)I"⟩
abbrev cX10_seek : ByteArray := prog_12_method_72_code
def yX10_seek : MethodName := ⟨RX10, "seek", "(III)V"⟩
abbrev cX10_isTaken : ByteArray := prog_12_method_73_code
def yX10_isTaken : MethodName := ⟨RX10, "isTaken", "(II)Z"⟩
abbrev cX10_walkers : ByteArray := prog_12_method_74_code
def yX10_walkers : MethodName := ⟨RX10, "walkers", "(I)I"⟩
abbrev cX10_start : ByteArray := prog_12_method_75_code
def yX10_start : MethodName := ⟨RX10, "start", "(II)Z"⟩
abbrev cX10_holds : ByteArray := prog_12_method_76_code
def yX10_holds : MethodName := ⟨RX10, "holds", "(I)Z"⟩
abbrev cX10_judge : ByteArray := prog_12_method_77_code
def yX10_judge : MethodName := ⟨RX10, "judge", "(I)I"⟩
abbrev cX10_top : ByteArray := prog_12_method_78_code
def yX10_top : MethodName := ⟨RX10, "top", "(II)I"⟩
abbrev cX10_settle : ByteArray := prog_12_method_79_code
def yX10_settle : MethodName := ⟨RX10, "settle", "(I)Z"⟩
abbrev cX10_snow : ByteArray := prog_12_method_80_code
def yX10_snow : MethodName := ⟨RX10, "snow", "(I)I"⟩
abbrev cX10_shownIn : ByteArray := prog_12_method_81_code
def yX10_shownIn : MethodName := ⟨RX10, "shownIn", "(II)I"⟩
abbrev cX10_shown : ByteArray := prog_12_method_82_code
def yX10_shown : MethodName := ⟨RX10, "shown", "(III)I"⟩
abbrev cX10_trail : ByteArray := prog_12_method_83_code
def yX10_trail : MethodName := ⟨RX10, "trail", "(II)I"⟩
abbrev cX10_rise : ByteArray := prog_12_method_84_code
def yX10_rise : MethodName := ⟨RX10, "rise", "(III)V"⟩
abbrev cX10_orders : ByteArray := prog_12_method_85_code
def yX10_orders : MethodName := ⟨RX10, "orders", "(II)I"⟩
abbrev cX10_photo : ByteArray := prog_12_method_86_code
def yX10_photo : MethodName := ⟨RX10, "photo", "(IIII)I"⟩
abbrev cX10_count : ByteArray := prog_12_method_87_code
def yX10_count : MethodName := ⟨RX10, "count", "(I)I"⟩
def RJx145de : String := "java/io/Serializable"
def RJ6 : String := "java/lang/Integer"
abbrev cJ6_bitCount_0f7a4 : ByteArray := prog_15_method_49_code
def yJ6_bitCount_0f7a4 : MethodName := ⟨RJ6, "bitCount", "(I)I"⟩
def RJ9 : String := "java/lang/Math"
abbrev cJ9_max_7cf53 : ByteArray := prog_16_method_65_code
def yJ9_max_7cf53 : MethodName := ⟨RJ9, "max", "(II)I"⟩
abbrev cJ9_min_7cf53 : ByteArray := prog_16_method_69_code
def yJ9_min_7cf53 : MethodName := ⟨RJ9, "min", "(II)I"⟩
def RJ10 : String := "java/lang/System"
def RJ7 : String := "java/util/Arrays"
abbrev cJ7_fill_53178 : ByteArray := prog_20_method_103_code
def yJ7_fill_53178 : MethodName := ⟨RJ7, "fill", "([II)V"⟩
def RL : String := "SnowTracksLaw"
abbrev cL_cell : ByteArray := method_2_code
def yL_cell : MethodName := ⟨RL, "cell", "([II)I"⟩
abbrev cL_told : ByteArray := method_3_code
def yL_told : MethodName := ⟨RL, "told", "(LSnowTracks;II[J)I"⟩
abbrev cL_law : ByteArray := code
def yL_law : MethodName := ⟨RL, "law", "([I)Z"⟩
abbrev vwCl : List vw_C := [(RX0, TX0, 5), (RX1, TX1, 2), (RX2, TX2, 5), (RX3, TX3, 4), (RX4, TX4, 2), (RX5, TX5, 6), (RX6, TX6, 5), (RX7, TX7, 7), (RX8, TX8, 9), (RX9, TX9, 18), (RX10, TX10, 41)]
