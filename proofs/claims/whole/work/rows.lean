section
-- ===== PART A: goes FIRST, ahead of the names: the tables' words, and 'selects' of the private methods out of them =====
/-- a private method of a class that the tables say can be made, by its rows of tables_1 -/
def lw_okq (q : MethodName × Nat) : Prop := (q.1.cls ≠ "java/lang/invoke/MethodHandle" ∧ q.1.cls ≠ "java/lang/invoke/VarHandle") ∧ Cond.instantiable q.1.cls q.2 ∈ tables_1 ∧ Cond.privateMethod q.1 ∈ tables_1 ∧ Cond.instanceMethod q.1 ∈ tables_1
theorem lw_p0 : lw_okq (⟨"SnowTracks$Tape", "reads", "(C)Z"⟩, 7) := ⟨⟨by decide +kernel, by decide +kernel⟩, List.mem_of_getElem? (i := 29) (by decide +kernel), List.mem_of_getElem? (i := 315) (by decide +kernel), List.mem_of_getElem? (i := 316) (by decide +kernel)⟩
theorem lw_p1 : lw_okq (⟨"SnowTracks$Tape", "skipBlanks", "()V"⟩, 7) := ⟨⟨by decide +kernel, by decide +kernel⟩, List.mem_of_getElem? (i := 29) (by decide +kernel), List.mem_of_getElem? (i := 319) (by decide +kernel), List.mem_of_getElem? (i := 320) (by decide +kernel)⟩
theorem lw_p2 : lw_okq (⟨"SnowTracks$Tape", "readsNumber", "(I)Z"⟩, 7) := ⟨⟨by decide +kernel, by decide +kernel⟩, List.mem_of_getElem? (i := 29) (by decide +kernel), List.mem_of_getElem? (i := 327) (by decide +kernel), List.mem_of_getElem? (i := 328) (by decide +kernel)⟩
theorem lw_p3 : lw_okq (⟨"SnowTracks$Tape", "readsMoves", "()Z"⟩, 7) := ⟨⟨by decide +kernel, by decide +kernel⟩, List.mem_of_getElem? (i := 29) (by decide +kernel), List.mem_of_getElem? (i := 334) (by decide +kernel), List.mem_of_getElem? (i := 335) (by decide +kernel)⟩
theorem lw_p4 : lw_okq (⟨"SnowTracks", "cellAt", "(II)I"⟩, 18) := ⟨⟨by decide +kernel, by decide +kernel⟩, List.mem_of_getElem? (i := 21) (by decide +kernel), List.mem_of_getElem? (i := 346) (by decide +kernel), List.mem_of_getElem? (i := 347) (by decide +kernel)⟩
theorem lw_p5 : lw_okq (⟨"SnowTracks$Walk", "leavePrint", "()V"⟩, 9) := ⟨⟨by decide +kernel, by decide +kernel⟩, List.mem_of_getElem? (i := 344) (by decide +kernel), List.mem_of_getElem? (i := 357) (by decide +kernel), List.mem_of_getElem? (i := 358) (by decide +kernel)⟩
theorem lw_p6 : lw_okq (⟨"SnowTracks$Player", "move", "(LSnowTracks$Walk;I)V"⟩, 6) := ⟨⟨by decide +kernel, by decide +kernel⟩, List.mem_of_getElem? (i := 175) (by decide +kernel), List.mem_of_getElem? (i := 404) (by decide +kernel), List.mem_of_getElem? (i := 405) (by decide +kernel)⟩
theorem lw_p7 : lw_okq (⟨"SnowTracks$Player", "nextCell", "(II)I"⟩, 6) := ⟨⟨by decide +kernel, by decide +kernel⟩, List.mem_of_getElem? (i := 175) (by decide +kernel), List.mem_of_getElem? (i := 416) (by decide +kernel), List.mem_of_getElem? (i := 417) (by decide +kernel)⟩
theorem lw_p8 : lw_okq (⟨"SnowTracks", "walkOf", "(I)LSnowTracks$Walk;"⟩, 18) := ⟨⟨by decide +kernel, by decide +kernel⟩, List.mem_of_getElem? (i := 21) (by decide +kernel), List.mem_of_getElem? (i := 428) (by decide +kernel), List.mem_of_getElem? (i := 429) (by decide +kernel)⟩
theorem lw_p9 : lw_okq (⟨"SnowTracks", "printsIn", "(II)Z"⟩, 18) := ⟨⟨by decide +kernel, by decide +kernel⟩, List.mem_of_getElem? (i := 21) (by decide +kernel), List.mem_of_getElem? (i := 445) (by decide +kernel), List.mem_of_getElem? (i := 446) (by decide +kernel)⟩
theorem lw_p10 : lw_okq (⟨"SnowTracks", "tellAbove", "(IIII)I"⟩, 18) := ⟨⟨by decide +kernel, by decide +kernel⟩, List.mem_of_getElem? (i := 21) (by decide +kernel), List.mem_of_getElem? (i := 456) (by decide +kernel), List.mem_of_getElem? (i := 457) (by decide +kernel)⟩
theorem lw_p11 : lw_okq (⟨"SnowTracks", "isCrossing", "(III)Z"⟩, 18) := ⟨⟨by decide +kernel, by decide +kernel⟩, List.mem_of_getElem? (i := 21) (by decide +kernel), List.mem_of_getElem? (i := 460) (by decide +kernel), List.mem_of_getElem? (i := 461) (by decide +kernel)⟩
theorem lw_p12 : lw_okq (⟨"SnowTracks", "leadToLieAbove", "(III)I"⟩, 18) := ⟨⟨by decide +kernel, by decide +kernel⟩, List.mem_of_getElem? (i := 21) (by decide +kernel), List.mem_of_getElem? (i := 467) (by decide +kernel), List.mem_of_getElem? (i := 468) (by decide +kernel)⟩
theorem lw_p13 : lw_okq (⟨"SnowTracks", "keep", "(IIIII)I"⟩, 18) := ⟨⟨by decide +kernel, by decide +kernel⟩, List.mem_of_getElem? (i := 21) (by decide +kernel), List.mem_of_getElem? (i := 472) (by decide +kernel), List.mem_of_getElem? (i := 473) (by decide +kernel)⟩
theorem lw_p14 : lw_okq (⟨"SnowTracks", "tellPrint", "(IIIII)I"⟩, 18) := ⟨⟨by decide +kernel, by decide +kernel⟩, List.mem_of_getElem? (i := 21) (by decide +kernel), List.mem_of_getElem? (i := 480) (by decide +kernel), List.mem_of_getElem? (i := 481) (by decide +kernel)⟩
theorem lw_p15 : lw_okq (⟨"SnowTracks", "tellBegan", "(IIII)I"⟩, 18) := ⟨⟨by decide +kernel, by decide +kernel⟩, List.mem_of_getElem? (i := 21) (by decide +kernel), List.mem_of_getElem? (i := 488) (by decide +kernel), List.mem_of_getElem? (i := 489) (by decide +kernel)⟩
def lw_privs_1 : List (MethodName × Nat) := [(⟨"SnowTracks$Tape", "reads", "(C)Z"⟩, 7), (⟨"SnowTracks$Tape", "skipBlanks", "()V"⟩, 7), (⟨"SnowTracks$Tape", "readsNumber", "(I)Z"⟩, 7), (⟨"SnowTracks$Tape", "readsMoves", "()Z"⟩, 7), (⟨"SnowTracks", "cellAt", "(II)I"⟩, 18), (⟨"SnowTracks$Walk", "leavePrint", "()V"⟩, 9), (⟨"SnowTracks$Player", "move", "(LSnowTracks$Walk;I)V"⟩, 6), (⟨"SnowTracks$Player", "nextCell", "(II)I"⟩, 6), (⟨"SnowTracks", "walkOf", "(I)LSnowTracks$Walk;"⟩, 18), (⟨"SnowTracks", "printsIn", "(II)Z"⟩, 18), (⟨"SnowTracks", "tellAbove", "(IIII)I"⟩, 18), (⟨"SnowTracks", "isCrossing", "(III)Z"⟩, 18), (⟨"SnowTracks", "leadToLieAbove", "(III)I"⟩, 18), (⟨"SnowTracks", "keep", "(IIIII)I"⟩, 18), (⟨"SnowTracks", "tellPrint", "(IIIII)I"⟩, 18), (⟨"SnowTracks", "tellBegan", "(IIII)I"⟩, 18)]
theorem lw_r1 : ∀ q ∈ lw_privs_1, lw_okq q := List.forall_mem_cons.mpr ⟨lw_p0, List.forall_mem_cons.mpr ⟨lw_p1, List.forall_mem_cons.mpr ⟨lw_p2, List.forall_mem_cons.mpr ⟨lw_p3, List.forall_mem_cons.mpr ⟨lw_p4, List.forall_mem_cons.mpr ⟨lw_p5, List.forall_mem_cons.mpr ⟨lw_p6, List.forall_mem_cons.mpr ⟨lw_p7, List.forall_mem_cons.mpr ⟨lw_p8, List.forall_mem_cons.mpr ⟨lw_p9, List.forall_mem_cons.mpr ⟨lw_p10, List.forall_mem_cons.mpr ⟨lw_p11, List.forall_mem_cons.mpr ⟨lw_p12, List.forall_mem_cons.mpr ⟨lw_p13, List.forall_mem_cons.mpr ⟨lw_p14, List.forall_mem_cons.mpr ⟨lw_p15, fun _ h => absurd h List.not_mem_nil⟩⟩⟩⟩⟩⟩⟩⟩⟩⟩⟩⟩⟩⟩⟩⟩
theorem lw_p16 : lw_okq (⟨"SnowTracks", "tellBehind", "(IIII)I"⟩, 18) := ⟨⟨by decide +kernel, by decide +kernel⟩, List.mem_of_getElem? (i := 21) (by decide +kernel), List.mem_of_getElem? (i := 492) (by decide +kernel), List.mem_of_getElem? (i := 493) (by decide +kernel)⟩
theorem lw_p17 : lw_okq (⟨"SnowTracks", "isSet", "(I)Z"⟩, 18) := ⟨⟨by decide +kernel, by decide +kernel⟩, List.mem_of_getElem? (i := 21) (by decide +kernel), List.mem_of_getElem? (i := 508) (by decide +kernel), List.mem_of_getElem? (i := 509) (by decide +kernel)⟩
theorem lw_p18 : lw_okq (⟨"SnowTracks", "drawNet", "(I)I"⟩, 18) := ⟨⟨by decide +kernel, by decide +kernel⟩, List.mem_of_getElem? (i := 21) (by decide +kernel), List.mem_of_getElem? (i := 512) (by decide +kernel), List.mem_of_getElem? (i := 513) (by decide +kernel)⟩
theorem lw_p19 : lw_okq (⟨"SnowTracks$Net", "widen", "(III)V"⟩, 2) := ⟨⟨by decide +kernel, by decide +kernel⟩, List.mem_of_getElem? (i := 67) (by decide +kernel), List.mem_of_getElem? (i := 539) (by decide +kernel), List.mem_of_getElem? (i := 540) (by decide +kernel)⟩
theorem lw_p20 : lw_okq (⟨"SnowTracks$CoreSearch", "goOver", "(LSnowTracks$Net;III)V"⟩, 2) := ⟨⟨by decide +kernel, by decide +kernel⟩, List.mem_of_getElem? (i := 82) (by decide +kernel), List.mem_of_getElem? (i := 565) (by decide +kernel), List.mem_of_getElem? (i := 566) (by decide +kernel)⟩
theorem lw_p21 : lw_okq (⟨"SnowTracks$CoreSearch", "isRoundTripAbove", "(I)Z"⟩, 2) := ⟨⟨by decide +kernel, by decide +kernel⟩, List.mem_of_getElem? (i := 82) (by decide +kernel), List.mem_of_getElem? (i := 572) (by decide +kernel), List.mem_of_getElem? (i := 573) (by decide +kernel)⟩
theorem lw_p22 : lw_okq (⟨"SnowTracks", "withoutWords", "(II)I"⟩, 18) := ⟨⟨by decide +kernel, by decide +kernel⟩, List.mem_of_getElem? (i := 21) (by decide +kernel), List.mem_of_getElem? (i := 580) (by decide +kernel), List.mem_of_getElem? (i := 581) (by decide +kernel)⟩
theorem lw_p23 : lw_okq (⟨"SnowTracks", "speakersOf", "(I)I"⟩, 18) := ⟨⟨by decide +kernel, by decide +kernel⟩, List.mem_of_getElem? (i := 21) (by decide +kernel), List.mem_of_getElem? (i := 584) (by decide +kernel), List.mem_of_getElem? (i := 585) (by decide +kernel)⟩
theorem lw_p24 : lw_okq (⟨"SnowTracks", "canBe", "(I)Z"⟩, 18) := ⟨⟨by decide +kernel, by decide +kernel⟩, List.mem_of_getElem? (i := 21) (by decide +kernel), List.mem_of_getElem? (i := 595) (by decide +kernel), List.mem_of_getElem? (i := 596) (by decide +kernel)⟩
theorem lw_p25 : lw_okq (⟨"SnowTracks", "verdict", "(III)I"⟩, 18) := ⟨⟨by decide +kernel, by decide +kernel⟩, List.mem_of_getElem? (i := 21) (by decide +kernel), List.mem_of_getElem? (i := 629) (by decide +kernel), List.mem_of_getElem? (i := 630) (by decide +kernel)⟩
theorem lw_p26 : lw_okq (⟨"SnowTracks", "lookAtPair", "(II)V"⟩, 18) := ⟨⟨by decide +kernel, by decide +kernel⟩, List.mem_of_getElem? (i := 21) (by decide +kernel), List.mem_of_getElem? (i := 653) (by decide +kernel), List.mem_of_getElem? (i := 654) (by decide +kernel)⟩
theorem lw_p27 : lw_okq (⟨"SnowTracks", "lookAtCrossing", "(III)V"⟩, 18) := ⟨⟨by decide +kernel, by decide +kernel⟩, List.mem_of_getElem? (i := 21) (by decide +kernel), List.mem_of_getElem? (i := 657) (by decide +kernel), List.mem_of_getElem? (i := 658) (by decide +kernel)⟩
theorem lw_p28 : lw_okq (⟨"SnowTracks$ChainSearch", "link", "(III)V"⟩, 5) := ⟨⟨by decide +kernel, by decide +kernel⟩, List.mem_of_getElem? (i := 95) (by decide +kernel), List.mem_of_getElem? (i := 701) (by decide +kernel), List.mem_of_getElem? (i := 702) (by decide +kernel)⟩
theorem lw_p29 : lw_okq (⟨"SnowTracks$ChainSearch", "mayFollow", "(LSnowTracks$Net;II)Z"⟩, 5) := ⟨⟨by decide +kernel, by decide +kernel⟩, List.mem_of_getElem? (i := 95) (by decide +kernel), List.mem_of_getElem? (i := 707) (by decide +kernel), List.mem_of_getElem? (i := 708) (by decide +kernel)⟩
theorem lw_p30 : lw_okq (⟨"SnowTracks", "startAt", "(I)I"⟩, 18) := ⟨⟨by decide +kernel, by decide +kernel⟩, List.mem_of_getElem? (i := 21) (by decide +kernel), List.mem_of_getElem? (i := 722) (by decide +kernel), List.mem_of_getElem? (i := 723) (by decide +kernel)⟩
theorem lw_p31 : lw_okq (⟨"SnowTracks", "showAll", "(I)V"⟩, 18) := ⟨⟨by decide +kernel, by decide +kernel⟩, List.mem_of_getElem? (i := 21) (by decide +kernel), List.mem_of_getElem? (i := 746) (by decide +kernel), List.mem_of_getElem? (i := 747) (by decide +kernel)⟩
def lw_privs_2 : List (MethodName × Nat) := [(⟨"SnowTracks", "tellBehind", "(IIII)I"⟩, 18), (⟨"SnowTracks", "isSet", "(I)Z"⟩, 18), (⟨"SnowTracks", "drawNet", "(I)I"⟩, 18), (⟨"SnowTracks$Net", "widen", "(III)V"⟩, 2), (⟨"SnowTracks$CoreSearch", "goOver", "(LSnowTracks$Net;III)V"⟩, 2), (⟨"SnowTracks$CoreSearch", "isRoundTripAbove", "(I)Z"⟩, 2), (⟨"SnowTracks", "withoutWords", "(II)I"⟩, 18), (⟨"SnowTracks", "speakersOf", "(I)I"⟩, 18), (⟨"SnowTracks", "canBe", "(I)Z"⟩, 18), (⟨"SnowTracks", "verdict", "(III)I"⟩, 18), (⟨"SnowTracks", "lookAtPair", "(II)V"⟩, 18), (⟨"SnowTracks", "lookAtCrossing", "(III)V"⟩, 18), (⟨"SnowTracks$ChainSearch", "link", "(III)V"⟩, 5), (⟨"SnowTracks$ChainSearch", "mayFollow", "(LSnowTracks$Net;II)Z"⟩, 5), (⟨"SnowTracks", "startAt", "(I)I"⟩, 18), (⟨"SnowTracks", "showAll", "(I)V"⟩, 18)]
theorem lw_r2 : ∀ q ∈ lw_privs_2, lw_okq q := List.forall_mem_cons.mpr ⟨lw_p16, List.forall_mem_cons.mpr ⟨lw_p17, List.forall_mem_cons.mpr ⟨lw_p18, List.forall_mem_cons.mpr ⟨lw_p19, List.forall_mem_cons.mpr ⟨lw_p20, List.forall_mem_cons.mpr ⟨lw_p21, List.forall_mem_cons.mpr ⟨lw_p22, List.forall_mem_cons.mpr ⟨lw_p23, List.forall_mem_cons.mpr ⟨lw_p24, List.forall_mem_cons.mpr ⟨lw_p25, List.forall_mem_cons.mpr ⟨lw_p26, List.forall_mem_cons.mpr ⟨lw_p27, List.forall_mem_cons.mpr ⟨lw_p28, List.forall_mem_cons.mpr ⟨lw_p29, List.forall_mem_cons.mpr ⟨lw_p30, List.forall_mem_cons.mpr ⟨lw_p31, fun _ h => absurd h List.not_mem_nil⟩⟩⟩⟩⟩⟩⟩⟩⟩⟩⟩⟩⟩⟩⟩⟩
theorem lw_p32 : lw_okq (⟨"SnowTracks", "latestSnow", "(I)I"⟩, 18) := ⟨⟨by decide +kernel, by decide +kernel⟩, List.mem_of_getElem? (i := 21) (by decide +kernel), List.mem_of_getElem? (i := 751) (by decide +kernel), List.mem_of_getElem? (i := 752) (by decide +kernel)⟩
theorem lw_p33 : lw_okq (⟨"SnowTracks", "showWalk", "(ILSnowTracks$Walk;II)V"⟩, 18) := ⟨⟨by decide +kernel, by decide +kernel⟩, List.mem_of_getElem? (i := 21) (by decide +kernel), List.mem_of_getElem? (i := 755) (by decide +kernel), List.mem_of_getElem? (i := 756) (by decide +kernel)⟩
theorem lw_p34 : lw_okq (⟨"SnowTracks$RowSearch", "extend", "(III)V"⟩, 5) := ⟨⟨by decide +kernel, by decide +kernel⟩, List.mem_of_getElem? (i := 120) (by decide +kernel), List.mem_of_getElem? (i := 778) (by decide +kernel), List.mem_of_getElem? (i := 779) (by decide +kernel)⟩
theorem lw_p35 : lw_okq (⟨"SnowTracks$RowSearch", "rises", "(III)Z"⟩, 5) := ⟨⟨by decide +kernel, by decide +kernel⟩, List.mem_of_getElem? (i := 120) (by decide +kernel), List.mem_of_getElem? (i := 783) (by decide +kernel), List.mem_of_getElem? (i := 784) (by decide +kernel)⟩
theorem lw_p36 : lw_okq (⟨"java/lang/Throwable", "fillInStackTrace", "(I)Ljava/lang/Throwable;"⟩, 6) := ⟨⟨by decide +kernel, by decide +kernel⟩, List.mem_of_getElem? (i := 846) (by decide +kernel), List.mem_of_getElem? (i := 844) (by decide +kernel), List.mem_of_getElem? (i := 845) (by decide +kernel)⟩
theorem lw_p37 : lw_okq (⟨"SnowTracksModel", "read", "(Z)I"⟩, 41) := ⟨⟨by decide +kernel, by decide +kernel⟩, List.mem_of_getElem? (i := 871) (by decide +kernel), List.mem_of_getElem? (i := 1025) (by decide +kernel), List.mem_of_getElem? (i := 1026) (by decide +kernel)⟩
theorem lw_p38 : lw_okq (⟨"SnowTracksModel", "sign", "(I)V"⟩, 41) := ⟨⟨by decide +kernel, by decide +kernel⟩, List.mem_of_getElem? (i := 871) (by decide +kernel), List.mem_of_getElem? (i := 1029) (by decide +kernel), List.mem_of_getElem? (i := 1030) (by decide +kernel)⟩
theorem lw_p39 : lw_okq (⟨"SnowTracksModel", "look", "()I"⟩, 41) := ⟨⟨by decide +kernel, by decide +kernel⟩, List.mem_of_getElem? (i := 871) (by decide +kernel), List.mem_of_getElem? (i := 1033) (by decide +kernel), List.mem_of_getElem? (i := 1034) (by decide +kernel)⟩
theorem lw_p40 : lw_okq (⟨"SnowTracksModel", "here", "()I"⟩, 41) := ⟨⟨by decide +kernel, by decide +kernel⟩, List.mem_of_getElem? (i := 871) (by decide +kernel), List.mem_of_getElem? (i := 1037) (by decide +kernel), List.mem_of_getElem? (i := 1038) (by decide +kernel)⟩
theorem lw_p41 : lw_okq (⟨"SnowTracksModel", "bad", "()V"⟩, 41) := ⟨⟨by decide +kernel, by decide +kernel⟩, List.mem_of_getElem? (i := 871) (by decide +kernel), List.mem_of_getElem? (i := 1041) (by decide +kernel), List.mem_of_getElem? (i := 1042) (by decide +kernel)⟩
theorem lw_p42 : lw_okq (⟨"SnowTracksModel", "number", "(I)I"⟩, 41) := ⟨⟨by decide +kernel, by decide +kernel⟩, List.mem_of_getElem? (i := 871) (by decide +kernel), List.mem_of_getElem? (i := 1045) (by decide +kernel), List.mem_of_getElem? (i := 1046) (by decide +kernel)⟩
theorem lw_p43 : lw_okq (⟨"SnowTracksModel", "moves", "(Z)V"⟩, 41) := ⟨⟨by decide +kernel, by decide +kernel⟩, List.mem_of_getElem? (i := 871) (by decide +kernel), List.mem_of_getElem? (i := 1052) (by decide +kernel), List.mem_of_getElem? (i := 1053) (by decide +kernel)⟩
theorem lw_p44 : lw_okq (⟨"SnowTracksModel", "move", "(IIZ)V"⟩, 41) := ⟨⟨by decide +kernel, by decide +kernel⟩, List.mem_of_getElem? (i := 871) (by decide +kernel), List.mem_of_getElem? (i := 1059) (by decide +kernel), List.mem_of_getElem? (i := 1060) (by decide +kernel)⟩
theorem lw_p45 : lw_okq (⟨"SnowTracksModel", "step", "(I)V"⟩, 41) := ⟨⟨by decide +kernel, by decide +kernel⟩, List.mem_of_getElem? (i := 871) (by decide +kernel), List.mem_of_getElem? (i := 1063) (by decide +kernel), List.mem_of_getElem? (i := 1064) (by decide +kernel)⟩
theorem lw_p46 : lw_okq (⟨"SnowTracksModel", "stand", "()V"⟩, 41) := ⟨⟨by decide +kernel, by decide +kernel⟩, List.mem_of_getElem? (i := 871) (by decide +kernel), List.mem_of_getElem? (i := 1070) (by decide +kernel), List.mem_of_getElem? (i := 1071) (by decide +kernel)⟩
theorem lw_p47 : lw_okq (⟨"SnowTracksModel", "isWalk", "(I)Z"⟩, 41) := ⟨⟨by decide +kernel, by decide +kernel⟩, List.mem_of_getElem? (i := 871) (by decide +kernel), List.mem_of_getElem? (i := 1082) (by decide +kernel), List.mem_of_getElem? (i := 1083) (by decide +kernel)⟩
def lw_privs_3 : List (MethodName × Nat) := [(⟨"SnowTracks", "latestSnow", "(I)I"⟩, 18), (⟨"SnowTracks", "showWalk", "(ILSnowTracks$Walk;II)V"⟩, 18), (⟨"SnowTracks$RowSearch", "extend", "(III)V"⟩, 5), (⟨"SnowTracks$RowSearch", "rises", "(III)Z"⟩, 5), (⟨"java/lang/Throwable", "fillInStackTrace", "(I)Ljava/lang/Throwable;"⟩, 6), (⟨"SnowTracksModel", "read", "(Z)I"⟩, 41), (⟨"SnowTracksModel", "sign", "(I)V"⟩, 41), (⟨"SnowTracksModel", "look", "()I"⟩, 41), (⟨"SnowTracksModel", "here", "()I"⟩, 41), (⟨"SnowTracksModel", "bad", "()V"⟩, 41), (⟨"SnowTracksModel", "number", "(I)I"⟩, 41), (⟨"SnowTracksModel", "moves", "(Z)V"⟩, 41), (⟨"SnowTracksModel", "move", "(IIZ)V"⟩, 41), (⟨"SnowTracksModel", "step", "(I)V"⟩, 41), (⟨"SnowTracksModel", "stand", "()V"⟩, 41), (⟨"SnowTracksModel", "isWalk", "(I)Z"⟩, 41)]
theorem lw_r3 : ∀ q ∈ lw_privs_3, lw_okq q := List.forall_mem_cons.mpr ⟨lw_p32, List.forall_mem_cons.mpr ⟨lw_p33, List.forall_mem_cons.mpr ⟨lw_p34, List.forall_mem_cons.mpr ⟨lw_p35, List.forall_mem_cons.mpr ⟨lw_p36, List.forall_mem_cons.mpr ⟨lw_p37, List.forall_mem_cons.mpr ⟨lw_p38, List.forall_mem_cons.mpr ⟨lw_p39, List.forall_mem_cons.mpr ⟨lw_p40, List.forall_mem_cons.mpr ⟨lw_p41, List.forall_mem_cons.mpr ⟨lw_p42, List.forall_mem_cons.mpr ⟨lw_p43, List.forall_mem_cons.mpr ⟨lw_p44, List.forall_mem_cons.mpr ⟨lw_p45, List.forall_mem_cons.mpr ⟨lw_p46, List.forall_mem_cons.mpr ⟨lw_p47, fun _ h => absurd h List.not_mem_nil⟩⟩⟩⟩⟩⟩⟩⟩⟩⟩⟩⟩⟩⟩⟩⟩
theorem lw_p48 : lw_okq (⟨"SnowTracksModel", "hasPrint", "(II)Z"⟩, 41) := ⟨⟨by decide +kernel, by decide +kernel⟩, List.mem_of_getElem? (i := 871) (by decide +kernel), List.mem_of_getElem? (i := 1086) (by decide +kernel), List.mem_of_getElem? (i := 1087) (by decide +kernel)⟩
theorem lw_p49 : lw_okq (⟨"SnowTracksModel", "cellAt", "(II)I"⟩, 41) := ⟨⟨by decide +kernel, by decide +kernel⟩, List.mem_of_getElem? (i := 871) (by decide +kernel), List.mem_of_getElem? (i := 1090) (by decide +kernel), List.mem_of_getElem? (i := 1091) (by decide +kernel)⟩
theorem lw_p50 : lw_okq (⟨"SnowTracksModel", "isCell", "(II)Z"⟩, 41) := ⟨⟨by decide +kernel, by decide +kernel⟩, List.mem_of_getElem? (i := 871) (by decide +kernel), List.mem_of_getElem? (i := 1102) (by decide +kernel), List.mem_of_getElem? (i := 1103) (by decide +kernel)⟩
theorem lw_p51 : lw_okq (⟨"SnowTracksModel", "latestIn", "(II)I"⟩, 41) := ⟨⟨by decide +kernel, by decide +kernel⟩, List.mem_of_getElem? (i := 871) (by decide +kernel), List.mem_of_getElem? (i := 1106) (by decide +kernel), List.mem_of_getElem? (i := 1107) (by decide +kernel)⟩
theorem lw_p52 : lw_okq (⟨"SnowTracksModel", "mayBe", "(IIIII)Z"⟩, 41) := ⟨⟨by decide +kernel, by decide +kernel⟩, List.mem_of_getElem? (i := 871) (by decide +kernel), List.mem_of_getElem? (i := 1118) (by decide +kernel), List.mem_of_getElem? (i := 1119) (by decide +kernel)⟩
theorem lw_p53 : lw_okq (⟨"SnowTracksModel", "hasLatest", "(III)Z"⟩, 41) := ⟨⟨by decide +kernel, by decide +kernel⟩, List.mem_of_getElem? (i := 871) (by decide +kernel), List.mem_of_getElem? (i := 1122) (by decide +kernel), List.mem_of_getElem? (i := 1123) (by decide +kernel)⟩
theorem lw_p54 : lw_okq (⟨"SnowTracksModel", "isSet", "(I)Z"⟩, 41) := ⟨⟨by decide +kernel, by decide +kernel⟩, List.mem_of_getElem? (i := 871) (by decide +kernel), List.mem_of_getElem? (i := 1139) (by decide +kernel), List.mem_of_getElem? (i := 1140) (by decide +kernel)⟩
theorem lw_p55 : lw_okq (⟨"SnowTracksModel", "canBe", "(I)Z"⟩, 41) := ⟨⟨by decide +kernel, by decide +kernel⟩, List.mem_of_getElem? (i := 871) (by decide +kernel), List.mem_of_getElem? (i := 1143) (by decide +kernel), List.mem_of_getElem? (i := 1144) (by decide +kernel)⟩
theorem lw_p56 : lw_okq (⟨"SnowTracksModel", "lay", "(I)V"⟩, 41) := ⟨⟨by decide +kernel, by decide +kernel⟩, List.mem_of_getElem? (i := 871) (by decide +kernel), List.mem_of_getElem? (i := 1147) (by decide +kernel), List.mem_of_getElem? (i := 1148) (by decide +kernel)⟩
theorem lw_p57 : lw_okq (⟨"SnowTracksModel", "begin", "()V"⟩, 41) := ⟨⟨by decide +kernel, by decide +kernel⟩, List.mem_of_getElem? (i := 871) (by decide +kernel), List.mem_of_getElem? (i := 1151) (by decide +kernel), List.mem_of_getElem? (i := 1152) (by decide +kernel)⟩
theorem lw_p58 : lw_okq (⟨"SnowTracksModel", "least", "(III)V"⟩, 41) := ⟨⟨by decide +kernel, by decide +kernel⟩, List.mem_of_getElem? (i := 871) (by decide +kernel), List.mem_of_getElem? (i := 1156) (by decide +kernel), List.mem_of_getElem? (i := 1157) (by decide +kernel)⟩
theorem lw_p59 : lw_okq (⟨"SnowTracksModel", "add", "(I)V"⟩, 41) := ⟨⟨by decide +kernel, by decide +kernel⟩, List.mem_of_getElem? (i := 871) (by decide +kernel), List.mem_of_getElem? (i := 1160) (by decide +kernel), List.mem_of_getElem? (i := 1161) (by decide +kernel)⟩
theorem lw_p60 : lw_okq (⟨"SnowTracksModel", "above", "(III)V"⟩, 41) := ⟨⟨by decide +kernel, by decide +kernel⟩, List.mem_of_getElem? (i := 871) (by decide +kernel), List.mem_of_getElem? (i := 1164) (by decide +kernel), List.mem_of_getElem? (i := 1165) (by decide +kernel)⟩
theorem lw_p61 : lw_okq (⟨"SnowTracksModel", "made", "(II)I"⟩, 41) := ⟨⟨by decide +kernel, by decide +kernel⟩, List.mem_of_getElem? (i := 871) (by decide +kernel), List.mem_of_getElem? (i := 1168) (by decide +kernel), List.mem_of_getElem? (i := 1169) (by decide +kernel)⟩
theorem lw_p62 : lw_okq (⟨"SnowTracksModel", "close", "()Z"⟩, 41) := ⟨⟨by decide +kernel, by decide +kernel⟩, List.mem_of_getElem? (i := 871) (by decide +kernel), List.mem_of_getElem? (i := 1172) (by decide +kernel), List.mem_of_getElem? (i := 1173) (by decide +kernel)⟩
theorem lw_p63 : lw_okq (⟨"SnowTracksModel", "wordsOf", "(I)I"⟩, 41) := ⟨⟨by decide +kernel, by decide +kernel⟩, List.mem_of_getElem? (i := 871) (by decide +kernel), List.mem_of_getElem? (i := 1189) (by decide +kernel), List.mem_of_getElem? (i := 1190) (by decide +kernel)⟩
def lw_privs_4 : List (MethodName × Nat) := [(⟨"SnowTracksModel", "hasPrint", "(II)Z"⟩, 41), (⟨"SnowTracksModel", "cellAt", "(II)I"⟩, 41), (⟨"SnowTracksModel", "isCell", "(II)Z"⟩, 41), (⟨"SnowTracksModel", "latestIn", "(II)I"⟩, 41), (⟨"SnowTracksModel", "mayBe", "(IIIII)Z"⟩, 41), (⟨"SnowTracksModel", "hasLatest", "(III)Z"⟩, 41), (⟨"SnowTracksModel", "isSet", "(I)Z"⟩, 41), (⟨"SnowTracksModel", "canBe", "(I)Z"⟩, 41), (⟨"SnowTracksModel", "lay", "(I)V"⟩, 41), (⟨"SnowTracksModel", "begin", "()V"⟩, 41), (⟨"SnowTracksModel", "least", "(III)V"⟩, 41), (⟨"SnowTracksModel", "add", "(I)V"⟩, 41), (⟨"SnowTracksModel", "above", "(III)V"⟩, 41), (⟨"SnowTracksModel", "made", "(II)I"⟩, 41), (⟨"SnowTracksModel", "close", "()Z"⟩, 41), (⟨"SnowTracksModel", "wordsOf", "(I)I"⟩, 41)]
theorem lw_r4 : ∀ q ∈ lw_privs_4, lw_okq q := List.forall_mem_cons.mpr ⟨lw_p48, List.forall_mem_cons.mpr ⟨lw_p49, List.forall_mem_cons.mpr ⟨lw_p50, List.forall_mem_cons.mpr ⟨lw_p51, List.forall_mem_cons.mpr ⟨lw_p52, List.forall_mem_cons.mpr ⟨lw_p53, List.forall_mem_cons.mpr ⟨lw_p54, List.forall_mem_cons.mpr ⟨lw_p55, List.forall_mem_cons.mpr ⟨lw_p56, List.forall_mem_cons.mpr ⟨lw_p57, List.forall_mem_cons.mpr ⟨lw_p58, List.forall_mem_cons.mpr ⟨lw_p59, List.forall_mem_cons.mpr ⟨lw_p60, List.forall_mem_cons.mpr ⟨lw_p61, List.forall_mem_cons.mpr ⟨lw_p62, List.forall_mem_cons.mpr ⟨lw_p63, fun _ h => absurd h List.not_mem_nil⟩⟩⟩⟩⟩⟩⟩⟩⟩⟩⟩⟩⟩⟩⟩⟩
theorem lw_p64 : lw_okq (⟨"SnowTracksModel", "low", "(I)I"⟩, 41) := ⟨⟨by decide +kernel, by decide +kernel⟩, List.mem_of_getElem? (i := 871) (by decide +kernel), List.mem_of_getElem? (i := 1197) (by decide +kernel), List.mem_of_getElem? (i := 1198) (by decide +kernel)⟩
theorem lw_p65 : lw_okq (⟨"SnowTracksModel", "high", "(I)I"⟩, 41) := ⟨⟨by decide +kernel, by decide +kernel⟩, List.mem_of_getElem? (i := 871) (by decide +kernel), List.mem_of_getElem? (i := 1201) (by decide +kernel), List.mem_of_getElem? (i := 1202) (by decide +kernel)⟩
theorem lw_p66 : lw_okq (⟨"SnowTracksModel", "gapLow", "(II)I"⟩, 41) := ⟨⟨by decide +kernel, by decide +kernel⟩, List.mem_of_getElem? (i := 871) (by decide +kernel), List.mem_of_getElem? (i := 1209) (by decide +kernel), List.mem_of_getElem? (i := 1210) (by decide +kernel)⟩
theorem lw_p67 : lw_okq (⟨"SnowTracksModel", "gapHigh", "(II)I"⟩, 41) := ⟨⟨by decide +kernel, by decide +kernel⟩, List.mem_of_getElem? (i := 871) (by decide +kernel), List.mem_of_getElem? (i := 1213) (by decide +kernel), List.mem_of_getElem? (i := 1214) (by decide +kernel)⟩
theorem lw_p68 : lw_okq (⟨"SnowTracksModel", "areTwo", "(II)Z"⟩, 41) := ⟨⟨by decide +kernel, by decide +kernel⟩, List.mem_of_getElem? (i := 871) (by decide +kernel), List.mem_of_getElem? (i := 1222) (by decide +kernel), List.mem_of_getElem? (i := 1223) (by decide +kernel)⟩
theorem lw_p69 : lw_okq (⟨"SnowTracksModel", "cross", "(III)Z"⟩, 41) := ⟨⟨by decide +kernel, by decide +kernel⟩, List.mem_of_getElem? (i := 871) (by decide +kernel), List.mem_of_getElem? (i := 1226) (by decide +kernel), List.mem_of_getElem? (i := 1227) (by decide +kernel)⟩
theorem lw_p70 : lw_okq (⟨"SnowTracksModel", "sureOf", "(III)I"⟩, 41) := ⟨⟨by decide +kernel, by decide +kernel⟩, List.mem_of_getElem? (i := 871) (by decide +kernel), List.mem_of_getElem? (i := 1234) (by decide +kernel), List.mem_of_getElem? (i := 1235) (by decide +kernel)⟩
theorem lw_p71 : lw_okq (⟨"SnowTracksModel", "spanNow", "()I"⟩, 41) := ⟨⟨by decide +kernel, by decide +kernel⟩, List.mem_of_getElem? (i := 871) (by decide +kernel), List.mem_of_getElem? (i := 1246) (by decide +kernel), List.mem_of_getElem? (i := 1247) (by decide +kernel)⟩
theorem lw_p72 : lw_okq (⟨"SnowTracksModel", "findLook", "(I)V"⟩, 41) := ⟨⟨by decide +kernel, by decide +kernel⟩, List.mem_of_getElem? (i := 871) (by decide +kernel), List.mem_of_getElem? (i := 1254) (by decide +kernel), List.mem_of_getElem? (i := 1255) (by decide +kernel)⟩
theorem lw_p73 : lw_okq (⟨"SnowTracksModel", "weigh", "(IIII)V"⟩, 41) := ⟨⟨by decide +kernel, by decide +kernel⟩, List.mem_of_getElem? (i := 871) (by decide +kernel), List.mem_of_getElem? (i := 1258) (by decide +kernel), List.mem_of_getElem? (i := 1259) (by decide +kernel)⟩
theorem lw_p74 : lw_okq (⟨"SnowTracksModel", "spanWith", "(IIII)I"⟩, 41) := ⟨⟨by decide +kernel, by decide +kernel⟩, List.mem_of_getElem? (i := 871) (by decide +kernel), List.mem_of_getElem? (i := 1262) (by decide +kernel), List.mem_of_getElem? (i := 1263) (by decide +kernel)⟩
theorem lw_p75 : lw_okq (⟨"SnowTracksModel", "length", "(I)I"⟩, 41) := ⟨⟨by decide +kernel, by decide +kernel⟩, List.mem_of_getElem? (i := 871) (by decide +kernel), List.mem_of_getElem? (i := 1274) (by decide +kernel), List.mem_of_getElem? (i := 1275) (by decide +kernel)⟩
theorem lw_p76 : lw_okq (⟨"SnowTracksModel", "seek", "(III)V"⟩, 41) := ⟨⟨by decide +kernel, by decide +kernel⟩, List.mem_of_getElem? (i := 871) (by decide +kernel), List.mem_of_getElem? (i := 1282) (by decide +kernel), List.mem_of_getElem? (i := 1283) (by decide +kernel)⟩
theorem lw_p77 : lw_okq (⟨"SnowTracksModel", "isTaken", "(II)Z"⟩, 41) := ⟨⟨by decide +kernel, by decide +kernel⟩, List.mem_of_getElem? (i := 871) (by decide +kernel), List.mem_of_getElem? (i := 1286) (by decide +kernel), List.mem_of_getElem? (i := 1287) (by decide +kernel)⟩
theorem lw_p78 : lw_okq (⟨"SnowTracksModel", "holds", "(I)Z"⟩, 41) := ⟨⟨by decide +kernel, by decide +kernel⟩, List.mem_of_getElem? (i := 871) (by decide +kernel), List.mem_of_getElem? (i := 1298) (by decide +kernel), List.mem_of_getElem? (i := 1299) (by decide +kernel)⟩
theorem lw_p79 : lw_okq (⟨"SnowTracksModel", "shownIn", "(II)I"⟩, 41) := ⟨⟨by decide +kernel, by decide +kernel⟩, List.mem_of_getElem? (i := 871) (by decide +kernel), List.mem_of_getElem? (i := 1318) (by decide +kernel), List.mem_of_getElem? (i := 1319) (by decide +kernel)⟩
def lw_privs_5 : List (MethodName × Nat) := [(⟨"SnowTracksModel", "low", "(I)I"⟩, 41), (⟨"SnowTracksModel", "high", "(I)I"⟩, 41), (⟨"SnowTracksModel", "gapLow", "(II)I"⟩, 41), (⟨"SnowTracksModel", "gapHigh", "(II)I"⟩, 41), (⟨"SnowTracksModel", "areTwo", "(II)Z"⟩, 41), (⟨"SnowTracksModel", "cross", "(III)Z"⟩, 41), (⟨"SnowTracksModel", "sureOf", "(III)I"⟩, 41), (⟨"SnowTracksModel", "spanNow", "()I"⟩, 41), (⟨"SnowTracksModel", "findLook", "(I)V"⟩, 41), (⟨"SnowTracksModel", "weigh", "(IIII)V"⟩, 41), (⟨"SnowTracksModel", "spanWith", "(IIII)I"⟩, 41), (⟨"SnowTracksModel", "length", "(I)I"⟩, 41), (⟨"SnowTracksModel", "seek", "(III)V"⟩, 41), (⟨"SnowTracksModel", "isTaken", "(II)Z"⟩, 41), (⟨"SnowTracksModel", "holds", "(I)Z"⟩, 41), (⟨"SnowTracksModel", "shownIn", "(II)I"⟩, 41)]
theorem lw_r5 : ∀ q ∈ lw_privs_5, lw_okq q := List.forall_mem_cons.mpr ⟨lw_p64, List.forall_mem_cons.mpr ⟨lw_p65, List.forall_mem_cons.mpr ⟨lw_p66, List.forall_mem_cons.mpr ⟨lw_p67, List.forall_mem_cons.mpr ⟨lw_p68, List.forall_mem_cons.mpr ⟨lw_p69, List.forall_mem_cons.mpr ⟨lw_p70, List.forall_mem_cons.mpr ⟨lw_p71, List.forall_mem_cons.mpr ⟨lw_p72, List.forall_mem_cons.mpr ⟨lw_p73, List.forall_mem_cons.mpr ⟨lw_p74, List.forall_mem_cons.mpr ⟨lw_p75, List.forall_mem_cons.mpr ⟨lw_p76, List.forall_mem_cons.mpr ⟨lw_p77, List.forall_mem_cons.mpr ⟨lw_p78, List.forall_mem_cons.mpr ⟨lw_p79, fun _ h => absurd h List.not_mem_nil⟩⟩⟩⟩⟩⟩⟩⟩⟩⟩⟩⟩⟩⟩⟩⟩
theorem lw_p80 : lw_okq (⟨"SnowTracksModel", "rise", "(III)V"⟩, 41) := ⟨⟨by decide +kernel, by decide +kernel⟩, List.mem_of_getElem? (i := 871) (by decide +kernel), List.mem_of_getElem? (i := 1330) (by decide +kernel), List.mem_of_getElem? (i := 1331) (by decide +kernel)⟩
def lw_privs_6 : List (MethodName × Nat) := [(⟨"SnowTracksModel", "rise", "(III)V"⟩, 41)]
theorem lw_r6 : ∀ q ∈ lw_privs_6, lw_okq q := List.forall_mem_cons.mpr ⟨lw_p80, fun _ h => absurd h List.not_mem_nil⟩
def lw_privs : List (MethodName × Nat) := lw_privs_1 ++ (lw_privs_2 ++ (lw_privs_3 ++ (lw_privs_4 ++ (lw_privs_5 ++ (lw_privs_6)))))
def lw_tbl : List Cond := k2_sels lw_privs ++ tables_1
theorem lw_privs_ok : ∀ q ∈ lw_privs, lw_okq q := by
  show ∀ q ∈ lw_privs_1 ++ (lw_privs_2 ++ (lw_privs_3 ++ (lw_privs_4 ++ (lw_privs_5 ++ (lw_privs_6))))), lw_okq q
  exact List.forall_mem_append.mpr ⟨lw_r1, List.forall_mem_append.mpr ⟨lw_r2, List.forall_mem_append.mpr ⟨lw_r3, List.forall_mem_append.mpr ⟨lw_r4, List.forall_mem_append.mpr ⟨lw_r5, lw_r6⟩⟩⟩⟩⟩
def RX0 : String := "SnowTracks$ChainSearch"
def TX0 : u_T := fun k => match k with
  | 0 => ("SnowTracks$ChainSearch", "nets", "[LSnowTracks$Net;", true)
  | 1 => ("SnowTracks$ChainSearch", "boots", "[I", true)
  | 2 => ("SnowTracks$ChainSearch", "lengths", "[I", true)
  | 3 => ("SnowTracks$ChainSearch", "walkCount", "I", false)
  | _ => ("SnowTracks$ChainSearch", "best", "I", false)
def tyX0 : Nat → FieldType := fun k => match k with
  | 0 => .array (.object "SnowTracks$Net")
  | 1 => .array .int
  | 2 => .array .int
  | 3 => .int
  | _ => .int
theorem nmX0 : ∀ a, a < 5 → ∀ b, b < 5 → a ≠ b → (TX0 a).2.1 ≠ (TX0 b).2.1 := by decide +kernel
theorem tyX0_ok : ∀ k, k < 5 → parseFieldDescriptor (TX0 k).2.2.1 = some (tyX0 k) := by decide +kernel
abbrev cX0_init : ByteArray := prog_2_method_1_code
def yX0_init : MethodName := ⟨RX0, "<init>", "()V"⟩
abbrev cX0_mostLinks : ByteArray := prog_2_method_2_code
def yX0_mostLinks : MethodName := ⟨RX0, "mostLinks", "(LSnowTracks$Net;[LSnowTracks$Walk;I)I"⟩
abbrev cX0_link : ByteArray := prog_2_method_3_code
def yX0_link : MethodName := ⟨RX0, "link", "(III)V"⟩
abbrev cX0_mayFollow : ByteArray := prog_2_method_4_code
def yX0_mayFollow : MethodName := ⟨RX0, "mayFollow", "(LSnowTracks$Net;II)Z"⟩
def RX1 : String := "SnowTracks$CoreSearch"
def TX1 : u_T := fun k => match k with
  | 0 => ("SnowTracks$CoreSearch", "before", "[I", true)
  | _ => ("SnowTracks$CoreSearch", "after", "[I", true)
def tyX1 : Nat → FieldType := fun k => match k with
  | 0 => .array .int
  | _ => .array .int
theorem nmX1 : ∀ a, a < 2 → ∀ b, b < 2 → a ≠ b → (TX1 a).2.1 ≠ (TX1 b).2.1 := by decide +kernel
theorem tyX1_ok : ∀ k, k < 2 → parseFieldDescriptor (TX1 k).2.2.1 = some (tyX1 k) := by decide +kernel
abbrev cX1_init : ByteArray := prog_3_method_1_code
def yX1_init : MethodName := ⟨RX1, "<init>", "()V"⟩
abbrev cX1_fewest : ByteArray := prog_3_method_2_code
def yX1_fewest : MethodName := ⟨RX1, "fewest", "(LSnowTracks$Net;[LSnowTracks$Fact;II)I"⟩
abbrev cX1_goOver : ByteArray := prog_3_method_3_code
def yX1_goOver : MethodName := ⟨RX1, "goOver", "(LSnowTracks$Net;III)V"⟩
abbrev cX1_isRoundTripAbove : ByteArray := prog_3_method_4_code
def yX1_isRoundTripAbove : MethodName := ⟨RX1, "isRoundTripAbove", "(I)Z"⟩
def RX2 : String := "SnowTracks$Fact"
def TX2 : u_T := fun k => match k with
  | 0 => ("SnowTracks$Fact", "who", "I", false)
  | 1 => ("SnowTracks$Fact", "over", "I", false)
  | 2 => ("SnowTracks$Fact", "under", "I", false)
  | 3 => ("SnowTracks$Fact", "least", "I", false)
  | _ => ("SnowTracks$Fact", "most", "I", false)
def tyX2 : Nat → FieldType := fun k => match k with
  | 0 => .int
  | 1 => .int
  | 2 => .int
  | 3 => .int
  | _ => .int
theorem nmX2 : ∀ a, a < 5 → ∀ b, b < 5 → a ≠ b → (TX2 a).2.1 ≠ (TX2 b).2.1 := by decide +kernel
theorem tyX2_ok : ∀ k, k < 5 → parseFieldDescriptor (TX2 k).2.2.1 = some (tyX2 k) := by decide +kernel
abbrev cX2_init : ByteArray := prog_4_method_1_code
def yX2_init : MethodName := ⟨RX2, "<init>", "()V"⟩
abbrev cX2_tell : ByteArray := prog_4_method_2_code
def yX2_tell : MethodName := ⟨RX2, "tell", "(IIIII)V"⟩
def RX3 : String := "SnowTracks$Glance"
def TX3 : u_T := fun k => match k with
  | 0 => ("SnowTracks$Glance", "a", "I", false)
  | 1 => ("SnowTracks$Glance", "b", "I", false)
  | 2 => ("SnowTracks$Glance", "cell", "I", false)
  | _ => ("SnowTracks$Glance", "widest", "I", false)
def tyX3 : Nat → FieldType := fun k => match k with
  | 0 => .int
  | 1 => .int
  | 2 => .int
  | _ => .int
theorem nmX3 : ∀ a, a < 4 → ∀ b, b < 4 → a ≠ b → (TX3 a).2.1 ≠ (TX3 b).2.1 := by decide +kernel
theorem tyX3_ok : ∀ k, k < 4 → parseFieldDescriptor (TX3 k).2.2.1 = some (tyX3 k) := by decide +kernel
abbrev cX3_init : ByteArray := prog_5_method_1_code
def yX3_init : MethodName := ⟨RX3, "<init>", "()V"⟩
abbrev cX3_clear : ByteArray := prog_5_method_2_code
def yX3_clear : MethodName := ⟨RX3, "clear", "()V"⟩
abbrev cX3_isBetter : ByteArray := prog_5_method_3_code
def yX3_isBetter : MethodName := ⟨RX3, "isBetter", "(I)Z"⟩
abbrev cX3_offer : ByteArray := prog_5_method_4_code
def yX3_offer : MethodName := ⟨RX3, "offer", "(IIII)V"⟩
def RX4 : String := "SnowTracks$Net"
def TX4 : u_T := fun k => match k with
  | 0 => ("SnowTracks$Net", "gaps", "[I", true)
  | _ => ("SnowTracks$Net", "points", "I", false)
def tyX4 : Nat → FieldType := fun k => match k with
  | 0 => .array .int
  | _ => .int
theorem nmX4 : ∀ a, a < 2 → ∀ b, b < 2 → a ≠ b → (TX4 a).2.1 ≠ (TX4 b).2.1 := by decide +kernel
theorem tyX4_ok : ∀ k, k < 2 → parseFieldDescriptor (TX4 k).2.2.1 = some (tyX4 k) := by decide +kernel
abbrev cX4_init : ByteArray := prog_6_method_1_code
def yX4_init : MethodName := ⟨RX4, "<init>", "()V"⟩
abbrev cX4_clear : ByteArray := prog_6_method_2_code
def yX4_clear : MethodName := ⟨RX4, "clear", "(II)V"⟩
abbrev cX4_copy : ByteArray := prog_6_method_3_code
def yX4_copy : MethodName := ⟨RX4, "copy", "(LSnowTracks$Net;)V"⟩
abbrev cX4_least : ByteArray := prog_6_method_4_code
def yX4_least : MethodName := ⟨RX4, "least", "(II)I"⟩
abbrev cX4_takes : ByteArray := prog_6_method_5_code
def yX4_takes : MethodName := ⟨RX4, "takes", "(LSnowTracks$Fact;)Z"⟩
abbrev cX4_fits : ByteArray := prog_6_method_6_code
def yX4_fits : MethodName := ⟨RX4, "fits", "(III)Z"⟩
abbrev cX4_takesGap : ByteArray := prog_6_method_7_code
def yX4_takesGap : MethodName := ⟨RX4, "takesGap", "(III)Z"⟩
abbrev cX4_widen : ByteArray := prog_6_method_8_code
def yX4_widen : MethodName := ⟨RX4, "widen", "(III)V"⟩
abbrev cX4_leastGap : ByteArray := prog_6_method_9_code
def yX4_leastGap : MethodName := ⟨RX4, "leastGap", "(II)I"⟩
abbrev cX4_greatestGap : ByteArray := prog_6_method_10_code
def yX4_greatestGap : MethodName := ⟨RX4, "greatestGap", "(II)I"⟩
abbrev cX4_firstOf : ByteArray := prog_6_method_11_code
def yX4_firstOf : MethodName := ⟨RX4, "firstOf", "(I)I"⟩
abbrev cX4_lastOf : ByteArray := prog_6_method_12_code
def yX4_lastOf : MethodName := ⟨RX4, "lastOf", "(I)I"⟩
abbrev cX4_wholeSpan : ByteArray := prog_6_method_13_code
def yX4_wholeSpan : MethodName := ⟨RX4, "wholeSpan", "()I"⟩
abbrev cX4_spanWith : ByteArray := prog_6_method_14_code
def yX4_spanWith : MethodName := ⟨RX4, "spanWith", "(III)I"⟩
def RX5 : String := "SnowTracks$Player"
def TX5 : u_T := fun k => match k with
  | 0 => ("SnowTracks$Player", "wide", "I", true)
  | 1 => ("SnowTracks$Player", "deep", "I", true)
  | 2 => ("SnowTracks$Player", "left", "[I", true)
  | 3 => ("SnowTracks$Player", "leftCount", "I", false)
  | 4 => ("SnowTracks$Player", "againFrom", "[I", true)
  | _ => ("SnowTracks$Player", "againTimes", "[I", true)
def tyX5 : Nat → FieldType := fun k => match k with
  | 0 => .int
  | 1 => .int
  | 2 => .array .int
  | 3 => .int
  | 4 => .array .int
  | _ => .array .int
theorem nmX5 : ∀ a, a < 6 → ∀ b, b < 6 → a ≠ b → (TX5 a).2.1 ≠ (TX5 b).2.1 := by decide +kernel
theorem tyX5_ok : ∀ k, k < 6 → parseFieldDescriptor (TX5 k).2.2.1 = some (tyX5 k) := by decide +kernel
abbrev cX5_init : ByteArray := prog_7_method_1_code
def yX5_init : MethodName := ⟨RX5, "<init>", "(II)V"⟩
abbrev cX5_play : ByteArray := prog_7_method_2_code
def yX5_play : MethodName := ⟨RX5, "play", "(LSnowTracks$Tape;LSnowTracks$Walk;)V"⟩
abbrev cX5_move : ByteArray := prog_7_method_3_code
def yX5_move : MethodName := ⟨RX5, "move", "(LSnowTracks$Walk;I)V"⟩
abbrev cX5_nextCell : ByteArray := prog_7_method_4_code
def yX5_nextCell : MethodName := ⟨RX5, "nextCell", "(II)I"⟩
def RX6 : String := "SnowTracks$RowSearch"
def TX6 : u_T := fun k => match k with
  | 0 => ("SnowTracks$RowSearch", "nets", "[LSnowTracks$Net;", true)
  | 1 => ("SnowTracks$RowSearch", "walkCount", "I", false)
  | 2 => ("SnowTracks$RowSearch", "wanted", "I", false)
  | 3 => ("SnowTracks$RowSearch", "counted", "I", false)
  | _ => ("SnowTracks$RowSearch", "found", "I", false)
def tyX6 : Nat → FieldType := fun k => match k with
  | 0 => .array (.object "SnowTracks$Net")
  | 1 => .int
  | 2 => .int
  | 3 => .int
  | _ => .int
theorem nmX6 : ∀ a, a < 5 → ∀ b, b < 5 → a ≠ b → (TX6 a).2.1 ≠ (TX6 b).2.1 := by decide +kernel
theorem tyX6_ok : ∀ k, k < 5 → parseFieldDescriptor (TX6 k).2.2.1 = some (tyX6 k) := by decide +kernel
abbrev cX6_init : ByteArray := prog_8_method_1_code
def yX6_init : MethodName := ⟨RX6, "<init>", "()V"⟩
abbrev cX6_seek : ByteArray := prog_8_method_2_code
def yX6_seek : MethodName := ⟨RX6, "seek", "(LSnowTracks$Net;II)V"⟩
abbrev cX6_extend : ByteArray := prog_8_method_3_code
def yX6_extend : MethodName := ⟨RX6, "extend", "(III)V"⟩
abbrev cX6_rises : ByteArray := prog_8_method_4_code
def yX6_rises : MethodName := ⟨RX6, "rises", "(III)Z"⟩
def RX7 : String := "SnowTracks$Tape"
def TX7 : u_T := fun k => match k with
  | 0 => ("SnowTracks$Tape", "bytes", "[I", true)
  | 1 => ("SnowTracks$Tape", "size", "I", false)
  | 2 => ("SnowTracks$Tape", "at", "I", false)
  | 3 => ("SnowTracks$Tape", "number", "I", false)
  | 4 => ("SnowTracks$Tape", "x", "I", false)
  | 5 => ("SnowTracks$Tape", "y", "I", false)
  | _ => ("SnowTracks$Tape", "movesAt", "I", false)
def tyX7 : Nat → FieldType := fun k => match k with
  | 0 => .array .int
  | 1 => .int
  | 2 => .int
  | 3 => .int
  | 4 => .int
  | 5 => .int
  | _ => .int
theorem nmX7 : ∀ a, a < 7 → ∀ b, b < 7 → a ≠ b → (TX7 a).2.1 ≠ (TX7 b).2.1 := by decide +kernel
theorem tyX7_ok : ∀ k, k < 7 → parseFieldDescriptor (TX7 k).2.2.1 = some (tyX7 k) := by decide +kernel
abbrev cX7_init : ByteArray := prog_9_method_1_code
def yX7_init : MethodName := ⟨RX7, "<init>", "()V"⟩
abbrev cX7_byteAt : ByteArray := prog_9_method_2_code
def yX7_byteAt : MethodName := ⟨RX7, "byteAt", "(I)I"⟩
abbrev cX7_cut : ByteArray := prog_9_method_3_code
def yX7_cut : MethodName := ⟨RX7, "cut", "(I)Z"⟩
abbrev cX7_append : ByteArray := prog_9_method_4_code
def yX7_append : MethodName := ⟨RX7, "append", "(I)Z"⟩
abbrev cX7_wrongAt : ByteArray := prog_9_method_5_code
def yX7_wrongAt : MethodName := ⟨RX7, "wrongAt", "(II)I"⟩
abbrev cX7_skipBlanks : ByteArray := prog_9_method_6_code
def yX7_skipBlanks : MethodName := ⟨RX7, "skipBlanks", "()V"⟩
abbrev cX7_reads : ByteArray := prog_9_method_7_code
def yX7_reads : MethodName := ⟨RX7, "reads", "(C)Z"⟩
abbrev cX7_readsNumber : ByteArray := prog_9_method_8_code
def yX7_readsNumber : MethodName := ⟨RX7, "readsNumber", "(I)Z"⟩
abbrev cX7_readsMoves : ByteArray := prog_9_method_9_code
def yX7_readsMoves : MethodName := ⟨RX7, "readsMoves", "()Z"⟩
abbrev cX7_isDigit : ByteArray := prog_9_method_10_code
def yX7_isDigit : MethodName := ⟨RX7, "isDigit", "(I)Z"⟩
abbrev cX7_isMove : ByteArray := prog_9_method_11_code
def yX7_isMove : MethodName := ⟨RX7, "isMove", "(I)Z"⟩
def RX8 : String := "SnowTracks$Walk"
def TX8 : u_T := fun k => match k with
  | 0 => ("SnowTracks$Walk", "pace", "I", true)
  | 1 => ("SnowTracks$Walk", "boot", "I", true)
  | 2 => ("SnowTracks$Walk", "cells", "[I", true)
  | 3 => ("SnowTracks$Walk", "latestMoments", "[I", true)
  | 4 => ("SnowTracks$Walk", "places", "[I", true)
  | 5 => ("SnowTracks$Walk", "placeCount", "I", false)
  | 6 => ("SnowTracks$Walk", "last", "I", false)
  | 7 => ("SnowTracks$Walk", "printCount", "I", false)
  | _ => ("SnowTracks$Walk", "begun", "I", false)
def tyX8 : Nat → FieldType := fun k => match k with
  | 0 => .int
  | 1 => .int
  | 2 => .array .int
  | 3 => .array .int
  | 4 => .array .int
  | 5 => .int
  | 6 => .int
  | 7 => .int
  | _ => .int
theorem nmX8 : ∀ a, a < 9 → ∀ b, b < 9 → a ≠ b → (TX8 a).2.1 ≠ (TX8 b).2.1 := by decide +kernel
theorem tyX8_ok : ∀ k, k < 9 → parseFieldDescriptor (TX8 k).2.2.1 = some (tyX8 k) := by decide +kernel
abbrev cX8_init : ByteArray := prog_10_method_1_code
def yX8_init : MethodName := ⟨RX8, "<init>", "(III)V"⟩
abbrev cX8_come : ByteArray := prog_10_method_2_code
def yX8_come : MethodName := ⟨RX8, "come", "(I)V"⟩
abbrev cX8_leavePrint : ByteArray := prog_10_method_3_code
def yX8_leavePrint : MethodName := ⟨RX8, "leavePrint", "()V"⟩
abbrev cX8_listPlaces : ByteArray := prog_10_method_4_code
def yX8_listPlaces : MethodName := ⟨RX8, "listPlaces", "()V"⟩
abbrev cX8_cellOf : ByteArray := prog_10_method_5_code
def yX8_cellOf : MethodName := ⟨RX8, "cellOf", "(I)I"⟩
abbrev cX8_latestIn : ByteArray := prog_10_method_6_code
def yX8_latestIn : MethodName := ⟨RX8, "latestIn", "(I)I"⟩
abbrev cX8_isPrint : ByteArray := prog_10_method_7_code
def yX8_isPrint : MethodName := ⟨RX8, "isPrint", "(I)Z"⟩
abbrev cX8_tickOf : ByteArray := prog_10_method_8_code
def yX8_tickOf : MethodName := ⟨RX8, "tickOf", "(I)I"⟩
abbrev cX8_ticksToEnd : ByteArray := prog_10_method_9_code
def yX8_ticksToEnd : MethodName := ⟨RX8, "ticksToEnd", "()I"⟩
def RX9 : String := "SnowTracks"
def TX9 : u_T := fun k => match k with
  | 0 => ("SnowTracks", "wide", "I", true)
  | 1 => ("SnowTracks", "deep", "I", true)
  | 2 => ("SnowTracks", "day", "I", true)
  | 3 => ("SnowTracks", "tape", "LSnowTracks$Tape;", true)
  | 4 => ("SnowTracks", "player", "LSnowTracks$Player;", true)
  | 5 => ("SnowTracks", "walks", "[LSnowTracks$Walk;", true)
  | 6 => ("SnowTracks", "walkCount", "I", false)
  | 7 => ("SnowTracks", "facts", "[LSnowTracks$Fact;", true)
  | 8 => ("SnowTracks", "factCount", "I", false)
  | 9 => ("SnowTracks", "snows", "[I", true)
  | 10 => ("SnowTracks", "snowCount", "I", false)
  | 11 => ("SnowTracks", "net", "LSnowTracks$Net;", true)
  | 12 => ("SnowTracks", "coreSearch", "LSnowTracks$CoreSearch;", true)
  | 13 => ("SnowTracks", "chainSearch", "LSnowTracks$ChainSearch;", true)
  | 14 => ("SnowTracks", "rowSearch", "LSnowTracks$RowSearch;", true)
  | 15 => ("SnowTracks", "glance", "LSnowTracks$Glance;", true)
  | 16 => ("SnowTracks", "shownTicks", "[I", true)
  | _ => ("SnowTracks", "shownWalks", "[I", true)
def tyX9 : Nat → FieldType := fun k => match k with
  | 0 => .int
  | 1 => .int
  | 2 => .int
  | 3 => .object "SnowTracks$Tape"
  | 4 => .object "SnowTracks$Player"
  | 5 => .array (.object "SnowTracks$Walk")
  | 6 => .int
  | 7 => .array (.object "SnowTracks$Fact")
  | 8 => .int
  | 9 => .array .int
  | 10 => .int
  | 11 => .object "SnowTracks$Net"
  | 12 => .object "SnowTracks$CoreSearch"
  | 13 => .object "SnowTracks$ChainSearch"
  | 14 => .object "SnowTracks$RowSearch"
  | 15 => .object "SnowTracks$Glance"
  | 16 => .array .int
  | _ => .array .int
theorem nmX9 : ∀ a, a < 18 → ∀ b, b < 18 → a ≠ b → (TX9 a).2.1 ≠ (TX9 b).2.1 := by decide +kernel
theorem tyX9_ok : ∀ k, k < 18 → parseFieldDescriptor (TX9 k).2.2.1 = some (tyX9 k) := by decide +kernel
abbrev cX9_init : ByteArray := prog_1_method_1_code
def yX9_init : MethodName := ⟨RX9, "<init>", "(III)V"⟩
abbrev cX9_feed : ByteArray := prog_1_method_2_code
def yX9_feed : MethodName := ⟨RX9, "feed", "(IIIII)I"⟩
abbrev cX9_end : ByteArray := prog_1_method_3_code
def yX9_end : MethodName := ⟨RX9, "end", "(I)Z"⟩
abbrev cX9_fault : ByteArray := prog_1_method_4_code
def yX9_fault : MethodName := ⟨RX9, "fault", "()I"⟩
abbrev cX9_walk : ByteArray := prog_1_method_5_code
def yX9_walk : MethodName := ⟨RX9, "walk", "(II)I"⟩
abbrev cX9_told : ByteArray := prog_1_method_6_code
def yX9_told : MethodName := ⟨RX9, "told", "(II)I"⟩
abbrev cX9_where : ByteArray := prog_1_method_7_code
def yX9_where : MethodName := ⟨RX9, "where", "(II)I"⟩
abbrev cX9_latest : ByteArray := prog_1_method_8_code
def yX9_latest : MethodName := ⟨RX9, "latest", "(III)I"⟩
abbrev cX9_prints : ByteArray := prog_1_method_9_code
def yX9_prints : MethodName := ⟨RX9, "prints", "(II)I"⟩
abbrev cX9_fact : ByteArray := prog_1_method_10_code
def yX9_fact : MethodName := ⟨RX9, "fact", "(IIIIII)I"⟩
abbrev cX9_undo : ByteArray := prog_1_method_11_code
def yX9_undo : MethodName := ⟨RX9, "undo", "()I"⟩
abbrev cX9_words : ByteArray := prog_1_method_12_code
def yX9_words : MethodName := ⟨RX9, "words", "(I)I"⟩
abbrev cX9_can : ByteArray := prog_1_method_13_code
def yX9_can : MethodName := ⟨RX9, "can", "(I)I"⟩
abbrev cX9_bars : ByteArray := prog_1_method_14_code
def yX9_bars : MethodName := ⟨RX9, "bars", "(I)I"⟩
abbrev cX9_core : ByteArray := prog_1_method_15_code
def yX9_core : MethodName := ⟨RX9, "core", "(I)I"⟩
abbrev cX9_liars : ByteArray := prog_1_method_16_code
def yX9_liars : MethodName := ⟨RX9, "liars", "(I)I"⟩
abbrev cX9_begins : ByteArray := prog_1_method_17_code
def yX9_begins : MethodName := ⟨RX9, "begins", "(III)I"⟩
abbrev cX9_gap : ByteArray := prog_1_method_18_code
def yX9_gap : MethodName := ⟨RX9, "gap", "(IIII)I"⟩
abbrev cX9_crossings : ByteArray := prog_1_method_19_code
def yX9_crossings : MethodName := ⟨RX9, "crossings", "(III)I"⟩
abbrev cX9_sure : ByteArray := prog_1_method_20_code
def yX9_sure : MethodName := ⟨RX9, "sure", "(IIIII)I"⟩
abbrev cX9_ahead : ByteArray := prog_1_method_21_code
def yX9_ahead : MethodName := ⟨RX9, "ahead", "(III)I"⟩
abbrev cX9_span : ByteArray := prog_1_method_22_code
def yX9_span : MethodName := ⟨RX9, "span", "(I)I"⟩
abbrev cX9_look : ByteArray := prog_1_method_23_code
def yX9_look : MethodName := ⟨RX9, "look", "(II)I"⟩
abbrev cX9_meets : ByteArray := prog_1_method_24_code
def yX9_meets : MethodName := ⟨RX9, "meets", "(III)I"⟩
abbrev cX9_one : ByteArray := prog_1_method_25_code
def yX9_one : MethodName := ⟨RX9, "one", "(III)I"⟩
abbrev cX9_walkers : ByteArray := prog_1_method_26_code
def yX9_walkers : MethodName := ⟨RX9, "walkers", "(I)I"⟩
abbrev cX9_start : ByteArray := prog_1_method_27_code
def yX9_start : MethodName := ⟨RX9, "start", "(II)Z"⟩
abbrev cX9_judge : ByteArray := prog_1_method_28_code
def yX9_judge : MethodName := ⟨RX9, "judge", "(I)I"⟩
abbrev cX9_top : ByteArray := prog_1_method_29_code
def yX9_top : MethodName := ⟨RX9, "top", "(II)I"⟩
abbrev cX9_settle : ByteArray := prog_1_method_30_code
def yX9_settle : MethodName := ⟨RX9, "settle", "(I)Z"⟩
abbrev cX9_snow : ByteArray := prog_1_method_31_code
def yX9_snow : MethodName := ⟨RX9, "snow", "(I)I"⟩
abbrev cX9_shown : ByteArray := prog_1_method_32_code
def yX9_shown : MethodName := ⟨RX9, "shown", "(III)I"⟩
abbrev cX9_trail : ByteArray := prog_1_method_33_code
def yX9_trail : MethodName := ⟨RX9, "trail", "(II)I"⟩
abbrev cX9_orders : ByteArray := prog_1_method_34_code
def yX9_orders : MethodName := ⟨RX9, "orders", "(II)I"⟩
abbrev cX9_photo : ByteArray := prog_1_method_35_code
def yX9_photo : MethodName := ⟨RX9, "photo", "(IIII)I"⟩
abbrev cX9_count : ByteArray := prog_1_method_36_code
def yX9_count : MethodName := ⟨RX9, "count", "(I)I"⟩
abbrev cX9_walkOf : ByteArray := prog_1_method_37_code
def yX9_walkOf : MethodName := ⟨RX9, "walkOf", "(I)LSnowTracks$Walk;"⟩
abbrev cX9_cellAt : ByteArray := prog_1_method_38_code
def yX9_cellAt : MethodName := ⟨RX9, "cellAt", "(II)I"⟩
abbrev cX9_printsIn : ByteArray := prog_1_method_39_code
def yX9_printsIn : MethodName := ⟨RX9, "printsIn", "(II)Z"⟩
abbrev cX9_isCrossing : ByteArray := prog_1_method_40_code
def yX9_isCrossing : MethodName := ⟨RX9, "isCrossing", "(III)Z"⟩
abbrev cX9_isSet : ByteArray := prog_1_method_41_code
def yX9_isSet : MethodName := ⟨RX9, "isSet", "(I)Z"⟩
abbrev cX9_isIn : ByteArray := prog_1_method_42_code
def yX9_isIn : MethodName := ⟨RX9, "isIn", "(II)Z"⟩
abbrev cX9_isWho : ByteArray := prog_1_method_43_code
def yX9_isWho : MethodName := ⟨RX9, "isWho", "(I)Z"⟩
abbrev cX9_isTick : ByteArray := prog_1_method_44_code
def yX9_isTick : MethodName := ⟨RX9, "isTick", "(I)Z"⟩
abbrev cX9_pointOf : ByteArray := prog_1_method_45_code
def yX9_pointOf : MethodName := ⟨RX9, "pointOf", "(I)I"⟩
abbrev cX9_startAt : ByteArray := prog_1_method_46_code
def yX9_startAt : MethodName := ⟨RX9, "startAt", "(I)I"⟩
abbrev cX9_tellAbove : ByteArray := prog_1_method_47_code
def yX9_tellAbove : MethodName := ⟨RX9, "tellAbove", "(IIII)I"⟩
abbrev cX9_tellPrint : ByteArray := prog_1_method_48_code
def yX9_tellPrint : MethodName := ⟨RX9, "tellPrint", "(IIIII)I"⟩
abbrev cX9_tellBegan : ByteArray := prog_1_method_49_code
def yX9_tellBegan : MethodName := ⟨RX9, "tellBegan", "(IIII)I"⟩
abbrev cX9_tellBehind : ByteArray := prog_1_method_50_code
def yX9_tellBehind : MethodName := ⟨RX9, "tellBehind", "(IIII)I"⟩
abbrev cX9_keep : ByteArray := prog_1_method_51_code
def yX9_keep : MethodName := ⟨RX9, "keep", "(IIIII)I"⟩
abbrev cX9_leadToLieAbove : ByteArray := prog_1_method_52_code
def yX9_leadToLieAbove : MethodName := ⟨RX9, "leadToLieAbove", "(III)I"⟩
abbrev cX9_drawNet : ByteArray := prog_1_method_53_code
def yX9_drawNet : MethodName := ⟨RX9, "drawNet", "(I)I"⟩
abbrev cX9_canBe : ByteArray := prog_1_method_54_code
def yX9_canBe : MethodName := ⟨RX9, "canBe", "(I)Z"⟩
abbrev cX9_verdict : ByteArray := prog_1_method_55_code
def yX9_verdict : MethodName := ⟨RX9, "verdict", "(III)I"⟩
abbrev cX9_withoutWords : ByteArray := prog_1_method_56_code
def yX9_withoutWords : MethodName := ⟨RX9, "withoutWords", "(II)I"⟩
abbrev cX9_speakersOf : ByteArray := prog_1_method_57_code
def yX9_speakersOf : MethodName := ⟨RX9, "speakersOf", "(I)I"⟩
abbrev cX9_isBlamedBefore : ByteArray := prog_1_method_58_code
def yX9_isBlamedBefore : MethodName := ⟨RX9, "isBlamedBefore", "(II)Z"⟩
abbrev cX9_lookAtPair : ByteArray := prog_1_method_59_code
def yX9_lookAtPair : MethodName := ⟨RX9, "lookAtPair", "(II)V"⟩
abbrev cX9_lookAtCrossing : ByteArray := prog_1_method_60_code
def yX9_lookAtCrossing : MethodName := ⟨RX9, "lookAtCrossing", "(III)V"⟩
abbrev cX9_latestSnow : ByteArray := prog_1_method_61_code
def yX9_latestSnow : MethodName := ⟨RX9, "latestSnow", "(I)I"⟩
abbrev cX9_showAll : ByteArray := prog_1_method_62_code
def yX9_showAll : MethodName := ⟨RX9, "showAll", "(I)V"⟩
abbrev cX9_showWalk : ByteArray := prog_1_method_63_code
def yX9_showWalk : MethodName := ⟨RX9, "showWalk", "(ILSnowTracks$Walk;II)V"⟩
def RX10 : String := "SnowTracksModel"
def TX10 : u_T := fun k => match k with
  | 0 => ("SnowTracksModel", "thrown", "I", false)
  | 1 => ("SnowTracksModel", "wide", "I", true)
  | 2 => ("SnowTracksModel", "deep", "I", true)
  | 3 => ("SnowTracksModel", "day", "I", true)
  | 4 => ("SnowTracksModel", "tape", "[I", true)
  | 5 => ("SnowTracksModel", "size", "I", false)
  | 6 => ("SnowTracksModel", "at", "I", false)
  | 7 => ("SnowTracksModel", "wrong", "I", false)
  | 8 => ("SnowTracksModel", "deepness", "I", false)
  | 9 => ("SnowTracksModel", "trod", "[I", true)
  | 10 => ("SnowTracksModel", "steps", "[I", true)
  | 11 => ("SnowTracksModel", "moments", "I", false)
  | 12 => ("SnowTracksModel", "stepMany", "I", false)
  | 13 => ("SnowTracksModel", "x", "I", false)
  | 14 => ("SnowTracksModel", "y", "I", false)
  | 15 => ("SnowTracksModel", "cells", "[I", true)
  | 16 => ("SnowTracksModel", "last", "[I", true)
  | 17 => ("SnowTracksModel", "pace", "[I", true)
  | 18 => ("SnowTracksModel", "boot", "[I", true)
  | 19 => ("SnowTracksModel", "told", "[I", true)
  | 20 => ("SnowTracksModel", "walks", "I", false)
  | 21 => ("SnowTracksModel", "who", "[I", true)
  | 22 => ("SnowTracksModel", "kind", "[I", true)
  | 23 => ("SnowTracksModel", "one", "[I", true)
  | 24 => ("SnowTracksModel", "other", "[I", true)
  | 25 => ("SnowTracksModel", "first", "[I", true)
  | 26 => ("SnowTracksModel", "second", "[I", true)
  | 27 => ("SnowTracksModel", "facts", "I", false)
  | 28 => ("SnowTracksModel", "apart", "[I", true)
  | 29 => ("SnowTracksModel", "lookOne", "I", false)
  | 30 => ("SnowTracksModel", "lookOther", "I", false)
  | 31 => ("SnowTracksModel", "lookCell", "I", false)
  | 32 => ("SnowTracksModel", "lookSpan", "I", false)
  | 33 => ("SnowTracksModel", "ahead", "[I", true)
  | 34 => ("SnowTracksModel", "fewest", "I", false)
  | 35 => ("SnowTracksModel", "snows", "[I", true)
  | 36 => ("SnowTracksModel", "snowMany", "I", false)
  | 37 => ("SnowTracksModel", "order", "[I", true)
  | 38 => ("SnowTracksModel", "orderMany", "I", false)
  | 39 => ("SnowTracksModel", "orderAsked", "I", false)
  | _ => ("SnowTracksModel", "orderFound", "I", false)
def tyX10 : Nat → FieldType := fun k => match k with
  | 0 => .int
  | 1 => .int
  | 2 => .int
  | 3 => .int
  | 4 => .array .int
  | 5 => .int
  | 6 => .int
  | 7 => .int
  | 8 => .int
  | 9 => .array .int
  | 10 => .array .int
  | 11 => .int
  | 12 => .int
  | 13 => .int
  | 14 => .int
  | 15 => .array .int
  | 16 => .array .int
  | 17 => .array .int
  | 18 => .array .int
  | 19 => .array .int
  | 20 => .int
  | 21 => .array .int
  | 22 => .array .int
  | 23 => .array .int
  | 24 => .array .int
  | 25 => .array .int
  | 26 => .array .int
  | 27 => .int
  | 28 => .array .int
  | 29 => .int
  | 30 => .int
  | 31 => .int
  | 32 => .int
  | 33 => .array .int
  | 34 => .int
  | 35 => .array .int
  | 36 => .int
  | 37 => .array .int
  | 38 => .int
  | 39 => .int
  | _ => .int
theorem nmX10 : ∀ a, a < 41 → ∀ b, b < 41 → a ≠ b → (TX10 a).2.1 ≠ (TX10 b).2.1 := by decide +kernel
theorem tyX10_ok : ∀ k, k < 41 → parseFieldDescriptor (TX10 k).2.2.1 = some (tyX10 k) := by decide +kernel
abbrev cX10_in : ByteArray := prog_12_method_1_code
def yX10_in : MethodName := ⟨RX10, "in", "(III)Z"⟩
abbrev cX10_within : ByteArray := prog_12_method_2_code
def yX10_within : MethodName := ⟨RX10, "within", "(III)I"⟩
abbrev cX10_init : ByteArray := prog_12_method_3_code
def yX10_init : MethodName := ⟨RX10, "<init>", "(III)V"⟩
abbrev cX10_thrown : ByteArray := prog_12_method_4_code
def yX10_thrown : MethodName := ⟨RX10, "thrown", "()I"⟩
abbrev cX10_byteOf : ByteArray := prog_12_method_5_code
def yX10_byteOf : MethodName := ⟨RX10, "byteOf", "(IIIIII)I"⟩
abbrev cX10_feed : ByteArray := prog_12_method_6_code
def yX10_feed : MethodName := ⟨RX10, "feed", "(IIIII)I"⟩
abbrev cX10_end : ByteArray := prog_12_method_7_code
def yX10_end : MethodName := ⟨RX10, "end", "(I)Z"⟩
abbrev cX10_here : ByteArray := prog_12_method_8_code
def yX10_here : MethodName := ⟨RX10, "here", "()I"⟩
abbrev cX10_look : ByteArray := prog_12_method_9_code
def yX10_look : MethodName := ⟨RX10, "look", "()I"⟩
abbrev cX10_bad : ByteArray := prog_12_method_10_code
def yX10_bad : MethodName := ⟨RX10, "bad", "()V"⟩
abbrev cX10_isDigit : ByteArray := prog_12_method_11_code
def yX10_isDigit : MethodName := ⟨RX10, "isDigit", "(I)Z"⟩
abbrev cX10_sign : ByteArray := prog_12_method_12_code
def yX10_sign : MethodName := ⟨RX10, "sign", "(I)V"⟩
abbrev cX10_number : ByteArray := prog_12_method_13_code
def yX10_number : MethodName := ⟨RX10, "number", "(I)I"⟩
abbrev cX10_isStep : ByteArray := prog_12_method_14_code
def yX10_isStep : MethodName := ⟨RX10, "isStep", "(I)Z"⟩
abbrev cX10_moves : ByteArray := prog_12_method_15_code
def yX10_moves : MethodName := ⟨RX10, "moves", "(Z)V"⟩
abbrev cX10_move : ByteArray := prog_12_method_16_code
def yX10_move : MethodName := ⟨RX10, "move", "(IIZ)V"⟩
abbrev cX10_stand : ByteArray := prog_12_method_17_code
def yX10_stand : MethodName := ⟨RX10, "stand", "()V"⟩
abbrev cX10_step : ByteArray := prog_12_method_18_code
def yX10_step : MethodName := ⟨RX10, "step", "(I)V"⟩
abbrev cX10_read : ByteArray := prog_12_method_19_code
def yX10_read : MethodName := ⟨RX10, "read", "(Z)I"⟩
abbrev cX10_fault : ByteArray := prog_12_method_20_code
def yX10_fault : MethodName := ⟨RX10, "fault", "()I"⟩
abbrev cX10_walk : ByteArray := prog_12_method_21_code
def yX10_walk : MethodName := ⟨RX10, "walk", "(II)I"⟩
abbrev cX10_isWalk : ByteArray := prog_12_method_22_code
def yX10_isWalk : MethodName := ⟨RX10, "isWalk", "(I)Z"⟩
abbrev cX10_cellAt : ByteArray := prog_12_method_23_code
def yX10_cellAt : MethodName := ⟨RX10, "cellAt", "(II)I"⟩
abbrev cX10_hasPrint : ByteArray := prog_12_method_24_code
def yX10_hasPrint : MethodName := ⟨RX10, "hasPrint", "(II)Z"⟩
abbrev cX10_told : ByteArray := prog_12_method_25_code
def yX10_told : MethodName := ⟨RX10, "told", "(II)I"⟩
abbrev cX10_where : ByteArray := prog_12_method_26_code
def yX10_where : MethodName := ⟨RX10, "where", "(II)I"⟩
abbrev cX10_isCell : ByteArray := prog_12_method_27_code
def yX10_isCell : MethodName := ⟨RX10, "isCell", "(II)Z"⟩
abbrev cX10_latestIn : ByteArray := prog_12_method_28_code
def yX10_latestIn : MethodName := ⟨RX10, "latestIn", "(II)I"⟩
abbrev cX10_latest : ByteArray := prog_12_method_29_code
def yX10_latest : MethodName := ⟨RX10, "latest", "(III)I"⟩
abbrev cX10_prints : ByteArray := prog_12_method_30_code
def yX10_prints : MethodName := ⟨RX10, "prints", "(II)I"⟩
abbrev cX10_hasLatest : ByteArray := prog_12_method_31_code
def yX10_hasLatest : MethodName := ⟨RX10, "hasLatest", "(III)Z"⟩
abbrev cX10_mayBe : ByteArray := prog_12_method_32_code
def yX10_mayBe : MethodName := ⟨RX10, "mayBe", "(IIIII)Z"⟩
abbrev cX10_fact : ByteArray := prog_12_method_33_code
def yX10_fact : MethodName := ⟨RX10, "fact", "(IIIIII)I"⟩
abbrev cX10_undo : ByteArray := prog_12_method_34_code
def yX10_undo : MethodName := ⟨RX10, "undo", "()I"⟩
abbrev cX10_words : ByteArray := prog_12_method_35_code
def yX10_words : MethodName := ⟨RX10, "words", "(I)I"⟩
abbrev cX10_least : ByteArray := prog_12_method_36_code
def yX10_least : MethodName := ⟨RX10, "least", "(III)V"⟩
abbrev cX10_begin : ByteArray := prog_12_method_38_code
def yX10_begin : MethodName := ⟨RX10, "begin", "()V"⟩
abbrev cX10_made : ByteArray := prog_12_method_39_code
def yX10_made : MethodName := ⟨RX10, "made", "(II)I"⟩
abbrev cX10_above : ByteArray := prog_12_method_40_code
def yX10_above : MethodName := ⟨RX10, "above", "(III)V"⟩
abbrev cX10_add : ByteArray := prog_12_method_41_code
def yX10_add : MethodName := ⟨RX10, "add", "(I)V"⟩
abbrev cX10_close : ByteArray := prog_12_method_42_code
def yX10_close : MethodName := ⟨RX10, "close", "()Z"⟩
abbrev cX10_lay : ByteArray := prog_12_method_43_code
def yX10_lay : MethodName := ⟨RX10, "lay", "(I)V"⟩
abbrev cX10_canBe : ByteArray := prog_12_method_44_code
def yX10_canBe : MethodName := ⟨RX10, "canBe", "(I)Z"⟩
abbrev cX10_isSet : ByteArray := prog_12_method_45_code
def yX10_isSet : MethodName := ⟨RX10, "isSet", "(I)Z"⟩
abbrev cX10_can : ByteArray := prog_12_method_46_code
def yX10_can : MethodName := ⟨RX10, "can", "(I)I"⟩
abbrev cX10_bars : ByteArray := prog_12_method_47_code
def yX10_bars : MethodName := ⟨RX10, "bars", "(I)I"⟩
abbrev cX10_core : ByteArray := prog_12_method_48_code
def yX10_core : MethodName := ⟨RX10, "core", "(I)I"⟩
abbrev cX10_liars : ByteArray := prog_12_method_49_code
def yX10_liars : MethodName := ⟨RX10, "liars", "(I)I"⟩
abbrev cX10_wordsOf : ByteArray := prog_12_method_50_code
def yX10_wordsOf : MethodName := ⟨RX10, "wordsOf", "(I)I"⟩
abbrev cX10_low : ByteArray := prog_12_method_51_code
def yX10_low : MethodName := ⟨RX10, "low", "(I)I"⟩
abbrev cX10_high : ByteArray := prog_12_method_52_code
def yX10_high : MethodName := ⟨RX10, "high", "(I)I"⟩
abbrev cX10_begins : ByteArray := prog_12_method_53_code
def yX10_begins : MethodName := ⟨RX10, "begins", "(III)I"⟩
abbrev cX10_gapLow : ByteArray := prog_12_method_54_code
def yX10_gapLow : MethodName := ⟨RX10, "gapLow", "(II)I"⟩
abbrev cX10_gapHigh : ByteArray := prog_12_method_55_code
def yX10_gapHigh : MethodName := ⟨RX10, "gapHigh", "(II)I"⟩
abbrev cX10_gap : ByteArray := prog_12_method_56_code
def yX10_gap : MethodName := ⟨RX10, "gap", "(IIII)I"⟩
abbrev cX10_areTwo : ByteArray := prog_12_method_57_code
def yX10_areTwo : MethodName := ⟨RX10, "areTwo", "(II)Z"⟩
abbrev cX10_cross : ByteArray := prog_12_method_58_code
def yX10_cross : MethodName := ⟨RX10, "cross", "(III)Z"⟩
abbrev cX10_crossings : ByteArray := prog_12_method_59_code
def yX10_crossings : MethodName := ⟨RX10, "crossings", "(III)I"⟩
abbrev cX10_sureOf : ByteArray := prog_12_method_60_code
def yX10_sureOf : MethodName := ⟨RX10, "sureOf", "(III)I"⟩
abbrev cX10_sure : ByteArray := prog_12_method_61_code
def yX10_sure : MethodName := ⟨RX10, "sure", "(IIIII)I"⟩
abbrev cX10_ahead : ByteArray := prog_12_method_62_code
def yX10_ahead : MethodName := ⟨RX10, "ahead", "(III)I"⟩
abbrev cX10_spanNow : ByteArray := prog_12_method_63_code
def yX10_spanNow : MethodName := ⟨RX10, "spanNow", "()I"⟩
abbrev cX10_span : ByteArray := prog_12_method_64_code
def yX10_span : MethodName := ⟨RX10, "span", "(I)I"⟩
abbrev cX10_spanWith : ByteArray := prog_12_method_65_code
def yX10_spanWith : MethodName := ⟨RX10, "spanWith", "(IIII)I"⟩
abbrev cX10_findLook : ByteArray := prog_12_method_66_code
def yX10_findLook : MethodName := ⟨RX10, "findLook", "(I)V"⟩
abbrev cX10_weigh : ByteArray := prog_12_method_67_code
def yX10_weigh : MethodName := ⟨RX10, "weigh", "(IIII)V"⟩
abbrev cX10_look_ : ByteArray := prog_12_method_68_code
def yX10_look_ : MethodName := ⟨RX10, "look", "(II)I"⟩
abbrev cX10_meets : ByteArray := prog_12_method_69_code
def yX10_meets : MethodName := ⟨RX10, "meets", "(III)I"⟩
abbrev cX10_length : ByteArray := prog_12_method_70_code
def yX10_length : MethodName := ⟨RX10, "length", "(I)I"⟩
abbrev cX10_one : ByteArray := prog_12_method_71_code
def yX10_one : MethodName := ⟨RX10, "one", "(III)I"⟩
abbrev cX10_seek : ByteArray := prog_12_method_72_code
def yX10_seek : MethodName := ⟨RX10, "seek", "(III)V"⟩
abbrev cX10_isTaken : ByteArray := prog_12_method_73_code
def yX10_isTaken : MethodName := ⟨RX10, "isTaken", "(II)Z"⟩
abbrev cX10_walkers : ByteArray := prog_12_method_74_code
def yX10_walkers : MethodName := ⟨RX10, "walkers", "(I)I"⟩
abbrev cX10_start : ByteArray := prog_12_method_75_code
def yX10_start : MethodName := ⟨RX10, "start", "(II)Z"⟩
abbrev cX10_holds : ByteArray := prog_12_method_76_code
def yX10_holds : MethodName := ⟨RX10, "holds", "(I)Z"⟩
abbrev cX10_judge : ByteArray := prog_12_method_77_code
def yX10_judge : MethodName := ⟨RX10, "judge", "(I)I"⟩
abbrev cX10_top : ByteArray := prog_12_method_78_code
def yX10_top : MethodName := ⟨RX10, "top", "(II)I"⟩
abbrev cX10_settle : ByteArray := prog_12_method_79_code
def yX10_settle : MethodName := ⟨RX10, "settle", "(I)Z"⟩
abbrev cX10_snow : ByteArray := prog_12_method_80_code
def yX10_snow : MethodName := ⟨RX10, "snow", "(I)I"⟩
abbrev cX10_shownIn : ByteArray := prog_12_method_81_code
def yX10_shownIn : MethodName := ⟨RX10, "shownIn", "(II)I"⟩
abbrev cX10_shown : ByteArray := prog_12_method_82_code
def yX10_shown : MethodName := ⟨RX10, "shown", "(III)I"⟩
abbrev cX10_trail : ByteArray := prog_12_method_83_code
def yX10_trail : MethodName := ⟨RX10, "trail", "(II)I"⟩
abbrev cX10_rise : ByteArray := prog_12_method_84_code
def yX10_rise : MethodName := ⟨RX10, "rise", "(III)V"⟩
abbrev cX10_orders : ByteArray := prog_12_method_85_code
def yX10_orders : MethodName := ⟨RX10, "orders", "(II)I"⟩
abbrev cX10_photo : ByteArray := prog_12_method_86_code
def yX10_photo : MethodName := ⟨RX10, "photo", "(IIII)I"⟩
abbrev cX10_count : ByteArray := prog_12_method_87_code
def yX10_count : MethodName := ⟨RX10, "count", "(I)I"⟩
def RJx145de : String := "java/io/Serializable"
def RJ6 : String := "java/lang/Integer"
abbrev cJ6_bitCount_0f7a4 : ByteArray := prog_15_method_49_code
def yJ6_bitCount_0f7a4 : MethodName := ⟨RJ6, "bitCount", "(I)I"⟩
def RJ9 : String := "java/lang/Math"
abbrev cJ9_max_7cf53 : ByteArray := prog_16_method_65_code
def yJ9_max_7cf53 : MethodName := ⟨RJ9, "max", "(II)I"⟩
abbrev cJ9_min_7cf53 : ByteArray := prog_16_method_69_code
def yJ9_min_7cf53 : MethodName := ⟨RJ9, "min", "(II)I"⟩
def RJ10 : String := "java/lang/System"
def RJ7 : String := "java/util/Arrays"
abbrev cJ7_fill_53178 : ByteArray := prog_20_method_103_code
def yJ7_fill_53178 : MethodName := ⟨RJ7, "fill", "([II)V"⟩
def RL : String := "SnowTracksLaw"
abbrev cL_cell : ByteArray := method_2_code
def yL_cell : MethodName := ⟨RL, "cell", "([II)I"⟩
abbrev cL_told : ByteArray := method_3_code
def yL_told : MethodName := ⟨RL, "told", "(LSnowTracks;II[J)I"⟩
abbrev cL_law : ByteArray := code
def yL_law : MethodName := ⟨RL, "law", "([I)Z"⟩
abbrev vwCl : List vw_C := [(RX0, TX0, 5), (RX1, TX1, 2), (RX2, TX2, 5), (RX3, TX3, 4), (RX4, TX4, 2), (RX5, TX5, 6), (RX6, TX6, 5), (RX7, TX7, 7), (RX8, TX8, 9), (RX9, TX9, 18), (RX10, TX10, 41)]
end
section
/-! worlds of mine: the heap's size, shapes (kind, length) by address, contents; kinds 0..10: objects of vwCl, 11: int[], 12: long[], 13: Walk[], 14: Fact[], 15: Net[] -/
abbrev Sg : Type := Nat × (Nat → Option (Nat × Nat)) × (Nat → Nat → Value)
abbrev Cx : Type := Launch × va_G × (Nat → ClassId) × Nat × Nat × (Nat → Int32)
abbrev Mt : Type := MethodName × ByteArray × Nat × Option FieldType
abbrev Ev : Type := Room × (Nat → Prop) × Nat × Nat × (Option Value → Sg → Prop)
abbrev Lv : Type := List (Nat × Value)
def tgF (t : Nat) : FieldType := match t with
  | 11 => .int
  | 12 => .long
  | 13 => .object "SnowTracks$Walk"
  | 14 => .object "SnowTracks$Fact"
  | _ => .object "SnowTracks$Net"
def tysG (G : Cx) : List (ClassId × FieldType) := [(G.2.2.1 11, tgF 11), (G.2.2.1 12, tgF 12), (G.2.2.1 13, tgF 13), (G.2.2.1 14, tgF 14), (G.2.2.1 15, tgF 15)]
def celR (G : Cx) (H : Heap) (a t n : Nat) (f : Nat → Value) : Prop :=
  (t < 11 ∧ ∃ r : vw_C, vwCl[t]? = some r ∧ n = r.2.2 ∧ t_OB a (G.2.1.1 t) r.2.2 (G.2.1.2 t) H f) ∨ (11 ≤ t ∧ H[a]? = some (arrV (G.2.2.1 t) n f))
def RepS (G : Cx) (H : Heap) (σ : Sg) : Prop := H.size = σ.1 ∧ σ.2.1 G.2.2.2.1 = none ∧ ∀ a t n, σ.2.1 a = some (t, n) → celR G H a t n (σ.2.2 a)
def isNe : Cond → Bool
  | .fieldLinkNest .. => true
  | .methodLinkNest .. => true
  | _ => false
def KS (G : Cx) (U : State) : Prop := va_K G.2.1 vwCl (tysG G) U ∧ (∀ w ∈ lw_tbl, isNe w = true → va_Nw w U) ∧ va_AO "SnowTracks$Walk" U ∧ va_AO "SnowTracks$Fact" U ∧ va_AO "SnowTracks$Net" U
def XS (G : Cx) (U : State) (H : Heap) : Prop := va_X G.2.2.2.1 G.2.2.2.2.1 G.2.2.2.2.2 U H ∧ G.2.2.2.1 < H.size
theorem KS.warm {G : Cx} {s U : State} (hW : s.WarmedH U.vm) (h : KS G s) : KS G U := by
  obtain ⟨h1, h2, h3, h4, h5⟩ := h
  refine ⟨va_K.moved hW.alike h1, fun w hw hn => ?_, h3.moved hW.alike, h4.moved hW.alike, h5.moved hW.alike⟩
  have h := h2 w hw hn
  cases w <;> first | (exact absurd hn (by decide)) | (exact va_Nw.warmF hW h) | (exact va_Nw.warmM hW h) | (simp [isNe] at hn)
theorem KS.same {G : Cx} {s U : State} (hv : s.vm = U.vm) (h : KS G s) : KS G U := by
  obtain ⟨h1, h2, h3, h4, h5⟩ := h
  have ha : s.vm.Alike U.vm := by rw [hv]; exact Vm.Alike.refl _
  refine ⟨va_K.moved ha h1, fun w hw hn => ?_, h3.moved ha, h4.moved ha, h5.moved ha⟩
  have h := h2 w hw hn
  cases w <;> first | (exact absurd hn (by decide)) | (exact va_Nw.same rfl hv h) | (simp [isNe] at hn)
theorem XS.moved {G : Cx} {s U : State} {H : Heap} (hvm : s.vm.Alike U.vm) (h : XS G s H) : XS G U H := ⟨h.1.moved hvm, h.2⟩
/-- what a method may write -/
def Aof (σ : Sg) : Nat → Prop := fun q => σ.2.1 q ≠ none ∨ σ.1 ≤ q
def PcS (G : Cx) (vs : List Value) (σ : Sg) : Array Value → State → Prop := va_Pc vs (fun U => RepS G U.heap σ ∧ KS G U ∧ XS G U U.heap)
def QcS (G : Cx) (Q : Option Value → Sg → Prop) (A : Nat → Prop) : Array Value → State → Outcome → State → Prop := fun _ st o t =>
  (∃ (r : Option Value) (σ' : Sg), o = .returned r ∧ Q r σ' ∧ RepS G t.heap σ' ∧ ∀ a, σ'.2.1 a ≠ none → A a) ∧ va_F A st t
def wsM (mt : Mt) : List Cond := Cond.code mt.1 mt.2.1 mt.2.2.1 mt.2.2.2 :: lw_tbl.filter goodWord
/-- a method's contract: frames fr, locals lo, new cells mc of ms slots -/
def BM (G : Cx) (mt : Mt) (fr lo mc ms : Nat) (vs : List Value) (σ : Sg) (Q : Option Value → Sg → Prop) : Prop :=
  Met G.1 mt.1 (wsM mt) ({ frames := fr, cells := mc, slots := ms, locals := lo }) (PcS G vs σ) (QcS G Q (Aof σ)) mc ms (Aof σ)
/-- what stays through a method's body -/
def EntB (G : Cx) (mt : Mt) (A : Nat → Prop) (p : Program) (s : State) (m : MethodId) (args : Array Value) (meth : Method) (c : Code) : Prop :=
  p.tables.exec = Jvm.exec ∧ c.code = mt.2.1 ∧ meth.sig.returnType = mt.2.2.2 ∧ meth.locks = false ∧ c.maxLocals = mt.2.2.1 ∧ s.vm.findClass mt.1.cls = some m.cls ∧ (∀ w ∈ lw_tbl, goodWord w = true → w.before args s = true) ∧ KS G s ∧ XS G s s.heap ∧ ¬ A G.2.2.2.1 ∧ (∀ q, s.heap.size ≤ q → A q) ∧ meth.name = mt.1.name ∧ (∀ w ∈ wsM mt, w.before args s = true)
def BW (G : Cx) (mt : Mt) (E : Ev) (cells slots pc : Nat) (lv : Lv) (st : List Value) (σ : Sg) : Prop :=
  ∀ (p : Program) (e : Env) (s : State) (m : MethodId) (args : Array Value) (below : List Frame) (meth : Method) (c : Code) (H : Heap) (locs : List Loc) (ls : Array Slot),
    EntB G mt E.2.1 p s m args meth c → RepS G H σ → va_S E.2.1 s.heap H locs → (∀ a, σ.2.1 a ≠ none → E.2.1 a) → lv_has ls mt.2.2.1 lv →
    W p G.1 e E.1 s m args below meth c H locs cells slots (MQ below (QcS G E.2.2.2.2 E.2.1) args s E.2.2.1 E.2.2.2.1 E.2.1) (F0 m pc ls st)
theorem celR.lt {G : Cx} {H : Heap} {a t n : Nat} {f : Nat → Value} (h : celR G H a t n f) : a < H.size := by
  rcases h with ⟨-, r, -, -, cell, h, -⟩ | ⟨-, h⟩
  · exact (Array.getElem?_eq_some_iff.mp h).1
  · exact (Array.getElem?_eq_some_iff.mp h).1
theorem celR.kept {G : Cx} {H H1 : Heap} {a t n : Nat} {f : Nat → Value} (h : celR G H a t n f) (hq : H1[a]? = H[a]?) : celR G H1 a t n f := by
  rcases h with ⟨h0, r, h1, h2, h3⟩ | ⟨h0, h⟩
  · exact Or.inl ⟨h0, r, h1, h2, h3.kept hq⟩
  · exact Or.inr ⟨h0, hq.trans h⟩
theorem frameBlindS (G : Cx) (vs : List Value) (σ : Sg) : FrameBlind (PcS G vs σ) := fun a U g mk q => by
  obtain ⟨q0, q1, q2, q3⟩ := q
  exact ⟨q0, q1, KS.same (show U.vm = (U.calling g mk a).vm from rfl) q2, q3.moved (Vm.Alike.refl U.vm)⟩
/-- a body's walk is its contract -/
theorem BM.of {G : Cx} {mt : Mt} {fr lo mc ms : Nat} {vs : List Value} {σ : Sg} {Q : Option Value → Sg → Prop} (hy : plainName mt.1.cls = true) (hl : (lg_sl vs).length ≤ mt.2.2.1)
    (h : BW G mt (({ frames := fr, cells := mc, slots := ms, locals := lo }), Aof σ, mc, ms, Q) 0 0 0 (lv_args 0 vs) [] σ) : BM G mt fr lo mc ms vs σ Q := by
  refine Met.ofW (cc := mt.2.1) (maxL := mt.2.2.1) (ret := mt.2.2.2) hy rfl ?_
  intro p e s m args below meth c s₁ B hml hv
  obtain ⟨rfl, hR, hK, hX⟩ := hv
  have hts := atoms_spec (ws := wsM mt) B.pre
  have hbA : ¬ Aof σ G.2.2.2.1 := fun h => by
    rcases h with h | h
    · exact h hR.2.1
    · have := hX.2
      rw [hR.1] at this
      omega
  rw [lg_entry_eq]
  refine h p e s m _ below meth c s.heap [] _ ⟨B.exec, B.bytes, B.returns, B.notSynchronized, hml, findClass_of_methodNamed B.named, fun w hw hg => hts w (List.mem_cons_of_mem _ (List.mem_filter.mpr ⟨hw, hg⟩)), hK, hX, hbA, fun q hq => Or.inr (by rw [← hR.1]; exact hq), (name_of_methodNamed B.named B.method).1, hts⟩ hR va_S.rf (fun a ha => Or.inl ha) (lv_entry vs hl)
/-! ===== straight stretches: no heap, no jump ===== -/
def lnI : Instr → Nat
  | .bipush _ | .iload _ | .aload _ | .istore _ | .astore _ | .newarray _ | .ldc _ => 2
  | .iconst _ | .iload_n _ | .aload_n _ | .istore_n _ | .astore_n _ | .iadd | .isub | .imul | .idiv | .irem | .ineg | .iand | .ior | .ixor | .ishl | .ishr | .iushr | .dup | .dup2 | .pop | .aconst_null | .i2l | .lcmp | .iaload | .iastore | .aaload | .aastore | .laload | .lastore | .arraylength | .ireturn | .areturn | .return_ | .athrow => 1
  | _ => 3
def insL (i : Nat) (v : Value) : Lv → Lv
  | [] => [(i, v)]
  | q :: r => if i < q.1 then (i, v) :: q :: r else q :: insL i v r
def putL (i : Nat) (v : Value) (lv : Lv) : Lv := insL i v (lv.filter (fun q => !(q.1 == i) && !(q.1 + 1 == i && q.2.category == 2)))
def getL (i : Nat) : Lv → Option Value
  | [] => none
  | q :: r => if q.1 = i then some q.2 else getL i r
theorem insL_mem {i : Nat} {v : Value} : ∀ {lv : Lv} {q : Nat × Value}, q ∈ insL i v lv → q ∈ (i, v) :: lv
  | [], q, h => h
  | a :: r, q, h => by
    unfold insL at h
    split at h
    · exact h
    · rcases List.mem_cons.mp h with h | h
      · rw [h]; simp
      · rcases List.mem_cons.mp (insL_mem h) with h | h
        · rw [h]; simp
        · simp [h]
theorem getL_mem {i : Nat} {v : Value} : ∀ {lv : Lv}, getL i lv = some v → (i, v) ∈ lv
  | [], h => by cases h
  | a :: r, h => by
    unfold getL at h
    split at h
    · rename_i hi
      cases h
      rw [← hi]; simp
    · exact List.mem_cons_of_mem _ (getL_mem h)
theorem lv_get {ls : Array Slot} {nL : Nat} {lv : Lv} (h : lv_has ls nL lv) {i : Nat} {v : Value} (hg : getL i lv = some v) : ls[i]? = some (.val v) := h.2.2 _ (getL_mem hg)
theorem lv_put {ls : Array Slot} {nL : Nat} {lv : Lv} {i : Nat} {v : Value} (h : lv_has ls nL ((i, v) :: lv.filter (fun q => !(q.1 == i) && !(q.1 + 1 == i && q.2.category == 2)))) : lv_has ls nL (putL i v lv) := ⟨h.1, h.2.1, fun q hq => h.2.2 q (insL_mem hq)⟩
def st1 (nL : Nat) (i : Instr) (lv : Lv) (st : List Value) : Option (Lv × List Value) :=
  match i with
  | .iconst n => some (lv, .int (Int32.ofInt n) :: st)
  | .bipush n => some (lv, .int (Int8.ofInt n).toInt32 :: st)
  | .sipush n => some (lv, .int (Int16.ofInt n).toInt32 :: st)
  | .aconst_null => some (lv, .null :: st)
  | .iload_n k => match getL k lv with | some (.int x) => some (lv, .int x :: st) | _ => none
  | .iload k => match getL k lv with | some (.int x) => some (lv, .int x :: st) | _ => none
  | .aload_n k => match getL k lv with | some (.ref x) => some (lv, .ref x :: st) | some .null => some (lv, .null :: st) | _ => none
  | .aload k => match getL k lv with | some (.ref x) => some (lv, .ref x :: st) | some .null => some (lv, .null :: st) | _ => none
  | .istore_n k => match st with | .int x :: r => if k.val < nL then some (putL k (.int x) lv, r) else none | _ => none
  | .istore k => match st with | .int x :: r => if k < nL then some (putL k (.int x) lv, r) else none | _ => none
  | .astore_n k => match st with | .ref x :: r => if k.val < nL then some (putL k (.ref x) lv, r) else none | .null :: r => if k.val < nL then some (putL k .null lv, r) else none | _ => none
  | .astore k => match st with | .ref x :: r => if k < nL then some (putL k (.ref x) lv, r) else none | .null :: r => if k < nL then some (putL k .null lv, r) else none | _ => none
  | .iinc k n => match getL k lv with | some (.int x) => if k < nL then some (putL k (.int (x + Int32.ofInt n)) lv, st) else none | _ => none
  | .iadd => match st with | .int y :: .int x :: r => some (lv, .int (x + y) :: r) | _ => none
  | .isub => match st with | .int y :: .int x :: r => some (lv, .int (x - y) :: r) | _ => none
  | .imul => match st with | .int y :: .int x :: r => some (lv, .int (x * y) :: r) | _ => none
  | .iand => match st with | .int y :: .int x :: r => some (lv, .int (x &&& y) :: r) | _ => none
  | .ior => match st with | .int y :: .int x :: r => some (lv, .int (x ||| y) :: r) | _ => none
  | .ixor => match st with | .int y :: .int x :: r => some (lv, .int (x ^^^ y) :: r) | _ => none
  | .ishl => match st with | .int y :: .int x :: r => some (lv, .int (x <<< (y &&& 31)) :: r) | _ => none
  | .ishr => match st with | .int y :: .int x :: r => some (lv, .int (x >>> (y &&& 31)) :: r) | _ => none
  | .iushr => match st with | .int y :: .int x :: r => some (lv, .int (x.toUInt32 >>> (y.toUInt32 &&& Int32.toUInt32 31)).toInt32 :: r) | _ => none
  | .ineg => match st with | .int x :: r => some (lv, .int (-x) :: r) | _ => none
  | .dup => match st with | .int x :: r => some (lv, .int x :: .int x :: r) | .ref x :: r => some (lv, .ref x :: .ref x :: r) | _ => none
  | .dup2 => match st with | .int x :: .ref y :: r => some (lv, .int x :: .ref y :: .int x :: .ref y :: r) | _ => none
  | .pop => match st with | .int _ :: r => some (lv, r) | .ref _ :: r => some (lv, r) | .null :: r => some (lv, r) | _ => none
  | _ => none
def stL (nL : Nat) : List Instr → Lv → List Value → Option (Lv × List Value)
  | [], lv, st => some (lv, st)
  | i :: r, lv, st => match st1 nL i lv st with
    | some q => stL nL r q.1 q.2
    | none => none
def lnL : List Instr → Nat
  | [] => 0
  | i :: r => lnI i + lnL r
def dcL (cc : ByteArray) : Nat → List Instr → Bool
  | _, [] => true
  | pc, i :: r => decide (decode cc pc = .ok (i, lnI i)) && dcL cc (pc + lnI i) r
set_option maxHeartbeats 4000000 in
theorem BW.one {G : Cx} {mt : Mt} {E : Ev} {cells slots pc : Nat} {lv lv' : Lv} {st st' : List Value} {σ : Sg} {i : Instr} (hd : decode mt.2.1 pc = .ok (i, lnI i)) (hs : st1 mt.2.2.1 i lv st = some (lv', st')) (k : BW G mt E cells slots (pc + lnI i) lv' st' σ) : BW G mt E cells slots pc lv st σ := by
  intro p e s m args below meth c H locs ls C hR hS hA hl
  have hx := C.1
  have hb := C.2.1
  have k' := fun ls hl => k p e s m args below meth c H locs ls C hR hS hA hl
  clear k
  cases i <;> first | (cases hs; done) | skip
  all_goals dsimp only [st1] at hs
  case iconst n => cases hs; exact lv_iconst hx hb hd rfl (k' ls hl)
  case bipush n => cases hs; exact lv_bipush hx hb hd rfl (k' ls hl)
  case sipush n => cases hs; exact lv_sipush hx hb hd rfl (k' ls hl)
  case aconst_null => cases hs; exact lv_null hx hb hd (k' ls hl)
  case iload_n n =>
    split at hs
    · rename_i x hg; cases hs; exact lv_iload_n hx hb hd rfl (lv_get hl hg) (k' ls hl)
    · cases hs
  case iload n =>
    split at hs
    · rename_i x hg; cases hs; exact lv_iload hx hb hd (lv_get hl hg) (k' ls hl)
    · cases hs
  case aload_n n =>
    split at hs
    · rename_i x hg; cases hs; exact lv_aload_n hx hb hd rfl (lv_get hl hg) (k' ls hl)
    · rename_i hg; cases hs; exact lv_aload_nN hx hb hd rfl (lv_get hl hg) (k' ls hl)
    · cases hs
  case aload n =>
    split at hs
    · rename_i x hg; cases hs; exact lv_aload hx hb hd (lv_get hl hg) (k' ls hl)
    · rename_i hg; cases hs; exact lv_aloadN hx hb hd (lv_get hl hg) (k' ls hl)
    · cases hs
  case istore_n n =>
    match st, hs with
    | .int x :: r, hs =>
      dsimp only at hs
      split at hs
      · rename_i hn; cases hs; exact lv_istore_n hx hb hd rfl hl hn rfl (fun ls' h' => k' ls' (lv_put h'))
      · cases hs
  case istore n =>
    match st, hs with
    | .int x :: r, hs =>
      dsimp only at hs
      split at hs
      · rename_i hn; cases hs; exact lv_istore hx hb hd hl hn rfl (fun ls' h' => k' ls' (lv_put h'))
      · cases hs
  case astore_n n =>
    match st, hs with
    | .ref x :: r, hs =>
      dsimp only at hs
      split at hs
      · rename_i hn; cases hs; exact lv_astore_n hx hb hd rfl hl hn rfl (fun ls' h' => k' ls' (lv_put h'))
      · cases hs
    | .null :: r, hs =>
      dsimp only at hs
      split at hs
      · rename_i hn; cases hs; exact lv_astore_nN hx hb hd rfl hl hn rfl (fun ls' h' => k' ls' (lv_put h'))
      · cases hs
  case astore n =>
    match st, hs with
    | .ref x :: r, hs =>
      dsimp only at hs
      split at hs
      · rename_i hn; cases hs; exact lv_astore hx hb hd hl hn rfl (fun ls' h' => k' ls' (lv_put h'))
      · cases hs
    | .null :: r, hs =>
      dsimp only at hs
      split at hs
      · rename_i hn; cases hs; exact lv_astoreN hx hb hd hl hn rfl (fun ls' h' => k' ls' (lv_put h'))
      · cases hs
  case iinc n d =>
    split at hs
    · rename_i x hg
      split at hs
      · rename_i hn
        cases hs
        obtain ⟨q, hq⟩ := List.getElem?_of_mem (getL_mem hg)
        exact lv_iinc hx hb hd hl hq rfl hn rfl (fun ls' h' => k' ls' (lv_put h'))
      · cases hs
    · cases hs
  case iadd =>
    match st, hs with
    | .int y :: .int x :: r, hs => cases hs; exact lv_iadd hx hb hd (k' ls hl)
  case isub =>
    match st, hs with
    | .int y :: .int x :: r, hs => cases hs; exact lv_isub hx hb hd (k' ls hl)
  case imul =>
    match st, hs with
    | .int y :: .int x :: r, hs => cases hs; exact lv_imul hx hb hd (k' ls hl)
  case iand =>
    match st, hs with
    | .int y :: .int x :: r, hs => cases hs; exact lv_iand hx hb hd (k' ls hl)
  case ior =>
    match st, hs with
    | .int y :: .int x :: r, hs => cases hs; exact lv_ior hx hb hd (k' ls hl)
  case ixor =>
    match st, hs with
    | .int y :: .int x :: r, hs => cases hs; exact lv_ixor hx hb hd (k' ls hl)
  case ishl =>
    match st, hs with
    | .int y :: .int x :: r, hs => cases hs; exact lv_ishl hx hb hd (k' ls hl)
  case ishr =>
    match st, hs with
    | .int y :: .int x :: r, hs => cases hs; exact lv_ishr hx hb hd (k' ls hl)
  case iushr =>
    match st, hs with
    | .int y :: .int x :: r, hs => cases hs; exact lv_iushr hx hb hd rfl (k' ls hl)
  case ineg =>
    match st, hs with
    | .int x :: r, hs => cases hs; exact lv_ineg hx hb hd (k' ls hl)
  case dup =>
    match st, hs with
    | .int x :: r, hs => cases hs; exact lv_dup hx hb hd rfl (k' ls hl)
    | .ref x :: r, hs => cases hs; exact lv_dup hx hb hd rfl (k' ls hl)
  case dup2 =>
    match st, hs with
    | .int x :: .ref y :: r, hs => cases hs; exact lv_dup2_11 hx hb hd rfl rfl (k' ls hl)
  case pop =>
    match st, hs with
    | .int x :: r, hs => cases hs; exact lv_pop hx hb hd rfl (k' ls hl)
    | .ref x :: r, hs => cases hs; exact lv_pop hx hb hd rfl (k' ls hl)
    | .null :: r, hs => cases hs; exact lv_pop hx hb hd rfl (k' ls hl)
theorem BW.run {G : Cx} {mt : Mt} {E : Ev} {cells slots : Nat} {σ : Sg} : ∀ (is : List Instr) {pc pc' : Nat} {lv lv' : Lv} {st st' : List Value}, dcL mt.2.1 pc is = true → pc + lnL is = pc' → stL mt.2.2.1 is lv st = some (lv', st') → BW G mt E cells slots pc' lv' st' σ → BW G mt E cells slots pc lv st σ
  | [], pc, pc', lv, lv', st, st', _, hp, hs, k => by cases hs; rw [← hp] at k; exact k
  | i :: r, pc, pc', lv, lv', st, st', hd, hp, hs, k => by
    unfold dcL at hd
    simp only [Bool.and_eq_true, decide_eq_true_eq] at hd
    unfold stL at hs
    split at hs
    · rename_i q hq
      obtain ⟨q1, q2⟩ := q
      refine BW.one hd.1 hq (BW.run r hd.2 ?_ hs k)
      have h3 : lnL (i :: r) = lnI i + lnL r := rfl
      omega
    · cases hs
theorem BW.sub {G : Cx} {mt : Mt} {E : Ev} {cells slots pc : Nat} {lv lv' : Lv} {st : List Value} {σ : Sg} (ks : List Nat) (h : lv_pick lv ks = lv') (k : BW G mt E cells slots pc lv' st σ) : BW G mt E cells slots pc lv st σ :=
  fun p e s m args below meth c H locs ls C hR hS hA hl => k p e s m args below meth c H locs ls C hR hS hA (lv_sub hl ks h)
end
section
/-! ===== reads and writes of my worlds ===== -/
def gV (t : Nat) (σ : Sg) (a k : Nat) : Option Value := match σ.2.1 a with
  | some q => if q.1 = t ∧ k < q.2 then some (σ.2.2 a k) else none
  | none => none
def toI (v : Option Value) : Option Int32 := match v with
  | some (.int x) => some x
  | _ => none
def toR (v : Option Value) : Option Nat := match v with
  | some (.ref x) => some x
  | _ => none
def toQ (v : Option Value) : Option (Option Nat) := match v with
  | some (.ref x) => some (some x)
  | some .null => some none
  | _ => none
def aV (t : Nat) (σ : Sg) (a : Nat) (i : Int32) : Option Value := match σ.2.1 a with
  | some q => if q.1 = t ∧ ¬ (i < 0 ∨ q.2 ≤ i.toNatClampNeg) then some (σ.2.2 a i.toNatClampNeg) else none
  | none => none
def up2 (m : Nat → Nat → Value) (a k : Nat) (v : Value) : Nat → Nat → Value := fun a' => if a' = a then updV (m a) k v else m a'
def pV (t : Nat) (σ : Sg) (a k : Nat) (v : Value) : Option Sg := match σ.2.1 a with
  | some q => if q.1 = t ∧ k < q.2 then some (σ.1, σ.2.1, up2 σ.2.2 a k v) else none
  | none => none
def sV (t : Nat) (σ : Sg) (a : Nat) (i : Int32) (v : Value) : Option Sg := match σ.2.1 a with
  | some q => if q.1 = t ∧ ¬ (i < 0 ∨ q.2 ≤ i.toNatClampNeg) then some (σ.1, σ.2.1, up2 σ.2.2 a i.toNatClampNeg v) else none
  | none => none
def lenA (t : Nat) (σ : Sg) (a : Nat) : Option Int32 := match σ.2.1 a with
  | some q => if q.1 = t then some (Int32.ofNat q.2) else none
  | none => none
theorem toI_V {v : Option Value} {x : Int32} (h : toI v = some x) : v = some (.int x) := by
  unfold toI at h
  split at h
  · cases h; rfl
  · cases h
theorem toR_V {v : Option Value} {x : Nat} (h : toR v = some x) : v = some (.ref x) := by
  unfold toR at h
  split at h
  · cases h; rfl
  · cases h
theorem toQ_V {v : Option Value} {x : Option Nat} (h : toQ v = some x) : v = some (va_rf x) := by
  unfold toQ at h
  split at h
  · cases h; rfl
  · cases h; rfl
  · cases h
theorem gV_spec {t : Nat} {σ : Sg} {a k : Nat} {v : Value} (h : gV t σ a k = some v) : ∃ n, σ.2.1 a = some (t, n) ∧ k < n ∧ σ.2.2 a k = v := by
  unfold gV at h
  split at h
  · rename_i q hq
    obtain ⟨t', n⟩ := q
    split at h
    · rename_i hc
      cases h
      obtain ⟨rfl, hk⟩ := hc
      exact ⟨n, hq, hk, rfl⟩
    · cases h
  · cases h
theorem aV_spec {t : Nat} {σ : Sg} {a : Nat} {i : Int32} {v : Value} (h : aV t σ a i = some v) : ∃ n, σ.2.1 a = some (t, n) ∧ vp_in i n ∧ σ.2.2 a i.toNatClampNeg = v := by
  unfold aV at h
  split at h
  · rename_i q hq
    obtain ⟨t', n⟩ := q
    split at h
    · rename_i hc
      cases h
      obtain ⟨rfl, hk⟩ := hc
      exact ⟨n, hq, hk, rfl⟩
    · cases h
  · cases h
theorem pV_spec {t : Nat} {σ σ' : Sg} {a k : Nat} {v : Value} (h : pV t σ a k v = some σ') : ∃ n, σ.2.1 a = some (t, n) ∧ k < n ∧ σ' = (σ.1, σ.2.1, up2 σ.2.2 a k v) := by
  unfold pV at h
  split at h
  · rename_i q hq
    obtain ⟨t', n⟩ := q
    split at h
    · rename_i hc
      cases h
      obtain ⟨rfl, hk⟩ := hc
      exact ⟨n, hq, hk, rfl⟩
    · cases h
  · cases h
theorem sV_spec {t : Nat} {σ σ' : Sg} {a : Nat} {i : Int32} {v : Value} (h : sV t σ a i v = some σ') : ∃ n, σ.2.1 a = some (t, n) ∧ vp_in i n ∧ σ' = (σ.1, σ.2.1, up2 σ.2.2 a i.toNatClampNeg v) := by
  unfold sV at h
  split at h
  · rename_i q hq
    obtain ⟨t', n⟩ := q
    split at h
    · rename_i hc
      cases h
      obtain ⟨rfl, hk⟩ := hc
      exact ⟨n, hq, hk, rfl⟩
    · cases h
  · cases h
theorem lenA_spec {t : Nat} {σ : Sg} {a : Nat} {v : Int32} (h : lenA t σ a = some v) : ∃ n, σ.2.1 a = some (t, n) ∧ Int32.ofNat n = v := by
  unfold lenA at h
  split at h
  · rename_i q hq
    obtain ⟨t', n⟩ := q
    split at h
    · rename_i hc
      cases h
      obtain rfl := hc
      exact ⟨n, hq, rfl⟩
    · cases h
  · cases h
/-- a class of vwCl, by its tables -/
def CI (t : Nat) (C : String) (T : u_T) (N : Nat) (ty : Nat → FieldType) : Prop :=
  vwCl[t]? = some (C, T, N) ∧ (∀ w ∈ u_ws C T N, w ∈ lw_tbl.filter goodWord) ∧ (∀ k, k < N → parseFieldDescriptor (T k).2.2.1 = some (ty k)) ∧ (∀ a, a < N → ∀ b, b < N → a ≠ b → (T a).2.1 ≠ (T b).2.1) ∧ (∀ k, k < N → (T k).1 = C)
theorem RepS.obj {G : Cx} {H : Heap} {σ : Sg} (hR : RepS G H σ) {t a n : Nat} {C : String} {T : u_T} {N : Nat} {ty : Nat → FieldType} (ci : CI t C T N ty) (ha : σ.2.1 a = some (t, n)) : n = N ∧ t_OB a (G.2.1.1 t) N (G.2.1.2 t) H (σ.2.2 a) := by
  rcases hR.2.2 a t n ha with ⟨h0, r, h1, h2, h3⟩ | ⟨h0, -⟩
  · have hr : r = (C, T, N) := Option.some.inj (h1.symm.trans ci.1)
    subst hr
    exact ⟨h2, h3⟩
  · have h := ci.1
    rw [List.getElem?_eq_none (by show 11 ≤ t; exact h0)] at h
    cases h
theorem RepS.arr {G : Cx} {H : Heap} {σ : Sg} (hR : RepS G H σ) {t a n : Nat} (ht : 11 ≤ t) (ha : σ.2.1 a = some (t, n)) : H[a]? = some (arrV (G.2.2.1 t) n (σ.2.2 a)) := by
  rcases hR.2.2 a t n ha with ⟨h0, -⟩ | ⟨-, h⟩
  · omega
  · exact h
/-- one place of one cell is written -/
theorem RepS.put {G : Cx} {H H1 : Heap} {σ : Sg} (hR : RepS G H σ) {a k : Nat} {v : Value} {t n : Nat} (ha : σ.2.1 a = some (t, n)) (hc : celR G H1 a t n (updV (σ.2.2 a) k v)) (hz : H1.size = H.size) (ho : ∀ q, q ≠ a → H1[q]? = H[q]?) : RepS G H1 (σ.1, σ.2.1, up2 σ.2.2 a k v) := by
  refine ⟨hz.trans hR.1, hR.2.1, fun b t' n' hb => ?_⟩
  by_cases hba : b = a
  · subst hba
    have h1 : σ.2.1 b = some (t', n') := hb
    rw [ha] at h1
    cases h1
    show celR G H1 b t n (up2 σ.2.2 b k v b)
    unfold up2
    rw [if_pos rfl]
    exact hc
  · show celR G H1 b t' n' (up2 σ.2.2 a k v b)
    unfold up2
    rw [if_neg hba]
    exact (hR.2.2 b t' n' hb).kept (ho b hba)
/-- a cell is made -/
def nw (σ : Sg) (t n : Nat) (f : Nat → Value) : Sg := (σ.1 + 1, fun a => if a = σ.1 then some (t, n) else σ.2.1 a, fun a => if a = σ.1 then f else σ.2.2 a)
theorem RepS.new {G : Cx} {H H1 : Heap} {σ : Sg} (hR : RepS G H σ) (hb : G.2.2.2.1 < H.size) {t n : Nat} {f : Nat → Value} (hc : celR G H1 σ.1 t n f) (hz : H1.size = H.size + 1) (ho : ∀ q, q < H.size → H1[q]? = H[q]?) : RepS G H1 (nw σ t n f) := by
  refine ⟨by rw [hz, hR.1]; rfl, ?_, fun b t' n' hb' => ?_⟩
  · show (if G.2.2.2.1 = σ.1 then some (t, n) else σ.2.1 G.2.2.2.1) = none
    rw [if_neg (by rw [← hR.1]; omega)]
    exact hR.2.1
  · by_cases hbs : b = σ.1
    · subst hbs
      have h1 : (if σ.1 = σ.1 then some (t, n) else σ.2.1 σ.1) = some (t', n') := hb'
      rw [if_pos rfl] at h1
      cases h1
      show celR G H1 σ.1 t n (if σ.1 = σ.1 then f else σ.2.2 σ.1)
      rw [if_pos rfl]
      exact hc
    · have h1 : (if b = σ.1 then some (t, n) else σ.2.1 b) = some (t', n') := hb'
      rw [if_neg hbs] at h1
      show celR G H1 b t' n' (if b = σ.1 then f else σ.2.2 b)
      rw [if_neg hbs]
      have h2 := hR.2.2 b t' n' h1
      exact h2.kept (ho b h2.lt)
theorem vp_V_range (n : Nat) (f : Nat → Value) {k : Nat} (hk : k < n) : vp_V ((List.range n).map f) k = f k := by
  simp [vp_V, List.getD_eq_getElem?_getD, hk]
section BWH
variable {G : Cx} {mt : Mt} {E : Ev} {cells slots pc : Nat} {lv : Lv} {st : List Value} {σ σ' : Sg} {a k t idx : Nat} {C : String} {T : u_T} {N : Nat} {ty : Nat → FieldType} {v : Value} {i : Int32}
theorem BW.get (hd : decode mt.2.1 pc = .ok (.getfield idx, 3)) (ci : CI t C T N ty) (hk : k < N) (hlk : Cond.fieldLink mt.1.cls idx C (T k).2.1 (T k).2.2.1 ∈ lw_tbl) (hv : gV t σ a k = some v) (kk : BW G mt E cells slots (pc + 3) lv (v :: st) σ) : BW G mt E cells slots pc lv (.ref a :: st) σ := by
  intro p e s m args below meth c H locs ls C0 hR hS hA hl
  have kk' := kk p e s m args below meth c H locs ls C0 hR hS hA hl
  obtain ⟨hx, hb, -, -, -, hown, hts, hK, -⟩ := C0
  obtain ⟨n, h1, h2, rfl⟩ := gV_spec hv
  obtain ⟨rfl, hO⟩ := hR.obj ci h1
  refine va_get (D := G.2.1) (cl := vwCl) (ws := [(a, .inr (t, (List.range n).map (σ.2.2 a)))]) (Ts := lw_tbl.filter goodWord) hx hb (fun w hw => hts w (List.mem_filter.mp hw).1 (List.mem_filter.mp hw).2) ci.2.1 hown hK.1 ?_ 0 rfl ci.1 k hk (hts _ hlk rfl) (fun x h => by rw [ci.2.2.2.2 k hk] at h; exact h) (by simp [hk]) hd kk'
  intro q x hq
  have hz : q < 1 := (List.getElem?_eq_some_iff.mp hq).1
  rw [show q = 0 by omega] at hq
  cases hq
  exact ⟨_, ci.1, hO.to (fun j hj => (vp_V_range n _ hj).symm)⟩
theorem BW.getN {host : String} (hd : decode mt.2.1 pc = .ok (.getfield idx, 3)) (ci : CI t C T N ty) (hk : k < N) (hlk : Cond.fieldLinkNest mt.1.cls idx C (T k).2.1 (T k).2.2.1 host ∈ lw_tbl) (hv : gV t σ a k = some v) (kk : BW G mt E cells slots (pc + 3) lv (v :: st) σ) : BW G mt E cells slots pc lv (.ref a :: st) σ := by
  intro p e s m args below meth c H locs ls C0 hR hS hA hl
  have kk' := kk p e s m args below meth c H locs ls C0 hR hS hA hl
  obtain ⟨hx, hb, -, -, -, hown, hts, hK, -⟩ := C0
  obtain ⟨n, h1, h2, rfl⟩ := gV_spec hv
  obtain ⟨rfl, hO⟩ := hR.obj ci h1
  refine va_getN (D := G.2.1) (cl := vwCl) (ws := [(a, .inr (t, (List.range n).map (σ.2.2 a)))]) (Ts := lw_tbl.filter goodWord) hx hb (fun w hw => hts w (List.mem_filter.mp hw).1 (List.mem_filter.mp hw).2) ci.2.1 hown hK.1 ?_ 0 rfl ci.1 k hk (va_Nw.use rfl (hK.2.1 _ hlk rfl)) (fun x h => by rw [ci.2.2.2.2 k hk] at h; exact h) (by simp [hk]) hd kk'
  intro q x hq
  have hz : q < 1 := (List.getElem?_eq_some_iff.mp hq).1
  rw [show q = 0 by omega] at hq
  cases hq
  exact ⟨_, ci.1, hO.to (fun j hj => (vp_V_range n _ hj).symm)⟩
theorem BW.put (hd : decode mt.2.1 pc = .ok (.putfield idx, 3)) (ci : CI t C T N ty) (hk : k < N) (hlk : Cond.fieldLink mt.1.cls idx C (T k).2.1 (T k).2.2.1 ∈ lw_tbl) (hfin : (T k).2.2.2 = false) (hn : narrow (ty k) v = v) (hfit : fits (ty k) v = true) (hv : pV t σ a k v = some σ') (kk : BW G mt E cells slots (pc + 3) lv st σ') : BW G mt E cells slots pc lv (v :: .ref a :: st) σ := by
  intro p e s m args below meth c H locs ls C0 hR hS hA hl
  have C1 := C0
  obtain ⟨hx, hb, -, -, -, hown, hts, hK, -⟩ := C0
  obtain ⟨n, h1, h2, rfl⟩ := pV_spec hv
  obtain ⟨rfl, cell, q1, q2, q3, q4⟩ := hR.obj ci h1
  have hts' : ∀ w ∈ lw_tbl.filter goodWord, w.before args s = true := fun w hw => hts w (List.mem_filter.mp hw).1 (List.mem_filter.mp hw).2
  have hap := va_apart (own := mt.1.cls) hts' ci.2.1 ty ci.2.2.1 ci.2.2.2.1 hK.1 ci.1
  obtain ⟨hS', hfc, kC, hkC, hkind⟩ := hK.1.1 t _ ci.1
  obtain ⟨cf, kf, fi, f, hi, hsl⟩ := hS' k hk
  have hlay := hts' _ (ci.2.1 _ (u_in_lay hk))
  unfold u_lay at hlay
  rw [if_neg (by rw [hfin]; decide)] at hlay
  have hst := (u_facts hfc hkC (u_lays hts' ci.2.1 hk) hi).1
  have h6 := u_store hfc hkC hkind hlay hi (ci.2.2.1 k hk) hn hfit
  refine W.putK hx hb (f := f) ⟨hown, hts _ hlk rfl, ⟨_, _, _, by rw [ci.2.2.2.2 k hk] at hi; exact hi⟩, hst⟩ (by rw [q2]; exact h6) q1 q3 (by rw [hsl]; exact k2_hasslot (q4 k hk)) rfl rfl hd fun H' e1 e2 e3 => ?_
  rw [hsl] at e1 ⊢
  have ht : t < 11 := by
    rcases hR.2.2 a t n h1 with ⟨h0, -⟩ | ⟨-, h0⟩
    · exact h0
    · have := (List.getElem?_eq_some_iff.mp ci.1).1
      simpa using this
  refine kk p e s m args below meth c H' _ ls C1 (hR.put h1 (Or.inl ⟨ht, _, ci.1, rfl, _, e1, q2, q3, t_set q4 hap hk v⟩) e2 e3) (hS.put e2 e3 (hA a (by rw [h1]; exact fun h => by cases h))) hA hl
theorem BW.putN {host : String} (hd : decode mt.2.1 pc = .ok (.putfield idx, 3)) (ci : CI t C T N ty) (hk : k < N) (hlk : Cond.fieldLinkNest mt.1.cls idx C (T k).2.1 (T k).2.2.1 host ∈ lw_tbl) (hfin : (T k).2.2.2 = false) (hn : narrow (ty k) v = v) (hfit : fits (ty k) v = true) (hv : pV t σ a k v = some σ') (kk : BW G mt E cells slots (pc + 3) lv st σ') : BW G mt E cells slots pc lv (v :: .ref a :: st) σ := by
  intro p e s m args below meth c H locs ls C0 hR hS hA hl
  have C1 := C0
  obtain ⟨hx, hb, -, -, -, hown, hts, hK, -⟩ := C0
  obtain ⟨n, h1, h2, rfl⟩ := pV_spec hv
  obtain ⟨rfl, cell, q1, q2, q3, q4⟩ := hR.obj ci h1
  have hts' : ∀ w ∈ lw_tbl.filter goodWord, w.before args s = true := fun w hw => hts w (List.mem_filter.mp hw).1 (List.mem_filter.mp hw).2
  have hap := va_apart (own := mt.1.cls) hts' ci.2.1 ty ci.2.2.1 ci.2.2.2.1 hK.1 ci.1
  obtain ⟨hS', hfc, kC, hkC, hkind⟩ := hK.1.1 t _ ci.1
  obtain ⟨cf, kf, fi, f, hi, hsl⟩ := hS' k hk
  have hlay := hts' _ (ci.2.1 _ (u_in_lay hk))
  unfold u_lay at hlay
  rw [if_neg (by rw [hfin]; decide)] at hlay
  have hst := (u_facts hfc hkC (u_lays hts' ci.2.1 hk) hi).1
  have h6 := u_store hfc hkC hkind hlay hi (ci.2.2.1 k hk) hn hfit
  refine va_WputK hx hb (f := f) hown (va_Nw.use rfl (hK.2.1 _ hlk rfl)) (by rw [ci.2.2.2.2 k hk] at hi; exact hi) hst (by rw [q2]; exact h6) q1 q3 (by rw [hsl]; exact k2_hasslot (q4 k hk)) rfl rfl hd fun H' e1 e2 e3 => ?_
  rw [hsl] at e1 ⊢
  have ht : t < 11 := by
    have := (List.getElem?_eq_some_iff.mp ci.1).1
    simpa using this
  refine kk p e s m args below meth c H' _ ls C1 (hR.put h1 (Or.inl ⟨ht, _, ci.1, rfl, _, e1, q2, q3, t_set q4 hap hk v⟩) e2 e3) (hS.put e2 e3 (hA a (by rw [h1]; exact fun h => by cases h))) hA hl
theorem BW.putF (hd : decode mt.2.1 pc = .ok (.putfield idx, 3)) (ci : CI t C T N ty) (hk : k < N) (hlk : Cond.fieldLink mt.1.cls idx C (T k).2.1 (T k).2.2.1 ∈ lw_tbl) (hfin : (T k).2.2.2 = true) (hi2 : mt.1.name = "<init>") (hC : C = mt.1.cls) (hn : narrow (ty k) v = v) (hfit : fits (ty k) v = true) (hv : pV t σ a k v = some σ') (kk : BW G mt E cells slots (pc + 3) lv st σ') : BW G mt E cells slots pc lv (v :: .ref a :: st) σ := by
  intro p e s m args below meth c H locs ls C0 hR hS hA hl
  have C1 := C0
  obtain ⟨hx, hb, -, -, -, hown, hts, hK, -, -, -, hin2, -⟩ := C0
  obtain ⟨n, h1, h2, rfl⟩ := pV_spec hv
  obtain ⟨rfl, cell, q1, q2, q3, q4⟩ := hR.obj ci h1
  have hts' : ∀ w ∈ lw_tbl.filter goodWord, w.before args s = true := fun w hw => hts w (List.mem_filter.mp hw).1 (List.mem_filter.mp hw).2
  have hap := va_apart (own := mt.1.cls) hts' ci.2.1 ty ci.2.2.1 ci.2.2.2.1 hK.1 ci.1
  obtain ⟨hS', hfc, kC, hkC, hkind⟩ := hK.1.1 t _ ci.1
  obtain ⟨cf, kf, fi, f, hi, hsl⟩ := hS' k hk
  have hlay := hts' _ (ci.2.1 _ (u_in_lay hk))
  unfold u_lay at hlay
  rw [if_pos hfin] at hlay
  have hst := (u_facts hfc hkC (u_lays hts' ci.2.1 hk) hi).1
  have hcf : m.cls = cf := by
    obtain ⟨_, _, c', _, _, _, -, -, hf', -, -, -, hown2, -⟩ := Cond.laysFinal_spec hlay
    have e1 : c' = cf := by have := hi.symm.trans hf'; simp at this; exact this.1.symm
    rw [ci.2.2.2.2 k hk, hC] at hown2
    rw [← e1]; exact Option.some.inj (hown.symm.trans hown2)
  have h6 := u_fits hfc hkC hkind (Or.inr hlay) hi (ci.2.2.1 k hk) hn hfit
  refine W.putFinK hx hb hown (hts _ hlk rfl) (by rw [ci.2.2.2.2 k hk] at hi; exact hi) hst hcf (by rw [hin2]; exact hi2) (by rw [q2]; exact h6) q1 q3 (by rw [hsl]; exact k2_hasslot (q4 k hk)) rfl rfl hd fun H' e1 e2 e3 => ?_
  rw [hsl] at e1 ⊢
  have ht : t < 11 := by
    have := (List.getElem?_eq_some_iff.mp ci.1).1
    simpa using this
  refine kk p e s m args below meth c H' _ ls C1 (hR.put h1 (Or.inl ⟨ht, _, ci.1, rfl, _, e1, q2, q3, t_set q4 hap hk v⟩) e2 e3) (hS.put e2 e3 (hA a (by rw [h1]; exact fun h => by cases h))) hA hl
end BWH
end
section
/-! ===== arrays, makings, jumps, ends ===== -/
theorem KS.ty {G : Cx} {U : State} (h : KS G U) {t : Nat} (h1 : 11 ≤ t) (h2 : t ≤ 15) : ArrOfT U (G.2.2.1 t) (tgF t) ∧ va_RA U (G.2.2.1 t) (tgF t) := by
  refine h.1.2 (t - 11) (G.2.2.1 t, tgF t) ?_
  rcases (show t = 11 ∨ t = 12 ∨ t = 13 ∨ t = 14 ∨ t = 15 by omega) with rfl | rfl | rfl | rfl | rfl <;> rfl
section BWA
variable {G : Cx} {mt : Mt} {E : Ev} {cells slots pc : Nat} {lv : Lv} {st : List Value} {σ σ' : Sg} {a k t idx : Nat} {C : String} {T : u_T} {N : Nat} {ty : Nat → FieldType} {v : Value} {i x y : Int32}
theorem BW.iald (hd : decode mt.2.1 pc = .ok (.iaload, 1)) (hv : aV 11 σ a i = some v) (kk : BW G mt E cells slots (pc + 1) lv (v :: st) σ) : BW G mt E cells slots pc lv (.int i :: .ref a :: st) σ := by
  intro p e s m args below meth c H locs ls C0 hR hS hA hl
  have kk' := kk p e s m args below meth c H locs ls C0 hR hS hA hl
  obtain ⟨hx, hb, -, -, -, hown, hts, hK, -⟩ := C0
  obtain ⟨n, h1, h2, rfl⟩ := aV_spec hv
  have hlt : i.toNatClampNeg < n := Nat.not_le.mp fun q => h2 (Or.inr q)
  exact W.iald hx hb (hR.arr (Nat.le_refl 11) h1) ((hK.ty (Nat.le_refl 11) (by omega)).1 n _) (fun q => by cases q) (by rw [arrV_size]; exact h2) (by rw [arrV_read _ _ hlt]) rfl rfl hd kk'
theorem BW.lald (hd : decode mt.2.1 pc = .ok (.laload, 1)) (hv : aV 12 σ a i = some v) (kk : BW G mt E cells slots (pc + 1) lv (v :: st) σ) : BW G mt E cells slots pc lv (.int i :: .ref a :: st) σ := by
  intro p e s m args below meth c H locs ls C0 hR hS hA hl
  have kk' := kk p e s m args below meth c H locs ls C0 hR hS hA hl
  obtain ⟨hx, hb, -, -, -, hown, hts, hK, -⟩ := C0
  obtain ⟨n, h1, h2, rfl⟩ := aV_spec hv
  have hlt : i.toNatClampNeg < n := Nat.not_le.mp fun q => h2 (Or.inr q)
  exact W.lald hx hb (hR.arr (by omega) h1) ((hK.ty (t := 12) (by omega) (by omega)).1 n _) (fun q => by cases q) (by rw [arrV_size]; exact h2) (by rw [arrV_read _ _ hlt]) rfl rfl hd kk'
theorem BW.aald (hd : decode mt.2.1 pc = .ok (.aaload, 1)) (ht : 13 ≤ t ∧ t ≤ 15) (hv : aV t σ a i = some v) (kk : BW G mt E cells slots (pc + 1) lv (v :: st) σ) : BW G mt E cells slots pc lv (.int i :: .ref a :: st) σ := by
  intro p e s m args below meth c H locs ls C0 hR hS hA hl
  have kk' := kk p e s m args below meth c H locs ls C0 hR hS hA hl
  obtain ⟨hx, hb, -, -, -, hown, hts, hK, -⟩ := C0
  obtain ⟨n, h1, h2, rfl⟩ := aV_spec hv
  have hlt : i.toNatClampNeg < n := Nat.not_le.mp fun q => h2 (Or.inr q)
  have hty : (tgF t).isReference = true := by rcases (show t = 13 ∨ t = 14 ∨ t = 15 by omega) with rfl | rfl | rfl <;> rfl
  exact W.aald hx hb (hR.arr (by omega) h1) ((hK.ty (t := t) (by omega) (by omega)).1 n _) hty (fun q => by cases q) (by rw [arrV_size]; exact h2) (by rw [arrV_read _ _ hlt]) rfl rfl hd kk'
theorem BW.iast (hd : decode mt.2.1 pc = .ok (.iastore, 1)) (hv : sV 11 σ a i (.int x) = some σ') (kk : BW G mt E cells slots (pc + 1) lv st σ') : BW G mt E cells slots pc lv (.int x :: .int i :: .ref a :: st) σ := by
  intro p e s m args below meth c H locs ls C0 hR hS hA hl
  have C1 := C0
  obtain ⟨hx, hb, -, -, -, hown, hts, hK, -⟩ := C0
  obtain ⟨n, h1, h2, rfl⟩ := sV_spec hv
  refine W.iast hx hb (hR.arr (Nat.le_refl 11) h1) ((hK.ty (Nat.le_refl 11) (by omega)).1 n _) (fun q => by cases q) (by rw [arrV_size]; exact h2) rfl rfl hd fun H' e1 e2 e3 => ?_
  rw [arrV_store] at e1
  exact kk p e s m args below meth c H' _ ls C1 (hR.put h1 (Or.inr ⟨Nat.le_refl 11, e1⟩) e2 e3) (hS.put e2 e3 (hA a (by rw [h1]; exact fun h => by cases h))) hA hl
theorem BW.last {z : Int64} (hd : decode mt.2.1 pc = .ok (.lastore, 1)) (hv : sV 12 σ a i (.long z) = some σ') (kk : BW G mt E cells slots (pc + 1) lv st σ') : BW G mt E cells slots pc lv (.long z :: .int i :: .ref a :: st) σ := by
  intro p e s m args below meth c H locs ls C0 hR hS hA hl
  have C1 := C0
  obtain ⟨hx, hb, -, -, -, hown, hts, hK, -⟩ := C0
  obtain ⟨n, h1, h2, rfl⟩ := sV_spec hv
  refine W.last hx hb (hR.arr (by omega) h1) ((hK.ty (t := 12) (by omega) (by omega)).1 n _) (fun q => by cases q) (by rw [arrV_size]; exact h2) rfl rfl hd fun H' e1 e2 e3 => ?_
  rw [arrV_store] at e1
  exact kk p e s m args below meth c H' _ ls C1 (hR.put h1 (Or.inr ⟨by omega, e1⟩) e2 e3) (hS.put e2 e3 (hA a (by rw [h1]; exact fun h => by cases h))) hA hl
theorem BW.aast {c0 q n0 : Nat} (hd : decode mt.2.1 pc = .ok (.aastore, 1)) (ht : 13 ≤ t ∧ t ≤ 15) (ci : CI c0 C T N ty) (hC : tgF t = .object C) (hq : σ.2.1 q = some (c0, n0)) (hv : sV t σ a i (.ref q) = some σ') (kk : BW G mt E cells slots (pc + 1) lv st σ') : BW G mt E cells slots pc lv (.ref q :: .int i :: .ref a :: st) σ := by
  intro p e s m args below meth c H locs ls C0 hR hS hA hl
  have C1 := C0
  obtain ⟨hx, hb, -, -, -, hown, hts, hK, -⟩ := C0
  obtain ⟨n, h1, h2, rfl⟩ := sV_spec hv
  obtain ⟨-, cellV, g1, g2, g3, -⟩ := hR.obj ci hq
  have hcls := (hK.1.1 c0 _ ci.1).2
  have hra := (hK.ty (t := t) (by omega) (by omega)).2
  rw [hC] at hra
  obtain ⟨kA, comp, k1, k2, k3, -⟩ := hra
  have hcomp : comp = G.2.1.1 c0 := Option.some.inj (k3.symm.trans hcls.1)
  subst hcomp
  obtain ⟨kC, hkC, -⟩ := hcls.2
  refine W.aast hx hb (hR.arr (by omega) h1) (fun q h => by cases h) (fun h => by cases h) k1 k2 rfl hkC ⟨fun h => h2 (Or.inl h), by rw [arrV_size]; exact Nat.not_le.mp fun q => h2 (Or.inr q)⟩ g1 (fun q h => by rw [g3] at h; cases h) (by rw [g2]; exact hkC) (by rw [g2]; exact va_assign hcls) rfl rfl hd fun H' e1 e2 e3 => ?_
  rw [arrV_store] at e1
  exact kk p e s m args below meth c H' _ ls C1 (hR.put h1 (Or.inr ⟨by omega, e1⟩) e2 e3) (hS.put e2 e3 (hA a (by rw [h1]; exact fun h => by cases h))) hA hl
theorem BW.alen (hd : decode mt.2.1 pc = .ok (.arraylength, 1)) (ht : 11 ≤ t ∧ t ≤ 15) (hv : lenA t σ a = some x) (kk : BW G mt E cells slots (pc + 1) lv (.int x :: st) σ) : BW G mt E cells slots pc lv (.ref a :: st) σ := by
  intro p e s m args below meth c H locs ls C0 hR hS hA hl
  have kk' := kk p e s m args below meth c H locs ls C0 hR hS hA hl
  obtain ⟨hx, hb, -, -, -, hown, hts, hK, -⟩ := C0
  obtain ⟨n, h1, rfl⟩ := lenA_spec hv
  exact W.alen hx hb (hR.arr ht.1 h1) ((hK.ty (t := t) ht.1 ht.2).1 n _) (by rw [arrV_size]) rfl rfl hd kk'
/-- the script -/
theorem BW.sld (hd : decode mt.2.1 pc = .ok (.iaload, 1)) (hv : vp_in i G.2.2.2.2.1) (kk : BW G mt E cells slots (pc + 1) lv (.int (G.2.2.2.2.2 i.toNatClampNeg) :: st) σ) : BW G mt E cells slots pc lv (.int i :: .ref G.2.2.2.1 :: st) σ := by
  intro p e s m args below meth c H locs ls C0 hR hS hA hl
  have kk' := kk p e s m args below meth c H locs ls C0 hR hS hA hl
  obtain ⟨hx, hb, -, -, -, hown, hts, hK, hX, hbA, -⟩ := C0
  exact va_sld hx hb hX.1 hX.2 hbA hS hv hd kk'
theorem BW.slen (hd : decode mt.2.1 pc = .ok (.arraylength, 1)) (kk : BW G mt E cells slots (pc + 1) lv (.int (Int32.ofNat G.2.2.2.2.1) :: st) σ) : BW G mt E cells slots pc lv (.ref G.2.2.2.1 :: st) σ := by
  intro p e s m args below meth c H locs ls C0 hR hS hA hl
  have kk' := kk p e s m args below meth c H locs ls C0 hR hS hA hl
  obtain ⟨hx, hb, -, -, -, hown, hts, hK, hX, hbA, -⟩ := C0
  exact va_slen hx hb hX.1 hX.2 hbA hS hd kk'
/-- a new world is within what may be written -/
theorem nw_A {A : Nat → Prop} {f : Nat → Value} {n : Nat} (hA : ∀ a, σ.2.1 a ≠ none → A a) (h : A σ.1) : ∀ a, (nw σ t n f).2.1 a ≠ none → A a := by
  intro a ha
  by_cases hs : a = σ.1
  · rw [hs]; exact h
  · refine hA a ?_
    have h2 : (if a = σ.1 then some (t, n) else σ.2.1 a) ≠ none := ha
    rw [if_neg hs] at h2
    exact h2
theorem XS.lt {s : State} {H : Heap} {locs : List Loc} {A : Nat → Prop} (hX : XS G s s.heap) (hS : va_S A s.heap H locs) : G.2.2.2.1 < H.size := Nat.lt_of_lt_of_le hX.2 hS.1
theorem BW.newa {atype : ArrayType} {n : Nat} (hd : decode mt.2.1 pc = .ok (.newarray atype, 2)) (ht : (t = 11 ∧ atype = .int) ∨ (t = 12 ∧ atype = .long)) (hm : Cond.arrayClass (newarray.typeOf atype) ∈ lw_tbl) (hn : ¬ x < 0) (hN : x.toNatClampNeg = n) (hby : n ≤ 60000000) (hc : cells + 1 ≤ E.1.cells) (hs : slots + n ≤ E.1.slots)
    (kk : BW G mt E (cells + 1) (slots + n) (pc + 2) lv (.ref σ.1 :: st) (nw σ t n (fun _ => defaultValue (tgF t)))) : BW G mt E cells slots pc lv (.int x :: st) σ := by
  intro p e s m args below meth c H locs ls C0 hR hS hA hl
  have C1 := C0
  obtain ⟨hx, hb, -, -, -, hown, hts, hK, hX, hbA, hAs, -⟩ := C0
  have hty : newarray.typeOf atype = tgF t := by rcases ht with ⟨rfl, rfl⟩ | ⟨rfl, rfl⟩ <;> rfl
  refine va_newaK hx hb (hts _ hm rfl) rfl hd rfl hn hN ?_ hc hs hR.1 fun H' cA e1 z1 o1 hAr hNm => ?_
  · rw [hty]
    rcases ht with ⟨rfl, -⟩ | ⟨rfl, -⟩
    · show n * 4 ≤ 536870912
      omega
    · show n * 8 ≤ 536870912
      omega
  · have hcA : cA = G.2.2.1 t := by
      have h1 := (hK.ty (t := t) (by omega) (by omega)).2
      rw [hty] at hNm
      rcases ht with ⟨rfl, -⟩ | ⟨rfl, -⟩
      · exact Option.some.inj (hNm.symm.trans h1)
      · exact Option.some.inj (hNm.symm.trans h1)
    rw [hty, hcA] at e1
    have o2 : ∀ q, q < H.size → H'[q]? = H[q]? := fun q hq => o1 q (by rw [← hR.1]; exact hq)
    exact kk p e s m args below meth c H' locs ls C1 (hR.new (XS.lt hX hS) (Or.inr ⟨by omega, e1⟩) (by rw [z1, hR.1]) o2) ⟨Nat.le_trans hS.1 (by rw [z1, hR.1]; omega), fun q h1 h2 => (o2 q (Nat.lt_of_lt_of_le h1 hS.1)).trans (hS.2.1 q h1 h2), hS.2.2⟩ (nw_A hA (hAs _ (by rw [← hR.1]; exact hS.1))) hl
theorem BW.anew {n : Nat} (hd : decode mt.2.1 pc = .ok (.anewarray idx, 3)) (ht : 13 ≤ t ∧ t ≤ 15) (hC : tgF t = .object C) (hm : Cond.classLink mt.1.cls idx C ∈ lw_tbl) (hn : ¬ x < 0) (hN : x.toNatClampNeg = n) (hby : n ≤ 60000000) (hc : cells + 1 ≤ E.1.cells) (hs : slots + n ≤ E.1.slots)
    (kk : BW G mt E (cells + 1) (slots + n) (pc + 3) lv (.ref σ.1 :: st) (nw σ t n (fun _ => .null))) : BW G mt E cells slots pc lv (.int x :: st) σ := by
  intro p e s m args below meth c H locs ls C0 hR hS hA hl
  have C1 := C0
  obtain ⟨hx, hb, -, -, -, hown, hts, hK, hX, hbA, hAs, -⟩ := C0
  subst hN
  have hov : va_AO C s := by
    rcases (show t = 13 ∨ t = 14 ∨ t = 15 by omega) with rfl | rfl | rfl
    · cases hC; exact hK.2.2.1
    · cases hC; exact hK.2.2.2.1
    · cases hC; exact hK.2.2.2.2
  refine W.anew hx hb hown (hts _ hm rfl) (va_AO.use hov) rfl hd rfl hn (by omega) hc hs fun cA kA comp f1 f2 f3 f4 => ?_
  have hcA : cA = G.2.2.1 t := by
    have h1 := (hK.ty (t := t) (by omega) (by omega)).2
    rw [hC] at h1
    obtain ⟨_, _, -, -, -, h1⟩ := h1
    exact Option.some.inj (f1.symm.trans h1)
  subst hcA
  rw [arrV_new]
  have e1 : (H.push (arrV (G.2.2.1 t) x.toNatClampNeg (fun _ => .null)))[σ.1]? = some (arrV (G.2.2.1 t) x.toNatClampNeg (fun _ => .null)) := by rw [← hR.1]; simp
  have o2 : ∀ q, q < H.size → (H.push (arrV (G.2.2.1 t) x.toNatClampNeg (fun _ => .null)))[q]? = H[q]? := fun q hq => by rw [Array.getElem?_push, if_neg (Nat.ne_of_lt hq)]
  have hz : (H.push (arrV (G.2.2.1 t) x.toNatClampNeg (fun _ => .null))).size = H.size + 1 := by simp
  show W p G.1 e E.1 s m args below meth c _ locs (cells + 1) (slots + x.toNatClampNeg) _ (F0 m (pc + 3) ls (.ref H.size :: st))
  rw [hR.1]
  exact kk p e s m args below meth c _ locs ls C1 (hR.new (XS.lt hX hS) (Or.inr ⟨by omega, e1⟩) hz o2) ⟨Nat.le_trans hS.1 (by rw [hz]; omega), fun q h1 h2 => (o2 q (Nat.lt_of_lt_of_le h1 hS.1)).trans (hS.2.1 q h1 h2), hS.2.2⟩ (nw_A hA (hAs _ (by rw [← hR.1]; exact hS.1))) hl
theorem BW.new (hd : decode mt.2.1 pc = .ok (.new idx, 3)) (ci : CI t C T N ty) (hm : Cond.classLink mt.1.cls idx C ∈ lw_tbl) (hi : Cond.instantiable C N ∈ lw_tbl) (hini : Cond.initialized C ∈ lw_tbl) (hc : cells + 1 ≤ E.1.cells) (hs : slots + N ≤ E.1.slots)
    (kk : BW G mt E (cells + 1) (slots + N) (pc + 3) lv (.ref σ.1 :: st) (nw σ t N (fun j => defaultValue (ty j)))) : BW G mt E cells slots pc lv st σ := by
  intro p e s m args below meth c H locs ls C0 hR hS hA hl
  have C1 := C0
  obtain ⟨hx, hb, -, -, -, hown, hts, hK, hX, hbA, hAs, -⟩ := C0
  have hts' : ∀ w ∈ lw_tbl.filter goodWord, w.before args s = true := fun w hw => hts w (List.mem_filter.mp hw).1 (List.mem_filter.mp hw).2
  have hKn := hK.1.1 t _ ci.1
  have ht : t < 11 := by
    have := (List.getElem?_eq_some_iff.mp ci.1).1
    simpa using this
  refine W.newcK hx hb hown (hts _ hm rfl) (hts _ hi rfl) (hts _ hini rfl) rfl hd hc hs hKn.2.1 hR.1 fun H1 kC hkC e1 z1 o1 => ?_
  have o2 : ∀ q, q < H.size → H1[q]? = H[q]? := fun q hq => o1 q (by rw [← hR.1]; exact hq)
  exact kk p e s m args below meth c H1 locs ls C1 (hR.new (XS.lt hX hS) (Or.inl ⟨ht, _, ci.1, rfl, u_born ty hts' ci.2.1 hKn hkC e1 ci.2.2.1⟩) (by rw [z1, hR.1]) o2) ⟨Nat.le_trans hS.1 (by rw [z1, hR.1]; omega), fun q h1 h2 => (o2 q (Nat.lt_of_lt_of_le h1 hS.1)).trans (hS.2.1 q h1 h2), hS.2.2⟩ (nw_A hA (hAs _ (by rw [← hR.1]; exact hS.1))) hl
theorem BW.icmp_eq {off : Int} (tgt : Nat) (hd : decode mt.2.1 pc = .ok (.if_icmp .eq off, 3)) (ht : (pc : Int) + off = (tgt : Int)) (kt : x = y → BW G mt E cells slots tgt lv st σ) (kf : ¬ (x = y) → BW G mt E cells slots (pc + 3) lv st σ) : BW G mt E cells slots pc lv (.int y :: .int x :: st) σ :=
  fun p e s m args below meth c H locs ls C0 hR hS hA hl => lv_icmp_eq C0.1 C0.2.1 hd ht (fun h => kt h p e s m args below meth c H locs ls C0 hR hS hA hl) (fun h => kf h p e s m args below meth c H locs ls C0 hR hS hA hl)
theorem BW.if_eq {off : Int} (tgt : Nat) (hd : decode mt.2.1 pc = .ok (.ifCond .eq off, 3)) (ht : (pc : Int) + off = (tgt : Int)) (kt : x = 0 → BW G mt E cells slots tgt lv st σ) (kf : ¬ (x = 0) → BW G mt E cells slots (pc + 3) lv st σ) : BW G mt E cells slots pc lv (.int x :: st) σ :=
  fun p e s m args below meth c H locs ls C0 hR hS hA hl => lv_if_eq C0.1 C0.2.1 hd ht (fun h => kt h p e s m args below meth c H locs ls C0 hR hS hA hl) (fun h => kf h p e s m args below meth c H locs ls C0 hR hS hA hl)
theorem BW.icmp_ne {off : Int} (tgt : Nat) (hd : decode mt.2.1 pc = .ok (.if_icmp .ne off, 3)) (ht : (pc : Int) + off = (tgt : Int)) (kt : ¬ x = y → BW G mt E cells slots tgt lv st σ) (kf : x = y → BW G mt E cells slots (pc + 3) lv st σ) : BW G mt E cells slots pc lv (.int y :: .int x :: st) σ :=
  fun p e s m args below meth c H locs ls C0 hR hS hA hl => lv_icmp_ne C0.1 C0.2.1 hd ht (fun h => kt h p e s m args below meth c H locs ls C0 hR hS hA hl) (fun h => kf h p e s m args below meth c H locs ls C0 hR hS hA hl)
theorem BW.if_ne {off : Int} (tgt : Nat) (hd : decode mt.2.1 pc = .ok (.ifCond .ne off, 3)) (ht : (pc : Int) + off = (tgt : Int)) (kt : ¬ x = 0 → BW G mt E cells slots tgt lv st σ) (kf : x = 0 → BW G mt E cells slots (pc + 3) lv st σ) : BW G mt E cells slots pc lv (.int x :: st) σ :=
  fun p e s m args below meth c H locs ls C0 hR hS hA hl => lv_if_ne C0.1 C0.2.1 hd ht (fun h => kt h p e s m args below meth c H locs ls C0 hR hS hA hl) (fun h => kf h p e s m args below meth c H locs ls C0 hR hS hA hl)
theorem BW.icmp_lt {off : Int} (tgt : Nat) (hd : decode mt.2.1 pc = .ok (.if_icmp .lt off, 3)) (ht : (pc : Int) + off = (tgt : Int)) (kt : x < y → BW G mt E cells slots tgt lv st σ) (kf : ¬ (x < y) → BW G mt E cells slots (pc + 3) lv st σ) : BW G mt E cells slots pc lv (.int y :: .int x :: st) σ :=
  fun p e s m args below meth c H locs ls C0 hR hS hA hl => lv_icmp_lt C0.1 C0.2.1 hd ht (fun h => kt h p e s m args below meth c H locs ls C0 hR hS hA hl) (fun h => kf h p e s m args below meth c H locs ls C0 hR hS hA hl)
theorem BW.if_lt {off : Int} (tgt : Nat) (hd : decode mt.2.1 pc = .ok (.ifCond .lt off, 3)) (ht : (pc : Int) + off = (tgt : Int)) (kt : x < 0 → BW G mt E cells slots tgt lv st σ) (kf : ¬ (x < 0) → BW G mt E cells slots (pc + 3) lv st σ) : BW G mt E cells slots pc lv (.int x :: st) σ :=
  fun p e s m args below meth c H locs ls C0 hR hS hA hl => lv_if_lt C0.1 C0.2.1 hd ht (fun h => kt h p e s m args below meth c H locs ls C0 hR hS hA hl) (fun h => kf h p e s m args below meth c H locs ls C0 hR hS hA hl)
theorem BW.icmp_ge {off : Int} (tgt : Nat) (hd : decode mt.2.1 pc = .ok (.if_icmp .ge off, 3)) (ht : (pc : Int) + off = (tgt : Int)) (kt : y ≤ x → BW G mt E cells slots tgt lv st σ) (kf : ¬ (y ≤ x) → BW G mt E cells slots (pc + 3) lv st σ) : BW G mt E cells slots pc lv (.int y :: .int x :: st) σ :=
  fun p e s m args below meth c H locs ls C0 hR hS hA hl => lv_icmp_ge C0.1 C0.2.1 hd ht (fun h => kt h p e s m args below meth c H locs ls C0 hR hS hA hl) (fun h => kf h p e s m args below meth c H locs ls C0 hR hS hA hl)
theorem BW.if_ge {off : Int} (tgt : Nat) (hd : decode mt.2.1 pc = .ok (.ifCond .ge off, 3)) (ht : (pc : Int) + off = (tgt : Int)) (kt : 0 ≤ x → BW G mt E cells slots tgt lv st σ) (kf : ¬ (0 ≤ x) → BW G mt E cells slots (pc + 3) lv st σ) : BW G mt E cells slots pc lv (.int x :: st) σ :=
  fun p e s m args below meth c H locs ls C0 hR hS hA hl => lv_if_ge C0.1 C0.2.1 hd ht (fun h => kt h p e s m args below meth c H locs ls C0 hR hS hA hl) (fun h => kf h p e s m args below meth c H locs ls C0 hR hS hA hl)
theorem BW.icmp_gt {off : Int} (tgt : Nat) (hd : decode mt.2.1 pc = .ok (.if_icmp .gt off, 3)) (ht : (pc : Int) + off = (tgt : Int)) (kt : y < x → BW G mt E cells slots tgt lv st σ) (kf : ¬ (y < x) → BW G mt E cells slots (pc + 3) lv st σ) : BW G mt E cells slots pc lv (.int y :: .int x :: st) σ :=
  fun p e s m args below meth c H locs ls C0 hR hS hA hl => lv_icmp_gt C0.1 C0.2.1 hd ht (fun h => kt h p e s m args below meth c H locs ls C0 hR hS hA hl) (fun h => kf h p e s m args below meth c H locs ls C0 hR hS hA hl)
theorem BW.if_gt {off : Int} (tgt : Nat) (hd : decode mt.2.1 pc = .ok (.ifCond .gt off, 3)) (ht : (pc : Int) + off = (tgt : Int)) (kt : 0 < x → BW G mt E cells slots tgt lv st σ) (kf : ¬ (0 < x) → BW G mt E cells slots (pc + 3) lv st σ) : BW G mt E cells slots pc lv (.int x :: st) σ :=
  fun p e s m args below meth c H locs ls C0 hR hS hA hl => lv_if_gt C0.1 C0.2.1 hd ht (fun h => kt h p e s m args below meth c H locs ls C0 hR hS hA hl) (fun h => kf h p e s m args below meth c H locs ls C0 hR hS hA hl)
theorem BW.icmp_le {off : Int} (tgt : Nat) (hd : decode mt.2.1 pc = .ok (.if_icmp .le off, 3)) (ht : (pc : Int) + off = (tgt : Int)) (kt : x ≤ y → BW G mt E cells slots tgt lv st σ) (kf : ¬ (x ≤ y) → BW G mt E cells slots (pc + 3) lv st σ) : BW G mt E cells slots pc lv (.int y :: .int x :: st) σ :=
  fun p e s m args below meth c H locs ls C0 hR hS hA hl => lv_icmp_le C0.1 C0.2.1 hd ht (fun h => kt h p e s m args below meth c H locs ls C0 hR hS hA hl) (fun h => kf h p e s m args below meth c H locs ls C0 hR hS hA hl)
theorem BW.if_le {off : Int} (tgt : Nat) (hd : decode mt.2.1 pc = .ok (.ifCond .le off, 3)) (ht : (pc : Int) + off = (tgt : Int)) (kt : x ≤ 0 → BW G mt E cells slots tgt lv st σ) (kf : ¬ (x ≤ 0) → BW G mt E cells slots (pc + 3) lv st σ) : BW G mt E cells slots pc lv (.int x :: st) σ :=
  fun p e s m args below meth c H locs ls C0 hR hS hA hl => lv_if_le C0.1 C0.2.1 hd ht (fun h => kt h p e s m args below meth c H locs ls C0 hR hS hA hl) (fun h => kf h p e s m args below meth c H locs ls C0 hR hS hA hl)
theorem BW.goto {off : Int} (tgt : Nat) (hd : decode mt.2.1 pc = .ok (.goto off, 3)) (ht : (pc : Int) + off = (tgt : Int)) (k : BW G mt E cells slots tgt lv st σ) : BW G mt E cells slots pc lv st σ :=
  fun p e s m args below meth c H locs ls C0 hR hS hA hl => lv_goto C0.1 C0.2.1 hd ht (k p e s m args below meth c H locs ls C0 hR hS hA hl)
theorem BW.ifnull {off : Int} {q : Nat} (hd : decode mt.2.1 pc = .ok (.ifnull off, 3)) (k : BW G mt E cells slots (pc + 3) lv st σ) : BW G mt E cells slots pc lv (.ref q :: st) σ :=
  fun p e s m args below meth c H locs ls C0 hR hS hA hl => lv_ifnull C0.1 C0.2.1 hd (k p e s m args below meth c H locs ls C0 hR hS hA hl)
theorem BW.ifnullN {off : Int} (tgt : Nat) (hd : decode mt.2.1 pc = .ok (.ifnull off, 3)) (ht : (pc : Int) + off = (tgt : Int)) (k : BW G mt E cells slots tgt lv st σ) : BW G mt E cells slots pc lv (.null :: st) σ :=
  fun p e s m args below meth c H locs ls C0 hR hS hA hl => lv_ifnullN C0.1 C0.2.1 hd ht (k p e s m args below meth c H locs ls C0 hR hS hA hl)
theorem BW.ifnonnull {off : Int} {q : Nat} (tgt : Nat) (hd : decode mt.2.1 pc = .ok (.ifnonnull off, 3)) (ht : (pc : Int) + off = (tgt : Int)) (k : BW G mt E cells slots tgt lv st σ) : BW G mt E cells slots pc lv (.ref q :: st) σ :=
  fun p e s m args below meth c H locs ls C0 hR hS hA hl => lv_ifnonnull C0.1 C0.2.1 hd ht (k p e s m args below meth c H locs ls C0 hR hS hA hl)
theorem BW.ifnonnullN {off : Int} (hd : decode mt.2.1 pc = .ok (.ifnonnull off, 3)) (k : BW G mt E cells slots (pc + 3) lv st σ) : BW G mt E cells slots pc lv (.null :: st) σ :=
  fun p e s m args below meth c H locs ls C0 hR hS hA hl => lv_ifnonnullN C0.1 C0.2.1 hd (k p e s m args below meth c H locs ls C0 hR hS hA hl)
theorem BW.ldc (hd : decode mt.2.1 pc = .ok (.ldc idx, 2)) (hm : Cond.constant mt.1.cls idx x ∈ lw_tbl) (k : BW G mt E cells slots (pc + 2) lv (.int x :: st) σ) : BW G mt E cells slots pc lv st σ :=
  fun p e s m args below meth c H locs ls C0 hR hS hA hl => lv_ldc C0.1 C0.2.1 C0.2.2.2.2.2.1 (C0.2.2.2.2.2.2.1 _ hm rfl) hd (k p e s m args below meth c H locs ls C0 hR hS hA hl)
theorem BW.ldcw (hd : decode mt.2.1 pc = .ok (.ldc_w idx, 3)) (hm : Cond.constant mt.1.cls idx x ∈ lw_tbl) (k : BW G mt E cells slots (pc + 3) lv (.int x :: st) σ) : BW G mt E cells slots pc lv st σ :=
  fun p e s m args below meth c H locs ls C0 hR hS hA hl => lv_ldcw C0.1 C0.2.1 C0.2.2.2.2.2.1 (C0.2.2.2.2.2.2.1 _ hm rfl) hd (k p e s m args below meth c H locs ls C0 hR hS hA hl)
theorem BW.idiv (hd : decode mt.2.1 pc = .ok (.idiv, 1)) (hy : ¬ y = 0) (k : BW G mt E cells slots (pc + 1) lv (.int (x / y) :: st) σ) : BW G mt E cells slots pc lv (.int y :: .int x :: st) σ :=
  fun p e s m args below meth c H locs ls C0 hR hS hA hl => lv_idiv C0.1 C0.2.1 hd hy (k p e s m args below meth c H locs ls C0 hR hS hA hl)
theorem BW.irem (hd : decode mt.2.1 pc = .ok (.irem, 1)) (hy : ¬ y = 0) (k : BW G mt E cells slots (pc + 1) lv (.int (x - x / y * y) :: st) σ) : BW G mt E cells slots pc lv (.int y :: .int x :: st) σ :=
  fun p e s m args below meth c H locs ls C0 hR hS hA hl => lv_irem C0.1 C0.2.1 hd hy (k p e s m args below meth c H locs ls C0 hR hS hA hl)
theorem BW.tblOut {dflt lo hi : Int} {offs : Array Int} {len : Nat} (tgt : Nat) (hd : decode mt.2.1 pc = .ok (.tableswitch dflt lo hi offs, len)) (h : x.toInt < lo ∨ hi < x.toInt) (ht : (pc : Int) + dflt = (tgt : Int)) (k : BW G mt E cells slots tgt lv st σ) : BW G mt E cells slots pc lv (.int x :: st) σ :=
  fun p e s m args below meth c H locs ls C0 hR hS hA hl => lv_tableOut C0.1 C0.2.1 hd h ht (k p e s m args below meth c H locs ls C0 hR hS hA hl)
theorem BW.tblIn {dflt lo hi off : Int} {offs : Array Int} {len : Nat} (tgt : Nat) (hd : decode mt.2.1 pc = .ok (.tableswitch dflt lo hi offs, len)) (h1 : ¬ x.toInt < lo) (h2 : ¬ hi < x.toInt) (ho : offs[(x.toInt - lo).toNat]? = some off) (ht : (pc : Int) + off = (tgt : Int)) (k : BW G mt E cells slots tgt lv st σ) : BW G mt E cells slots pc lv (.int x :: st) σ :=
  fun p e s m args below meth c H locs ls C0 hR hS hA hl => lv_tableIn C0.1 C0.2.1 hd h1 h2 ho ht (k p e s m args below meth c H locs ls C0 hR hS hA hl)
theorem BW.i2l (hd : decode mt.2.1 pc = .ok (.i2l, 1)) (k : BW G mt E cells slots (pc + 1) lv (.long x.toInt64 :: st) σ) : BW G mt E cells slots pc lv (.int x :: st) σ :=
  fun p e s m args below meth c H locs ls C0 hR hS hA hl => lv_i2l C0.1 C0.2.1 hd rfl (k p e s m args below meth c H locs ls C0 hR hS hA hl)
theorem BW.widen {c2 s2 : Nat} (h1 : cells ≤ c2) (h2 : slots ≤ s2) (k : BW G mt E c2 s2 pc lv st σ) : BW G mt E cells slots pc lv st σ :=
  fun p e s m args below meth c H locs ls C0 hR hS hA hl => W.widen h1 h2 (k p e s m args below meth c H locs ls C0 hR hS hA hl)
theorem QcS.mk {s t : State} {H : Heap} {locs : List Loc} {args : Array Value} {r : Option Value} (hq : E.2.2.2.2 r σ) (hR : RepS G H σ) (hS : va_S E.2.1 s.heap H locs) (hA : ∀ a, σ.2.1 a ≠ none → E.2.1 a) (ht : t.heap = H) : QcS G E.2.2.2.2 E.2.1 args s (.returned r) t := ⟨⟨r, σ, rfl, hq, by rw [ht]; exact hR, hA⟩, hS.F ht⟩
theorem BW.iret (hd : decode mt.2.1 pc = .ok (.ireturn, 1)) (hr : mt.2.2.2 = some .int) (hc : cells ≤ E.2.2.1) (hs : slots ≤ E.2.2.2.1) (hq : E.2.2.2.2 (some (.int x)) σ) : BW G mt E cells slots pc lv [.int x] σ :=
  fun p e s m args below meth c H locs ls C0 hR hS hA hl => W.widen hc hs (W.iret C0.1 C0.2.1 (C0.2.2.1.trans hr) (fun t ht _ => QcS.mk hq hR hS hA ht) (fun q h => hS.2.2 q h) hd C0.2.2.2.1)
theorem BW.zret (hd : decode mt.2.1 pc = .ok (.ireturn, 1)) (hr : mt.2.2.2 = some .boolean) (hx : x = 0 ∨ x = 1) (hc : cells ≤ E.2.2.1) (hs : slots ≤ E.2.2.2.1) (hq : E.2.2.2.2 (some (.int x)) σ) : BW G mt E cells slots pc lv [.int x] σ :=
  fun p e s m args below meth c H locs ls C0 hR hS hA hl => W.widen hc hs (W.zret C0.1 C0.2.1 (C0.2.2.1.trans hr) (by rcases hx with rfl | rfl <;> decide +kernel) (fun t ht _ => QcS.mk hq hR hS hA ht) (fun q h => hS.2.2 q h) hd C0.2.2.2.1)
theorem BW.vret (hd : decode mt.2.1 pc = .ok (.return_, 1)) (hr : mt.2.2.2 = none) (hc : cells ≤ E.2.2.1) (hs : slots ≤ E.2.2.2.1) (hq : E.2.2.2.2 none σ) : BW G mt E cells slots pc lv [] σ :=
  fun p e s m args below meth c H locs ls C0 hR hS hA hl => W.widen hc hs (W.vret C0.1 C0.2.1 (C0.2.2.1.trans hr) (fun t ht _ => QcS.mk hq hR hS hA ht) (fun q h => hS.2.2 q h) hd C0.2.2.2.1)
theorem BW.aret {q : Option Nat} (hd : decode mt.2.1 pc = .ok (.areturn, 1)) (hr : mt.2.2.2 = some (.object C)) (hc : cells ≤ E.2.2.1) (hs : slots ≤ E.2.2.2.1) (hq : E.2.2.2.2 (some (va_rf q)) σ) : BW G mt E cells slots pc lv [va_rf q] σ :=
  fun p e s m args below meth c H locs ls C0 hR hS hA hl => W.widen hc hs (W.aret C0.1 C0.2.1 (C0.2.2.1.trans hr) (Or.inl ⟨_, rfl⟩) (va_rf_or q) (fun t ht _ => QcS.mk hq hR hS hA ht) (fun q h => hS.2.2 q h) hd C0.2.2.2.1)
end BWA
end
section
/-! ===== calls ===== -/
/-- what the tables say of a method -/
def MF (mt : Mt) (n : Nat) : Prop := Cond.code mt.1 mt.2.1 mt.2.2.1 mt.2.2.2 ∈ lw_tbl ∧ Cond.initialized mt.1.cls ∈ lw_tbl ∧ (mt.1.cls ≠ "java/lang/invoke/MethodHandle" ∧ mt.1.cls ≠ "java/lang/invoke/VarHandle" ∧ (parseMethodDescriptor mt.1.desc).map (fun d => d.parameters.length) = some n)
theorem wsM_good {mt : Mt} {n : Nat} (mf : MF mt n) : GoodIn (lw_tbl.filter goodWord) (wsM mt) := by
  intro w hw
  rcases List.mem_cons.mp hw with h | h
  · subst h
    exact ⟨List.mem_filter.mpr ⟨mf.1, rfl⟩, good_of_word rfl⟩
  · exact ⟨h, good_of_word (List.mem_filter.mp h).2⟩
section BWC
variable {G : Cx} {mt mt' : Mt} {E : Ev} {cells slots pc : Nat} {lv : Lv} {st stk : List Value} {σ σ' : Sg} {a b k t idx n n0 : Nat} {C : String} {T : u_T} {N : Nat} {ty : Nat → FieldType} {v : Value} {i x y : Int32} {As : List Value} {Q' : Option Value → Sg → Prop} {fr lo mc ms : Nat}
variable {p : Program} {e : Env} {s : State} {m : MethodId} {args : Array Value} {below : List Frame} {meth : Method} {c : Code} {H : Heap} {locs : List Loc} {ls : Array Slot}
theorem PcS.now {vs : List Value} (C0 : EntB G mt E.2.1 p s m args meth c) (hR : RepS G H σ) (hS : va_S E.2.1 s.heap H locs) : ∀ U : State, U.heap = H → s.WarmedH U.vm → PcS G vs σ vs.toArray U := by
  intro U hU hW
  obtain ⟨-, -, -, -, -, -, -, hK, hX, hbA, -⟩ := C0
  refine ⟨rfl, by rw [hU]; exact hR, hK.warm hW, ?_⟩
  rw [hU]
  exact ⟨(hX.1.kept (hS.2.1 _ hX.2 hbA)).moved hW.alike, Nat.lt_of_lt_of_le hX.2 hS.1⟩
theorem callFin {arr : Array Value} (C0 : EntB G mt E.2.1 p s m args meth c) (hR : RepS G H σ) (hS : va_S E.2.1 s.heap H locs) (hA : ∀ a, σ.2.1 a ≠ none → E.2.1 a) (hl : lv_has ls mt.2.2.1 lv)
    (hr : va_Run p G.1 e E.1 s m args below meth c H locs cells slots mc ms (F0 m pc ls stk) st (QcS G Q' (Aof σ) arr) (Aof σ))
    (kk : ∀ (r : Option Value) (σ' : Sg), Q' r σ' → BW G mt E (cells + mc) (slots + ms) (pc + 3) lv (r.toList ++ st) σ') :
    W p G.1 e E.1 s m args below meth c H locs cells slots (MQ below (QcS G E.2.2.2.2 E.2.1) args s E.2.2.1 E.2.2.2.1 E.2.1) (F0 m pc ls stk) := by
  intro T hT X
  obtain ⟨v, st₀, t, T', L, h0, X', hL, e1, e2, ⟨⟨r, σ', hv, hq, hrep, hdom⟩, hz, hk⟩, stp⟩ := hr T hT X
  cases hv
  rw [h0] at hz hk
  have hAs := C0.2.2.2.2.2.2.2.2.2.2.1
  have sub : ∀ q, Aof σ q → E.2.1 q := fun q h => by
    rcases h with h | h
    · exact hA q h
    · exact hAs q (Nat.le_trans hS.1 (by rw [hR.1]; exact h))
  obtain ⟨t2, a1, b1⟩ := kk v σ' hq p e s m args below meth c T'.heap (locs ++ L) ls C0 (by rw [e1]; exact hrep)
    ⟨Nat.le_trans hS.1 (by rw [e1]; exact hz), fun q h1 h2 => by rw [e1, hk q (Nat.lt_of_lt_of_le h1 hS.1) (fun z => h2 (sub q z))]; exact hS.2.1 q h1 h2, fun q hq => by
      rcases List.mem_append.mp hq with h | h
      · exact hS.2.2 q h
      · exact sub _ (hL q h)⟩ (fun a ha => sub a (hdom a ha)) hl T' rfl X'
  exact ⟨t2, stp t2 a1, b1⟩
theorem callFix (C0 : EntB G mt E.2.1 p s m args meth c) : CallFix p m c mt.2.1 mt.2.2.1 s args (lw_tbl.filter goodWord) mt.1.cls :=
  ⟨C0.1, C0.2.1, C0.2.2.2.2.1, C0.2.2.2.2.2.1, fun w hw => C0.2.2.2.2.2.2.1 w (List.mem_filter.mp hw).1 (List.mem_filter.mp hw).2⟩
theorem recvS (C0 : EntB G mt E.2.1 p s m args meth c) (hR : RepS G H σ) (ci : CI t C T N ty) (hb : σ.2.1 b = some (t, n0)) : ∃ cellB : Cell, H[b]? = some cellB ∧ cellB.vm.isStatics = false ∧ s.vm.findClass C = some cellB.cls := by
  obtain ⟨-, cell, g1, g2, g3, -⟩ := hR.obj ci hb
  exact ⟨cell, g1, by rw [g3]; rfl, by rw [g2]; exact (C0.2.2.2.2.2.2.2.1.1.1 t _ ci.1).2.1⟩
theorem BW.callV (hd : decode mt.2.1 pc = .ok (.invokevirtual idx, 3)) (hM : BM G mt' fr lo mc ms (.ref b :: As) σ Q') (mf : MF mt' n) (hlk : Cond.methodLink mt.1.cls idx mt'.1 ∈ lw_tbl) (him : Cond.instanceMethod mt'.1 ∈ lw_tbl) (hsel : Cond.selects C mt'.1 mt'.1 ∈ lw_tbl) (ci : CI t C T N ty) (hb : σ.2.1 b = some (t, n0)) (hn : As.length = n) (hstk : stk = As.reverse ++ .ref b :: st) (hw : (st.map fun v => v.category).sum ≤ 8)
    (hRm : fr + 1 ≤ E.1.frames ∧ 8 + (mt'.2.2.1 + 11) + lo ≤ E.1.locals) (hf : cells + mc ≤ E.1.cells ∧ slots + ms ≤ E.1.slots) (kk : ∀ (r : Option Value) (σ' : Sg), Q' r σ' → BW G mt E (cells + mc) (slots + ms) (pc + 3) lv (r.toList ++ st) σ') : BW G mt E cells slots pc lv stk σ := by
  intro p e s m args below meth c H locs ls C0 hR hS hA hl
  have hts := C0.2.2.2.2.2.2.1
  refine callFin C0 hR hS hA hl (va_runV (As := As) (C := C) (n := n) (callFix C0) hM ⟨callB_of n (callFix C0).2.2.2.2 (wsM_good mf) rfl rfl rfl (hts _ mf.2.1 rfl) (hts _ hlk rfl) mf.2.2 hRm, hts _ him rfl, hts _ hsel rfl⟩ ⟨frameBlindS _ _ _, recvS C0 hR ci hb, PcS.now C0 hR hS⟩ rfl hn hl.1 hstk (lv_room hw) hd hf) kk
theorem BW.callVN {host : String} (hd : decode mt.2.1 pc = .ok (.invokevirtual idx, 3)) (hM : BM G mt' fr lo mc ms (.ref b :: As) σ Q') (mf : MF mt' n) (hlk : Cond.methodLinkNest mt.1.cls idx mt'.1 host ∈ lw_tbl) (him : Cond.instanceMethod mt'.1 ∈ lw_tbl) (hsel : Cond.selects C mt'.1 mt'.1 ∈ lw_tbl) (ci : CI t C T N ty) (hb : σ.2.1 b = some (t, n0)) (hn : As.length = n) (hstk : stk = As.reverse ++ .ref b :: st) (hw : (st.map fun v => v.category).sum ≤ 8)
    (hRm : fr + 1 ≤ E.1.frames ∧ 8 + (mt'.2.2.1 + 11) + lo ≤ E.1.locals) (hf : cells + mc ≤ E.1.cells ∧ slots + ms ≤ E.1.slots) (kk : ∀ (r : Option Value) (σ' : Sg), Q' r σ' → BW G mt E (cells + mc) (slots + ms) (pc + 3) lv (r.toList ++ st) σ') : BW G mt E cells slots pc lv stk σ := by
  intro p e s m args below meth c H locs ls C0 hR hS hA hl
  have hts := C0.2.2.2.2.2.2.1
  have hK := C0.2.2.2.2.2.2.2.1
  refine callFin C0 hR hS hA hl (va_runVN (As := As) (C := C) (n := n) (callFix C0) hM ⟨va_cnB n (callFix C0).2.2.2.2 (wsM_good mf) rfl rfl rfl (hK.2.1 _ hlk rfl) (hts _ mf.2.1 rfl) mf.2.2 hRm, hts _ him rfl, hts _ hsel rfl⟩ ⟨frameBlindS _ _ _, recvS C0 hR ci hb, PcS.now C0 hR hS⟩ rfl hn hl.1 hstk (lv_room hw) hd hf) kk
theorem BW.callS (hd : decode mt.2.1 pc = .ok (.invokestatic idx, 3)) (hM : BM G mt' fr lo mc ms As σ Q') (mf : MF mt' n) (hlk : Cond.methodLink mt.1.cls idx mt'.1 ∈ lw_tbl) (hst : Cond.static mt'.1 ∈ lw_tbl) (hn : As.length = n) (hstk : stk = As.reverse ++ st) (hw : (st.map fun v => v.category).sum ≤ 8)
    (hRm : fr + 1 ≤ E.1.frames ∧ 8 + (mt'.2.2.1 + 11) + lo ≤ E.1.locals) (hf : cells + mc ≤ E.1.cells ∧ slots + ms ≤ E.1.slots) (kk : ∀ (r : Option Value) (σ' : Sg), Q' r σ' → BW G mt E (cells + mc) (slots + ms) (pc + 3) lv (r.toList ++ st) σ') : BW G mt E cells slots pc lv stk σ := by
  intro p e s m args below meth c H locs ls C0 hR hS hA hl
  have hts := C0.2.2.2.2.2.2.1
  refine callFin C0 hR hS hA hl (va_runS (As := As) (n := n) (callFix C0) hM ⟨callB_of n (callFix C0).2.2.2.2 (wsM_good mf) rfl rfl rfl (hts _ mf.2.1 rfl) (hts _ hlk rfl) mf.2.2 hRm, hts _ hst rfl⟩ ⟨frameBlindS _ _ _, PcS.now C0 hR hS⟩ rfl hn hl.1 hstk (lv_room hw) hd hf) kk
theorem BW.callSN {host : String} (hd : decode mt.2.1 pc = .ok (.invokestatic idx, 3)) (hM : BM G mt' fr lo mc ms As σ Q') (mf : MF mt' n) (hlk : Cond.methodLinkNest mt.1.cls idx mt'.1 host ∈ lw_tbl) (hst : Cond.static mt'.1 ∈ lw_tbl) (hn : As.length = n) (hstk : stk = As.reverse ++ st) (hw : (st.map fun v => v.category).sum ≤ 8)
    (hRm : fr + 1 ≤ E.1.frames ∧ 8 + (mt'.2.2.1 + 11) + lo ≤ E.1.locals) (hf : cells + mc ≤ E.1.cells ∧ slots + ms ≤ E.1.slots) (kk : ∀ (r : Option Value) (σ' : Sg), Q' r σ' → BW G mt E (cells + mc) (slots + ms) (pc + 3) lv (r.toList ++ st) σ') : BW G mt E cells slots pc lv stk σ := by
  intro p e s m args below meth c H locs ls C0 hR hS hA hl
  have hts := C0.2.2.2.2.2.2.1
  have hK := C0.2.2.2.2.2.2.2.1
  refine callFin C0 hR hS hA hl (va_runSN (As := As) (n := n) (callFix C0) hM ⟨va_cnB n (callFix C0).2.2.2.2 (wsM_good mf) rfl rfl rfl (hK.2.1 _ hlk rfl) (hts _ mf.2.1 rfl) mf.2.2 hRm, hts _ hst rfl, trivial⟩ ⟨frameBlindS _ _ _, PcS.now C0 hR hS⟩ rfl hn hl.1 hstk (lv_room hw) hd hf) kk
theorem BW.callI (hd : decode mt.2.1 pc = .ok (.invokespecial idx, 3)) (hM : BM G mt' fr lo mc ms (.ref b :: As) σ Q') (mf : MF mt' n) (hr : mt'.2.2.2 = none) (hlk : Cond.methodLink mt.1.cls idx mt'.1 ∈ lw_tbl) (him : Cond.instanceMethod mt'.1 ∈ lw_tbl) (hi : mt'.1.name = "<init>") (hn : As.length = n) (hstk : stk = As.reverse ++ .ref b :: st) (hw : (st.map fun v => v.category).sum ≤ 8)
    (hRm : fr + 1 ≤ E.1.frames ∧ 8 + (mt'.2.2.1 + 11) + lo ≤ E.1.locals) (hf : cells + mc ≤ E.1.cells ∧ slots + ms ≤ E.1.slots) (kk : ∀ (r : Option Value) (σ' : Sg), Q' r σ' → BW G mt E (cells + mc) (slots + ms) (pc + 3) lv (r.toList ++ st) σ') : BW G mt E cells slots pc lv stk σ := by
  intro p e s m args below meth c H locs ls C0 hR hS hA hl
  have hts := C0.2.2.2.2.2.2.1
  have hB : CallB E.1 s args mt.1.cls idx mt'.1 mt'.2.1 mt'.2.2.1 none (wsM mt') ({ frames := fr, cells := mc, slots := ms, locals := lo }) mc ms n := by
    rw [← hr]; exact callB_of n (callFix C0).2.2.2.2 (wsM_good mf) rfl rfl rfl (hts _ mf.2.1 rfl) (hts _ hlk rfl) mf.2.2 hRm
  refine callFin C0 hR hS hA hl (va_runI (As := As) (b := b) (n := n) (callFix C0) hM ⟨hB, hi, hts _ him rfl⟩ ⟨frameBlindS _ _ _, PcS.now C0 hR hS⟩ rfl hn hl.1 hstk (lv_room hw) hd hf) kk
theorem BW.callIN {host : String} (hd : decode mt.2.1 pc = .ok (.invokespecial idx, 3)) (hM : BM G mt' fr lo mc ms (.ref b :: As) σ Q') (mf : MF mt' n) (hr : mt'.2.2.2 = none) (hlk : Cond.methodLinkNest mt.1.cls idx mt'.1 host ∈ lw_tbl) (him : Cond.instanceMethod mt'.1 ∈ lw_tbl) (hi : mt'.1.name = "<init>") (hn : As.length = n) (hstk : stk = As.reverse ++ .ref b :: st) (hw : (st.map fun v => v.category).sum ≤ 8)
    (hRm : fr + 1 ≤ E.1.frames ∧ 8 + (mt'.2.2.1 + 11) + lo ≤ E.1.locals) (hf : cells + mc ≤ E.1.cells ∧ slots + ms ≤ E.1.slots) (kk : ∀ (r : Option Value) (σ' : Sg), Q' r σ' → BW G mt E (cells + mc) (slots + ms) (pc + 3) lv (r.toList ++ st) σ') : BW G mt E cells slots pc lv stk σ := by
  intro p e s m args below meth c H locs ls C0 hR hS hA hl
  have hts := C0.2.2.2.2.2.2.1
  have hK := C0.2.2.2.2.2.2.2.1
  have hB : va_CN E.1 s args mt.1.cls idx mt'.1 host mt'.2.1 mt'.2.2.1 none (wsM mt') ({ frames := fr, cells := mc, slots := ms, locals := lo }) mc ms n := by
    rw [← hr]; exact va_cnB n (callFix C0).2.2.2.2 (wsM_good mf) rfl rfl rfl (hK.2.1 _ hlk rfl) (hts _ mf.2.1 rfl) mf.2.2 hRm
  refine callFin C0 hR hS hA hl (va_runIN (As := As) (b := b) (n := n) (callFix C0) hM ⟨hB, hi, hts _ him rfl⟩ ⟨frameBlindS _ _ _, PcS.now C0 hR hS⟩ rfl hn hl.1 hstk (lv_room hw) hd hf) kk
theorem BW.objInit (hd : decode mt.2.1 pc = .ok (.invokespecial idx, 3)) (hlk : Cond.methodLink mt.1.cls idx Lib.objectInit ∈ lw_tbl) (him : Cond.instanceMethod Lib.objectInit ∈ lw_tbl) (hcd : Cond.code Lib.objectInit ⟨#[0xb1]⟩ 1 none ∈ lw_tbl) (hw : (st.map fun v => v.category).sum ≤ 8) (hRm : 1 ≤ E.1.frames ∧ 20 ≤ E.1.locals) (kk : BW G mt E cells slots (pc + 3) lv st σ) : BW G mt E cells slots pc lv (.ref a :: st) σ := by
  intro p e s m args below meth c H locs ls C0 hR hS hA hl
  have hts := C0.2.2.2.2.2.2.1
  refine W.objInit C0.1 C0.2.1 C0.2.2.2.2.2.1 (hts _ hlk rfl) (hts _ him rfl) (hts _ hcd rfl) rfl (hl.1.trans C0.2.2.2.2.1.symm) rfl hd hRm.1 ?_ (kk p e s m args below meth c H locs ls C0 hR hS hA hl)
  show 2 * 0 + _ + 12 ≤ _
  omega
end BWC
end
section
/-! ===== System.arraycopy of ints ===== -/
def allI (f : Nat → Value) (sp n : Nat) : Bool := (List.range n).all (fun j => (toI (some (f (sp + j)))).isSome)
def upA (m : Nat → Nat → Value) (a : Nat) (f : Nat → Value) : Nat → Nat → Value := fun a' => if a' = a then f else m a'
def cpA (σ : Sg) (a0 : Nat) (sp : Int32) (a : Nat) (dp n : Int32) : Option Sg := match σ.2.1 a0, σ.2.1 a with
  | some q0, some q1 => if q0.1 = 11 ∧ q1.1 = 11 ∧ ¬ sp < 0 ∧ ¬ dp < 0 ∧ ¬ n < 0 ∧ sp.toNatClampNeg + n.toNatClampNeg ≤ q0.2 ∧ dp.toNatClampNeg + n.toNatClampNeg ≤ q1.2 ∧ allI (σ.2.2 a0) sp.toNatClampNeg n.toNatClampNeg = true then some (σ.1, σ.2.1, upA σ.2.2 a (va_cpy (σ.2.2 a0) (σ.2.2 a) sp.toNatClampNeg dp.toNatClampNeg n.toNatClampNeg)) else none
  | _, _ => none
theorem cpA_spec {σ σ' : Sg} {a0 a : Nat} {sp dp n : Int32} (h : cpA σ a0 sp a dp n = some σ') : ∃ n0 n1, σ.2.1 a0 = some (11, n0) ∧ σ.2.1 a = some (11, n1) ∧ ¬ sp < 0 ∧ ¬ dp < 0 ∧ ¬ n < 0 ∧ sp.toNatClampNeg + n.toNatClampNeg ≤ n0 ∧ dp.toNatClampNeg + n.toNatClampNeg ≤ n1 ∧ (∀ j, j < n.toNatClampNeg → ∃ z, σ.2.2 a0 (sp.toNatClampNeg + j) = .int z) ∧ σ' = (σ.1, σ.2.1, upA σ.2.2 a (va_cpy (σ.2.2 a0) (σ.2.2 a) sp.toNatClampNeg dp.toNatClampNeg n.toNatClampNeg)) := by
  unfold cpA at h
  split at h
  · rename_i q0 q1 h0 h1
    obtain ⟨t0, n0⟩ := q0
    obtain ⟨t1, n1⟩ := q1
    split at h
    · rename_i hc
      cases h
      obtain ⟨rfl, rfl, c1, c2, c3, c4, c5, c6⟩ := hc
      refine ⟨n0, n1, h0, h1, c1, c2, c3, c4, c5, fun j hj => ?_, rfl⟩
      have h6 := List.all_eq_true.mp c6 j (List.mem_range.mpr hj)
      obtain ⟨z, hz⟩ := Option.isSome_iff_exists.mp h6
      exact ⟨z, Option.some.inj (toI_V hz)⟩
    · cases h
  · cases h
section BWCP
variable {G : Cx} {mt : Mt} {E : Ev} {cells slots pc : Nat} {lv : Lv} {st : List Value} {σ σ' : Sg} {a a0 idx : Nat} {sp dp n : Int32}
theorem BW.copy (hd : decode mt.2.1 pc = .ok (.invokestatic idx, 3)) (hlk : Cond.methodLink mt.1.cls idx arraycopyName ∈ lw_tbl) (hnat : Cond.native arraycopyName ∈ lw_tbl) (hst : Cond.static arraycopyName ∈ lw_tbl) (hini : Cond.initialized "java/lang/System" ∈ lw_tbl) (hw : (st.map fun v => v.category).sum ≤ 8) (hRm : 1 ≤ E.1.frames ∧ 8 + (nativeFrameWords "java/lang/System" "arraycopy" 5 + 11) ≤ E.1.locals) (hv : cpA σ a0 sp a dp n = some σ')
    (kk : BW G mt E cells slots (pc + 3) lv st σ') : BW G mt E cells slots pc lv (.int n :: .int dp :: .ref a :: .int sp :: .ref a0 :: st) σ := by
  intro p e s m args below meth c H locs ls C0 hR hS hA hl
  have C1 := C0
  obtain ⟨hx, hb, -, -, hml, hown, hts, hK, -⟩ := C0
  obtain ⟨n0, n1, g0, g1, h1, h2, h3, h4, h5, h6, rfl⟩ := cpA_spec hv
  have nn : ∀ z : Int32, ¬ z < 0 → z.toInt = (z.toNatClampNeg : Int) := by
    intro z hz
    have hz0 : (0 : Int) ≤ z.toInt := by
      have := Int32.not_lt.mp hz
      simpa using Int32.le_iff_toInt_le.mp this
    show z.toInt = ((z.toInt.toNat : Nat) : Int)
    omega
  have hc0 := hR.arr (Nat.le_refl 11) g0
  have hc1 := hR.arr (Nat.le_refl 11) g1
  obtain ⟨-, k0, hk0, cm0, hkk0⟩ := (hK.ty (Nat.le_refl 11) (by omega)).1 n0 (σ.2.2 a0)
  obtain ⟨-, k1, hk1, cm1, hkk1⟩ := (hK.ty (Nat.le_refl 11) (by omega)).1 n1 (σ.2.2 a)
  intro T hT X
  obtain ⟨vm', X', step⟩ := X.arraycopy hx hown (hts _ hlk rfl) (hts _ hnat rfl) (hts _ hst rfl) (hts _ hini rfl) (src := a0) (dst := a) (cs := arrV (G.2.2.1 11) n0 (σ.2.2 a0)) (cd := arrV (G.2.2.1 11) n1 (σ.2.2 a)) (srcPos := sp) (destPos := dp) (n := n) (by rw [hT]; exact hc0) (by rw [hT]; exact hc1)
    (fun _ h => by cases h) (fun _ h => by cases h) (fun h => by cases h) (fun h => by cases h) hk0 hk1 hkk0 hkk1 (by simp [tgF, refKind]) h1 h2 h3
    (by rw [nn sp h1, nn n h3, arrV_size]; omega)
    (by rw [nn dp h2, nn n h3, arrV_size]; omega)
    (fun vm₁ _ i hi => by
      obtain ⟨z, hz⟩ := h6 i hi
      have e : (arrV (G.2.2.1 11) n0 (σ.2.2 a0)).slots.getD (sp.toNatClampNeg + i) .null = .int z := by
        rw [Array.getD_eq_getD_getElem?, arrV_read _ _ (by omega), hz]
        rfl
      refine ⟨?_, ?_⟩
      · rw [e]; rfl
      · rw [e]; exact trivial)
    (g := F0 m pc ls (.int n :: .int dp :: .ref a :: .int sp :: .ref a0 :: st)) rfl (hl.1.trans hml.symm) (rest := st) rfl (by rw [hb]; exact hd) hRm.1 (by show 2 * 0 + _ + _ ≤ _; omega)
  have e1 : copied (arrV (G.2.2.1 11) n0 (σ.2.2 a0)) (arrV (G.2.2.1 11) n1 (σ.2.2 a)) sp dp n = arrV (G.2.2.1 11) n1 (va_cpy (σ.2.2 a0) (σ.2.2 a) sp.toNatClampNeg dp.toNatClampNeg n.toNatClampNeg) := va_copied (fun z => z) _ _ _ _ h4
  rw [e1] at X' step
  generalize hnew : arrV (G.2.2.1 11) n1 (va_cpy (σ.2.2 a0) (σ.2.2 a) sp.toNatClampNeg dp.toNatClampNeg n.toNatClampNeg) = nc at X' step
  have hlt : a < H.size := (Array.getElem?_eq_some_iff.mp hc1).1
  have hheap : ((T.setVm vm').setCell a nc).heap = H.setIfInBounds a nc := by rw [← hT]; rfl
  have oq : ∀ q : Nat, q ≠ a → (H.setIfInBounds a nc)[q]? = H[q]? := fun q hq => by simp [Array.getElem?_setIfInBounds, Ne.symm hq]
  have hca : (H.setIfInBounds a nc)[a]? = some nc := by simp [Array.getElem?_setIfInBounds, hlt]
  have hAa : E.2.1 a := hA a (by rw [g1]; exact fun h => by cases h)
  have hR' : RepS G (H.setIfInBounds a nc) (σ.1, σ.2.1, upA σ.2.2 a (va_cpy (σ.2.2 a0) (σ.2.2 a) sp.toNatClampNeg dp.toNatClampNeg n.toNatClampNeg)) := by
    refine ⟨by simp; exact hR.1, hR.2.1, fun b t' n' hb' => ?_⟩
    by_cases hba : b = a
    · subst hba
      have h1 : σ.2.1 b = some (t', n') := hb'
      rw [g1] at h1
      cases h1
      show celR G _ b 11 n1 (upA σ.2.2 b _ b)
      unfold upA
      rw [if_pos rfl]
      exact Or.inr ⟨Nat.le_refl 11, by rw [hca, ← hnew]⟩
    · show celR G _ b t' n' (upA σ.2.2 a _ b)
      unfold upA
      rw [if_neg hba]
      exact (hR.2.2 b t' n' hb').kept (oq b hba)
  obtain ⟨t, a1, b1⟩ := kk p e s m args below meth c _ _ ls C1 hR' ⟨by simp; exact hS.1, fun q g1 g2 => by
      rw [oq q (fun e => g2 (by rw [e]; exact hAa))]
      exact hS.2.1 q g1 g2, fun q hq => by
      rcases List.mem_append.mp hq with h | h
      · exact hS.2.2 q h
      · obtain ⟨z, -, hz⟩ := List.mem_map.mp h
        rw [← hz]
        exact hAa⟩ hA hl _ hheap X'
  exact ⟨t, step t a1, b1⟩
end BWCP
end
section
theorem bad_one : (1 : Nat) = 2 := rfl
end
