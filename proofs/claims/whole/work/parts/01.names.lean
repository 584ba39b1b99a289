-- ===== PART A: goes FIRST, ahead of the names: the tables' words, and 'selects' of the private methods out of them =====
/-- a private method of a class that the tables say can be made, by its rows of tables_1 -/
def lw_okq (q : MethodName × Nat) : Prop := (q.1.cls ≠ "java/lang/invoke/MethodHandle" ∧ q.1.cls ≠ "java/lang/invoke/VarHandle") ∧ Cond.instantiable q.1.cls q.2 ∈ tables_1 ∧ Cond.privateMethod q.1 ∈ tables_1 ∧ Cond.instanceMethod q.1 ∈ tables_1
theorem lw_p0 : lw_okq (⟨"BeamBoard", "putOnTape", "(I)V"⟩, 14) := ⟨⟨by decide +kernel, by decide +kernel⟩, List.mem_of_getElem? (i := 18) (by decide +kernel), List.mem_of_getElem? (i := 309) (by decide +kernel), List.mem_of_getElem? (i := 310) (by decide +kernel)⟩
theorem lw_p1 : lw_okq (⟨"BeamBoard$Tokens", "isLikeFirst", "(II)Z"⟩, 6) := ⟨⟨by decide +kernel, by decide +kernel⟩, List.mem_of_getElem? (i := 32) (by decide +kernel), List.mem_of_getElem? (i := 335) (by decide +kernel), List.mem_of_getElem? (i := 336) (by decide +kernel)⟩
theorem lw_p2 : lw_okq (⟨"BeamBoard$Tokens", "addWordOrNumber", "(II)V"⟩, 6) := ⟨⟨by decide +kernel, by decide +kernel⟩, List.mem_of_getElem? (i := 32) (by decide +kernel), List.mem_of_getElem? (i := 339) (by decide +kernel), List.mem_of_getElem? (i := 340) (by decide +kernel)⟩
theorem lw_p3 : lw_okq (⟨"BeamBoard$Tokens", "ownWord", "(II)I"⟩, 6) := ⟨⟨by decide +kernel, by decide +kernel⟩, List.mem_of_getElem? (i := 32) (by decide +kernel), List.mem_of_getElem? (i := 343) (by decide +kernel), List.mem_of_getElem? (i := 344) (by decide +kernel)⟩
theorem lw_p4 : lw_okq (⟨"BeamBoard$Tokens", "put", "(IIII)V"⟩, 6) := ⟨⟨by decide +kernel, by decide +kernel⟩, List.mem_of_getElem? (i := 32) (by decide +kernel), List.mem_of_getElem? (i := 396) (by decide +kernel), List.mem_of_getElem? (i := 397) (by decide +kernel)⟩
theorem lw_p5 : lw_okq (⟨"BeamBoard$Tokens", "packed", "(IIII)I"⟩, 6) := ⟨⟨by decide +kernel, by decide +kernel⟩, List.mem_of_getElem? (i := 32) (by decide +kernel), List.mem_of_getElem? (i := 400) (by decide +kernel), List.mem_of_getElem? (i := 401) (by decide +kernel)⟩
theorem lw_p6 : lw_okq (⟨"BeamBoard$Reader", "readSize", "()V"⟩, 9) := ⟨⟨by decide +kernel, by decide +kernel⟩, List.mem_of_getElem? (i := 26) (by decide +kernel), List.mem_of_getElem? (i := 411) (by decide +kernel), List.mem_of_getElem? (i := 412) (by decide +kernel)⟩
theorem lw_p7 : lw_okq (⟨"BeamBoard$Reader", "expect", "(I)V"⟩, 9) := ⟨⟨by decide +kernel, by decide +kernel⟩, List.mem_of_getElem? (i := 26) (by decide +kernel), List.mem_of_getElem? (i := 415) (by decide +kernel), List.mem_of_getElem? (i := 416) (by decide +kernel)⟩
theorem lw_p8 : lw_okq (⟨"BeamBoard$Reader", "isWord", "(I)Z"⟩, 9) := ⟨⟨by decide +kernel, by decide +kernel⟩, List.mem_of_getElem? (i := 26) (by decide +kernel), List.mem_of_getElem? (i := 419) (by decide +kernel), List.mem_of_getElem? (i := 420) (by decide +kernel)⟩
theorem lw_p9 : lw_okq (⟨"BeamBoard$Reader", "advance", "()V"⟩, 9) := ⟨⟨by decide +kernel, by decide +kernel⟩, List.mem_of_getElem? (i := 26) (by decide +kernel), List.mem_of_getElem? (i := 423) (by decide +kernel), List.mem_of_getElem? (i := 424) (by decide +kernel)⟩
theorem lw_p10 : lw_okq (⟨"BeamBoard$Reader", "refuseToken", "()V"⟩, 9) := ⟨⟨by decide +kernel, by decide +kernel⟩, List.mem_of_getElem? (i := 26) (by decide +kernel), List.mem_of_getElem? (i := 427) (by decide +kernel), List.mem_of_getElem? (i := 428) (by decide +kernel)⟩
theorem lw_p11 : lw_okq (⟨"BeamBoard$Reader", "refuse", "(II)V"⟩, 9) := ⟨⟨by decide +kernel, by decide +kernel⟩, List.mem_of_getElem? (i := 26) (by decide +kernel), List.mem_of_getElem? (i := 431) (by decide +kernel), List.mem_of_getElem? (i := 432) (by decide +kernel)⟩
theorem lw_p12 : lw_okq (⟨"BeamBoard$Reader", "readNumber", "(II)I"⟩, 9) := ⟨⟨by decide +kernel, by decide +kernel⟩, List.mem_of_getElem? (i := 26) (by decide +kernel), List.mem_of_getElem? (i := 435) (by decide +kernel), List.mem_of_getElem? (i := 436) (by decide +kernel)⟩
theorem lw_p13 : lw_okq (⟨"BeamBoard$Reader", "readPiece", "()V"⟩, 9) := ⟨⟨by decide +kernel, by decide +kernel⟩, List.mem_of_getElem? (i := 26) (by decide +kernel), List.mem_of_getElem? (i := 443) (by decide +kernel), List.mem_of_getElem? (i := 444) (by decide +kernel)⟩
theorem lw_p14 : lw_okq (⟨"BeamBoard$Reader", "choose", "(II)I"⟩, 9) := ⟨⟨by decide +kernel, by decide +kernel⟩, List.mem_of_getElem? (i := 26) (by decide +kernel), List.mem_of_getElem? (i := 454) (by decide +kernel), List.mem_of_getElem? (i := 455) (by decide +kernel)⟩
theorem lw_p15 : lw_okq (⟨"BeamBoard$Reader", "readNewName", "()V"⟩, 9) := ⟨⟨by decide +kernel, by decide +kernel⟩, List.mem_of_getElem? (i := 26) (by decide +kernel), List.mem_of_getElem? (i := 461) (by decide +kernel), List.mem_of_getElem? (i := 462) (by decide +kernel)⟩
def lw_privs_1 : List (MethodName × Nat) := [(⟨"BeamBoard", "putOnTape", "(I)V"⟩, 14), (⟨"BeamBoard$Tokens", "isLikeFirst", "(II)Z"⟩, 6), (⟨"BeamBoard$Tokens", "addWordOrNumber", "(II)V"⟩, 6), (⟨"BeamBoard$Tokens", "ownWord", "(II)I"⟩, 6), (⟨"BeamBoard$Tokens", "put", "(IIII)V"⟩, 6), (⟨"BeamBoard$Tokens", "packed", "(IIII)I"⟩, 6), (⟨"BeamBoard$Reader", "readSize", "()V"⟩, 9), (⟨"BeamBoard$Reader", "expect", "(I)V"⟩, 9), (⟨"BeamBoard$Reader", "isWord", "(I)Z"⟩, 9), (⟨"BeamBoard$Reader", "advance", "()V"⟩, 9), (⟨"BeamBoard$Reader", "refuseToken", "()V"⟩, 9), (⟨"BeamBoard$Reader", "refuse", "(II)V"⟩, 9), (⟨"BeamBoard$Reader", "readNumber", "(II)I"⟩, 9), (⟨"BeamBoard$Reader", "readPiece", "()V"⟩, 9), (⟨"BeamBoard$Reader", "choose", "(II)I"⟩, 9), (⟨"BeamBoard$Reader", "readNewName", "()V"⟩, 9)]
theorem lw_r1 : ∀ q ∈ lw_privs_1, lw_okq q := List.forall_mem_cons.mpr ⟨lw_p0, List.forall_mem_cons.mpr ⟨lw_p1, List.forall_mem_cons.mpr ⟨lw_p2, List.forall_mem_cons.mpr ⟨lw_p3, List.forall_mem_cons.mpr ⟨lw_p4, List.forall_mem_cons.mpr ⟨lw_p5, List.forall_mem_cons.mpr ⟨lw_p6, List.forall_mem_cons.mpr ⟨lw_p7, List.forall_mem_cons.mpr ⟨lw_p8, List.forall_mem_cons.mpr ⟨lw_p9, List.forall_mem_cons.mpr ⟨lw_p10, List.forall_mem_cons.mpr ⟨lw_p11, List.forall_mem_cons.mpr ⟨lw_p12, List.forall_mem_cons.mpr ⟨lw_p13, List.forall_mem_cons.mpr ⟨lw_p14, List.forall_mem_cons.mpr ⟨lw_p15, fun _ h => absurd h List.not_mem_nil⟩⟩⟩⟩⟩⟩⟩⟩⟩⟩⟩⟩⟩⟩⟩⟩
theorem lw_p16 : lw_okq (⟨"BeamBoard$Reader", "readTest", "(I)V"⟩, 9) := ⟨⟨by decide +kernel, by decide +kernel⟩, List.mem_of_getElem? (i := 26) (by decide +kernel), List.mem_of_getElem? (i := 469) (by decide +kernel), List.mem_of_getElem? (i := 470) (by decide +kernel)⟩
theorem lw_p17 : lw_okq (⟨"BeamBoard$Reader", "readFact", "(I)V"⟩, 9) := ⟨⟨by decide +kernel, by decide +kernel⟩, List.mem_of_getElem? (i := 26) (by decide +kernel), List.mem_of_getElem? (i := 473) (by decide +kernel), List.mem_of_getElem? (i := 474) (by decide +kernel)⟩
theorem lw_p18 : lw_okq (⟨"BeamBoard$Reader", "isSign", "(I)Z"⟩, 9) := ⟨⟨by decide +kernel, by decide +kernel⟩, List.mem_of_getElem? (i := 26) (by decide +kernel), List.mem_of_getElem? (i := 477) (by decide +kernel), List.mem_of_getElem? (i := 478) (by decide +kernel)⟩
theorem lw_p19 : lw_okq (⟨"BeamBoard$Reader", "expectSign", "(I)V"⟩, 9) := ⟨⟨by decide +kernel, by decide +kernel⟩, List.mem_of_getElem? (i := 26) (by decide +kernel), List.mem_of_getElem? (i := 485) (by decide +kernel), List.mem_of_getElem? (i := 486) (by decide +kernel)⟩
theorem lw_p20 : lw_okq (⟨"BeamBoard$Reader", "readSees", "()V"⟩, 9) := ⟨⟨by decide +kernel, by decide +kernel⟩, List.mem_of_getElem? (i := 26) (by decide +kernel), List.mem_of_getElem? (i := 489) (by decide +kernel), List.mem_of_getElem? (i := 490) (by decide +kernel)⟩
theorem lw_p21 : lw_okq (⟨"BeamBoard$Reader", "readSquare", "()I"⟩, 9) := ⟨⟨by decide +kernel, by decide +kernel⟩, List.mem_of_getElem? (i := 26) (by decide +kernel), List.mem_of_getElem? (i := 496) (by decide +kernel), List.mem_of_getElem? (i := 497) (by decide +kernel)⟩
theorem lw_p22 : lw_okq (⟨"BeamBoard$Reader", "findSeenEyes", "()V"⟩, 9) := ⟨⟨by decide +kernel, by decide +kernel⟩, List.mem_of_getElem? (i := 26) (by decide +kernel), List.mem_of_getElem? (i := 514) (by decide +kernel), List.mem_of_getElem? (i := 515) (by decide +kernel)⟩
theorem lw_p23 : lw_okq (⟨"BeamBoard", "isNumber", "(II)Z"⟩, 14) := ⟨⟨by decide +kernel, by decide +kernel⟩, List.mem_of_getElem? (i := 18) (by decide +kernel), List.mem_of_getElem? (i := 535) (by decide +kernel), List.mem_of_getElem? (i := 536) (by decide +kernel)⟩
theorem lw_p24 : lw_okq (⟨"BeamBoard", "isState", "(I)Z"⟩, 14) := ⟨⟨by decide +kernel, by decide +kernel⟩, List.mem_of_getElem? (i := 18) (by decide +kernel), List.mem_of_getElem? (i := 577) (by decide +kernel), List.mem_of_getElem? (i := 578) (by decide +kernel)⟩
theorem lw_p25 : lw_okq (⟨"BeamBoard", "stateCount", "()I"⟩, 14) := ⟨⟨by decide +kernel, by decide +kernel⟩, List.mem_of_getElem? (i := 18) (by decide +kernel), List.mem_of_getElem? (i := 581) (by decide +kernel), List.mem_of_getElem? (i := 582) (by decide +kernel)⟩
theorem lw_p26 : lw_okq (⟨"BeamBoard", "moveTo", "(I)V"⟩, 14) := ⟨⟨by decide +kernel, by decide +kernel⟩, List.mem_of_getElem? (i := 18) (by decide +kernel), List.mem_of_getElem? (i := 585) (by decide +kernel), List.mem_of_getElem? (i := 586) (by decide +kernel)⟩
theorem lw_p27 : lw_okq (⟨"BeamBoard", "lightNow", "()LBeamBoard$Light;"⟩, 14) := ⟨⟨by decide +kernel, by decide +kernel⟩, List.mem_of_getElem? (i := 18) (by decide +kernel), List.mem_of_getElem? (i := 597) (by decide +kernel), List.mem_of_getElem? (i := 598) (by decide +kernel)⟩
theorem lw_p28 : lw_okq (⟨"BeamBoard", "lightOf", "(II)LBeamBoard$Light;"⟩, 14) := ⟨⟨by decide +kernel, by decide +kernel⟩, List.mem_of_getElem? (i := 18) (by decide +kernel), List.mem_of_getElem? (i := 601) (by decide +kernel), List.mem_of_getElem? (i := 602) (by decide +kernel)⟩
theorem lw_p29 : lw_okq (⟨"BeamBoard$Light", "darken", "()V"⟩, 8) := ⟨⟨by decide +kernel, by decide +kernel⟩, List.mem_of_getElem? (i := 179) (by decide +kernel), List.mem_of_getElem? (i := 609) (by decide +kernel), List.mem_of_getElem? (i := 610) (by decide +kernel)⟩
theorem lw_p30 : lw_okq (⟨"BeamBoard$Light", "send", "(III)V"⟩, 8) := ⟨⟨by decide +kernel, by decide +kernel⟩, List.mem_of_getElem? (i := 179) (by decide +kernel), List.mem_of_getElem? (i := 621) (by decide +kernel), List.mem_of_getElem? (i := 622) (by decide +kernel)⟩
theorem lw_p31 : lw_okq (⟨"BeamBoard$Light", "spread", "(LBeamBoard$Table;)V"⟩, 8) := ⟨⟨by decide +kernel, by decide +kernel⟩, List.mem_of_getElem? (i := 179) (by decide +kernel), List.mem_of_getElem? (i := 625) (by decide +kernel), List.mem_of_getElem? (i := 626) (by decide +kernel)⟩
def lw_privs_2 : List (MethodName × Nat) := [(⟨"BeamBoard$Reader", "readTest", "(I)V"⟩, 9), (⟨"BeamBoard$Reader", "readFact", "(I)V"⟩, 9), (⟨"BeamBoard$Reader", "isSign", "(I)Z"⟩, 9), (⟨"BeamBoard$Reader", "expectSign", "(I)V"⟩, 9), (⟨"BeamBoard$Reader", "readSees", "()V"⟩, 9), (⟨"BeamBoard$Reader", "readSquare", "()I"⟩, 9), (⟨"BeamBoard$Reader", "findSeenEyes", "()V"⟩, 9), (⟨"BeamBoard", "isNumber", "(II)Z"⟩, 14), (⟨"BeamBoard", "isState", "(I)Z"⟩, 14), (⟨"BeamBoard", "stateCount", "()I"⟩, 14), (⟨"BeamBoard", "moveTo", "(I)V"⟩, 14), (⟨"BeamBoard", "lightNow", "()LBeamBoard$Light;"⟩, 14), (⟨"BeamBoard", "lightOf", "(II)LBeamBoard$Light;"⟩, 14), (⟨"BeamBoard$Light", "darken", "()V"⟩, 8), (⟨"BeamBoard$Light", "send", "(III)V"⟩, 8), (⟨"BeamBoard$Light", "spread", "(LBeamBoard$Table;)V"⟩, 8)]
theorem lw_r2 : ∀ q ∈ lw_privs_2, lw_okq q := List.forall_mem_cons.mpr ⟨lw_p16, List.forall_mem_cons.mpr ⟨lw_p17, List.forall_mem_cons.mpr ⟨lw_p18, List.forall_mem_cons.mpr ⟨lw_p19, List.forall_mem_cons.mpr ⟨lw_p20, List.forall_mem_cons.mpr ⟨lw_p21, List.forall_mem_cons.mpr ⟨lw_p22, List.forall_mem_cons.mpr ⟨lw_p23, List.forall_mem_cons.mpr ⟨lw_p24, List.forall_mem_cons.mpr ⟨lw_p25, List.forall_mem_cons.mpr ⟨lw_p26, List.forall_mem_cons.mpr ⟨lw_p27, List.forall_mem_cons.mpr ⟨lw_p28, List.forall_mem_cons.mpr ⟨lw_p29, List.forall_mem_cons.mpr ⟨lw_p30, List.forall_mem_cons.mpr ⟨lw_p31, fun _ h => absurd h List.not_mem_nil⟩⟩⟩⟩⟩⟩⟩⟩⟩⟩⟩⟩⟩⟩⟩⟩
theorem lw_p32 : lw_okq (⟨"BeamBoard$Light", "pass", "(LBeamBoard$Table;II)V"⟩, 8) := ⟨⟨by decide +kernel, by decide +kernel⟩, List.mem_of_getElem? (i := 179) (by decide +kernel), List.mem_of_getElem? (i := 629) (by decide +kernel), List.mem_of_getElem? (i := 630) (by decide +kernel)⟩
theorem lw_p33 : lw_okq (⟨"BeamBoard$Course", "stepFrom", "(LBeamBoard$Table;II)I"⟩, 7) := ⟨⟨by decide +kernel, by decide +kernel⟩, List.mem_of_getElem? (i := 173) (by decide +kernel), List.mem_of_getElem? (i := 675) (by decide +kernel), List.mem_of_getElem? (i := 676) (by decide +kernel)⟩
theorem lw_p34 : lw_okq (⟨"BeamBoard", "areMet", "(I)Z"⟩, 14) := ⟨⟨by decide +kernel, by decide +kernel⟩, List.mem_of_getElem? (i := 18) (by decide +kernel), List.mem_of_getElem? (i := 728) (by decide +kernel), List.mem_of_getElem? (i := 729) (by decide +kernel)⟩
theorem lw_p35 : lw_okq (⟨"BeamBoard", "isAsWished", "(I)Z"⟩, 14) := ⟨⟨by decide +kernel, by decide +kernel⟩, List.mem_of_getElem? (i := 18) (by decide +kernel), List.mem_of_getElem? (i := 736) (by decide +kernel), List.mem_of_getElem? (i := 737) (by decide +kernel)⟩
theorem lw_p36 : lw_okq (⟨"BeamBoard", "allOf", "(I)I"⟩, 14) := ⟨⟨by decide +kernel, by decide +kernel⟩, List.mem_of_getElem? (i := 18) (by decide +kernel), List.mem_of_getElem? (i := 749) (by decide +kernel), List.mem_of_getElem? (i := 750) (by decide +kernel)⟩
theorem lw_p37 : lw_okq (⟨"BeamBoard", "shadowOn", "(II)I"⟩, 14) := ⟨⟨by decide +kernel, by decide +kernel⟩, List.mem_of_getElem? (i := 18) (by decide +kernel), List.mem_of_getElem? (i := 757) (by decide +kernel), List.mem_of_getElem? (i := 758) (by decide +kernel)⟩
theorem lw_p38 : lw_okq (⟨"BeamBoard", "formMetOn", "(I)I"⟩, 14) := ⟨⟨by decide +kernel, by decide +kernel⟩, List.mem_of_getElem? (i := 18) (by decide +kernel), List.mem_of_getElem? (i := 786) (by decide +kernel), List.mem_of_getElem? (i := 787) (by decide +kernel)⟩
theorem lw_p39 : lw_okq (⟨"BeamBoard", "isImage", "(I)Z"⟩, 14) := ⟨⟨by decide +kernel, by decide +kernel⟩, List.mem_of_getElem? (i := 18) (by decide +kernel), List.mem_of_getElem? (i := 860) (by decide +kernel), List.mem_of_getElem? (i := 861) (by decide +kernel)⟩
theorem lw_p40 : lw_okq (⟨"BeamBoardModel", "put", "(I)V"⟩, 73) := ⟨⟨by decide +kernel, by decide +kernel⟩, List.mem_of_getElem? (i := 865) (by decide +kernel), List.mem_of_getElem? (i := 1097) (by decide +kernel), List.mem_of_getElem? (i := 1098) (by decide +kernel)⟩
theorem lw_p41 : lw_okq (⟨"BeamBoardModel", "fresh", "()V"⟩, 73) := ⟨⟨by decide +kernel, by decide +kernel⟩, List.mem_of_getElem? (i := 865) (by decide +kernel), List.mem_of_getElem? (i := 1109) (by decide +kernel), List.mem_of_getElem? (i := 1110) (by decide +kernel)⟩
theorem lw_p42 : lw_okq (⟨"BeamBoardModel", "next", "()V"⟩, 73) := ⟨⟨by decide +kernel, by decide +kernel⟩, List.mem_of_getElem? (i := 865) (by decide +kernel), List.mem_of_getElem? (i := 1113) (by decide +kernel), List.mem_of_getElem? (i := 1114) (by decide +kernel)⟩
theorem lw_p43 : lw_okq (⟨"BeamBoardModel", "looks", "()V"⟩, 73) := ⟨⟨by decide +kernel, by decide +kernel⟩, List.mem_of_getElem? (i := 865) (by decide +kernel), List.mem_of_getElem? (i := 1117) (by decide +kernel), List.mem_of_getElem? (i := 1118) (by decide +kernel)⟩
theorem lw_p44 : lw_okq (⟨"BeamBoardModel", "byteAt", "(I)I"⟩, 73) := ⟨⟨by decide +kernel, by decide +kernel⟩, List.mem_of_getElem? (i := 865) (by decide +kernel), List.mem_of_getElem? (i := 1121) (by decide +kernel), List.mem_of_getElem? (i := 1122) (by decide +kernel)⟩
theorem lw_p45 : lw_okq (⟨"BeamBoardModel", "blame", "(II)V"⟩, 73) := ⟨⟨by decide +kernel, by decide +kernel⟩, List.mem_of_getElem? (i := 865) (by decide +kernel), List.mem_of_getElem? (i := 1161) (by decide +kernel), List.mem_of_getElem? (i := 1162) (by decide +kernel)⟩
theorem lw_p46 : lw_okq (⟨"BeamBoardModel", "sizes", "()V"⟩, 73) := ⟨⟨by decide +kernel, by decide +kernel⟩, List.mem_of_getElem? (i := 865) (by decide +kernel), List.mem_of_getElem? (i := 1165) (by decide +kernel), List.mem_of_getElem? (i := 1166) (by decide +kernel)⟩
theorem lw_p47 : lw_okq (⟨"BeamBoardModel", "isWord", "(J)Z"⟩, 73) := ⟨⟨by decide +kernel, by decide +kernel⟩, List.mem_of_getElem? (i := 865) (by decide +kernel), List.mem_of_getElem? (i := 1169) (by decide +kernel), List.mem_of_getElem? (i := 1170) (by decide +kernel)⟩
def lw_privs_3 : List (MethodName × Nat) := [(⟨"BeamBoard$Light", "pass", "(LBeamBoard$Table;II)V"⟩, 8), (⟨"BeamBoard$Course", "stepFrom", "(LBeamBoard$Table;II)I"⟩, 7), (⟨"BeamBoard", "areMet", "(I)Z"⟩, 14), (⟨"BeamBoard", "isAsWished", "(I)Z"⟩, 14), (⟨"BeamBoard", "allOf", "(I)I"⟩, 14), (⟨"BeamBoard", "shadowOn", "(II)I"⟩, 14), (⟨"BeamBoard", "formMetOn", "(I)I"⟩, 14), (⟨"BeamBoard", "isImage", "(I)Z"⟩, 14), (⟨"BeamBoardModel", "put", "(I)V"⟩, 73), (⟨"BeamBoardModel", "fresh", "()V"⟩, 73), (⟨"BeamBoardModel", "next", "()V"⟩, 73), (⟨"BeamBoardModel", "looks", "()V"⟩, 73), (⟨"BeamBoardModel", "byteAt", "(I)I"⟩, 73), (⟨"BeamBoardModel", "blame", "(II)V"⟩, 73), (⟨"BeamBoardModel", "sizes", "()V"⟩, 73), (⟨"BeamBoardModel", "isWord", "(J)Z"⟩, 73)]
theorem lw_r3 : ∀ q ∈ lw_privs_3, lw_okq q := List.forall_mem_cons.mpr ⟨lw_p32, List.forall_mem_cons.mpr ⟨lw_p33, List.forall_mem_cons.mpr ⟨lw_p34, List.forall_mem_cons.mpr ⟨lw_p35, List.forall_mem_cons.mpr ⟨lw_p36, List.forall_mem_cons.mpr ⟨lw_p37, List.forall_mem_cons.mpr ⟨lw_p38, List.forall_mem_cons.mpr ⟨lw_p39, List.forall_mem_cons.mpr ⟨lw_p40, List.forall_mem_cons.mpr ⟨lw_p41, List.forall_mem_cons.mpr ⟨lw_p42, List.forall_mem_cons.mpr ⟨lw_p43, List.forall_mem_cons.mpr ⟨lw_p44, List.forall_mem_cons.mpr ⟨lw_p45, List.forall_mem_cons.mpr ⟨lw_p46, List.forall_mem_cons.mpr ⟨lw_p47, fun _ h => absurd h List.not_mem_nil⟩⟩⟩⟩⟩⟩⟩⟩⟩⟩⟩⟩⟩⟩⟩⟩
theorem lw_p48 : lw_okq (⟨"BeamBoardModel", "number", "(II)I"⟩, 73) := ⟨⟨by decide +kernel, by decide +kernel⟩, List.mem_of_getElem? (i := 865) (by decide +kernel), List.mem_of_getElem? (i := 1173) (by decide +kernel), List.mem_of_getElem? (i := 1174) (by decide +kernel)⟩
theorem lw_p49 : lw_okq (⟨"BeamBoardModel", "ends", "()V"⟩, 73) := ⟨⟨by decide +kernel, by decide +kernel⟩, List.mem_of_getElem? (i := 865) (by decide +kernel), List.mem_of_getElem? (i := 1180) (by decide +kernel), List.mem_of_getElem? (i := 1181) (by decide +kernel)⟩
theorem lw_p50 : lw_okq (⟨"BeamBoardModel", "isSign", "(I)Z"⟩, 73) := ⟨⟨by decide +kernel, by decide +kernel⟩, List.mem_of_getElem? (i := 865) (by decide +kernel), List.mem_of_getElem? (i := 1184) (by decide +kernel), List.mem_of_getElem? (i := 1185) (by decide +kernel)⟩
theorem lw_p51 : lw_okq (⟨"BeamBoardModel", "statement", "()V"⟩, 73) := ⟨⟨by decide +kernel, by decide +kernel⟩, List.mem_of_getElem? (i := 865) (by decide +kernel), List.mem_of_getElem? (i := 1188) (by decide +kernel), List.mem_of_getElem? (i := 1189) (by decide +kernel)⟩
theorem lw_p52 : lw_okq (⟨"BeamBoardModel", "lamp", "()V"⟩, 73) := ⟨⟨by decide +kernel, by decide +kernel⟩, List.mem_of_getElem? (i := 865) (by decide +kernel), List.mem_of_getElem? (i := 1192) (by decide +kernel), List.mem_of_getElem? (i := 1193) (by decide +kernel)⟩
theorem lw_p53 : lw_okq (⟨"BeamBoardModel", "counts", "(II)V"⟩, 73) := ⟨⟨by decide +kernel, by decide +kernel⟩, List.mem_of_getElem? (i := 865) (by decide +kernel), List.mem_of_getElem? (i := 1196) (by decide +kernel), List.mem_of_getElem? (i := 1197) (by decide +kernel)⟩
theorem lw_p54 : lw_okq (⟨"BeamBoardModel", "colour", "()I"⟩, 73) := ⟨⟨by decide +kernel, by decide +kernel⟩, List.mem_of_getElem? (i := 865) (by decide +kernel), List.mem_of_getElem? (i := 1200) (by decide +kernel), List.mem_of_getElem? (i := 1201) (by decide +kernel)⟩
theorem lw_p55 : lw_okq (⟨"BeamBoardModel", "ways", "()I"⟩, 73) := ⟨⟨by decide +kernel, by decide +kernel⟩, List.mem_of_getElem? (i := 865) (by decide +kernel), List.mem_of_getElem? (i := 1204) (by decide +kernel), List.mem_of_getElem? (i := 1205) (by decide +kernel)⟩
theorem lw_p56 : lw_okq (⟨"BeamBoardModel", "place", "(IIII)V"⟩, 73) := ⟨⟨by decide +kernel, by decide +kernel⟩, List.mem_of_getElem? (i := 865) (by decide +kernel), List.mem_of_getElem? (i := 1208) (by decide +kernel), List.mem_of_getElem? (i := 1209) (by decide +kernel)⟩
theorem lw_p57 : lw_okq (⟨"BeamBoardModel", "mustWord", "(J)V"⟩, 73) := ⟨⟨by decide +kernel, by decide +kernel⟩, List.mem_of_getElem? (i := 865) (by decide +kernel), List.mem_of_getElem? (i := 1212) (by decide +kernel), List.mem_of_getElem? (i := 1213) (by decide +kernel)⟩
theorem lw_p58 : lw_okq (⟨"BeamBoardModel", "mirror", "(I)V"⟩, 73) := ⟨⟨by decide +kernel, by decide +kernel⟩, List.mem_of_getElem? (i := 865) (by decide +kernel), List.mem_of_getElem? (i := 1216) (by decide +kernel), List.mem_of_getElem? (i := 1217) (by decide +kernel)⟩
theorem lw_p59 : lw_okq (⟨"BeamBoardModel", "forms", "()I"⟩, 73) := ⟨⟨by decide +kernel, by decide +kernel⟩, List.mem_of_getElem? (i := 865) (by decide +kernel), List.mem_of_getElem? (i := 1220) (by decide +kernel), List.mem_of_getElem? (i := 1221) (by decide +kernel)⟩
theorem lw_p60 : lw_okq (⟨"BeamBoardModel", "mover", "(I)V"⟩, 73) := ⟨⟨by decide +kernel, by decide +kernel⟩, List.mem_of_getElem? (i := 865) (by decide +kernel), List.mem_of_getElem? (i := 1224) (by decide +kernel), List.mem_of_getElem? (i := 1225) (by decide +kernel)⟩
theorem lw_p61 : lw_okq (⟨"BeamBoardModel", "test", "(I)V"⟩, 73) := ⟨⟨by decide +kernel, by decide +kernel⟩, List.mem_of_getElem? (i := 865) (by decide +kernel), List.mem_of_getElem? (i := 1228) (by decide +kernel), List.mem_of_getElem? (i := 1229) (by decide +kernel)⟩
theorem lw_p62 : lw_okq (⟨"BeamBoardModel", "pushes", "(I)V"⟩, 73) := ⟨⟨by decide +kernel, by decide +kernel⟩, List.mem_of_getElem? (i := 865) (by decide +kernel), List.mem_of_getElem? (i := 1232) (by decide +kernel), List.mem_of_getElem? (i := 1233) (by decide +kernel)⟩
theorem lw_p63 : lw_okq (⟨"BeamBoardModel", "goesOn", "()Z"⟩, 73) := ⟨⟨by decide +kernel, by decide +kernel⟩, List.mem_of_getElem? (i := 865) (by decide +kernel), List.mem_of_getElem? (i := 1236) (by decide +kernel), List.mem_of_getElem? (i := 1237) (by decide +kernel)⟩
def lw_privs_4 : List (MethodName × Nat) := [(⟨"BeamBoardModel", "number", "(II)I"⟩, 73), (⟨"BeamBoardModel", "ends", "()V"⟩, 73), (⟨"BeamBoardModel", "isSign", "(I)Z"⟩, 73), (⟨"BeamBoardModel", "statement", "()V"⟩, 73), (⟨"BeamBoardModel", "lamp", "()V"⟩, 73), (⟨"BeamBoardModel", "counts", "(II)V"⟩, 73), (⟨"BeamBoardModel", "colour", "()I"⟩, 73), (⟨"BeamBoardModel", "ways", "()I"⟩, 73), (⟨"BeamBoardModel", "place", "(IIII)V"⟩, 73), (⟨"BeamBoardModel", "mustWord", "(J)V"⟩, 73), (⟨"BeamBoardModel", "mirror", "(I)V"⟩, 73), (⟨"BeamBoardModel", "forms", "()I"⟩, 73), (⟨"BeamBoardModel", "mover", "(I)V"⟩, 73), (⟨"BeamBoardModel", "test", "(I)V"⟩, 73), (⟨"BeamBoardModel", "pushes", "(I)V"⟩, 73), (⟨"BeamBoardModel", "goesOn", "()Z"⟩, 73)]
theorem lw_r4 : ∀ q ∈ lw_privs_4, lw_okq q := List.forall_mem_cons.mpr ⟨lw_p48, List.forall_mem_cons.mpr ⟨lw_p49, List.forall_mem_cons.mpr ⟨lw_p50, List.forall_mem_cons.mpr ⟨lw_p51, List.forall_mem_cons.mpr ⟨lw_p52, List.forall_mem_cons.mpr ⟨lw_p53, List.forall_mem_cons.mpr ⟨lw_p54, List.forall_mem_cons.mpr ⟨lw_p55, List.forall_mem_cons.mpr ⟨lw_p56, List.forall_mem_cons.mpr ⟨lw_p57, List.forall_mem_cons.mpr ⟨lw_p58, List.forall_mem_cons.mpr ⟨lw_p59, List.forall_mem_cons.mpr ⟨lw_p60, List.forall_mem_cons.mpr ⟨lw_p61, List.forall_mem_cons.mpr ⟨lw_p62, List.forall_mem_cons.mpr ⟨lw_p63, fun _ h => absurd h List.not_mem_nil⟩⟩⟩⟩⟩⟩⟩⟩⟩⟩⟩⟩⟩⟩⟩⟩
theorem lw_p64 : lw_okq (⟨"BeamBoardModel", "add", "(II)V"⟩, 73) := ⟨⟨by decide +kernel, by decide +kernel⟩, List.mem_of_getElem? (i := 865) (by decide +kernel), List.mem_of_getElem? (i := 1240) (by decide +kernel), List.mem_of_getElem? (i := 1241) (by decide +kernel)⟩
theorem lw_p65 : lw_okq (⟨"BeamBoardModel", "joins", "(Z)V"⟩, 73) := ⟨⟨by decide +kernel, by decide +kernel⟩, List.mem_of_getElem? (i := 865) (by decide +kernel), List.mem_of_getElem? (i := 1244) (by decide +kernel), List.mem_of_getElem? (i := 1245) (by decide +kernel)⟩
theorem lw_p66 : lw_okq (⟨"BeamBoardModel", "fact", "()V"⟩, 73) := ⟨⟨by decide +kernel, by decide +kernel⟩, List.mem_of_getElem? (i := 865) (by decide +kernel), List.mem_of_getElem? (i := 1248) (by decide +kernel), List.mem_of_getElem? (i := 1249) (by decide +kernel)⟩
theorem lw_p67 : lw_okq (⟨"BeamBoardModel", "opens", "(I)V"⟩, 73) := ⟨⟨by decide +kernel, by decide +kernel⟩, List.mem_of_getElem? (i := 865) (by decide +kernel), List.mem_of_getElem? (i := 1252) (by decide +kernel), List.mem_of_getElem? (i := 1253) (by decide +kernel)⟩
theorem lw_p68 : lw_okq (⟨"BeamBoardModel", "eye", "()V"⟩, 73) := ⟨⟨by decide +kernel, by decide +kernel⟩, List.mem_of_getElem? (i := 865) (by decide +kernel), List.mem_of_getElem? (i := 1256) (by decide +kernel), List.mem_of_getElem? (i := 1257) (by decide +kernel)⟩
theorem lw_p69 : lw_okq (⟨"BeamBoardModel", "eyeOf", "(J)I"⟩, 73) := ⟨⟨by decide +kernel, by decide +kernel⟩, List.mem_of_getElem? (i := 865) (by decide +kernel), List.mem_of_getElem? (i := 1260) (by decide +kernel), List.mem_of_getElem? (i := 1261) (by decide +kernel)⟩
theorem lw_p70 : lw_okq (⟨"BeamBoardModel", "plain", "()V"⟩, 73) := ⟨⟨by decide +kernel, by decide +kernel⟩, List.mem_of_getElem? (i := 865) (by decide +kernel), List.mem_of_getElem? (i := 1264) (by decide +kernel), List.mem_of_getElem? (i := 1265) (by decide +kernel)⟩
theorem lw_p71 : lw_okq (⟨"BeamBoardModel", "eyesOfTests", "()V"⟩, 73) := ⟨⟨by decide +kernel, by decide +kernel⟩, List.mem_of_getElem? (i := 865) (by decide +kernel), List.mem_of_getElem? (i := 1268) (by decide +kernel), List.mem_of_getElem? (i := 1269) (by decide +kernel)⟩
theorem lw_p72 : lw_okq (⟨"BeamBoardModel", "isEye", "(I)Z"⟩, 73) := ⟨⟨by decide +kernel, by decide +kernel⟩, List.mem_of_getElem? (i := 865) (by decide +kernel), List.mem_of_getElem? (i := 1284) (by decide +kernel), List.mem_of_getElem? (i := 1285) (by decide +kernel)⟩
theorem lw_p73 : lw_okq (⟨"BeamBoardModel", "isSquare", "(II)Z"⟩, 73) := ⟨⟨by decide +kernel, by decide +kernel⟩, List.mem_of_getElem? (i := 865) (by decide +kernel), List.mem_of_getElem? (i := 1293) (by decide +kernel), List.mem_of_getElem? (i := 1294) (by decide +kernel)⟩
theorem lw_p74 : lw_okq (⟨"BeamBoardModel", "sortAt", "(I)I"⟩, 73) := ⟨⟨by decide +kernel, by decide +kernel⟩, List.mem_of_getElem? (i := 865) (by decide +kernel), List.mem_of_getElem? (i := 1297) (by decide +kernel), List.mem_of_getElem? (i := 1298) (by decide +kernel)⟩
theorem lw_p75 : lw_okq (⟨"BeamBoardModel", "from", "(I)I"⟩, 73) := ⟨⟨by decide +kernel, by decide +kernel⟩, List.mem_of_getElem? (i := 865) (by decide +kernel), List.mem_of_getElem? (i := 1301) (by decide +kernel), List.mem_of_getElem? (i := 1302) (by decide +kernel)⟩
theorem lw_p76 : lw_okq (⟨"BeamBoardModel", "numberAt", "(I)I"⟩, 73) := ⟨⟨by decide +kernel, by decide +kernel⟩, List.mem_of_getElem? (i := 865) (by decide +kernel), List.mem_of_getElem? (i := 1305) (by decide +kernel), List.mem_of_getElem? (i := 1306) (by decide +kernel)⟩
theorem lw_p77 : lw_okq (⟨"BeamBoardModel", "formAt", "(II)I"⟩, 73) := ⟨⟨by decide +kernel, by decide +kernel⟩, List.mem_of_getElem? (i := 865) (by decide +kernel), List.mem_of_getElem? (i := 1309) (by decide +kernel), List.mem_of_getElem? (i := 1310) (by decide +kernel)⟩
theorem lw_p78 : lw_okq (⟨"BeamBoardModel", "isMirror", "(I)Z"⟩, 73) := ⟨⟨by decide +kernel, by decide +kernel⟩, List.mem_of_getElem? (i := 865) (by decide +kernel), List.mem_of_getElem? (i := 1317) (by decide +kernel), List.mem_of_getElem? (i := 1318) (by decide +kernel)⟩
theorem lw_p79 : lw_okq (⟨"BeamBoardModel", "remembers", "(II)V"⟩, 73) := ⟨⟨by decide +kernel, by decide +kernel⟩, List.mem_of_getElem? (i := 865) (by decide +kernel), List.mem_of_getElem? (i := 1321) (by decide +kernel), List.mem_of_getElem? (i := 1322) (by decide +kernel)⟩
def lw_privs_5 : List (MethodName × Nat) := [(⟨"BeamBoardModel", "add", "(II)V"⟩, 73), (⟨"BeamBoardModel", "joins", "(Z)V"⟩, 73), (⟨"BeamBoardModel", "fact", "()V"⟩, 73), (⟨"BeamBoardModel", "opens", "(I)V"⟩, 73), (⟨"BeamBoardModel", "eye", "()V"⟩, 73), (⟨"BeamBoardModel", "eyeOf", "(J)I"⟩, 73), (⟨"BeamBoardModel", "plain", "()V"⟩, 73), (⟨"BeamBoardModel", "eyesOfTests", "()V"⟩, 73), (⟨"BeamBoardModel", "isEye", "(I)Z"⟩, 73), (⟨"BeamBoardModel", "isSquare", "(II)Z"⟩, 73), (⟨"BeamBoardModel", "sortAt", "(I)I"⟩, 73), (⟨"BeamBoardModel", "from", "(I)I"⟩, 73), (⟨"BeamBoardModel", "numberAt", "(I)I"⟩, 73), (⟨"BeamBoardModel", "formAt", "(II)I"⟩, 73), (⟨"BeamBoardModel", "isMirror", "(I)Z"⟩, 73), (⟨"BeamBoardModel", "remembers", "(II)V"⟩, 73)]
theorem lw_r5 : ∀ q ∈ lw_privs_5, lw_okq q := List.forall_mem_cons.mpr ⟨lw_p64, List.forall_mem_cons.mpr ⟨lw_p65, List.forall_mem_cons.mpr ⟨lw_p66, List.forall_mem_cons.mpr ⟨lw_p67, List.forall_mem_cons.mpr ⟨lw_p68, List.forall_mem_cons.mpr ⟨lw_p69, List.forall_mem_cons.mpr ⟨lw_p70, List.forall_mem_cons.mpr ⟨lw_p71, List.forall_mem_cons.mpr ⟨lw_p72, List.forall_mem_cons.mpr ⟨lw_p73, List.forall_mem_cons.mpr ⟨lw_p74, List.forall_mem_cons.mpr ⟨lw_p75, List.forall_mem_cons.mpr ⟨lw_p76, List.forall_mem_cons.mpr ⟨lw_p77, List.forall_mem_cons.mpr ⟨lw_p78, List.forall_mem_cons.mpr ⟨lw_p79, fun _ h => absurd h List.not_mem_nil⟩⟩⟩⟩⟩⟩⟩⟩⟩⟩⟩⟩⟩⟩⟩⟩
theorem lw_p80 : lw_okq (⟨"BeamBoardModel", "states", "()I"⟩, 73) := ⟨⟨by decide +kernel, by decide +kernel⟩, List.mem_of_getElem? (i := 865) (by decide +kernel), List.mem_of_getElem? (i := 1336) (by decide +kernel), List.mem_of_getElem? (i := 1337) (by decide +kernel)⟩
theorem lw_p81 : lw_okq (⟨"BeamBoardModel", "shines", "(I)V"⟩, 73) := ⟨⟨by decide +kernel, by decide +kernel⟩, List.mem_of_getElem? (i := 865) (by decide +kernel), List.mem_of_getElem? (i := 1348) (by decide +kernel), List.mem_of_getElem? (i := 1349) (by decide +kernel)⟩
theorem lw_p82 : lw_okq (⟨"BeamBoardModel", "sends", "(III)V"⟩, 73) := ⟨⟨by decide +kernel, by decide +kernel⟩, List.mem_of_getElem? (i := 865) (by decide +kernel), List.mem_of_getElem? (i := 1352) (by decide +kernel), List.mem_of_getElem? (i := 1353) (by decide +kernel)⟩
theorem lw_p83 : lw_okq (⟨"BeamBoardModel", "goes", "(IIII)V"⟩, 73) := ⟨⟨by decide +kernel, by decide +kernel⟩, List.mem_of_getElem? (i := 865) (by decide +kernel), List.mem_of_getElem? (i := 1356) (by decide +kernel), List.mem_of_getElem? (i := 1357) (by decide +kernel)⟩
theorem lw_p84 : lw_okq (⟨"BeamBoardModel", "into", "(I)I"⟩, 73) := ⟨⟨by decide +kernel, by decide +kernel⟩, List.mem_of_getElem? (i := 865) (by decide +kernel), List.mem_of_getElem? (i := 1367) (by decide +kernel), List.mem_of_getElem? (i := 1368) (by decide +kernel)⟩
theorem lw_p85 : lw_okq (⟨"BeamBoardModel", "seen", "(I)I"⟩, 73) := ⟨⟨by decide +kernel, by decide +kernel⟩, List.mem_of_getElem? (i := 865) (by decide +kernel), List.mem_of_getElem? (i := 1375) (by decide +kernel), List.mem_of_getElem? (i := 1376) (by decide +kernel)⟩
theorem lw_p86 : lw_okq (⟨"BeamBoardModel", "stepped", "(I)I"⟩, 73) := ⟨⟨by decide +kernel, by decide +kernel⟩, List.mem_of_getElem? (i := 865) (by decide +kernel), List.mem_of_getElem? (i := 1383) (by decide +kernel), List.mem_of_getElem? (i := 1384) (by decide +kernel)⟩
theorem lw_p87 : lw_okq (⟨"BeamBoardModel", "holds", "(I)Z"⟩, 73) := ⟨⟨by decide +kernel, by decide +kernel⟩, List.mem_of_getElem? (i := 865) (by decide +kernel), List.mem_of_getElem? (i := 1387) (by decide +kernel), List.mem_of_getElem? (i := 1388) (by decide +kernel)⟩
theorem lw_p88 : lw_okq (⟨"BeamBoardModel", "follows", "(I)V"⟩, 73) := ⟨⟨by decide +kernel, by decide +kernel⟩, List.mem_of_getElem? (i := 865) (by decide +kernel), List.mem_of_getElem? (i := 1395) (by decide +kernel), List.mem_of_getElem? (i := 1396) (by decide +kernel)⟩
theorem lw_p89 : lw_okq (⟨"BeamBoardModel", "isMet", "()Z"⟩, 73) := ⟨⟨by decide +kernel, by decide +kernel⟩, List.mem_of_getElem? (i := 865) (by decide +kernel), List.mem_of_getElem? (i := 1415) (by decide +kernel), List.mem_of_getElem? (i := 1416) (by decide +kernel)⟩
theorem lw_p90 : lw_okq (⟨"BeamBoardModel", "litEnd", "()I"⟩, 73) := ⟨⟨by decide +kernel, by decide +kernel⟩, List.mem_of_getElem? (i := 865) (by decide +kernel), List.mem_of_getElem? (i := 1419) (by decide +kernel), List.mem_of_getElem? (i := 1420) (by decide +kernel)⟩
theorem lw_p91 : lw_okq (⟨"BeamBoardModel", "litEyes", "()I"⟩, 73) := ⟨⟨by decide +kernel, by decide +kernel⟩, List.mem_of_getElem? (i := 865) (by decide +kernel), List.mem_of_getElem? (i := 1423) (by decide +kernel), List.mem_of_getElem? (i := 1424) (by decide +kernel)⟩
theorem lw_p92 : lw_okq (⟨"BeamBoardModel", "isEmpty", "(II)Z"⟩, 73) := ⟨⟨by decide +kernel, by decide +kernel⟩, List.mem_of_getElem? (i := 865) (by decide +kernel), List.mem_of_getElem? (i := 1439) (by decide +kernel), List.mem_of_getElem? (i := 1440) (by decide +kernel)⟩
theorem lw_p93 : lw_okq (⟨"BeamBoardModel", "shadowOf", "(II)I"⟩, 73) := ⟨⟨by decide +kernel, by decide +kernel⟩, List.mem_of_getElem? (i := 865) (by decide +kernel), List.mem_of_getElem? (i := 1443) (by decide +kernel), List.mem_of_getElem? (i := 1444) (by decide +kernel)⟩
theorem lw_p94 : lw_okq (⟨"BeamBoardModel", "solves", "()V"⟩, 73) := ⟨⟨by decide +kernel, by decide +kernel⟩, List.mem_of_getElem? (i := 865) (by decide +kernel), List.mem_of_getElem? (i := 1459) (by decide +kernel), List.mem_of_getElem? (i := 1460) (by decide +kernel)⟩
theorem lw_p95 : lw_okq (⟨"BeamBoardModel", "isLamp", "(I)Z"⟩, 73) := ⟨⟨by decide +kernel, by decide +kernel⟩, List.mem_of_getElem? (i := 865) (by decide +kernel), List.mem_of_getElem? (i := 1479) (by decide +kernel), List.mem_of_getElem? (i := 1480) (by decide +kernel)⟩
def lw_privs_6 : List (MethodName × Nat) := [(⟨"BeamBoardModel", "states", "()I"⟩, 73), (⟨"BeamBoardModel", "shines", "(I)V"⟩, 73), (⟨"BeamBoardModel", "sends", "(III)V"⟩, 73), (⟨"BeamBoardModel", "goes", "(IIII)V"⟩, 73), (⟨"BeamBoardModel", "into", "(I)I"⟩, 73), (⟨"BeamBoardModel", "seen", "(I)I"⟩, 73), (⟨"BeamBoardModel", "stepped", "(I)I"⟩, 73), (⟨"BeamBoardModel", "holds", "(I)Z"⟩, 73), (⟨"BeamBoardModel", "follows", "(I)V"⟩, 73), (⟨"BeamBoardModel", "isMet", "()Z"⟩, 73), (⟨"BeamBoardModel", "litEnd", "()I"⟩, 73), (⟨"BeamBoardModel", "litEyes", "()I"⟩, 73), (⟨"BeamBoardModel", "isEmpty", "(II)Z"⟩, 73), (⟨"BeamBoardModel", "shadowOf", "(II)I"⟩, 73), (⟨"BeamBoardModel", "solves", "()V"⟩, 73), (⟨"BeamBoardModel", "isLamp", "(I)Z"⟩, 73)]
theorem lw_r6 : ∀ q ∈ lw_privs_6, lw_okq q := List.forall_mem_cons.mpr ⟨lw_p80, List.forall_mem_cons.mpr ⟨lw_p81, List.forall_mem_cons.mpr ⟨lw_p82, List.forall_mem_cons.mpr ⟨lw_p83, List.forall_mem_cons.mpr ⟨lw_p84, List.forall_mem_cons.mpr ⟨lw_p85, List.forall_mem_cons.mpr ⟨lw_p86, List.forall_mem_cons.mpr ⟨lw_p87, List.forall_mem_cons.mpr ⟨lw_p88, List.forall_mem_cons.mpr ⟨lw_p89, List.forall_mem_cons.mpr ⟨lw_p90, List.forall_mem_cons.mpr ⟨lw_p91, List.forall_mem_cons.mpr ⟨lw_p92, List.forall_mem_cons.mpr ⟨lw_p93, List.forall_mem_cons.mpr ⟨lw_p94, List.forall_mem_cons.mpr ⟨lw_p95, fun _ h => absurd h List.not_mem_nil⟩⟩⟩⟩⟩⟩⟩⟩⟩⟩⟩⟩⟩⟩⟩⟩
theorem lw_p96 : lw_okq (⟨"BeamBoardModel", "isRing", "(II)Z"⟩, 73) := ⟨⟨by decide +kernel, by decide +kernel⟩, List.mem_of_getElem? (i := 865) (by decide +kernel), List.mem_of_getElem? (i := 1491) (by decide +kernel), List.mem_of_getElem? (i := 1492) (by decide +kernel)⟩
theorem lw_p97 : lw_okq (⟨"BeamBoardModel", "writes", "(I)V"⟩, 73) := ⟨⟨by decide +kernel, by decide +kernel⟩, List.mem_of_getElem? (i := 865) (by decide +kernel), List.mem_of_getElem? (i := 1511) (by decide +kernel), List.mem_of_getElem? (i := 1512) (by decide +kernel)⟩
theorem lw_p98 : lw_okq (⟨"BeamBoardModel", "isImage", "(I)Z"⟩, 73) := ⟨⟨by decide +kernel, by decide +kernel⟩, List.mem_of_getElem? (i := 865) (by decide +kernel), List.mem_of_getElem? (i := 1523) (by decide +kernel), List.mem_of_getElem? (i := 1524) (by decide +kernel)⟩
def lw_privs_7 : List (MethodName × Nat) := [(⟨"BeamBoardModel", "isRing", "(II)Z"⟩, 73), (⟨"BeamBoardModel", "writes", "(I)V"⟩, 73), (⟨"BeamBoardModel", "isImage", "(I)Z"⟩, 73)]
theorem lw_r7 : ∀ q ∈ lw_privs_7, lw_okq q := List.forall_mem_cons.mpr ⟨lw_p96, List.forall_mem_cons.mpr ⟨lw_p97, List.forall_mem_cons.mpr ⟨lw_p98, fun _ h => absurd h List.not_mem_nil⟩⟩⟩
def lw_privs : List (MethodName × Nat) := lw_privs_1 ++ (lw_privs_2 ++ (lw_privs_3 ++ (lw_privs_4 ++ (lw_privs_5 ++ (lw_privs_6 ++ (lw_privs_7))))))
def lw_tbl : List Cond := k2_sels lw_privs ++ tables_1
theorem lw_privs_ok : ∀ q ∈ lw_privs, lw_okq q := by
  show ∀ q ∈ lw_privs_1 ++ (lw_privs_2 ++ (lw_privs_3 ++ (lw_privs_4 ++ (lw_privs_5 ++ (lw_privs_6 ++ (lw_privs_7)))))), lw_okq q
  exact List.forall_mem_append.mpr ⟨lw_r1, List.forall_mem_append.mpr ⟨lw_r2, List.forall_mem_append.mpr ⟨lw_r3, List.forall_mem_append.mpr ⟨lw_r4, List.forall_mem_append.mpr ⟨lw_r5, List.forall_mem_append.mpr ⟨lw_r6, lw_r7⟩⟩⟩⟩⟩⟩

def zR_C : String := "BeamBoard$Course"
def zF_C : u_T := fun k => match k with
  | 0 => ("BeamBoard$Course", "light", "LBeamBoard$Light;", true)
  | 1 => ("BeamBoard$Course", "following", "[I", true)
  | 2 => ("BeamBoard$Course", "eyes", "[I", true)
  | 3 => ("BeamBoard$Course", "path", "[I", true)
  | 4 => ("BeamBoard$Course", "placeOnPath", "[I", true)
  | 5 => ("BeamBoard$Course", "pathLength", "I", false)
  | _ => ("BeamBoard$Course", "lead", "I", false)
def zT_C : Nat → FieldType := fun k => match k with
  | 0 => .object "BeamBoard$Light"
  | 1 => .array .int
  | 2 => .array .int
  | 3 => .array .int
  | 4 => .array .int
  | 5 => .int
  | _ => .int
theorem zn_C : ∀ a, a < 7 → ∀ b, b < 7 → a ≠ b → (zF_C a).2.1 ≠ (zF_C b).2.1 := by decide +kernel
theorem zt_C : ∀ k, k < 7 → parseFieldDescriptor (zF_C k).2.2.1 = some (zT_C k) := by decide +kernel
theorem zi_C : ∀ w ∈ u_ws zR_C zF_C 7, w ∈ lw_tbl := by decide +kernel
def zR_L : String := "BeamBoard$Light"
def zF_L : u_T := fun k => match k with
  | 0 => ("BeamBoard$Light", "into", "[I", true)
  | 1 => ("BeamBoard$Light", "seen", "[I", true)
  | 2 => ("BeamBoard$Light", "eyesLit", "I", false)
  | 3 => ("BeamBoard$Light", "arrivals", "I", false)
  | 4 => ("BeamBoard$Light", "arrived", "[I", true)
  | 5 => ("BeamBoard$Light", "far", "[I", true)
  | 6 => ("BeamBoard$Light", "turned", "I", false)
  | _ => ("BeamBoard$Light", "state", "I", false)
def zT_L : Nat → FieldType := fun k => match k with
  | 0 => .array .int
  | 1 => .array .int
  | 2 => .int
  | 3 => .int
  | 4 => .array .int
  | 5 => .array .int
  | 6 => .int
  | _ => .int
theorem zn_L : ∀ a, a < 8 → ∀ b, b < 8 → a ≠ b → (zF_L a).2.1 ≠ (zF_L b).2.1 := by decide +kernel
theorem zt_L : ∀ k, k < 8 → parseFieldDescriptor (zF_L k).2.2.1 = some (zT_L k) := by decide +kernel
theorem zi_L : ∀ w ∈ u_ws zR_L zF_L 8, w ∈ lw_tbl := by decide +kernel
def zR_R : String := "BeamBoard$Reader"
def zF_R : u_T := fun k => match k with
  | 0 => ("BeamBoard$Reader", "faultFound", "I", false)
  | 1 => ("BeamBoard$Reader", "faultPlace", "I", false)
  | 2 => ("BeamBoard$Reader", "tokens", "LBeamBoard$Tokens;", true)
  | 3 => ("BeamBoard$Reader", "at", "I", false)
  | 4 => ("BeamBoard$Reader", "table", "LBeamBoard$Table;", false)
  | 5 => ("BeamBoard$Reader", "seenName", "[I", true)
  | 6 => ("BeamBoard$Reader", "seenPlace", "[I", true)
  | 7 => ("BeamBoard$Reader", "seenCode", "[I", true)
  | _ => ("BeamBoard$Reader", "seenCount", "I", false)
def zT_R : Nat → FieldType := fun k => match k with
  | 0 => .int
  | 1 => .int
  | 2 => .object "BeamBoard$Tokens"
  | 3 => .int
  | 4 => .object "BeamBoard$Table"
  | 5 => .array .int
  | 6 => .array .int
  | 7 => .array .int
  | _ => .int
theorem zn_R : ∀ a, a < 9 → ∀ b, b < 9 → a ≠ b → (zF_R a).2.1 ≠ (zF_R b).2.1 := by decide +kernel
theorem zt_R : ∀ k, k < 9 → parseFieldDescriptor (zF_R k).2.2.1 = some (zT_R k) := by decide +kernel
theorem zi_R : ∀ w ∈ u_ws zR_R zF_R 9, w ∈ lw_tbl := by decide +kernel
def zR_S : String := "BeamBoard$Settings"
def zF_S : u_T := fun k => match k with
  | 0 => ("BeamBoard$Settings", "turned", "[I", true)
  | 1 => ("BeamBoard$Settings", "state", "[I", true)
  | _ => ("BeamBoard$Settings", "count", "I", false)
def zT_S : Nat → FieldType := fun k => match k with
  | 0 => .array .int
  | 1 => .array .int
  | _ => .int
theorem zn_S : ∀ a, a < 3 → ∀ b, b < 3 → a ≠ b → (zF_S a).2.1 ≠ (zF_S b).2.1 := by decide +kernel
theorem zt_S : ∀ k, k < 3 → parseFieldDescriptor (zF_S k).2.2.1 = some (zT_S k) := by decide +kernel
theorem zi_S : ∀ w ∈ u_ws zR_S zF_S 3, w ∈ lw_tbl := by decide +kernel
def zR_T : String := "BeamBoard$Table"
def zF_T : u_T := fun k => match k with
  | 0 => ("BeamBoard$Table", "columns", "I", false)
  | 1 => ("BeamBoard$Table", "rows", "I", false)
  | 2 => ("BeamBoard$Table", "next", "[I", true)
  | 3 => ("BeamBoard$Table", "pieceOn", "[I", true)
  | 4 => ("BeamBoard$Table", "pieces", "I", false)
  | 5 => ("BeamBoard$Table", "squareOf", "[I", true)
  | 6 => ("BeamBoard$Table", "sort", "[I", true)
  | 7 => ("BeamBoard$Table", "number", "[I", true)
  | 8 => ("BeamBoard$Table", "look", "[I", true)
  | 9 => ("BeamBoard$Table", "wayOf", "[I", true)
  | 10 => ("BeamBoard$Table", "count", "[I", true)
  | 11 => ("BeamBoard$Table", "members", "[I", true)
  | 12 => ("BeamBoard$Table", "names", "[I", true)
  | 13 => ("BeamBoard$Table", "code", "[I", true)
  | 14 => ("BeamBoard$Table", "codeLength", "I", false)
  | _ => ("BeamBoard$Table", "codeEnd", "[I", true)
def zT_T : Nat → FieldType := fun k => match k with
  | 0 => .int
  | 1 => .int
  | 2 => .array .int
  | 3 => .array .int
  | 4 => .int
  | 5 => .array .int
  | 6 => .array .int
  | 7 => .array .int
  | 8 => .array .int
  | 9 => .array .int
  | 10 => .array .int
  | 11 => .array .int
  | 12 => .array .int
  | 13 => .array .int
  | 14 => .int
  | _ => .array .int
theorem zn_T : ∀ a, a < 16 → ∀ b, b < 16 → a ≠ b → (zF_T a).2.1 ≠ (zF_T b).2.1 := by decide +kernel
theorem zt_T : ∀ k, k < 16 → parseFieldDescriptor (zF_T k).2.2.1 = some (zT_T k) := by decide +kernel
theorem zi_T : ∀ w ∈ u_ws zR_T zF_T 16, w ∈ lw_tbl := by decide +kernel
def zR_K : String := "BeamBoard$Tokens"
def zF_K : u_T := fun k => match k with
  | 0 => ("BeamBoard$Tokens", "kind", "[I", true)
  | 1 => ("BeamBoard$Tokens", "value", "[I", true)
  | 2 => ("BeamBoard$Tokens", "place", "[I", true)
  | 3 => ("BeamBoard$Tokens", "faultPlace", "[I", true)
  | 4 => ("BeamBoard$Tokens", "count", "I", false)
  | _ => ("BeamBoard$Tokens", "text", "[I", false)
def zT_K : Nat → FieldType := fun k => match k with
  | 0 => .array .int
  | 1 => .array .int
  | 2 => .array .int
  | 3 => .array .int
  | 4 => .int
  | _ => .array .int
theorem zn_K : ∀ a, a < 6 → ∀ b, b < 6 → a ≠ b → (zF_K a).2.1 ≠ (zF_K b).2.1 := by decide +kernel
theorem zt_K : ∀ k, k < 6 → parseFieldDescriptor (zF_K k).2.2.1 = some (zT_K k) := by decide +kernel
theorem zi_K : ∀ w ∈ u_ws zR_K zF_K 6, w ∈ lw_tbl := by decide +kernel
def zR_B : String := "BeamBoard"
def zF_B : u_T := fun k => match k with
  | 0 => ("BeamBoard", "tape", "[I", true)
  | 1 => ("BeamBoard", "tapeLength", "I", false)
  | 2 => ("BeamBoard", "reader", "LBeamBoard$Reader;", true)
  | 3 => ("BeamBoard", "table", "LBeamBoard$Table;", false)
  | 4 => ("BeamBoard", "course", "LBeamBoard$Course;", true)
  | 5 => ("BeamBoard", "ringLight", "LBeamBoard$Light;", true)
  | 6 => ("BeamBoard", "marks", "[I", true)
  | 7 => ("BeamBoard", "turned", "I", false)
  | 8 => ("BeamBoard", "state", "I", false)
  | 9 => ("BeamBoard", "wantedLit", "I", false)
  | 10 => ("BeamBoard", "wantedDark", "I", false)
  | 11 => ("BeamBoard", "past", "LBeamBoard$Settings;", true)
  | 12 => ("BeamBoard", "written", "[I", true)
  | _ => ("BeamBoard", "writtenLength", "I", false)
def zT_B : Nat → FieldType := fun k => match k with
  | 0 => .array .int
  | 1 => .int
  | 2 => .object "BeamBoard$Reader"
  | 3 => .object "BeamBoard$Table"
  | 4 => .object "BeamBoard$Course"
  | 5 => .object "BeamBoard$Light"
  | 6 => .array .int
  | 7 => .int
  | 8 => .int
  | 9 => .int
  | 10 => .int
  | 11 => .object "BeamBoard$Settings"
  | 12 => .array .int
  | _ => .int
theorem zn_B : ∀ a, a < 14 → ∀ b, b < 14 → a ≠ b → (zF_B a).2.1 ≠ (zF_B b).2.1 := by decide +kernel
theorem zt_B : ∀ k, k < 14 → parseFieldDescriptor (zF_B k).2.2.1 = some (zT_B k) := by decide +kernel
theorem zi_B : ∀ w ∈ u_ws zR_B zF_B 14, w ∈ lw_tbl := by decide +kernel
def zR_M : String := "BeamBoardModel"
def zF_M : u_T := fun k => match k with
  | 0 => ("BeamBoardModel", "tape", "[I", true)
  | 1 => ("BeamBoardModel", "taped", "I", false)
  | 2 => ("BeamBoardModel", "toldKind", "I", false)
  | 3 => ("BeamBoardModel", "toldPlace", "I", false)
  | 4 => ("BeamBoardModel", "size", "I", false)
  | 5 => ("BeamBoardModel", "signAt", "I", false)
  | 6 => ("BeamBoardModel", "signEnd", "I", false)
  | 7 => ("BeamBoardModel", "sign", "I", false)
  | 8 => ("BeamBoardModel", "word", "J", false)
  | 9 => ("BeamBoardModel", "value", "I", false)
  | 10 => ("BeamBoardModel", "faultKind", "I", false)
  | 11 => ("BeamBoardModel", "faultPlace", "I", false)
  | 12 => ("BeamBoardModel", "wrongAt", "I", false)
  | 13 => ("BeamBoardModel", "bank", "I", false)
  | 14 => ("BeamBoardModel", "columns", "[I", true)
  | 15 => ("BeamBoardModel", "rows", "[I", true)
  | 16 => ("BeamBoardModel", "pieces", "[I", true)
  | 17 => ("BeamBoardModel", "lamps", "[I", true)
  | 18 => ("BeamBoardModel", "mirrors", "[I", true)
  | 19 => ("BeamBoardModel", "movers", "[I", true)
  | 20 => ("BeamBoardModel", "eyes", "[I", true)
  | 21 => ("BeamBoardModel", "sort", "[I", true)
  | 22 => ("BeamBoardModel", "which", "[I", true)
  | 23 => ("BeamBoardModel", "form", "[I", true)
  | 24 => ("BeamBoardModel", "way", "[I", true)
  | 25 => ("BeamBoardModel", "eyeName", "[J", true)
  | 26 => ("BeamBoardModel", "eyeAt", "[I", true)
  | 27 => ("BeamBoardModel", "testFrom", "[I", true)
  | 28 => ("BeamBoardModel", "testTo", "[I", true)
  | 29 => ("BeamBoardModel", "codeSort", "[I", true)
  | 30 => ("BeamBoardModel", "codeColour", "[I", true)
  | 31 => ("BeamBoardModel", "codeEye", "[I", true)
  | 32 => ("BeamBoardModel", "asked", "[J", true)
  | 33 => ("BeamBoardModel", "askedAt", "[I", true)
  | 34 => ("BeamBoardModel", "codes", "I", false)
  | 35 => ("BeamBoardModel", "in", "I", false)
  | 36 => ("BeamBoardModel", "kind", "[I", true)
  | 37 => ("BeamBoardModel", "hasAnd", "[Z", true)
  | 38 => ("BeamBoardModel", "hasOr", "[Z", true)
  | 39 => ("BeamBoardModel", "deep", "I", false)
  | 40 => ("BeamBoardModel", "open", "I", false)
  | 41 => ("BeamBoardModel", "isThere", "Z", false)
  | 42 => ("BeamBoardModel", "turned", "I", false)
  | 43 => ("BeamBoardModel", "state", "I", false)
  | 44 => ("BeamBoardModel", "wishes", "[I", true)
  | 45 => ("BeamBoardModel", "lacks", "I", false)
  | 46 => ("BeamBoardModel", "extra", "I", false)
  | 47 => ("BeamBoardModel", "extraSort", "I", false)
  | 48 => ("BeamBoardModel", "extraForm", "I", false)
  | 49 => ("BeamBoardModel", "swapOne", "I", false)
  | 50 => ("BeamBoardModel", "swapTwo", "I", false)
  | 51 => ("BeamBoardModel", "tintAt", "I", false)
  | 52 => ("BeamBoardModel", "tintOf", "I", false)
  | 53 => ("BeamBoardModel", "comes", "[I", true)
  | 54 => ("BeamBoardModel", "stack", "[I", true)
  | 55 => ("BeamBoardModel", "height", "I", false)
  | 56 => ("BeamBoardModel", "onlyLamp", "I", false)
  | 57 => ("BeamBoardModel", "heap", "[Z", true)
  | 58 => ("BeamBoardModel", "when", "[I", true)
  | 59 => ("BeamBoardModel", "ahead", "I", false)
  | 60 => ("BeamBoardModel", "circle", "I", false)
  | 61 => ("BeamBoardModel", "firstOf", "I", false)
  | 62 => ("BeamBoardModel", "leastOf", "I", false)
  | 63 => ("BeamBoardModel", "solved", "I", false)
  | 64 => ("BeamBoardModel", "sure", "I", false)
  | 65 => ("BeamBoardModel", "bare", "I", false)
  | 66 => ("BeamBoardModel", "far", "[I", true)
  | 67 => ("BeamBoardModel", "isLit", "[Z", true)
  | 68 => ("BeamBoardModel", "settings", "I", false)
  | 69 => ("BeamBoardModel", "wasTurned", "[I", true)
  | 70 => ("BeamBoardModel", "wasState", "[I", true)
  | 71 => ("BeamBoardModel", "out", "[I", true)
  | _ => ("BeamBoardModel", "outs", "I", false)
def zT_M : Nat → FieldType := fun k => match k with
  | 0 => .array .int
  | 1 => .int
  | 2 => .int
  | 3 => .int
  | 4 => .int
  | 5 => .int
  | 6 => .int
  | 7 => .int
  | 8 => .long
  | 9 => .int
  | 10 => .int
  | 11 => .int
  | 12 => .int
  | 13 => .int
  | 14 => .array .int
  | 15 => .array .int
  | 16 => .array .int
  | 17 => .array .int
  | 18 => .array .int
  | 19 => .array .int
  | 20 => .array .int
  | 21 => .array .int
  | 22 => .array .int
  | 23 => .array .int
  | 24 => .array .int
  | 25 => .array .long
  | 26 => .array .int
  | 27 => .array .int
  | 28 => .array .int
  | 29 => .array .int
  | 30 => .array .int
  | 31 => .array .int
  | 32 => .array .long
  | 33 => .array .int
  | 34 => .int
  | 35 => .int
  | 36 => .array .int
  | 37 => .array .boolean
  | 38 => .array .boolean
  | 39 => .int
  | 40 => .int
  | 41 => .boolean
  | 42 => .int
  | 43 => .int
  | 44 => .array .int
  | 45 => .int
  | 46 => .int
  | 47 => .int
  | 48 => .int
  | 49 => .int
  | 50 => .int
  | 51 => .int
  | 52 => .int
  | 53 => .array .int
  | 54 => .array .int
  | 55 => .int
  | 56 => .int
  | 57 => .array .boolean
  | 58 => .array .int
  | 59 => .int
  | 60 => .int
  | 61 => .int
  | 62 => .int
  | 63 => .int
  | 64 => .int
  | 65 => .int
  | 66 => .array .int
  | 67 => .array .boolean
  | 68 => .int
  | 69 => .array .int
  | 70 => .array .int
  | 71 => .array .int
  | _ => .int
theorem zn_M : ∀ a, a < 73 → ∀ b, b < 73 → a ≠ b → (zF_M a).2.1 ≠ (zF_M b).2.1 := by decide +kernel
theorem zt_M : ∀ k, k < 73 → parseFieldDescriptor (zF_M k).2.2.1 = some (zT_M k) := by decide +kernel
theorem zi_M : ∀ w ∈ u_ws zR_M zF_M 73, w ∈ lw_tbl := by decide +kernel
def zR_JI : String := "java/lang/Integer"
def zR_JM : String := "java/lang/Math"
def zR_JS : String := "java/lang/String"
def zR_JL : String := "java/lang/StringLatin1"
def zR_JU : String := "java/lang/StringUTF16"
def zR_JY : String := "java/lang/System"
def zR_JA : String := "java/util/Arrays"
def zR_JP : String := "jdk/internal/util/Preconditions"
def zR_W : String := "BeamBoardLaw"
abbrev zcl : List vw_C := [(zR_C, zF_C, 7), (zR_L, zF_L, 8), (zR_R, zF_R, 9), (zR_S, zF_S, 3), (zR_T, zF_T, 16), (zR_K, zF_K, 6), (zR_B, zF_B, 14), (zR_M, zF_M, 73)]
abbrev zb_C_init : ByteArray := prog_2_method_1_code
def zy_C_init : MethodName := ⟨zR_C, "<init>", "()V"⟩
abbrev zb_C_stepFrom : ByteArray := prog_2_method_2_code
def zy_C_stepFrom : MethodName := ⟨zR_C, "stepFrom", "(LBeamBoard$Table;II)I"⟩
abbrev zb_C_eyesInEnd : ByteArray := prog_2_method_3_code
def zy_C_eyesInEnd : MethodName := ⟨zR_C, "eyesInEnd", "(LBeamBoard$Table;II)I"⟩
abbrev zb_C_mark : ByteArray := prog_2_method_4_code
def zy_C_mark : MethodName := ⟨zR_C, "mark", "(LBeamBoard$Table;II[I)V"⟩
abbrev zb_C_forget : ByteArray := prog_2_method_5_code
def zy_C_forget : MethodName := ⟨zR_C, "forget", "()V"⟩
abbrev zb_C_after : ByteArray := prog_2_method_6_code
def zy_C_after : MethodName := ⟨zR_C, "after", "(LBeamBoard$Table;II)I"⟩
abbrev zb_C_walk : ByteArray := prog_2_method_7_code
def zy_C_walk : MethodName := ⟨zR_C, "walk", "(LBeamBoard$Table;II)V"⟩
abbrev zb_C_roundLength : ByteArray := prog_2_method_8_code
def zy_C_roundLength : MethodName := ⟨zR_C, "roundLength", "()I"⟩
abbrev zb_C_isInRound : ByteArray := prog_2_method_9_code
def zy_C_isInRound : MethodName := ⟨zR_C, "isInRound", "(I)Z"⟩
abbrev zb_C_leastOfRound : ByteArray := prog_2_method_10_code
def zy_C_leastOfRound : MethodName := ⟨zR_C, "leastOfRound", "()I"⟩
abbrev zb_C_eyesOfRound : ByteArray := prog_2_method_11_code
def zy_C_eyesOfRound : MethodName := ⟨zR_C, "eyesOfRound", "(Z)I"⟩
abbrev zb_L_init : ByteArray := prog_3_method_1_code
def zy_L_init : MethodName := ⟨zR_L, "<init>", "()V"⟩
abbrev zb_L_shine : ByteArray := prog_3_method_2_code
def zy_L_shine : MethodName := ⟨zR_L, "shine", "(LBeamBoard$Table;IIII)V"⟩
abbrev zb_L_comesAgain : ByteArray := prog_3_method_3_code
def zy_L_comesAgain : MethodName := ⟨zR_L, "comesAgain", "(LBeamBoard$Table;IIII)Z"⟩
abbrev zb_L_darken : ByteArray := prog_3_method_4_code
def zy_L_darken : MethodName := ⟨zR_L, "darken", "()V"⟩
abbrev zb_L_spread : ByteArray := prog_3_method_5_code
def zy_L_spread : MethodName := ⟨zR_L, "spread", "(LBeamBoard$Table;)V"⟩
abbrev zb_L_pass : ByteArray := prog_3_method_6_code
def zy_L_pass : MethodName := ⟨zR_L, "pass", "(LBeamBoard$Table;II)V"⟩
abbrev zb_L_turnedWay : ByteArray := prog_3_method_7_code
def zy_L_turnedWay : MethodName := ⟨zR_L, "turnedWay", "(II)I"⟩
abbrev zb_L_send : ByteArray := prog_3_method_8_code
def zy_L_send : MethodName := ⟨zR_L, "send", "(III)V"⟩
abbrev zb_L_comesInto : ByteArray := prog_3_method_9_code
def zy_L_comesInto : MethodName := ⟨zR_L, "comesInto", "(I)I"⟩
abbrev zb_L_leastTo : ByteArray := prog_3_method_10_code
def zy_L_leastTo : MethodName := ⟨zR_L, "leastTo", "(I)I"⟩
abbrev zb_L_arrivedNode : ByteArray := prog_3_method_11_code
def zy_L_arrivedNode : MethodName := ⟨zR_L, "arrivedNode", "(I)I"⟩
abbrev zb_R_init : ByteArray := prog_4_method_1_code
def zy_R_init : MethodName := ⟨zR_R, "<init>", "()V"⟩
abbrev zb_R_giveTable : ByteArray := prog_4_method_2_code
def zy_R_giveTable : MethodName := ⟨zR_R, "giveTable", "(LBeamBoard$Table;)LBeamBoard$Table;"⟩
abbrev zb_R_read : ByteArray := prog_4_method_3_code
def zy_R_read : MethodName := ⟨zR_R, "read", "([II)I"⟩
abbrev zb_R_readSize : ByteArray := prog_4_method_4_code
def zy_R_readSize : MethodName := ⟨zR_R, "readSize", "()V"⟩
abbrev zb_R_readPiece : ByteArray := prog_4_method_5_code
def zy_R_readPiece : MethodName := ⟨zR_R, "readPiece", "()V"⟩
abbrev zb_R_readNewName : ByteArray := prog_4_method_6_code
def zy_R_readNewName : MethodName := ⟨zR_R, "readNewName", "()V"⟩
abbrev zb_R_readSquare : ByteArray := prog_4_method_7_code
def zy_R_readSquare : MethodName := ⟨zR_R, "readSquare", "()I"⟩
abbrev zb_R_readTest : ByteArray := prog_4_method_8_code
def zy_R_readTest : MethodName := ⟨zR_R, "readTest", "(I)V"⟩
abbrev zb_R_readFact : ByteArray := prog_4_method_9_code
def zy_R_readFact : MethodName := ⟨zR_R, "readFact", "(I)V"⟩
abbrev zb_R_readSees : ByteArray := prog_4_method_10_code
def zy_R_readSees : MethodName := ⟨zR_R, "readSees", "()V"⟩
abbrev zb_R_findSeenEyes : ByteArray := prog_4_method_11_code
def zy_R_findSeenEyes : MethodName := ⟨zR_R, "findSeenEyes", "()V"⟩
abbrev zb_R_colourOf : ByteArray := prog_4_method_12_code
def zy_R_colourOf : MethodName := ⟨zR_R, "colourOf", "(I)I"⟩
abbrev zb_R_choose : ByteArray := prog_4_method_13_code
def zy_R_choose : MethodName := ⟨zR_R, "choose", "(II)I"⟩
abbrev zb_R_readNumber : ByteArray := prog_4_method_14_code
def zy_R_readNumber : MethodName := ⟨zR_R, "readNumber", "(II)I"⟩
abbrev zb_R_isWord : ByteArray := prog_4_method_15_code
def zy_R_isWord : MethodName := ⟨zR_R, "isWord", "(I)Z"⟩
abbrev zb_R_isSign : ByteArray := prog_4_method_16_code
def zy_R_isSign : MethodName := ⟨zR_R, "isSign", "(I)Z"⟩
abbrev zb_R_expect : ByteArray := prog_4_method_17_code
def zy_R_expect : MethodName := ⟨zR_R, "expect", "(I)V"⟩
abbrev zb_R_expectSign : ByteArray := prog_4_method_18_code
def zy_R_expectSign : MethodName := ⟨zR_R, "expectSign", "(I)V"⟩
abbrev zb_R_advance : ByteArray := prog_4_method_19_code
def zy_R_advance : MethodName := ⟨zR_R, "advance", "()V"⟩
abbrev zb_R_refuseToken : ByteArray := prog_4_method_20_code
def zy_R_refuseToken : MethodName := ⟨zR_R, "refuseToken", "()V"⟩
abbrev zb_R_refuse : ByteArray := prog_4_method_21_code
def zy_R_refuse : MethodName := ⟨zR_R, "refuse", "(II)V"⟩
abbrev zb_S_init : ByteArray := prog_5_method_1_code
def zy_S_init : MethodName := ⟨zR_S, "<init>", "()V"⟩
abbrev zb_S_add : ByteArray := prog_5_method_2_code
def zy_S_add : MethodName := ⟨zR_S, "add", "(II)V"⟩
abbrev zb_T_init : ByteArray := prog_6_method_1_code
def zy_T_init : MethodName := ⟨zR_T, "<init>", "()V"⟩
abbrev zb_T_clear : ByteArray := prog_6_method_2_code
def zy_T_clear : MethodName := ⟨zR_T, "clear", "()V"⟩
abbrev zb_T_resize : ByteArray := prog_6_method_3_code
def zy_T_resize : MethodName := ⟨zR_T, "resize", "(II)V"⟩
abbrev zb_T_add : ByteArray := prog_6_method_4_code
def zy_T_add : MethodName := ⟨zR_T, "add", "(IIII)V"⟩
abbrev zb_T_groupOf : ByteArray := prog_6_method_5_code
def zy_T_groupOf : MethodName := ⟨zR_T, "groupOf", "(I)I"⟩
abbrev zb_T_isFull : ByteArray := prog_6_method_6_code
def zy_T_isFull : MethodName := ⟨zR_T, "isFull", "(I)Z"⟩
abbrev zb_T_put : ByteArray := prog_6_method_7_code
def zy_T_put : MethodName := ⟨zR_T, "put", "(II)V"⟩
abbrev zb_T_putTried : ByteArray := prog_6_method_8_code
def zy_T_putTried : MethodName := ⟨zR_T, "putTried", "(III)V"⟩
abbrev zb_T_squareAt : ByteArray := prog_6_method_9_code
def zy_T_squareAt : MethodName := ⟨zR_T, "squareAt", "(II)I"⟩
abbrev zb_T_squareCount : ByteArray := prog_6_method_10_code
def zy_T_squareCount : MethodName := ⟨zR_T, "squareCount", "()I"⟩
abbrev zb_T_columnOf : ByteArray := prog_6_method_11_code
def zy_T_columnOf : MethodName := ⟨zR_T, "columnOf", "(I)I"⟩
abbrev zb_T_rowOf : ByteArray := prog_6_method_12_code
def zy_T_rowOf : MethodName := ⟨zR_T, "rowOf", "(I)I"⟩
abbrev zb_T_pieceOf : ByteArray := prog_6_method_13_code
def zy_T_pieceOf : MethodName := ⟨zR_T, "pieceOf", "(II)I"⟩
abbrev zb_T_squareOf : ByteArray := prog_6_method_14_code
def zy_T_squareOf : MethodName := ⟨zR_T, "squareOf", "(II)I"⟩
abbrev zb_T_lookNow : ByteArray := prog_6_method_15_code
def zy_T_lookNow : MethodName := ⟨zR_T, "lookNow", "(III)I"⟩
abbrev zb_T_eyeNamed : ByteArray := prog_6_method_16_code
def zy_T_eyeNamed : MethodName := ⟨zR_T, "eyeNamed", "(I)I"⟩
abbrev zb_T_nameLetter : ByteArray := prog_6_method_17_code
def zy_T_nameLetter : MethodName := ⟨zR_T, "nameLetter", "(II)I"⟩
abbrev zb_T_addCode : ByteArray := prog_6_method_18_code
def zy_T_addCode : MethodName := ⟨zR_T, "addCode", "(I)V"⟩
abbrev zb_T_holds : ByteArray := prog_6_method_19_code
def zy_T_holds : MethodName := ⟨zR_T, "holds", "(I[I)Z"⟩
abbrev zb_T_codeOfSees : ByteArray := prog_6_method_20_code
def zy_T_codeOfSees : MethodName := ⟨zR_T, "codeOfSees", "(II)I"⟩
abbrev zb_T_eyeOfCode : ByteArray := prog_6_method_21_code
def zy_T_eyeOfCode : MethodName := ⟨zR_T, "eyeOfCode", "(I)I"⟩
abbrev zb_K_init : ByteArray := prog_7_method_1_code
def zy_K_init : MethodName := ⟨zR_K, "<init>", "()V"⟩
abbrev zb_K_split : ByteArray := prog_7_method_2_code
def zy_K_split : MethodName := ⟨zR_K, "split", "([II)V"⟩
abbrev zb_K_addWordOrNumber : ByteArray := prog_7_method_3_code
def zy_K_addWordOrNumber : MethodName := ⟨zR_K, "addWordOrNumber", "(II)V"⟩
abbrev zb_K_put : ByteArray := prog_7_method_4_code
def zy_K_put : MethodName := ⟨zR_K, "put", "(IIII)V"⟩
abbrev zb_K_packed : ByteArray := prog_7_method_5_code
def zy_K_packed : MethodName := ⟨zR_K, "packed", "(IIII)I"⟩
abbrev zb_K_ownWord : ByteArray := prog_7_method_6_code
def zy_K_ownWord : MethodName := ⟨zR_K, "ownWord", "(II)I"⟩
abbrev zb_K_isLikeFirst : ByteArray := prog_7_method_7_code
def zy_K_isLikeFirst : MethodName := ⟨zR_K, "isLikeFirst", "(II)Z"⟩
abbrev zb_K_isLetter : ByteArray := prog_7_method_8_code
def zy_K_isLetter : MethodName := ⟨zR_K, "isLetter", "(I)Z"⟩
abbrev zb_K_isDigit : ByteArray := prog_7_method_9_code
def zy_K_isDigit : MethodName := ⟨zR_K, "isDigit", "(I)Z"⟩
abbrev zb_B_init : ByteArray := prog_1_method_1_code
def zy_B_init : MethodName := ⟨zR_B, "<init>", "()V"⟩
abbrev zb_B_feed : ByteArray := prog_1_method_2_code
def zy_B_feed : MethodName := ⟨zR_B, "feed", "(IIIII)I"⟩
abbrev zb_B_putOnTape : ByteArray := prog_1_method_3_code
def zy_B_putOnTape : MethodName := ⟨zR_B, "putOnTape", "(I)V"⟩
abbrev zb_B_end : ByteArray := prog_1_method_4_code
def zy_B_end : MethodName := ⟨zR_B, "end", "(I)Z"⟩
abbrev zb_B_board : ByteArray := prog_1_method_5_code
def zy_B_board : MethodName := ⟨zR_B, "board", "()I"⟩
abbrev zb_B_fault : ByteArray := prog_1_method_6_code
def zy_B_fault : MethodName := ⟨zR_B, "fault", "(I)I"⟩
abbrev zb_B_has : ByteArray := prog_1_method_7_code
def zy_B_has : MethodName := ⟨zR_B, "has", "(I)I"⟩
abbrev zb_B_letter : ByteArray := prog_1_method_8_code
def zy_B_letter : MethodName := ⟨zR_B, "letter", "(II)I"⟩
abbrev zb_B_square : ByteArray := prog_1_method_9_code
def zy_B_square : MethodName := ⟨zR_B, "square", "(III)I"⟩
abbrev zb_B_turn : ByteArray := prog_1_method_10_code
def zy_B_turn : MethodName := ⟨zR_B, "turn", "(I)I"⟩
abbrev zb_B_turned : ByteArray := prog_1_method_11_code
def zy_B_turned : MethodName := ⟨zR_B, "turned", "()I"⟩
abbrev zb_B_set : ByteArray := prog_1_method_12_code
def zy_B_set : MethodName := ⟨zR_B, "set", "(I)Z"⟩
abbrev zb_B_state : ByteArray := prog_1_method_13_code
def zy_B_state : MethodName := ⟨zR_B, "state", "()I"⟩
abbrev zb_B_light : ByteArray := prog_1_method_14_code
def zy_B_light : MethodName := ⟨zR_B, "light", "(III)I"⟩
abbrev zb_B_lit : ByteArray := prog_1_method_15_code
def zy_B_lit : MethodName := ⟨zR_B, "lit", "(I)I"⟩
abbrev zb_B_sees : ByteArray := prog_1_method_16_code
def zy_B_sees : MethodName := ⟨zR_B, "sees", "(I)I"⟩
abbrev zb_B_step : ByteArray := prog_1_method_17_code
def zy_B_step : MethodName := ⟨zR_B, "step", "(I)I"⟩
abbrev zb_B_round : ByteArray := prog_1_method_18_code
def zy_B_round : MethodName := ⟨zR_B, "round", "(I)I"⟩
abbrev zb_B_rests : ByteArray := prog_1_method_19_code
def zy_B_rests : MethodName := ⟨zR_B, "rests", "(I)I"⟩
abbrev zb_B_drawn : ByteArray := prog_1_method_20_code
def zy_B_drawn : MethodName := ⟨zR_B, "drawn", "(I)I"⟩
abbrev zb_B_wish : ByteArray := prog_1_method_21_code
def zy_B_wish : MethodName := ⟨zR_B, "wish", "(II)Z"⟩
abbrev zb_B_met : ByteArray := prog_1_method_22_code
def zy_B_met : MethodName := ⟨zR_B, "met", "()I"⟩
abbrev zb_B_fewest : ByteArray := prog_1_method_23_code
def zy_B_fewest : MethodName := ⟨zR_B, "fewest", "(Z)I"⟩
abbrev zb_B_needed : ByteArray := prog_1_method_24_code
def zy_B_needed : MethodName := ⟨zR_B, "needed", "(II)I"⟩
abbrev zb_B_shadow : ByteArray := prog_1_method_25_code
def zy_B_shadow : MethodName := ⟨zR_B, "shadow", "(II)I"⟩
abbrev zb_B_shadowOn : ByteArray := prog_1_method_26_code
def zy_B_shadowOn : MethodName := ⟨zR_B, "shadowOn", "(II)I"⟩
abbrev zb_B_darkest : ByteArray := prog_1_method_27_code
def zy_B_darkest : MethodName := ⟨zR_B, "darkest", "(I)I"⟩
abbrev zb_B_more : ByteArray := prog_1_method_28_code
def zy_B_more : MethodName := ⟨zR_B, "more", "(I)I"⟩
abbrev zb_B_formMetOn : ByteArray := prog_1_method_29_code
def zy_B_formMetOn : MethodName := ⟨zR_B, "formMetOn", "(I)I"⟩
abbrev zb_B_solutions : ByteArray := prog_1_method_30_code
def zy_B_solutions : MethodName := ⟨zR_B, "solutions", "(I)I"⟩
abbrev zb_B_near : ByteArray := prog_1_method_31_code
def zy_B_near : MethodName := ⟨zR_B, "near", "()I"⟩
abbrev zb_B_tint : ByteArray := prog_1_method_32_code
def zy_B_tint : MethodName := ⟨zR_B, "tint", "(II)I"⟩
abbrev zb_B_swapped : ByteArray := prog_1_method_33_code
def zy_B_swapped : MethodName := ⟨zR_B, "swapped", "(IIII)I"⟩
abbrev zb_B_reach : ByteArray := prog_1_method_34_code
def zy_B_reach : MethodName := ⟨zR_B, "reach", "(III)I"⟩
abbrev zb_B_behind : ByteArray := prog_1_method_35_code
def zy_B_behind : MethodName := ⟨zR_B, "behind", "(I)I"⟩
abbrev zb_B_rings : ByteArray := prog_1_method_36_code
def zy_B_rings : MethodName := ⟨zR_B, "rings", "(I)I"⟩
abbrev zb_B_steady : ByteArray := prog_1_method_37_code
def zy_B_steady : MethodName := ⟨zR_B, "steady", "(Z)I"⟩
abbrev zb_B_slow : ByteArray := prog_1_method_38_code
def zy_B_slow : MethodName := ⟨zR_B, "slow", "(I)I"⟩
abbrev zb_B_back : ByteArray := prog_1_method_39_code
def zy_B_back : MethodName := ⟨zR_B, "back", "()I"⟩
abbrev zb_B_image : ByteArray := prog_1_method_40_code
def zy_B_image : MethodName := ⟨zR_B, "image", "()I"⟩
abbrev zb_B_octet : ByteArray := prog_1_method_41_code
def zy_B_octet : MethodName := ⟨zR_B, "octet", "(I)I"⟩
abbrev zb_B_on : ByteArray := prog_1_method_42_code
def zy_B_on : MethodName := ⟨zR_B, "on", "()Z"⟩
abbrev zb_B_isImage : ByteArray := prog_1_method_43_code
def zy_B_isImage : MethodName := ⟨zR_B, "isImage", "(I)Z"⟩
abbrev zb_B_checkByte : ByteArray := prog_1_method_44_code
def zy_B_checkByte : MethodName := ⟨zR_B, "checkByte", "([II)I"⟩
abbrev zb_B_isNumber : ByteArray := prog_1_method_45_code
def zy_B_isNumber : MethodName := ⟨zR_B, "isNumber", "(II)Z"⟩
abbrev zb_B_allOf : ByteArray := prog_1_method_46_code
def zy_B_allOf : MethodName := ⟨zR_B, "allOf", "(I)I"⟩
abbrev zb_B_stateCount : ByteArray := prog_1_method_47_code
def zy_B_stateCount : MethodName := ⟨zR_B, "stateCount", "()I"⟩
abbrev zb_B_isState : ByteArray := prog_1_method_48_code
def zy_B_isState : MethodName := ⟨zR_B, "isState", "(I)Z"⟩
abbrev zb_B_isOneColour : ByteArray := prog_1_method_49_code
def zy_B_isOneColour : MethodName := ⟨zR_B, "isOneColour", "(I)Z"⟩
abbrev zb_B_moveTo : ByteArray := prog_1_method_50_code
def zy_B_moveTo : MethodName := ⟨zR_B, "moveTo", "(I)V"⟩
abbrev zb_B_lightNow : ByteArray := prog_1_method_51_code
def zy_B_lightNow : MethodName := ⟨zR_B, "lightNow", "()LBeamBoard$Light;"⟩
abbrev zb_B_lightOf : ByteArray := prog_1_method_52_code
def zy_B_lightOf : MethodName := ⟨zR_B, "lightOf", "(II)LBeamBoard$Light;"⟩
abbrev zb_B_areMet : ByteArray := prog_1_method_53_code
def zy_B_areMet : MethodName := ⟨zR_B, "areMet", "(I)Z"⟩
abbrev zb_B_isAsWished : ByteArray := prog_1_method_54_code
def zy_B_isAsWished : MethodName := ⟨zR_B, "isAsWished", "(I)Z"⟩
abbrev zb_M_init : ByteArray := prog_9_method_1_code
def zy_M_init : MethodName := ⟨zR_M, "<init>", "()V"⟩
abbrev zb_M_is : ByteArray := prog_9_method_2_code
def zy_M_is : MethodName := ⟨zR_M, "is", "(III)Z"⟩
abbrev zb_M_put : ByteArray := prog_9_method_3_code
def zy_M_put : MethodName := ⟨zR_M, "put", "(I)V"⟩
abbrev zb_M_feed : ByteArray := prog_9_method_4_code
def zy_M_feed : MethodName := ⟨zR_M, "feed", "(IIIII)I"⟩
abbrev zb_M_end : ByteArray := prog_9_method_5_code
def zy_M_end : MethodName := ⟨zR_M, "end", "(I)Z"⟩
abbrev zb_M_blame : ByteArray := prog_9_method_6_code
def zy_M_blame : MethodName := ⟨zR_M, "blame", "(II)V"⟩
abbrev zb_M_byteAt : ByteArray := prog_9_method_7_code
def zy_M_byteAt : MethodName := ⟨zR_M, "byteAt", "(I)I"⟩
abbrev zb_M_isLetter : ByteArray := prog_9_method_8_code
def zy_M_isLetter : MethodName := ⟨zR_M, "isLetter", "(I)Z"⟩
abbrev zb_M_isDigit : ByteArray := prog_9_method_9_code
def zy_M_isDigit : MethodName := ⟨zR_M, "isDigit", "(I)Z"⟩
abbrev zb_M_isOwn : ByteArray := prog_9_method_10_code
def zy_M_isOwn : MethodName := ⟨zR_M, "isOwn", "(J)Z"⟩
abbrev zb_M_next : ByteArray := prog_9_method_11_code
def zy_M_next : MethodName := ⟨zR_M, "next", "()V"⟩
abbrev zb_M_looks : ByteArray := prog_9_method_12_code
def zy_M_looks : MethodName := ⟨zR_M, "looks", "()V"⟩
abbrev zb_M_isWord : ByteArray := prog_9_method_13_code
def zy_M_isWord : MethodName := ⟨zR_M, "isWord", "(J)Z"⟩
abbrev zb_M_isSign : ByteArray := prog_9_method_14_code
def zy_M_isSign : MethodName := ⟨zR_M, "isSign", "(I)Z"⟩
abbrev zb_M_mustWord : ByteArray := prog_9_method_15_code
def zy_M_mustWord : MethodName := ⟨zR_M, "mustWord", "(J)V"⟩
abbrev zb_M_number : ByteArray := prog_9_method_16_code
def zy_M_number : MethodName := ⟨zR_M, "number", "(II)I"⟩
abbrev zb_M_eyeOf : ByteArray := prog_9_method_17_code
def zy_M_eyeOf : MethodName := ⟨zR_M, "eyeOf", "(J)I"⟩
abbrev zb_M_colour : ByteArray := prog_9_method_18_code
def zy_M_colour : MethodName := ⟨zR_M, "colour", "()I"⟩
abbrev zb_M_ways : ByteArray := prog_9_method_19_code
def zy_M_ways : MethodName := ⟨zR_M, "ways", "()I"⟩
abbrev zb_M_forms : ByteArray := prog_9_method_20_code
def zy_M_forms : MethodName := ⟨zR_M, "forms", "()I"⟩
abbrev zb_M_add : ByteArray := prog_9_method_21_code
def zy_M_add : MethodName := ⟨zR_M, "add", "(II)V"⟩
abbrev zb_M_pushes : ByteArray := prog_9_method_22_code
def zy_M_pushes : MethodName := ⟨zR_M, "pushes", "(I)V"⟩
abbrev zb_M_opens : ByteArray := prog_9_method_23_code
def zy_M_opens : MethodName := ⟨zR_M, "opens", "(I)V"⟩
abbrev zb_M_fact : ByteArray := prog_9_method_24_code
def zy_M_fact : MethodName := ⟨zR_M, "fact", "()V"⟩
abbrev zb_M_joins : ByteArray := prog_9_method_25_code
def zy_M_joins : MethodName := ⟨zR_M, "joins", "(Z)V"⟩
abbrev zb_M_goesOn : ByteArray := prog_9_method_26_code
def zy_M_goesOn : MethodName := ⟨zR_M, "goesOn", "()Z"⟩
abbrev zb_M_test : ByteArray := prog_9_method_27_code
def zy_M_test : MethodName := ⟨zR_M, "test", "(I)V"⟩
abbrev zb_M_sizes : ByteArray := prog_9_method_28_code
def zy_M_sizes : MethodName := ⟨zR_M, "sizes", "()V"⟩
abbrev zb_M_place : ByteArray := prog_9_method_29_code
def zy_M_place : MethodName := ⟨zR_M, "place", "(IIII)V"⟩
abbrev zb_M_counts : ByteArray := prog_9_method_30_code
def zy_M_counts : MethodName := ⟨zR_M, "counts", "(II)V"⟩
abbrev zb_M_lamp : ByteArray := prog_9_method_31_code
def zy_M_lamp : MethodName := ⟨zR_M, "lamp", "()V"⟩
abbrev zb_M_mirror : ByteArray := prog_9_method_32_code
def zy_M_mirror : MethodName := ⟨zR_M, "mirror", "(I)V"⟩
abbrev zb_M_eye : ByteArray := prog_9_method_33_code
def zy_M_eye : MethodName := ⟨zR_M, "eye", "()V"⟩
abbrev zb_M_mover : ByteArray := prog_9_method_34_code
def zy_M_mover : MethodName := ⟨zR_M, "mover", "(I)V"⟩
abbrev zb_M_statement : ByteArray := prog_9_method_35_code
def zy_M_statement : MethodName := ⟨zR_M, "statement", "()V"⟩
abbrev zb_M_ends : ByteArray := prog_9_method_36_code
def zy_M_ends : MethodName := ⟨zR_M, "ends", "()V"⟩
abbrev zb_M_plain : ByteArray := prog_9_method_37_code
def zy_M_plain : MethodName := ⟨zR_M, "plain", "()V"⟩
abbrev zb_M_eyesOfTests : ByteArray := prog_9_method_38_code
def zy_M_eyesOfTests : MethodName := ⟨zR_M, "eyesOfTests", "()V"⟩
abbrev zb_M_fresh : ByteArray := prog_9_method_39_code
def zy_M_fresh : MethodName := ⟨zR_M, "fresh", "()V"⟩
abbrev zb_M_board : ByteArray := prog_9_method_40_code
def zy_M_board : MethodName := ⟨zR_M, "board", "()I"⟩
abbrev zb_M_fault : ByteArray := prog_9_method_41_code
def zy_M_fault : MethodName := ⟨zR_M, "fault", "(I)I"⟩
abbrev zb_M_isSquare : ByteArray := prog_9_method_42_code
def zy_M_isSquare : MethodName := ⟨zR_M, "isSquare", "(II)Z"⟩
abbrev zb_M_has : ByteArray := prog_9_method_43_code
def zy_M_has : MethodName := ⟨zR_M, "has", "(I)I"⟩
abbrev zb_M_isEye : ByteArray := prog_9_method_44_code
def zy_M_isEye : MethodName := ⟨zR_M, "isEye", "(I)Z"⟩
abbrev zb_M_letter : ByteArray := prog_9_method_45_code
def zy_M_letter : MethodName := ⟨zR_M, "letter", "(II)I"⟩
abbrev zb_M_from : ByteArray := prog_9_method_46_code
def zy_M_from : MethodName := ⟨zR_M, "from", "(I)I"⟩
abbrev zb_M_sortAt : ByteArray := prog_9_method_47_code
def zy_M_sortAt : MethodName := ⟨zR_M, "sortAt", "(I)I"⟩
abbrev zb_M_numberAt : ByteArray := prog_9_method_48_code
def zy_M_numberAt : MethodName := ⟨zR_M, "numberAt", "(I)I"⟩
abbrev zb_M_formAt : ByteArray := prog_9_method_49_code
def zy_M_formAt : MethodName := ⟨zR_M, "formAt", "(II)I"⟩
abbrev zb_M_square : ByteArray := prog_9_method_50_code
def zy_M_square : MethodName := ⟨zR_M, "square", "(III)I"⟩
abbrev zb_M_sends : ByteArray := prog_9_method_51_code
def zy_M_sends : MethodName := ⟨zR_M, "sends", "(III)V"⟩
abbrev zb_M_mirrored : ByteArray := prog_9_method_52_code
def zy_M_mirrored : MethodName := ⟨zR_M, "mirrored", "(II)I"⟩
abbrev zb_M_goes : ByteArray := prog_9_method_53_code
def zy_M_goes : MethodName := ⟨zR_M, "goes", "(IIII)V"⟩
abbrev zb_M_shines : ByteArray := prog_9_method_54_code
def zy_M_shines : MethodName := ⟨zR_M, "shines", "(I)V"⟩
abbrev zb_M_into : ByteArray := prog_9_method_55_code
def zy_M_into : MethodName := ⟨zR_M, "into", "(I)I"⟩
abbrev zb_M_seen : ByteArray := prog_9_method_56_code
def zy_M_seen : MethodName := ⟨zR_M, "seen", "(I)I"⟩
abbrev zb_M_litEyes : ByteArray := prog_9_method_57_code
def zy_M_litEyes : MethodName := ⟨zR_M, "litEyes", "()I"⟩
abbrev zb_M_isMirror : ByteArray := prog_9_method_58_code
def zy_M_isMirror : MethodName := ⟨zR_M, "isMirror", "(I)Z"⟩
abbrev zb_M_bitsOf : ByteArray := prog_9_method_59_code
def zy_M_bitsOf : MethodName := ⟨zR_M, "bitsOf", "(I)I"⟩
abbrev zb_M_turn : ByteArray := prog_9_method_60_code
def zy_M_turn : MethodName := ⟨zR_M, "turn", "(I)I"⟩
abbrev zb_M_turned : ByteArray := prog_9_method_61_code
def zy_M_turned : MethodName := ⟨zR_M, "turned", "()I"⟩
abbrev zb_M_states : ByteArray := prog_9_method_62_code
def zy_M_states : MethodName := ⟨zR_M, "states", "()I"⟩
abbrev zb_M_set : ByteArray := prog_9_method_63_code
def zy_M_set : MethodName := ⟨zR_M, "set", "(I)Z"⟩
abbrev zb_M_state : ByteArray := prog_9_method_64_code
def zy_M_state : MethodName := ⟨zR_M, "state", "()I"⟩
abbrev zb_M_light : ByteArray := prog_9_method_65_code
def zy_M_light : MethodName := ⟨zR_M, "light", "(III)I"⟩
abbrev zb_M_lit : ByteArray := prog_9_method_66_code
def zy_M_lit : MethodName := ⟨zR_M, "lit", "(I)I"⟩
abbrev zb_M_sees : ByteArray := prog_9_method_67_code
def zy_M_sees : MethodName := ⟨zR_M, "sees", "(I)I"⟩
abbrev zb_M_holds : ByteArray := prog_9_method_68_code
def zy_M_holds : MethodName := ⟨zR_M, "holds", "(I)Z"⟩
abbrev zb_M_stepped : ByteArray := prog_9_method_69_code
def zy_M_stepped : MethodName := ⟨zR_M, "stepped", "(I)I"⟩
abbrev zb_M_step : ByteArray := prog_9_method_70_code
def zy_M_step : MethodName := ⟨zR_M, "step", "(I)I"⟩
abbrev zb_M_follows : ByteArray := prog_9_method_71_code
def zy_M_follows : MethodName := ⟨zR_M, "follows", "(I)V"⟩
abbrev zb_M_round : ByteArray := prog_9_method_72_code
def zy_M_round : MethodName := ⟨zR_M, "round", "(I)I"⟩
abbrev zb_M_rests : ByteArray := prog_9_method_73_code
def zy_M_rests : MethodName := ⟨zR_M, "rests", "(I)I"⟩
abbrev zb_M_drawn : ByteArray := prog_9_method_74_code
def zy_M_drawn : MethodName := ⟨zR_M, "drawn", "(I)I"⟩
abbrev zb_M_litEnd : ByteArray := prog_9_method_75_code
def zy_M_litEnd : MethodName := ⟨zR_M, "litEnd", "()I"⟩
abbrev zb_M_wish : ByteArray := prog_9_method_76_code
def zy_M_wish : MethodName := ⟨zR_M, "wish", "(II)Z"⟩
abbrev zb_M_isMet : ByteArray := prog_9_method_77_code
def zy_M_isMet : MethodName := ⟨zR_M, "isMet", "()Z"⟩
abbrev zb_M_met : ByteArray := prog_9_method_78_code
def zy_M_met : MethodName := ⟨zR_M, "met", "()I"⟩
abbrev zb_M_fewest : ByteArray := prog_9_method_79_code
def zy_M_fewest : MethodName := ⟨zR_M, "fewest", "(Z)I"⟩
abbrev zb_M_needed : ByteArray := prog_9_method_80_code
def zy_M_needed : MethodName := ⟨zR_M, "needed", "(II)I"⟩
abbrev zb_M_isEmpty : ByteArray := prog_9_method_81_code
def zy_M_isEmpty : MethodName := ⟨zR_M, "isEmpty", "(II)Z"⟩
abbrev zb_M_shadowOf : ByteArray := prog_9_method_82_code
def zy_M_shadowOf : MethodName := ⟨zR_M, "shadowOf", "(II)I"⟩
abbrev zb_M_shadow : ByteArray := prog_9_method_83_code
def zy_M_shadow : MethodName := ⟨zR_M, "shadow", "(II)I"⟩
abbrev zb_M_darkest : ByteArray := prog_9_method_84_code
def zy_M_darkest : MethodName := ⟨zR_M, "darkest", "(I)I"⟩
abbrev zb_M_more : ByteArray := prog_9_method_85_code
def zy_M_more : MethodName := ⟨zR_M, "more", "(I)I"⟩
abbrev zb_M_solves : ByteArray := prog_9_method_86_code
def zy_M_solves : MethodName := ⟨zR_M, "solves", "()V"⟩
abbrev zb_M_solutions : ByteArray := prog_9_method_87_code
def zy_M_solutions : MethodName := ⟨zR_M, "solutions", "(I)I"⟩
abbrev zb_M_near : ByteArray := prog_9_method_88_code
def zy_M_near : MethodName := ⟨zR_M, "near", "()I"⟩
abbrev zb_M_tint : ByteArray := prog_9_method_89_code
def zy_M_tint : MethodName := ⟨zR_M, "tint", "(II)I"⟩
abbrev zb_M_swapped : ByteArray := prog_9_method_90_code
def zy_M_swapped : MethodName := ⟨zR_M, "swapped", "(IIII)I"⟩
abbrev zb_M_isLamp : ByteArray := prog_9_method_91_code
def zy_M_isLamp : MethodName := ⟨zR_M, "isLamp", "(I)Z"⟩
abbrev zb_M_reach : ByteArray := prog_9_method_92_code
def zy_M_reach : MethodName := ⟨zR_M, "reach", "(III)I"⟩
abbrev zb_M_behind : ByteArray := prog_9_method_93_code
def zy_M_behind : MethodName := ⟨zR_M, "behind", "(I)I"⟩
abbrev zb_M_isRing : ByteArray := prog_9_method_94_code
def zy_M_isRing : MethodName := ⟨zR_M, "isRing", "(II)Z"⟩
abbrev zb_M_rings : ByteArray := prog_9_method_95_code
def zy_M_rings : MethodName := ⟨zR_M, "rings", "(I)I"⟩
abbrev zb_M_steady : ByteArray := prog_9_method_96_code
def zy_M_steady : MethodName := ⟨zR_M, "steady", "(Z)I"⟩
abbrev zb_M_slow : ByteArray := prog_9_method_97_code
def zy_M_slow : MethodName := ⟨zR_M, "slow", "(I)I"⟩
abbrev zb_M_remembers : ByteArray := prog_9_method_98_code
def zy_M_remembers : MethodName := ⟨zR_M, "remembers", "(II)V"⟩
abbrev zb_M_back : ByteArray := prog_9_method_99_code
def zy_M_back : MethodName := ⟨zR_M, "back", "()I"⟩
abbrev zb_M_writes : ByteArray := prog_9_method_100_code
def zy_M_writes : MethodName := ⟨zR_M, "writes", "(I)V"⟩
abbrev zb_M_image : ByteArray := prog_9_method_101_code
def zy_M_image : MethodName := ⟨zR_M, "image", "()I"⟩
abbrev zb_M_octet : ByteArray := prog_9_method_102_code
def zy_M_octet : MethodName := ⟨zR_M, "octet", "(I)I"⟩
abbrev zb_M_isImage : ByteArray := prog_9_method_103_code
def zy_M_isImage : MethodName := ⟨zR_M, "isImage", "(I)Z"⟩
abbrev zb_M_on : ByteArray := prog_9_method_104_code
def zy_M_on : MethodName := ⟨zR_M, "on", "()Z"⟩
abbrev zb_JI_bitCount : ByteArray := prog_10_method_49_code
def zy_JI_bitCount : MethodName := ⟨zR_JI, "bitCount", "(I)I"⟩
abbrev zb_JM_min : ByteArray := prog_11_method_69_code
def zy_JM_min : MethodName := ⟨zR_JM, "min", "(II)I"⟩
abbrev zb_JS_length : ByteArray := prog_12_method_54_code
def zy_JS_length : MethodName := ⟨zR_JS, "length", "()I"⟩
abbrev zb_JS_charAt : ByteArray := prog_12_method_56_code
def zy_JS_charAt : MethodName := ⟨zR_JS, "charAt", "(I)C"⟩
abbrev zb_JS_coder : ByteArray := prog_12_method_152_code
def zy_JS_coder : MethodName := ⟨zR_JS, "coder", "()B"⟩
abbrev zb_JS_isLatin1 : ByteArray := prog_12_method_154_code
def zy_JS_isLatin1 : MethodName := ⟨zR_JS, "isLatin1", "()Z"⟩
abbrev zb_JS_checkIndex : ByteArray := prog_12_method_155_code
def zy_JS_checkIndex : MethodName := ⟨zR_JS, "checkIndex", "(II)V"⟩
abbrev zb_JL_charAt : ByteArray := prog_13_method_2_code
def zy_JL_charAt : MethodName := ⟨zR_JL, "charAt", "([BI)C"⟩
abbrev zb_JU_getChar : ByteArray := prog_14_method_5_code
def zy_JU_getChar : MethodName := ⟨zR_JU, "getChar", "([BI)C"⟩
abbrev zb_JU_length : ByteArray := prog_14_method_6_code
def zy_JU_length : MethodName := ⟨zR_JU, "length", "([B)I"⟩
abbrev zb_JU_charAt : ByteArray := prog_14_method_83_code
def zy_JU_charAt : MethodName := ⟨zR_JU, "charAt", "([BI)C"⟩
abbrev zb_JU_checkIndex : ByteArray := prog_14_method_91_code
def zy_JU_checkIndex : MethodName := ⟨zR_JU, "checkIndex", "(I[B)V"⟩
abbrev zb_JA_fill : ByteArray := prog_16_method_103_code
def zy_JA_fill : MethodName := ⟨zR_JA, "fill", "([II)V"⟩
abbrev zb_JP_checkIndex : ByteArray := prog_17_method_11_code
def zy_JP_checkIndex : MethodName := ⟨zR_JP, "checkIndex", "(IILjava/util/function/BiFunction;)I"⟩
abbrev zb_W_law : ByteArray := code
def zy_W_law : MethodName := ⟨zR_W, "law", "([I)Z"⟩
