-- ===== PART A: goes FIRST, ahead of the names: the tables' words, and 'selects' of the private methods out of them =====
/-- a private method of a class that the tables say can be made, by its rows of tables_1 -/
def lw_okq (q : MethodName × Nat) : Prop := (q.1.cls ≠ "java/lang/invoke/MethodHandle" ∧ q.1.cls ≠ "java/lang/invoke/VarHandle") ∧ Cond.instantiable q.1.cls q.2 ∈ tables_1 ∧ Cond.privateMethod q.1 ∈ tables_1 ∧ Cond.instanceMethod q.1 ∈ tables_1
theorem lw_p0 : lw_okq (⟨"HostYear", "textOf", "(I)LHostYear$Text;"⟩, 16) := ⟨⟨by decide +kernel, by decide +kernel⟩, List.mem_of_getElem? (i := 15) (by decide +kernel), List.mem_of_getElem? (i := 352) (by decide +kernel), List.mem_of_getElem? (i := 353) (by decide +kernel)⟩
theorem lw_p1 : lw_okq (⟨"HostYear$Tokens", "scanOne", "(LHostYear$Tape;II)I"⟩, 3) := ⟨⟨by decide +kernel, by decide +kernel⟩, List.mem_of_getElem? (i := 66) (by decide +kernel), List.mem_of_getElem? (i := 374) (by decide +kernel), List.mem_of_getElem? (i := 375) (by decide +kernel)⟩
theorem lw_p2 : lw_okq (⟨"HostYear$Tokens", "scanName", "(LHostYear$Tape;II)I"⟩, 3) := ⟨⟨by decide +kernel, by decide +kernel⟩, List.mem_of_getElem? (i := 66) (by decide +kernel), List.mem_of_getElem? (i := 381) (by decide +kernel), List.mem_of_getElem? (i := 382) (by decide +kernel)⟩
theorem lw_p3 : lw_okq (⟨"HostYear$Tokens", "scanNumber", "(LHostYear$Tape;II)I"⟩, 3) := ⟨⟨by decide +kernel, by decide +kernel⟩, List.mem_of_getElem? (i := 66) (by decide +kernel), List.mem_of_getElem? (i := 393) (by decide +kernel), List.mem_of_getElem? (i := 394) (by decide +kernel)⟩
theorem lw_p4 : lw_okq (⟨"HostYear$Parser", "sees", "(I)Z"⟩, 8) := ⟨⟨by decide +kernel, by decide +kernel⟩, List.mem_of_getElem? (i := 60) (by decide +kernel), List.mem_of_getElem? (i := 405) (by decide +kernel), List.mem_of_getElem? (i := 406) (by decide +kernel)⟩
theorem lw_p5 : lw_okq (⟨"HostYear$Parser", "readTrait", "()V"⟩, 8) := ⟨⟨by decide +kernel, by decide +kernel⟩, List.mem_of_getElem? (i := 60) (by decide +kernel), List.mem_of_getElem? (i := 409) (by decide +kernel), List.mem_of_getElem? (i := 410) (by decide +kernel)⟩
theorem lw_p6 : lw_okq (⟨"HostYear$Parser", "fail", "(I)V"⟩, 8) := ⟨⟨by decide +kernel, by decide +kernel⟩, List.mem_of_getElem? (i := 60) (by decide +kernel), List.mem_of_getElem? (i := 413) (by decide +kernel), List.mem_of_getElem? (i := 414) (by decide +kernel)⟩
theorem lw_p7 : lw_okq (⟨"HostYear$Parser", "expect", "(I)V"⟩, 8) := ⟨⟨by decide +kernel, by decide +kernel⟩, List.mem_of_getElem? (i := 60) (by decide +kernel), List.mem_of_getElem? (i := 417) (by decide +kernel), List.mem_of_getElem? (i := 418) (by decide +kernel)⟩
theorem lw_p8 : lw_okq (⟨"HostYear$Parser", "failLate", "(I)V"⟩, 8) := ⟨⟨by decide +kernel, by decide +kernel⟩, List.mem_of_getElem? (i := 60) (by decide +kernel), List.mem_of_getElem? (i := 425) (by decide +kernel), List.mem_of_getElem? (i := 426) (by decide +kernel)⟩
theorem lw_p9 : lw_okq (⟨"HostYear$Parser", "readRule", "()V"⟩, 8) := ⟨⟨by decide +kernel, by decide +kernel⟩, List.mem_of_getElem? (i := 60) (by decide +kernel), List.mem_of_getElem? (i := 433) (by decide +kernel), List.mem_of_getElem? (i := 434) (by decide +kernel)⟩
theorem lw_p10 : lw_okq (⟨"HostYear$Parser", "readCond", "()V"⟩, 8) := ⟨⟨by decide +kernel, by decide +kernel⟩, List.mem_of_getElem? (i := 60) (by decide +kernel), List.mem_of_getElem? (i := 437) (by decide +kernel), List.mem_of_getElem? (i := 438) (by decide +kernel)⟩
theorem lw_p11 : lw_okq (⟨"HostYear$Parser", "readAll", "()V"⟩, 8) := ⟨⟨by decide +kernel, by decide +kernel⟩, List.mem_of_getElem? (i := 60) (by decide +kernel), List.mem_of_getElem? (i := 441) (by decide +kernel), List.mem_of_getElem? (i := 442) (by decide +kernel)⟩
theorem lw_p12 : lw_okq (⟨"HostYear$Parser", "readLit", "()V"⟩, 8) := ⟨⟨by decide +kernel, by decide +kernel⟩, List.mem_of_getElem? (i := 60) (by decide +kernel), List.mem_of_getElem? (i := 445) (by decide +kernel), List.mem_of_getElem? (i := 446) (by decide +kernel)⟩
theorem lw_p13 : lw_okq (⟨"HostYear$Parser", "opens", "(I)Z"⟩, 8) := ⟨⟨by decide +kernel, by decide +kernel⟩, List.mem_of_getElem? (i := 60) (by decide +kernel), List.mem_of_getElem? (i := 449) (by decide +kernel), List.mem_of_getElem? (i := 450) (by decide +kernel)⟩
theorem lw_p14 : lw_okq (⟨"HostYear$Parser", "readSum", "()V"⟩, 8) := ⟨⟨by decide +kernel, by decide +kernel⟩, List.mem_of_getElem? (i := 60) (by decide +kernel), List.mem_of_getElem? (i := 458) (by decide +kernel), List.mem_of_getElem? (i := 459) (by decide +kernel)⟩
theorem lw_p15 : lw_okq (⟨"HostYear$Parser", "accepts", "(I)Z"⟩, 8) := ⟨⟨by decide +kernel, by decide +kernel⟩, List.mem_of_getElem? (i := 60) (by decide +kernel), List.mem_of_getElem? (i := 462) (by decide +kernel), List.mem_of_getElem? (i := 463) (by decide +kernel)⟩
def lw_privs_1 : List (MethodName × Nat) := [(⟨"HostYear", "textOf", "(I)LHostYear$Text;"⟩, 16), (⟨"HostYear$Tokens", "scanOne", "(LHostYear$Tape;II)I"⟩, 3), (⟨"HostYear$Tokens", "scanName", "(LHostYear$Tape;II)I"⟩, 3), (⟨"HostYear$Tokens", "scanNumber", "(LHostYear$Tape;II)I"⟩, 3), (⟨"HostYear$Parser", "sees", "(I)Z"⟩, 8), (⟨"HostYear$Parser", "readTrait", "()V"⟩, 8), (⟨"HostYear$Parser", "fail", "(I)V"⟩, 8), (⟨"HostYear$Parser", "expect", "(I)V"⟩, 8), (⟨"HostYear$Parser", "failLate", "(I)V"⟩, 8), (⟨"HostYear$Parser", "readRule", "()V"⟩, 8), (⟨"HostYear$Parser", "readCond", "()V"⟩, 8), (⟨"HostYear$Parser", "readAll", "()V"⟩, 8), (⟨"HostYear$Parser", "readLit", "()V"⟩, 8), (⟨"HostYear$Parser", "opens", "(I)Z"⟩, 8), (⟨"HostYear$Parser", "readSum", "()V"⟩, 8), (⟨"HostYear$Parser", "accepts", "(I)Z"⟩, 8)]
theorem lw_r1 : ∀ q ∈ lw_privs_1, lw_okq q := List.forall_mem_cons.mpr ⟨lw_p0, List.forall_mem_cons.mpr ⟨lw_p1, List.forall_mem_cons.mpr ⟨lw_p2, List.forall_mem_cons.mpr ⟨lw_p3, List.forall_mem_cons.mpr ⟨lw_p4, List.forall_mem_cons.mpr ⟨lw_p5, List.forall_mem_cons.mpr ⟨lw_p6, List.forall_mem_cons.mpr ⟨lw_p7, List.forall_mem_cons.mpr ⟨lw_p8, List.forall_mem_cons.mpr ⟨lw_p9, List.forall_mem_cons.mpr ⟨lw_p10, List.forall_mem_cons.mpr ⟨lw_p11, List.forall_mem_cons.mpr ⟨lw_p12, List.forall_mem_cons.mpr ⟨lw_p13, List.forall_mem_cons.mpr ⟨lw_p14, List.forall_mem_cons.mpr ⟨lw_p15, fun _ h => absurd h List.not_mem_nil⟩⟩⟩⟩⟩⟩⟩⟩⟩⟩⟩⟩⟩⟩⟩⟩
theorem lw_p16 : lw_okq (⟨"HostYear$Parser", "readPart", "()V"⟩, 8) := ⟨⟨by decide +kernel, by decide +kernel⟩, List.mem_of_getElem? (i := 60) (by decide +kernel), List.mem_of_getElem? (i := 466) (by decide +kernel), List.mem_of_getElem? (i := 467) (by decide +kernel)⟩
theorem lw_p17 : lw_okq (⟨"HostYear$Parser", "readUnit", "()V"⟩, 8) := ⟨⟨by decide +kernel, by decide +kernel⟩, List.mem_of_getElem? (i := 60) (by decide +kernel), List.mem_of_getElem? (i := 470) (by decide +kernel), List.mem_of_getElem? (i := 471) (by decide +kernel)⟩
theorem lw_p18 : lw_okq (⟨"HostYear$Parser", "readTraitOf", "(I)V"⟩, 8) := ⟨⟨by decide +kernel, by decide +kernel⟩, List.mem_of_getElem? (i := 60) (by decide +kernel), List.mem_of_getElem? (i := 474) (by decide +kernel), List.mem_of_getElem? (i := 475) (by decide +kernel)⟩
theorem lw_p19 : lw_okq (⟨"HostYear$Parser", "relationStep", "()I"⟩, 8) := ⟨⟨by decide +kernel, by decide +kernel⟩, List.mem_of_getElem? (i := 60) (by decide +kernel), List.mem_of_getElem? (i := 478) (by decide +kernel), List.mem_of_getElem? (i := 479) (by decide +kernel)⟩
theorem lw_p20 : lw_okq (⟨"HostYear", "columnOf", "(I)I"⟩, 16) := ⟨⟨by decide +kernel, by decide +kernel⟩, List.mem_of_getElem? (i := 15) (by decide +kernel), List.mem_of_getElem? (i := 514) (by decide +kernel), List.mem_of_getElem? (i := 515) (by decide +kernel)⟩
theorem lw_p21 : lw_okq (⟨"HostYear", "isFamily", "(I)Z"⟩, 16) := ⟨⟨by decide +kernel, by decide +kernel⟩, List.mem_of_getElem? (i := 15) (by decide +kernel), List.mem_of_getElem? (i := 518) (by decide +kernel), List.mem_of_getElem? (i := 519) (by decide +kernel)⟩
theorem lw_p22 : lw_okq (⟨"HostYear$Judge", "holds", "(LHostYear$Text;III)Z"⟩, 2) := ⟨⟨by decide +kernel, by decide +kernel⟩, List.mem_of_getElem? (i := 157) (by decide +kernel), List.mem_of_getElem? (i := 556) (by decide +kernel), List.mem_of_getElem? (i := 557) (by decide +kernel)⟩
theorem lw_p23 : lw_okq (⟨"HostYear$Judge", "valueOf", "(LHostYear$Text;IIII)I"⟩, 2) := ⟨⟨by decide +kernel, by decide +kernel⟩, List.mem_of_getElem? (i := 157) (by decide +kernel), List.mem_of_getElem? (i := 560) (by decide +kernel), List.mem_of_getElem? (i := 561) (by decide +kernel)⟩
theorem lw_p24 : lw_okq (⟨"HostYear$Judge", "leaf", "(IIII)I"⟩, 2) := ⟨⟨by decide +kernel, by decide +kernel⟩, List.mem_of_getElem? (i := 157) (by decide +kernel), List.mem_of_getElem? (i := 568) (by decide +kernel), List.mem_of_getElem? (i := 569) (by decide +kernel)⟩
theorem lw_p25 : lw_okq (⟨"HostYear", "prepare", "(LHostYear$Text;I)V"⟩, 16) := ⟨⟨by decide +kernel, by decide +kernel⟩, List.mem_of_getElem? (i := 15) (by decide +kernel), List.mem_of_getElem? (i := 591) (by decide +kernel), List.mem_of_getElem? (i := 592) (by decide +kernel)⟩
theorem lw_p26 : lw_okq (⟨"HostYear$Planner", "weighPlaces", "()V"⟩, 8) := ⟨⟨by decide +kernel, by decide +kernel⟩, List.mem_of_getElem? (i := 171) (by decide +kernel), List.mem_of_getElem? (i := 604) (by decide +kernel), List.mem_of_getElem? (i := 605) (by decide +kernel)⟩
theorem lw_p27 : lw_okq (⟨"HostYear$Planner", "placeWeight", "(II)J"⟩, 8) := ⟨⟨by decide +kernel, by decide +kernel⟩, List.mem_of_getElem? (i := 171) (by decide +kernel), List.mem_of_getElem? (i := 608) (by decide +kernel), List.mem_of_getElem? (i := 609) (by decide +kernel)⟩
theorem lw_p28 : lw_okq (⟨"HostYear$Planner", "mayGo", "(II)Z"⟩, 8) := ⟨⟨by decide +kernel, by decide +kernel⟩, List.mem_of_getElem? (i := 171) (by decide +kernel), List.mem_of_getElem? (i := 612) (by decide +kernel), List.mem_of_getElem? (i := 613) (by decide +kernel)⟩
theorem lw_p29 : lw_okq (⟨"HostYear$Planner", "mayBe", "(II)Z"⟩, 8) := ⟨⟨by decide +kernel, by decide +kernel⟩, List.mem_of_getElem? (i := 171) (by decide +kernel), List.mem_of_getElem? (i := 616) (by decide +kernel), List.mem_of_getElem? (i := 617) (by decide +kernel)⟩
theorem lw_p30 : lw_okq (⟨"HostYear$Matching", "placeRow", "(II)V"⟩, 7) := ⟨⟨by decide +kernel, by decide +kernel⟩, List.mem_of_getElem? (i := 177) (by decide +kernel), List.mem_of_getElem? (i := 629) (by decide +kernel), List.mem_of_getElem? (i := 630) (by decide +kernel)⟩
theorem lw_p31 : lw_okq (⟨"HostYear$Matching", "nextColumn", "(II)I"⟩, 7) := ⟨⟨by decide +kernel, by decide +kernel⟩, List.mem_of_getElem? (i := 177) (by decide +kernel), List.mem_of_getElem? (i := 634) (by decide +kernel), List.mem_of_getElem? (i := 635) (by decide +kernel)⟩
def lw_privs_2 : List (MethodName × Nat) := [(⟨"HostYear$Parser", "readPart", "()V"⟩, 8), (⟨"HostYear$Parser", "readUnit", "()V"⟩, 8), (⟨"HostYear$Parser", "readTraitOf", "(I)V"⟩, 8), (⟨"HostYear$Parser", "relationStep", "()I"⟩, 8), (⟨"HostYear", "columnOf", "(I)I"⟩, 16), (⟨"HostYear", "isFamily", "(I)Z"⟩, 16), (⟨"HostYear$Judge", "holds", "(LHostYear$Text;III)Z"⟩, 2), (⟨"HostYear$Judge", "valueOf", "(LHostYear$Text;IIII)I"⟩, 2), (⟨"HostYear$Judge", "leaf", "(IIII)I"⟩, 2), (⟨"HostYear", "prepare", "(LHostYear$Text;I)V"⟩, 16), (⟨"HostYear$Planner", "weighPlaces", "()V"⟩, 8), (⟨"HostYear$Planner", "placeWeight", "(II)J"⟩, 8), (⟨"HostYear$Planner", "mayGo", "(II)Z"⟩, 8), (⟨"HostYear$Planner", "mayBe", "(II)Z"⟩, 8), (⟨"HostYear$Matching", "placeRow", "(II)V"⟩, 7), (⟨"HostYear$Matching", "nextColumn", "(II)I"⟩, 7)]
theorem lw_r2 : ∀ q ∈ lw_privs_2, lw_okq q := List.forall_mem_cons.mpr ⟨lw_p16, List.forall_mem_cons.mpr ⟨lw_p17, List.forall_mem_cons.mpr ⟨lw_p18, List.forall_mem_cons.mpr ⟨lw_p19, List.forall_mem_cons.mpr ⟨lw_p20, List.forall_mem_cons.mpr ⟨lw_p21, List.forall_mem_cons.mpr ⟨lw_p22, List.forall_mem_cons.mpr ⟨lw_p23, List.forall_mem_cons.mpr ⟨lw_p24, List.forall_mem_cons.mpr ⟨lw_p25, List.forall_mem_cons.mpr ⟨lw_p26, List.forall_mem_cons.mpr ⟨lw_p27, List.forall_mem_cons.mpr ⟨lw_p28, List.forall_mem_cons.mpr ⟨lw_p29, List.forall_mem_cons.mpr ⟨lw_p30, List.forall_mem_cons.mpr ⟨lw_p31, fun _ h => absurd h List.not_mem_nil⟩⟩⟩⟩⟩⟩⟩⟩⟩⟩⟩⟩⟩⟩⟩⟩
theorem lw_p32 : lw_okq (⟨"HostYear$Matching", "shiftPrices", "(JI)V"⟩, 7) := ⟨⟨by decide +kernel, by decide +kernel⟩, List.mem_of_getElem? (i := 177) (by decide +kernel), List.mem_of_getElem? (i := 638) (by decide +kernel), List.mem_of_getElem? (i := 639) (by decide +kernel)⟩
theorem lw_p33 : lw_okq (⟨"HostYear$Planner", "weighOrder", "()V"⟩, 8) := ⟨⟨by decide +kernel, by decide +kernel⟩, List.mem_of_getElem? (i := 171) (by decide +kernel), List.mem_of_getElem? (i := 642) (by decide +kernel), List.mem_of_getElem? (i := 643) (by decide +kernel)⟩
theorem lw_p34 : lw_okq (⟨"HostYearModel", "byteRow", "(I)V"⟩, 58) := ⟨⟨by decide +kernel, by decide +kernel⟩, List.mem_of_getElem? (i := 736) (by decide +kernel), List.mem_of_getElem? (i := 922) (by decide +kernel), List.mem_of_getElem? (i := 923) (by decide +kernel)⟩
theorem lw_p35 : lw_okq (⟨"HostYearModel", "token", "()V"⟩, 58) := ⟨⟨by decide +kernel, by decide +kernel⟩, List.mem_of_getElem? (i := 736) (by decide +kernel), List.mem_of_getElem? (i := 934) (by decide +kernel), List.mem_of_getElem? (i := 935) (by decide +kernel)⟩
theorem lw_p36 : lw_okq (⟨"HostYearModel", "seen", "(I)I"⟩, 58) := ⟨⟨by decide +kernel, by decide +kernel⟩, List.mem_of_getElem? (i := 736) (by decide +kernel), List.mem_of_getElem? (i := 938) (by decide +kernel), List.mem_of_getElem? (i := 939) (by decide +kernel)⟩
theorem lw_p37 : lw_okq (⟨"HostYearModel", "isLetter", "(I)Z"⟩, 58) := ⟨⟨by decide +kernel, by decide +kernel⟩, List.mem_of_getElem? (i := 736) (by decide +kernel), List.mem_of_getElem? (i := 942) (by decide +kernel), List.mem_of_getElem? (i := 943) (by decide +kernel)⟩
theorem lw_p38 : lw_okq (⟨"HostYearModel", "isDigit", "(I)Z"⟩, 58) := ⟨⟨by decide +kernel, by decide +kernel⟩, List.mem_of_getElem? (i := 736) (by decide +kernel), List.mem_of_getElem? (i := 946) (by decide +kernel), List.mem_of_getElem? (i := 947) (by decide +kernel)⟩
theorem lw_p39 : lw_okq (⟨"HostYearModel", "text", "()Z"⟩, 58) := ⟨⟨by decide +kernel, by decide +kernel⟩, List.mem_of_getElem? (i := 736) (by decide +kernel), List.mem_of_getElem? (i := 962) (by decide +kernel), List.mem_of_getElem? (i := 963) (by decide +kernel)⟩
theorem lw_p40 : lw_okq (⟨"HostYearModel", "isWord", "(I)Z"⟩, 58) := ⟨⟨by decide +kernel, by decide +kernel⟩, List.mem_of_getElem? (i := 736) (by decide +kernel), List.mem_of_getElem? (i := 966) (by decide +kernel), List.mem_of_getElem? (i := 967) (by decide +kernel)⟩
theorem lw_p41 : lw_okq (⟨"HostYearModel", "stop", "(II)Z"⟩, 58) := ⟨⟨by decide +kernel, by decide +kernel⟩, List.mem_of_getElem? (i := 736) (by decide +kernel), List.mem_of_getElem? (i := 970) (by decide +kernel), List.mem_of_getElem? (i := 971) (by decide +kernel)⟩
theorem lw_p42 : lw_okq (⟨"HostYearModel", "pass", "()Z"⟩, 58) := ⟨⟨by decide +kernel, by decide +kernel⟩, List.mem_of_getElem? (i := 736) (by decide +kernel), List.mem_of_getElem? (i := 974) (by decide +kernel), List.mem_of_getElem? (i := 975) (by decide +kernel)⟩
theorem lw_p43 : lw_okq (⟨"HostYearModel", "trait", "(J)I"⟩, 58) := ⟨⟨by decide +kernel, by decide +kernel⟩, List.mem_of_getElem? (i := 736) (by decide +kernel), List.mem_of_getElem? (i := 978) (by decide +kernel), List.mem_of_getElem? (i := 979) (by decide +kernel)⟩
theorem lw_p44 : lw_okq (⟨"HostYearModel", "fault", "(II)V"⟩, 58) := ⟨⟨by decide +kernel, by decide +kernel⟩, List.mem_of_getElem? (i := 736) (by decide +kernel), List.mem_of_getElem? (i := 982) (by decide +kernel), List.mem_of_getElem? (i := 983) (by decide +kernel)⟩
theorem lw_p45 : lw_okq (⟨"HostYearModel", "sign", "(I)Z"⟩, 58) := ⟨⟨by decide +kernel, by decide +kernel⟩, List.mem_of_getElem? (i := 736) (by decide +kernel), List.mem_of_getElem? (i := 986) (by decide +kernel), List.mem_of_getElem? (i := 987) (by decide +kernel)⟩
theorem lw_p46 : lw_okq (⟨"HostYearModel", "isSign", "(I)Z"⟩, 58) := ⟨⟨by decide +kernel, by decide +kernel⟩, List.mem_of_getElem? (i := 736) (by decide +kernel), List.mem_of_getElem? (i := 990) (by decide +kernel), List.mem_of_getElem? (i := 991) (by decide +kernel)⟩
theorem lw_p47 : lw_okq (⟨"HostYearModel", "rule", "()Z"⟩, 58) := ⟨⟨by decide +kernel, by decide +kernel⟩, List.mem_of_getElem? (i := 736) (by decide +kernel), List.mem_of_getElem? (i := 994) (by decide +kernel), List.mem_of_getElem? (i := 995) (by decide +kernel)⟩
def lw_privs_3 : List (MethodName × Nat) := [(⟨"HostYear$Matching", "shiftPrices", "(JI)V"⟩, 7), (⟨"HostYear$Planner", "weighOrder", "()V"⟩, 8), (⟨"HostYearModel", "byteRow", "(I)V"⟩, 58), (⟨"HostYearModel", "token", "()V"⟩, 58), (⟨"HostYearModel", "seen", "(I)I"⟩, 58), (⟨"HostYearModel", "isLetter", "(I)Z"⟩, 58), (⟨"HostYearModel", "isDigit", "(I)Z"⟩, 58), (⟨"HostYearModel", "text", "()Z"⟩, 58), (⟨"HostYearModel", "isWord", "(I)Z"⟩, 58), (⟨"HostYearModel", "stop", "(II)Z"⟩, 58), (⟨"HostYearModel", "pass", "()Z"⟩, 58), (⟨"HostYearModel", "trait", "(J)I"⟩, 58), (⟨"HostYearModel", "fault", "(II)V"⟩, 58), (⟨"HostYearModel", "sign", "(I)Z"⟩, 58), (⟨"HostYearModel", "isSign", "(I)Z"⟩, 58), (⟨"HostYearModel", "rule", "()Z"⟩, 58)]
theorem lw_r3 : ∀ q ∈ lw_privs_3, lw_okq q := List.forall_mem_cons.mpr ⟨lw_p32, List.forall_mem_cons.mpr ⟨lw_p33, List.forall_mem_cons.mpr ⟨lw_p34, List.forall_mem_cons.mpr ⟨lw_p35, List.forall_mem_cons.mpr ⟨lw_p36, List.forall_mem_cons.mpr ⟨lw_p37, List.forall_mem_cons.mpr ⟨lw_p38, List.forall_mem_cons.mpr ⟨lw_p39, List.forall_mem_cons.mpr ⟨lw_p40, List.forall_mem_cons.mpr ⟨lw_p41, List.forall_mem_cons.mpr ⟨lw_p42, List.forall_mem_cons.mpr ⟨lw_p43, List.forall_mem_cons.mpr ⟨lw_p44, List.forall_mem_cons.mpr ⟨lw_p45, List.forall_mem_cons.mpr ⟨lw_p46, List.forall_mem_cons.mpr ⟨lw_p47, fun _ h => absurd h List.not_mem_nil⟩⟩⟩⟩⟩⟩⟩⟩⟩⟩⟩⟩⟩⟩⟩⟩
theorem lw_p48 : lw_okq (⟨"HostYearModel", "expression", "()Z"⟩, 58) := ⟨⟨by decide +kernel, by decide +kernel⟩, List.mem_of_getElem? (i := 736) (by decide +kernel), List.mem_of_getElem? (i := 998) (by decide +kernel), List.mem_of_getElem? (i := 999) (by decide +kernel)⟩
theorem lw_p49 : lw_okq (⟨"HostYearModel", "unit", "()Z"⟩, 58) := ⟨⟨by decide +kernel, by decide +kernel⟩, List.mem_of_getElem? (i := 736) (by decide +kernel), List.mem_of_getElem? (i := 1002) (by decide +kernel), List.mem_of_getElem? (i := 1003) (by decide +kernel)⟩
theorem lw_p50 : lw_okq (⟨"HostYearModel", "emit", "(II)V"⟩, 58) := ⟨⟨by decide +kernel, by decide +kernel⟩, List.mem_of_getElem? (i := 736) (by decide +kernel), List.mem_of_getElem? (i := 1006) (by decide +kernel), List.mem_of_getElem? (i := 1007) (by decide +kernel)⟩
theorem lw_p51 : lw_okq (⟨"HostYearModel", "isWaiting", "(I)Z"⟩, 58) := ⟨⟨by decide +kernel, by decide +kernel⟩, List.mem_of_getElem? (i := 736) (by decide +kernel), List.mem_of_getElem? (i := 1010) (by decide +kernel), List.mem_of_getElem? (i := 1011) (by decide +kernel)⟩
theorem lw_p52 : lw_okq (⟨"HostYearModel", "settle", "()V"⟩, 58) := ⟨⟨by decide +kernel, by decide +kernel⟩, List.mem_of_getElem? (i := 736) (by decide +kernel), List.mem_of_getElem? (i := 1014) (by decide +kernel), List.mem_of_getElem? (i := 1015) (by decide +kernel)⟩
theorem lw_p53 : lw_okq (⟨"HostYearModel", "condition", "()Z"⟩, 58) := ⟨⟨by decide +kernel, by decide +kernel⟩, List.mem_of_getElem? (i := 736) (by decide +kernel), List.mem_of_getElem? (i := 1018) (by decide +kernel), List.mem_of_getElem? (i := 1019) (by decide +kernel)⟩
theorem lw_p54 : lw_okq (⟨"HostYearModel", "relation", "()Z"⟩, 58) := ⟨⟨by decide +kernel, by decide +kernel⟩, List.mem_of_getElem? (i := 736) (by decide +kernel), List.mem_of_getElem? (i := 1022) (by decide +kernel), List.mem_of_getElem? (i := 1023) (by decide +kernel)⟩
theorem lw_p55 : lw_okq (⟨"HostYearModel", "isJudging", "(I)Z"⟩, 58) := ⟨⟨by decide +kernel, by decide +kernel⟩, List.mem_of_getElem? (i := 736) (by decide +kernel), List.mem_of_getElem? (i := 1026) (by decide +kernel), List.mem_of_getElem? (i := 1027) (by decide +kernel)⟩
theorem lw_p56 : lw_okq (⟨"HostYearModel", "judge", "()V"⟩, 58) := ⟨⟨by decide +kernel, by decide +kernel⟩, List.mem_of_getElem? (i := 736) (by decide +kernel), List.mem_of_getElem? (i := 1030) (by decide +kernel), List.mem_of_getElem? (i := 1031) (by decide +kernel)⟩
theorem lw_p57 : lw_okq (⟨"HostYearModel", "isFamily", "(I)Z"⟩, 58) := ⟨⟨by decide +kernel, by decide +kernel⟩, List.mem_of_getElem? (i := 736) (by decide +kernel), List.mem_of_getElem? (i := 1058) (by decide +kernel), List.mem_of_getElem? (i := 1059) (by decide +kernel)⟩
theorem lw_p58 : lw_okq (⟨"HostYearModel", "isWhat", "(I)Z"⟩, 58) := ⟨⟨by decide +kernel, by decide +kernel⟩, List.mem_of_getElem? (i := 736) (by decide +kernel), List.mem_of_getElem? (i := 1062) (by decide +kernel), List.mem_of_getElem? (i := 1063) (by decide +kernel)⟩
theorem lw_p59 : lw_okq (⟨"HostYearModel", "latest", "(III)I"⟩, 58) := ⟨⟨by decide +kernel, by decide +kernel⟩, List.mem_of_getElem? (i := 736) (by decide +kernel), List.mem_of_getElem? (i := 1073) (by decide +kernel), List.mem_of_getElem? (i := 1074) (by decide +kernel)⟩
theorem lw_p60 : lw_okq (⟨"HostYearModel", "isAsked", "(IIII)Z"⟩, 58) := ⟨⟨by decide +kernel, by decide +kernel⟩, List.mem_of_getElem? (i := 736) (by decide +kernel), List.mem_of_getElem? (i := 1081) (by decide +kernel), List.mem_of_getElem? (i := 1082) (by decide +kernel)⟩
theorem lw_p61 : lw_okq (⟨"HostYearModel", "learn", "(I)V"⟩, 58) := ⟨⟨by decide +kernel, by decide +kernel⟩, List.mem_of_getElem? (i := 736) (by decide +kernel), List.mem_of_getElem? (i := 1085) (by decide +kernel), List.mem_of_getElem? (i := 1086) (by decide +kernel)⟩
theorem lw_p62 : lw_okq (⟨"HostYearModel", "reason", "(III)I"⟩, 58) := ⟨⟨by decide +kernel, by decide +kernel⟩, List.mem_of_getElem? (i := 736) (by decide +kernel), List.mem_of_getElem? (i := 1089) (by decide +kernel), List.mem_of_getElem? (i := 1090) (by decide +kernel)⟩
theorem lw_p63 : lw_okq (⟨"HostYearModel", "holds", "(IIII)Z"⟩, 58) := ⟨⟨by decide +kernel, by decide +kernel⟩, List.mem_of_getElem? (i := 736) (by decide +kernel), List.mem_of_getElem? (i := 1093) (by decide +kernel), List.mem_of_getElem? (i := 1094) (by decide +kernel)⟩
def lw_privs_4 : List (MethodName × Nat) := [(⟨"HostYearModel", "expression", "()Z"⟩, 58), (⟨"HostYearModel", "unit", "()Z"⟩, 58), (⟨"HostYearModel", "emit", "(II)V"⟩, 58), (⟨"HostYearModel", "isWaiting", "(I)Z"⟩, 58), (⟨"HostYearModel", "settle", "()V"⟩, 58), (⟨"HostYearModel", "condition", "()Z"⟩, 58), (⟨"HostYearModel", "relation", "()Z"⟩, 58), (⟨"HostYearModel", "isJudging", "(I)Z"⟩, 58), (⟨"HostYearModel", "judge", "()V"⟩, 58), (⟨"HostYearModel", "isFamily", "(I)Z"⟩, 58), (⟨"HostYearModel", "isWhat", "(I)Z"⟩, 58), (⟨"HostYearModel", "latest", "(III)I"⟩, 58), (⟨"HostYearModel", "isAsked", "(IIII)Z"⟩, 58), (⟨"HostYearModel", "learn", "(I)V"⟩, 58), (⟨"HostYearModel", "reason", "(III)I"⟩, 58), (⟨"HostYearModel", "holds", "(IIII)Z"⟩, 58)]
theorem lw_r4 : ∀ q ∈ lw_privs_4, lw_okq q := List.forall_mem_cons.mpr ⟨lw_p48, List.forall_mem_cons.mpr ⟨lw_p49, List.forall_mem_cons.mpr ⟨lw_p50, List.forall_mem_cons.mpr ⟨lw_p51, List.forall_mem_cons.mpr ⟨lw_p52, List.forall_mem_cons.mpr ⟨lw_p53, List.forall_mem_cons.mpr ⟨lw_p54, List.forall_mem_cons.mpr ⟨lw_p55, List.forall_mem_cons.mpr ⟨lw_p56, List.forall_mem_cons.mpr ⟨lw_p57, List.forall_mem_cons.mpr ⟨lw_p58, List.forall_mem_cons.mpr ⟨lw_p59, List.forall_mem_cons.mpr ⟨lw_p60, List.forall_mem_cons.mpr ⟨lw_p61, List.forall_mem_cons.mpr ⟨lw_p62, List.forall_mem_cons.mpr ⟨lw_p63, fun _ h => absurd h List.not_mem_nil⟩⟩⟩⟩⟩⟩⟩⟩⟩⟩⟩⟩⟩⟩⟩⟩
theorem lw_p64 : lw_okq (⟨"HostYearModel", "worked", "(IIIII)I"⟩, 58) := ⟨⟨by decide +kernel, by decide +kernel⟩, List.mem_of_getElem? (i := 736) (by decide +kernel), List.mem_of_getElem? (i := 1097) (by decide +kernel), List.mem_of_getElem? (i := 1098) (by decide +kernel)⟩
theorem lw_p65 : lw_okq (⟨"HostYearModel", "price", "(III)I"⟩, 58) := ⟨⟨by decide +kernel, by decide +kernel⟩, List.mem_of_getElem? (i := 736) (by decide +kernel), List.mem_of_getElem? (i := 1108) (by decide +kernel), List.mem_of_getElem? (i := 1109) (by decide +kernel)⟩
theorem lw_p66 : lw_okq (⟨"HostYearModel", "weigh", "(II)V"⟩, 58) := ⟨⟨by decide +kernel, by decide +kernel⟩, List.mem_of_getElem? (i := 736) (by decide +kernel), List.mem_of_getElem? (i := 1116) (by decide +kernel), List.mem_of_getElem? (i := 1117) (by decide +kernel)⟩
theorem lw_p67 : lw_okq (⟨"HostYearModel", "search", "()V"⟩, 58) := ⟨⟨by decide +kernel, by decide +kernel⟩, List.mem_of_getElem? (i := 736) (by decide +kernel), List.mem_of_getElem? (i := 1121) (by decide +kernel), List.mem_of_getElem? (i := 1122) (by decide +kernel)⟩
theorem lw_p68 : lw_okq (⟨"HostYearModel", "fill", "(I)V"⟩, 58) := ⟨⟨by decide +kernel, by decide +kernel⟩, List.mem_of_getElem? (i := 736) (by decide +kernel), List.mem_of_getElem? (i := 1125) (by decide +kernel), List.mem_of_getElem? (i := 1126) (by decide +kernel)⟩
theorem lw_p69 : lw_okq (⟨"HostYearModel", "best", "(III)I"⟩, 58) := ⟨⟨by decide +kernel, by decide +kernel⟩, List.mem_of_getElem? (i := 736) (by decide +kernel), List.mem_of_getElem? (i := 1129) (by decide +kernel), List.mem_of_getElem? (i := 1130) (by decide +kernel)⟩
theorem lw_p70 : lw_okq (⟨"HostYearModel", "mayStay", "(II)Z"⟩, 58) := ⟨⟨by decide +kernel, by decide +kernel⟩, List.mem_of_getElem? (i := 736) (by decide +kernel), List.mem_of_getElem? (i := 1133) (by decide +kernel), List.mem_of_getElem? (i := 1134) (by decide +kernel)⟩
theorem lw_p71 : lw_okq (⟨"HostYearModel", "counts", "(II)I"⟩, 58) := ⟨⟨by decide +kernel, by decide +kernel⟩, List.mem_of_getElem? (i := 736) (by decide +kernel), List.mem_of_getElem? (i := 1137) (by decide +kernel), List.mem_of_getElem? (i := 1138) (by decide +kernel)⟩
theorem lw_p72 : lw_okq (⟨"HostYearModel", "mayGo", "(II)Z"⟩, 58) := ⟨⟨by decide +kernel, by decide +kernel⟩, List.mem_of_getElem? (i := 736) (by decide +kernel), List.mem_of_getElem? (i := 1145) (by decide +kernel), List.mem_of_getElem? (i := 1146) (by decide +kernel)⟩
theorem lw_p73 : lw_okq (⟨"HostYearModel", "against", "(II)I"⟩, 58) := ⟨⟨by decide +kernel, by decide +kernel⟩, List.mem_of_getElem? (i := 736) (by decide +kernel), List.mem_of_getElem? (i := 1152) (by decide +kernel), List.mem_of_getElem? (i := 1153) (by decide +kernel)⟩
theorem lw_p74 : lw_okq (⟨"HostYearModel", "follow", "(I)V"⟩, 58) := ⟨⟨by decide +kernel, by decide +kernel⟩, List.mem_of_getElem? (i := 736) (by decide +kernel), List.mem_of_getElem? (i := 1156) (by decide +kernel), List.mem_of_getElem? (i := 1157) (by decide +kernel)⟩
theorem lw_p75 : lw_okq (⟨"HostYearModel", "isAhead", "()Z"⟩, 58) := ⟨⟨by decide +kernel, by decide +kernel⟩, List.mem_of_getElem? (i := 736) (by decide +kernel), List.mem_of_getElem? (i := 1160) (by decide +kernel), List.mem_of_getElem? (i := 1161) (by decide +kernel)⟩
theorem lw_p76 : lw_okq (⟨"HostYearModel", "isClosed", "()Z"⟩, 58) := ⟨⟨by decide +kernel, by decide +kernel⟩, List.mem_of_getElem? (i := 736) (by decide +kernel), List.mem_of_getElem? (i := 1176) (by decide +kernel), List.mem_of_getElem? (i := 1177) (by decide +kernel)⟩
theorem lw_p77 : lw_okq (⟨"HostYearModel", "guest", "([II)I"⟩, 58) := ⟨⟨by decide +kernel, by decide +kernel⟩, List.mem_of_getElem? (i := 736) (by decide +kernel), List.mem_of_getElem? (i := 1180) (by decide +kernel), List.mem_of_getElem? (i := 1181) (by decide +kernel)⟩
theorem lw_p78 : lw_okq (⟨"HostYearModel", "going", "()I"⟩, 58) := ⟨⟨by decide +kernel, by decide +kernel⟩, List.mem_of_getElem? (i := 736) (by decide +kernel), List.mem_of_getElem? (i := 1184) (by decide +kernel), List.mem_of_getElem? (i := 1185) (by decide +kernel)⟩
def lw_privs_5 : List (MethodName × Nat) := [(⟨"HostYearModel", "worked", "(IIIII)I"⟩, 58), (⟨"HostYearModel", "price", "(III)I"⟩, 58), (⟨"HostYearModel", "weigh", "(II)V"⟩, 58), (⟨"HostYearModel", "search", "()V"⟩, 58), (⟨"HostYearModel", "fill", "(I)V"⟩, 58), (⟨"HostYearModel", "best", "(III)I"⟩, 58), (⟨"HostYearModel", "mayStay", "(II)Z"⟩, 58), (⟨"HostYearModel", "counts", "(II)I"⟩, 58), (⟨"HostYearModel", "mayGo", "(II)Z"⟩, 58), (⟨"HostYearModel", "against", "(II)I"⟩, 58), (⟨"HostYearModel", "follow", "(I)V"⟩, 58), (⟨"HostYearModel", "isAhead", "()Z"⟩, 58), (⟨"HostYearModel", "isClosed", "()Z"⟩, 58), (⟨"HostYearModel", "guest", "([II)I"⟩, 58), (⟨"HostYearModel", "going", "()I"⟩, 58)]
theorem lw_r5 : ∀ q ∈ lw_privs_5, lw_okq q := List.forall_mem_cons.mpr ⟨lw_p64, List.forall_mem_cons.mpr ⟨lw_p65, List.forall_mem_cons.mpr ⟨lw_p66, List.forall_mem_cons.mpr ⟨lw_p67, List.forall_mem_cons.mpr ⟨lw_p68, List.forall_mem_cons.mpr ⟨lw_p69, List.forall_mem_cons.mpr ⟨lw_p70, List.forall_mem_cons.mpr ⟨lw_p71, List.forall_mem_cons.mpr ⟨lw_p72, List.forall_mem_cons.mpr ⟨lw_p73, List.forall_mem_cons.mpr ⟨lw_p74, List.forall_mem_cons.mpr ⟨lw_p75, List.forall_mem_cons.mpr ⟨lw_p76, List.forall_mem_cons.mpr ⟨lw_p77, List.forall_mem_cons.mpr ⟨lw_p78, fun _ h => absurd h List.not_mem_nil⟩⟩⟩⟩⟩⟩⟩⟩⟩⟩⟩⟩⟩⟩⟩
def lw_privs : List (MethodName × Nat) := lw_privs_1 ++ (lw_privs_2 ++ (lw_privs_3 ++ (lw_privs_4 ++ (lw_privs_5))))
def lw_tbl : List Cond := k2_sels lw_privs ++ tables_1
theorem lw_privs_ok : ∀ q ∈ lw_privs, lw_okq q := by
  show ∀ q ∈ lw_privs_1 ++ (lw_privs_2 ++ (lw_privs_3 ++ (lw_privs_4 ++ (lw_privs_5)))), lw_okq q
  exact List.forall_mem_append.mpr ⟨lw_r1, List.forall_mem_append.mpr ⟨lw_r2, List.forall_mem_append.mpr ⟨lw_r3, List.forall_mem_append.mpr ⟨lw_r4, lw_r5⟩⟩⟩⟩
-- ===== end of PART A; then your names; then what follows =====
def RX0 : String := "HostYear$FactBook"
def TX0 : u_T := fun k => match k with
  | 0 => ("HostYear$FactBook", "cell", "[I", true)
  | 1 => ("HostYear$FactBook", "value", "[I", true)
  | 2 => ("HostYear$FactBook", "told", "[I", true)
  | _ => ("HostYear$FactBook", "size", "I", false)
def tyX0 : Nat → FieldType := fun k => match k with
  | 0 => .array .int
  | 1 => .array .int
  | 2 => .array .int
  | _ => .int
abbrev wsX00 : List Cond := u_ws RX0 TX0 4
theorem nmX0 : ∀ a, a < 4 → ∀ b, b < 4 → a ≠ b → (TX0 a).2.1 ≠ (TX0 b).2.1 := by decide +kernel
theorem tyX0_ok : ∀ k, k < 4 → parseFieldDescriptor (TX0 k).2.2.1 = some (tyX0 k) := by decide +kernel
abbrev cX0_init : ByteArray := prog_2_method_1_code
def yX0_init : MethodName := ⟨RX0, "<init>", "()V"⟩
abbrev cX0_add : ByteArray := prog_2_method_2_code
def yX0_add : MethodName := ⟨RX0, "add", "(III)I"⟩
abbrev cX0_latest : ByteArray := prog_2_method_3_code
def yX0_latest : MethodName := ⟨RX0, "latest", "(II)I"⟩
abbrev cX0_fill : ByteArray := prog_2_method_4_code
def yX0_fill : MethodName := ⟨RX0, "fill", "([II)V"⟩
def RX1 : String := "HostYear$Judge"
def TX1 : u_T := fun k => match k with
  | 0 => ("HostYear$Judge", "view", "[I", true)
  | _ => ("HostYear$Judge", "stack", "[I", true)
def tyX1 : Nat → FieldType := fun k => match k with
  | 0 => .array .int
  | _ => .array .int
abbrev wsX10 : List Cond := u_ws RX1 TX1 2
theorem nmX1 : ∀ a, a < 2 → ∀ b, b < 2 → a ≠ b → (TX1 a).2.1 ≠ (TX1 b).2.1 := by decide +kernel
theorem tyX1_ok : ∀ k, k < 2 → parseFieldDescriptor (TX1 k).2.2.1 = some (tyX1 k) := by decide +kernel
abbrev cX1_init : ByteArray := prog_3_method_1_code
def yX1_init : MethodName := ⟨RX1, "<init>", "()V"⟩
abbrev cX1_fact : ByteArray := prog_3_method_2_code
def yX1_fact : MethodName := ⟨RX1, "fact", "(II)I"⟩
abbrev cX1_reason : ByteArray := prog_3_method_3_code
def yX1_reason : MethodName := ⟨RX1, "reason", "(LHostYear$Text;III)I"⟩
abbrev cX1_costOrNone : ByteArray := prog_3_method_4_code
def yX1_costOrNone : MethodName := ⟨RX1, "costOrNone", "(LHostYear$Text;III)I"⟩
abbrev cX1_holds : ByteArray := prog_3_method_5_code
def yX1_holds : MethodName := ⟨RX1, "holds", "(LHostYear$Text;III)Z"⟩
abbrev cX1_valueOf : ByteArray := prog_3_method_6_code
def yX1_valueOf : MethodName := ⟨RX1, "valueOf", "(LHostYear$Text;IIII)I"⟩
abbrev cX1_leaf : ByteArray := prog_3_method_7_code
def yX1_leaf : MethodName := ⟨RX1, "leaf", "(IIII)I"⟩
abbrev cX1_combine : ByteArray := prog_3_method_8_code
def yX1_combine : MethodName := ⟨RX1, "combine", "(III)I"⟩
def RX2 : String := "HostYear$Ledger"
def TX2 : u_T := fun k => match k with
  | 0 => ("HostYear$Ledger", "debt", "[I", true)
  | 1 => ("HostYear$Ledger", "given", "[I", true)
  | _ => ("HostYear$Ledger", "money", "[I", true)
def tyX2 : Nat → FieldType := fun k => match k with
  | 0 => .array .int
  | 1 => .array .int
  | _ => .array .int
abbrev wsX20 : List Cond := u_ws RX2 TX2 3
theorem nmX2 : ∀ a, a < 3 → ∀ b, b < 3 → a ≠ b → (TX2 a).2.1 ≠ (TX2 b).2.1 := by decide +kernel
theorem tyX2_ok : ∀ k, k < 3 → parseFieldDescriptor (TX2 k).2.2.1 = some (tyX2 k) := by decide +kernel
abbrev cX2_init : ByteArray := prog_4_method_1_code
def yX2_init : MethodName := ⟨RX2, "<init>", "()V"⟩
abbrev cX2_settle : ByteArray := prog_4_method_2_code
def yX2_settle : MethodName := ⟨RX2, "settle", "(IZZ)V"⟩
abbrev cX2_pay : ByteArray := prog_4_method_3_code
def yX2_pay : MethodName := ⟨RX2, "pay", "(III)V"⟩
def RX3 : String := "HostYear$Matching"
def TX3 : u_T := fun k => match k with
  | 0 => ("HostYear$Matching", "weight", "[J", true)
  | 1 => ("HostYear$Matching", "rowOf", "[I", true)
  | 2 => ("HostYear$Matching", "rowPrice", "[J", true)
  | 3 => ("HostYear$Matching", "columnPrice", "[J", true)
  | 4 => ("HostYear$Matching", "slack", "[J", true)
  | 5 => ("HostYear$Matching", "cameFrom", "[I", true)
  | _ => ("HostYear$Matching", "isSeen", "[Z", true)
def tyX3 : Nat → FieldType := fun k => match k with
  | 0 => .array .long
  | 1 => .array .int
  | 2 => .array .long
  | 3 => .array .long
  | 4 => .array .long
  | 5 => .array .int
  | _ => .array .boolean
abbrev wsX30 : List Cond := u_ws RX3 TX3 7
theorem nmX3 : ∀ a, a < 7 → ∀ b, b < 7 → a ≠ b → (TX3 a).2.1 ≠ (TX3 b).2.1 := by decide +kernel
theorem tyX3_ok : ∀ k, k < 7 → parseFieldDescriptor (TX3 k).2.2.1 = some (tyX3 k) := by decide +kernel
abbrev cX3_init : ByteArray := prog_5_method_1_code
def yX3_init : MethodName := ⟨RX3, "<init>", "()V"⟩
abbrev cX3_solve : ByteArray := prog_5_method_2_code
def yX3_solve : MethodName := ⟨RX3, "solve", "(I)V"⟩
abbrev cX3_isTight : ByteArray := prog_5_method_3_code
def yX3_isTight : MethodName := ⟨RX3, "isTight", "(II)Z"⟩
abbrev cX3_placeRow : ByteArray := prog_5_method_4_code
def yX3_placeRow : MethodName := ⟨RX3, "placeRow", "(II)V"⟩
abbrev cX3_nextColumn : ByteArray := prog_5_method_5_code
def yX3_nextColumn : MethodName := ⟨RX3, "nextColumn", "(II)I"⟩
abbrev cX3_shiftPrices : ByteArray := prog_5_method_6_code
def yX3_shiftPrices : MethodName := ⟨RX3, "shiftPrices", "(JI)V"⟩
def RX4 : String := "HostYear$Parser"
def TX4 : u_T := fun k => match k with
  | 0 => ("HostYear$Parser", "tokens", "LHostYear$Tokens;", true)
  | 1 => ("HostYear$Parser", "text", "LHostYear$Text;", false)
  | 2 => ("HostYear$Parser", "at", "I", false)
  | 3 => ("HostYear$Parser", "open", "I", false)
  | 4 => ("HostYear$Parser", "fault", "I", false)
  | 5 => ("HostYear$Parser", "lateFault", "I", false)
  | 6 => ("HostYear$Parser", "latePlace", "I", false)
  | _ => ("HostYear$Parser", "faultPlace", "I", false)
def tyX4 : Nat → FieldType := fun k => match k with
  | 0 => .object "HostYear$Tokens"
  | 1 => .object "HostYear$Text"
  | 2 => .int
  | 3 => .int
  | 4 => .int
  | 5 => .int
  | 6 => .int
  | _ => .int
abbrev wsX40 : List Cond := u_ws RX4 TX4 8
theorem nmX4 : ∀ a, a < 8 → ∀ b, b < 8 → a ≠ b → (TX4 a).2.1 ≠ (TX4 b).2.1 := by decide +kernel
theorem tyX4_ok : ∀ k, k < 8 → parseFieldDescriptor (TX4 k).2.2.1 = some (tyX4 k) := by decide +kernel
abbrev cX4_init : ByteArray := prog_6_method_1_code
def yX4_init : MethodName := ⟨RX4, "<init>", "()V"⟩
abbrev cX4_exchange : ByteArray := prog_6_method_2_code
def yX4_exchange : MethodName := ⟨RX4, "exchange", "(LHostYear$Text;)LHostYear$Text;"⟩
abbrev cX4_parse : ByteArray := prog_6_method_3_code
def yX4_parse : MethodName := ⟨RX4, "parse", "(LHostYear$Tape;)I"⟩
abbrev cX4_readTrait : ByteArray := prog_6_method_4_code
def yX4_readTrait : MethodName := ⟨RX4, "readTrait", "()V"⟩
abbrev cX4_readRule : ByteArray := prog_6_method_5_code
def yX4_readRule : MethodName := ⟨RX4, "readRule", "()V"⟩
abbrev cX4_readCond : ByteArray := prog_6_method_6_code
def yX4_readCond : MethodName := ⟨RX4, "readCond", "()V"⟩
abbrev cX4_readAll : ByteArray := prog_6_method_7_code
def yX4_readAll : MethodName := ⟨RX4, "readAll", "()V"⟩
abbrev cX4_readLit : ByteArray := prog_6_method_8_code
def yX4_readLit : MethodName := ⟨RX4, "readLit", "()V"⟩
abbrev cX4_relationStep : ByteArray := prog_6_method_9_code
def yX4_relationStep : MethodName := ⟨RX4, "relationStep", "()I"⟩
abbrev cX4_readSum : ByteArray := prog_6_method_10_code
def yX4_readSum : MethodName := ⟨RX4, "readSum", "()V"⟩
abbrev cX4_readPart : ByteArray := prog_6_method_11_code
def yX4_readPart : MethodName := ⟨RX4, "readPart", "()V"⟩
abbrev cX4_readUnit : ByteArray := prog_6_method_12_code
def yX4_readUnit : MethodName := ⟨RX4, "readUnit", "()V"⟩
abbrev cX4_readTraitOf : ByteArray := prog_6_method_13_code
def yX4_readTraitOf : MethodName := ⟨RX4, "readTraitOf", "(I)V"⟩
abbrev cX4_sees : ByteArray := prog_6_method_14_code
def yX4_sees : MethodName := ⟨RX4, "sees", "(I)Z"⟩
abbrev cX4_accepts : ByteArray := prog_6_method_15_code
def yX4_accepts : MethodName := ⟨RX4, "accepts", "(I)Z"⟩
abbrev cX4_opens : ByteArray := prog_6_method_16_code
def yX4_opens : MethodName := ⟨RX4, "opens", "(I)Z"⟩
abbrev cX4_expect : ByteArray := prog_6_method_17_code
def yX4_expect : MethodName := ⟨RX4, "expect", "(I)V"⟩
abbrev cX4_fail : ByteArray := prog_6_method_18_code
def yX4_fail : MethodName := ⟨RX4, "fail", "(I)V"⟩
abbrev cX4_failLate : ByteArray := prog_6_method_19_code
def yX4_failLate : MethodName := ⟨RX4, "failLate", "(I)V"⟩
def RX5 : String := "HostYear$Planner"
def TX5 : u_T := fun k => match k with
  | 0 => ("HostYear$Planner", "cost", "[I", true)
  | 1 => ("HostYear$Planner", "mayBeFirst", "[Z", true)
  | 2 => ("HostYear$Planner", "mayBeLast", "[Z", true)
  | 3 => ("HostYear$Planner", "home", "[I", true)
  | 4 => ("HostYear$Planner", "size", "I", false)
  | 5 => ("HostYear$Planner", "isOut", "[Z", true)
  | 6 => ("HostYear$Planner", "before", "[I", true)
  | _ => ("HostYear$Planner", "matching", "LHostYear$Matching;", true)
def tyX5 : Nat → FieldType := fun k => match k with
  | 0 => .array .int
  | 1 => .array .boolean
  | 2 => .array .boolean
  | 3 => .array .int
  | 4 => .int
  | 5 => .array .boolean
  | 6 => .array .int
  | _ => .object "HostYear$Matching"
abbrev wsX50 : List Cond := u_ws RX5 TX5 8
theorem nmX5 : ∀ a, a < 8 → ∀ b, b < 8 → a ≠ b → (TX5 a).2.1 ≠ (TX5 b).2.1 := by decide +kernel
theorem tyX5_ok : ∀ k, k < 8 → parseFieldDescriptor (TX5 k).2.2.1 = some (tyX5 k) := by decide +kernel
abbrev cX5_init : ByteArray := prog_7_method_1_code
def yX5_init : MethodName := ⟨RX5, "<init>", "()V"⟩
abbrev cX5_forget : ByteArray := prog_7_method_2_code
def yX5_forget : MethodName := ⟨RX5, "forget", "()V"⟩
abbrev cX5_remember : ByteArray := prog_7_method_3_code
def yX5_remember : MethodName := ⟨RX5, "remember", "(LHostYear$Year;)V"⟩
abbrev cX5_decide : ByteArray := prog_7_method_4_code
def yX5_decide : MethodName := ⟨RX5, "decide", "()V"⟩
abbrev cX5_costTogether : ByteArray := prog_7_method_5_code
def yX5_costTogether : MethodName := ⟨RX5, "costTogether", "()I"⟩
abbrev cX5_allows : ByteArray := prog_7_method_6_code
def yX5_allows : MethodName := ⟨RX5, "allows", "([I)Z"⟩
abbrev cX5_mayBe : ByteArray := prog_7_method_7_code
def yX5_mayBe : MethodName := ⟨RX5, "mayBe", "(II)Z"⟩
abbrev cX5_mayGo : ByteArray := prog_7_method_8_code
def yX5_mayGo : MethodName := ⟨RX5, "mayGo", "(II)Z"⟩
abbrev cX5_weighPlaces : ByteArray := prog_7_method_9_code
def yX5_weighPlaces : MethodName := ⟨RX5, "weighPlaces", "()V"⟩
abbrev cX5_placeWeight : ByteArray := prog_7_method_10_code
def yX5_placeWeight : MethodName := ⟨RX5, "placeWeight", "(II)J"⟩
abbrev cX5_weighOrder : ByteArray := prog_7_method_11_code
def yX5_weighOrder : MethodName := ⟨RX5, "weighOrder", "()V"⟩
def RX6 : String := "HostYear$Tape"
def TX6 : u_T := fun k => match k with
  | 0 => ("HostYear$Tape", "bytes", "[B", true)
  | _ => ("HostYear$Tape", "length", "I", false)
def tyX6 : Nat → FieldType := fun k => match k with
  | 0 => .array .byte
  | _ => .int
abbrev wsX60 : List Cond := u_ws RX6 TX6 2
theorem nmX6 : ∀ a, a < 2 → ∀ b, b < 2 → a ≠ b → (TX6 a).2.1 ≠ (TX6 b).2.1 := by decide +kernel
theorem tyX6_ok : ∀ k, k < 2 → parseFieldDescriptor (TX6 k).2.2.1 = some (tyX6 k) := by decide +kernel
abbrev cX6_init : ByteArray := prog_8_method_1_code
def yX6_init : MethodName := ⟨RX6, "<init>", "()V"⟩
abbrev cX6_append : ByteArray := prog_8_method_2_code
def yX6_append : MethodName := ⟨RX6, "append", "(I)V"⟩
abbrev cX6_byteAt : ByteArray := prog_8_method_3_code
def yX6_byteAt : MethodName := ⟨RX6, "byteAt", "(I)I"⟩
def RX7 : String := "HostYear$Text"
def TX7 : u_T := fun k => match k with
  | 0 => ("HostYear$Text", "code", "[I", true)
  | 1 => ("HostYear$Text", "isBar", "[Z", true)
  | 2 => ("HostYear$Text", "from", "[I", true)
  | 3 => ("HostYear$Text", "condFrom", "[I", true)
  | 4 => ("HostYear$Text", "to", "[I", true)
  | 5 => ("HostYear$Text", "trait", "[J", true)
  | 6 => ("HostYear$Text", "size", "I", false)
  | 7 => ("HostYear$Text", "rules", "I", false)
  | _ => ("HostYear$Text", "traits", "I", false)
def tyX7 : Nat → FieldType := fun k => match k with
  | 0 => .array .int
  | 1 => .array .boolean
  | 2 => .array .int
  | 3 => .array .int
  | 4 => .array .int
  | 5 => .array .long
  | 6 => .int
  | 7 => .int
  | _ => .int
abbrev wsX70 : List Cond := u_ws RX7 TX7 9
theorem nmX7 : ∀ a, a < 9 → ∀ b, b < 9 → a ≠ b → (TX7 a).2.1 ≠ (TX7 b).2.1 := by decide +kernel
theorem tyX7_ok : ∀ k, k < 9 → parseFieldDescriptor (TX7 k).2.2.1 = some (tyX7 k) := by decide +kernel
abbrev cX7_init : ByteArray := prog_9_method_1_code
def yX7_init : MethodName := ⟨RX7, "<init>", "()V"⟩
abbrev cX7_clear : ByteArray := prog_9_method_2_code
def yX7_clear : MethodName := ⟨RX7, "clear", "()V"⟩
abbrev cX7_addStep : ByteArray := prog_9_method_3_code
def yX7_addStep : MethodName := ⟨RX7, "addStep", "(II)V"⟩
abbrev cX7_addTrait : ByteArray := prog_9_method_4_code
def yX7_addTrait : MethodName := ⟨RX7, "addTrait", "(J)V"⟩
abbrev cX7_traitNamed : ByteArray := prog_9_method_5_code
def yX7_traitNamed : MethodName := ⟨RX7, "traitNamed", "(J)I"⟩
abbrev cX7_addRule : ByteArray := prog_9_method_6_code
def yX7_addRule : MethodName := ⟨RX7, "addRule", "(ZII)V"⟩
def RX8 : String := "HostYear$Tokens"
def TX8 : u_T := fun k => match k with
  | 0 => ("HostYear$Tokens", "kind", "[I", true)
  | 1 => ("HostYear$Tokens", "start", "[I", true)
  | _ => ("HostYear$Tokens", "value", "[J", true)
def tyX8 : Nat → FieldType := fun k => match k with
  | 0 => .array .int
  | 1 => .array .int
  | _ => .array .long
abbrev wsX80 : List Cond := u_ws RX8 TX8 3
theorem nmX8 : ∀ a, a < 3 → ∀ b, b < 3 → a ≠ b → (TX8 a).2.1 ≠ (TX8 b).2.1 := by decide +kernel
theorem tyX8_ok : ∀ k, k < 3 → parseFieldDescriptor (TX8 k).2.2.1 = some (tyX8 k) := by decide +kernel
abbrev cX8_init : ByteArray := prog_10_method_1_code
def yX8_init : MethodName := ⟨RX8, "<init>", "()V"⟩
abbrev cX8_scan : ByteArray := prog_10_method_2_code
def yX8_scan : MethodName := ⟨RX8, "scan", "(LHostYear$Tape;)V"⟩
abbrev cX8_behindBlanks : ByteArray := prog_10_method_3_code
def yX8_behindBlanks : MethodName := ⟨RX8, "behindBlanks", "(LHostYear$Tape;I)I"⟩
abbrev cX8_scanOne : ByteArray := prog_10_method_4_code
def yX8_scanOne : MethodName := ⟨RX8, "scanOne", "(LHostYear$Tape;II)I"⟩
abbrev cX8_scanName : ByteArray := prog_10_method_5_code
def yX8_scanName : MethodName := ⟨RX8, "scanName", "(LHostYear$Tape;II)I"⟩
abbrev cX8_scanNumber : ByteArray := prog_10_method_6_code
def yX8_scanNumber : MethodName := ⟨RX8, "scanNumber", "(LHostYear$Tape;II)I"⟩
abbrev cX8_signAt : ByteArray := prog_10_method_7_code
def yX8_signAt : MethodName := ⟨RX8, "signAt", "(LHostYear$Tape;I)I"⟩
abbrev cX8_wordOrName : ByteArray := prog_10_method_8_code
def yX8_wordOrName : MethodName := ⟨RX8, "wordOrName", "(J)I"⟩
abbrev cX8_isBlank : ByteArray := prog_10_method_9_code
def yX8_isBlank : MethodName := ⟨RX8, "isBlank", "(I)Z"⟩
abbrev cX8_isLetter : ByteArray := prog_10_method_10_code
def yX8_isLetter : MethodName := ⟨RX8, "isLetter", "(I)Z"⟩
abbrev cX8_isDigit : ByteArray := prog_10_method_11_code
def yX8_isDigit : MethodName := ⟨RX8, "isDigit", "(I)Z"⟩
def RX9 : String := "HostYear$Year"
def TX9 : u_T := fun k => match k with
  | 0 => ("HostYear$Year", "home", "[I", true)
  | 1 => ("HostYear$Year", "isOut", "[Z", true)
  | 2 => ("HostYear$Year", "mover", "[I", true)
  | 3 => ("HostYear$Year", "movers", "I", false)
  | _ => ("HostYear$Year", "hasBegun", "Z", false)
def tyX9 : Nat → FieldType := fun k => match k with
  | 0 => .array .int
  | 1 => .array .boolean
  | 2 => .array .int
  | 3 => .int
  | _ => .boolean
abbrev wsX90 : List Cond := u_ws RX9 TX9 5
theorem nmX9 : ∀ a, a < 5 → ∀ b, b < 5 → a ≠ b → (TX9 a).2.1 ≠ (TX9 b).2.1 := by decide +kernel
theorem tyX9_ok : ∀ k, k < 5 → parseFieldDescriptor (TX9 k).2.2.1 = some (tyX9 k) := by decide +kernel
abbrev cX9_init : ByteArray := prog_11_method_1_code
def yX9_init : MethodName := ⟨RX9, "<init>", "()V"⟩
abbrev cX9_begin : ByteArray := prog_11_method_2_code
def yX9_begin : MethodName := ⟨RX9, "begin", "([I)V"⟩
abbrev cX9_dropOut : ByteArray := prog_11_method_3_code
def yX9_dropOut : MethodName := ⟨RX9, "dropOut", "(I)V"⟩
abbrev cX9_change : ByteArray := prog_11_method_4_code
def yX9_change : MethodName := ⟨RX9, "change", "([I)I"⟩
abbrev cX9_guestOf : ByteArray := prog_11_method_5_code
def yX9_guestOf : MethodName := ⟨RX9, "guestOf", "(I)I"⟩
abbrev cX9_clear : ByteArray := prog_11_method_6_code
def yX9_clear : MethodName := ⟨RX9, "clear", "()V"⟩
def RX10 : String := "HostYear"
def TX10 : u_T := fun k => match k with
  | 0 => ("HostYear", "facts", "LHostYear$FactBook;", true)
  | 1 => ("HostYear", "tape", "LHostYear$Tape;", true)
  | 2 => ("HostYear", "parser", "LHostYear$Parser;", true)
  | 3 => ("HostYear", "judge", "LHostYear$Judge;", true)
  | 4 => ("HostYear", "planner", "LHostYear$Planner;", true)
  | 5 => ("HostYear", "year", "LHostYear$Year;", true)
  | 6 => ("HostYear", "ledger", "LHostYear$Ledger;", true)
  | 7 => ("HostYear", "hand", "[I", true)
  | 8 => ("HostYear", "first", "LHostYear$Text;", false)
  | 9 => ("HostYear", "second", "LHostYear$Text;", false)
  | 10 => ("HostYear", "isAtHand", "Z", false)
  | 11 => ("HostYear", "handCost", "I", false)
  | 12 => ("HostYear", "families", "I", false)
  | 13 => ("HostYear", "today", "I", false)
  | 14 => ("HostYear", "lastTerm", "I", false)
  | _ => ("HostYear", "years", "I", false)
def tyX10 : Nat → FieldType := fun k => match k with
  | 0 => .object "HostYear$FactBook"
  | 1 => .object "HostYear$Tape"
  | 2 => .object "HostYear$Parser"
  | 3 => .object "HostYear$Judge"
  | 4 => .object "HostYear$Planner"
  | 5 => .object "HostYear$Year"
  | 6 => .object "HostYear$Ledger"
  | 7 => .array .int
  | 8 => .object "HostYear$Text"
  | 9 => .object "HostYear$Text"
  | 10 => .boolean
  | 11 => .int
  | 12 => .int
  | 13 => .int
  | 14 => .int
  | _ => .int
abbrev wsX100 : List Cond := u_ws RX10 TX10 16
theorem nmX10 : ∀ a, a < 16 → ∀ b, b < 16 → a ≠ b → (TX10 a).2.1 ≠ (TX10 b).2.1 := by decide +kernel
theorem tyX10_ok : ∀ k, k < 16 → parseFieldDescriptor (TX10 k).2.2.1 = some (tyX10 k) := by decide +kernel
abbrev cX10_init : ByteArray := prog_1_method_1_code
def yX10_init : MethodName := ⟨RX10, "<init>", "()V"⟩
abbrev cX10_feed : ByteArray := prog_1_method_2_code
def yX10_feed : MethodName := ⟨RX10, "feed", "(IIIII)I"⟩
abbrev cX10_back : ByteArray := prog_1_method_3_code
def yX10_back : MethodName := ⟨RX10, "back", "(I)I"⟩
abbrev cX10_read : ByteArray := prog_1_method_4_code
def yX10_read : MethodName := ⟨RX10, "read", "(I)I"⟩
abbrev cX10_place : ByteArray := prog_1_method_5_code
def yX10_place : MethodName := ⟨RX10, "place", "()I"⟩
abbrev cX10_family : ByteArray := prog_1_method_6_code
def yX10_family : MethodName := ⟨RX10, "family", "()I"⟩
abbrev cX10_clock : ByteArray := prog_1_method_7_code
def yX10_clock : MethodName := ⟨RX10, "clock", "(I)Z"⟩
abbrev cX10_term : ByteArray := prog_1_method_8_code
def yX10_term : MethodName := ⟨RX10, "term", "(I)Z"⟩
abbrev cX10_tell : ByteArray := prog_1_method_9_code
def yX10_tell : MethodName := ⟨RX10, "tell", "(III)I"⟩
abbrev cX10_known : ByteArray := prog_1_method_10_code
def yX10_known : MethodName := ⟨RX10, "known", "(III)I"⟩
abbrev cX10_why : ByteArray := prog_1_method_11_code
def yX10_why : MethodName := ⟨RX10, "why", "(IIII)I"⟩
abbrev cX10_cost : ByteArray := prog_1_method_12_code
def yX10_cost : MethodName := ⟨RX10, "cost", "(IIII)I"⟩
abbrev cX10_round : ByteArray := prog_1_method_13_code
def yX10_round : MethodName := ⟨RX10, "round", "(II)I"⟩
abbrev cX10_goes : ByteArray := prog_1_method_14_code
def yX10_goes : MethodName := ⟨RX10, "goes", "(I)I"⟩
abbrev cX10_costs : ByteArray := prog_1_method_15_code
def yX10_costs : MethodName := ⟨RX10, "costs", "()I"⟩
abbrev cX10_take : ByteArray := prog_1_method_16_code
def yX10_take : MethodName := ⟨RX10, "take", "()I"⟩
abbrev cX10_fall : ByteArray := prog_1_method_17_code
def yX10_fall : MethodName := ⟨RX10, "fall", "(I)I"⟩
abbrev cX10_moved : ByteArray := prog_1_method_18_code
def yX10_moved : MethodName := ⟨RX10, "moved", "(I)I"⟩
abbrev cX10_close : ByteArray := prog_1_method_19_code
def yX10_close : MethodName := ⟨RX10, "close", "()I"⟩
abbrev cX10_link : ByteArray := prog_1_method_20_code
def yX10_link : MethodName := ⟨RX10, "link", "(II)I"⟩
abbrev cX10_of : ByteArray := prog_1_method_21_code
def yX10_of : MethodName := ⟨RX10, "of", "(II)I"⟩
abbrev cX10_count : ByteArray := prog_1_method_22_code
def yX10_count : MethodName := ⟨RX10, "count", "(I)I"⟩
abbrev cX10_isFamily : ByteArray := prog_1_method_23_code
def yX10_isFamily : MethodName := ⟨RX10, "isFamily", "(I)Z"⟩
abbrev cX10_isDay : ByteArray := prog_1_method_24_code
def yX10_isDay : MethodName := ⟨RX10, "isDay", "(I)Z"⟩
abbrev cX10_textOf : ByteArray := prog_1_method_25_code
def yX10_textOf : MethodName := ⟨RX10, "textOf", "(I)LHostYear$Text;"⟩
abbrev cX10_columnOf : ByteArray := prog_1_method_26_code
def yX10_columnOf : MethodName := ⟨RX10, "columnOf", "(I)I"⟩
abbrev cX10_leastOf : ByteArray := prog_1_method_27_code
def yX10_leastOf : MethodName := ⟨RX10, "leastOf", "(I)I"⟩
abbrev cX10_mostOf : ByteArray := prog_1_method_28_code
def yX10_mostOf : MethodName := ⟨RX10, "mostOf", "(I)I"⟩
abbrev cX10_prepare : ByteArray := prog_1_method_29_code
def yX10_prepare : MethodName := ⟨RX10, "prepare", "(LHostYear$Text;I)V"⟩
abbrev cX10_goingIn : ByteArray := prog_1_method_30_code
def yX10_goingIn : MethodName := ⟨RX10, "goingIn", "([I)I"⟩
abbrev cX10_guestIn : ByteArray := prog_1_method_31_code
def yX10_guestIn : MethodName := ⟨RX10, "guestIn", "([II)I"⟩
def RX11 : String := "HostYearModel"
def TX11 : u_T := fun k => match k with
  | 0 => ("HostYearModel", "tape", "[B", true)
  | 1 => ("HostYearModel", "taped", "I", false)
  | 2 => ("HostYearModel", "faultKind", "I", false)
  | 3 => ("HostYearModel", "faultPlace", "I", false)
  | 4 => ("HostYearModel", "order", "[I", true)
  | 5 => ("HostYearModel", "number", "[I", true)
  | 6 => ("HostYearModel", "orders", "[I", true)
  | 7 => ("HostYearModel", "rules", "[I", true)
  | 8 => ("HostYearModel", "isBar", "[Z", true)
  | 9 => ("HostYearModel", "eFrom", "[I", true)
  | 10 => ("HostYearModel", "eTo", "[I", true)
  | 11 => ("HostYearModel", "condFrom", "[I", true)
  | 12 => ("HostYearModel", "condTo", "[I", true)
  | 13 => ("HostYearModel", "traitName", "[J", true)
  | 14 => ("HostYearModel", "traits", "I", false)
  | 15 => ("HostYearModel", "families", "I", false)
  | 16 => ("HostYearModel", "clock", "I", false)
  | 17 => ("HostYearModel", "term", "I", false)
  | 18 => ("HostYearModel", "facts", "I", false)
  | 19 => ("HostYearModel", "factOf", "[I", true)
  | 20 => ("HostYearModel", "factWhat", "[I", true)
  | 21 => ("HostYearModel", "factValue", "[I", true)
  | 22 => ("HostYearModel", "factDay", "[I", true)
  | 23 => ("HostYearModel", "home", "[I", true)
  | 24 => ("HostYearModel", "isOut", "[Z", true)
  | 25 => ("HostYearModel", "debt", "[I", true)
  | 26 => ("HostYearModel", "given", "[I", true)
  | 27 => ("HostYearModel", "money", "[I", true)
  | 28 => ("HostYearModel", "hadPlaces", "Z", false)
  | 29 => ("HostYearModel", "years", "I", false)
  | 30 => ("HostYearModel", "isRound", "Z", false)
  | 31 => ("HostYearModel", "roundHome", "[I", true)
  | 32 => ("HostYearModel", "roundCost", "I", false)
  | 33 => ("HostYearModel", "movedOnes", "[I", true)
  | 34 => ("HostYearModel", "movedMany", "I", false)
  | 35 => ("HostYearModel", "kind", "I", false)
  | 36 => ("HostYearModel", "begin", "I", false)
  | 37 => ("HostYearModel", "end", "I", false)
  | 38 => ("HostYearModel", "mark", "I", false)
  | 39 => ("HostYearModel", "letters", "J", false)
  | 40 => ("HostYearModel", "tokens", "I", false)
  | 41 => ("HostYearModel", "open", "I", false)
  | 42 => ("HostYearModel", "waiting", "[I", true)
  | 43 => ("HostYearModel", "waits", "I", false)
  | 44 => ("HostYearModel", "judging", "[I", true)
  | 45 => ("HostYearModel", "judges", "I", false)
  | 46 => ("HostYearModel", "now", "[I", true)
  | 47 => ("HostYearModel", "pile", "[I", true)
  | 48 => ("HostYearModel", "may", "[I", true)
  | 49 => ("HostYearModel", "isTrusted", "[Z", true)
  | 50 => ("HostYearModel", "isGiver", "[Z", true)
  | 51 => ("HostYearModel", "asIs", "[I", true)
  | 52 => ("HostYearModel", "keeps", "Z", false)
  | 53 => ("HostYearModel", "least", "[I", true)
  | 54 => ("HostYearModel", "trial", "[I", true)
  | 55 => ("HostYearModel", "chosen", "[I", true)
  | 56 => ("HostYearModel", "chosenCounts", "I", false)
  | _ => ("HostYearModel", "chosenMany", "I", false)
def tyX11 : Nat → FieldType := fun k => match k with
  | 0 => .array .byte
  | 1 => .int
  | 2 => .int
  | 3 => .int
  | 4 => .array .int
  | 5 => .array .int
  | 6 => .array .int
  | 7 => .array .int
  | 8 => .array .boolean
  | 9 => .array .int
  | 10 => .array .int
  | 11 => .array .int
  | 12 => .array .int
  | 13 => .array .long
  | 14 => .int
  | 15 => .int
  | 16 => .int
  | 17 => .int
  | 18 => .int
  | 19 => .array .int
  | 20 => .array .int
  | 21 => .array .int
  | 22 => .array .int
  | 23 => .array .int
  | 24 => .array .boolean
  | 25 => .array .int
  | 26 => .array .int
  | 27 => .array .int
  | 28 => .boolean
  | 29 => .int
  | 30 => .boolean
  | 31 => .array .int
  | 32 => .int
  | 33 => .array .int
  | 34 => .int
  | 35 => .int
  | 36 => .int
  | 37 => .int
  | 38 => .int
  | 39 => .long
  | 40 => .int
  | 41 => .int
  | 42 => .array .int
  | 43 => .int
  | 44 => .array .int
  | 45 => .int
  | 46 => .array .int
  | 47 => .array .int
  | 48 => .array .int
  | 49 => .array .boolean
  | 50 => .array .boolean
  | 51 => .array .int
  | 52 => .boolean
  | 53 => .array .int
  | 54 => .array .int
  | 55 => .array .int
  | 56 => .int
  | _ => .int
abbrev wsX110 : List Cond := u_ws RX11 TX11 58
theorem nmX11 : ∀ a, a < 58 → ∀ b, b < 58 → a ≠ b → (TX11 a).2.1 ≠ (TX11 b).2.1 := by decide +kernel
theorem tyX11_ok : ∀ k, k < 58 → parseFieldDescriptor (TX11 k).2.2.1 = some (tyX11 k) := by decide +kernel
abbrev cX11_init : ByteArray := prog_13_method_1_code
def yX11_init : MethodName := ⟨RX11, "<init>", "()V"⟩
abbrev cX11_feed : ByteArray := prog_13_method_2_code
def yX11_feed : MethodName := ⟨RX11, "feed", "(IIIII)I"⟩
abbrev cX11_byteRow : ByteArray := prog_13_method_3_code
def yX11_byteRow : MethodName := ⟨RX11, "byteRow", "(I)V"⟩
abbrev cX11_back : ByteArray := prog_13_method_4_code
def yX11_back : MethodName := ⟨RX11, "back", "(I)I"⟩
abbrev cX11_seen : ByteArray := prog_13_method_5_code
def yX11_seen : MethodName := ⟨RX11, "seen", "(I)I"⟩
abbrev cX11_isDigit : ByteArray := prog_13_method_6_code
def yX11_isDigit : MethodName := ⟨RX11, "isDigit", "(I)Z"⟩
abbrev cX11_isLetter : ByteArray := prog_13_method_7_code
def yX11_isLetter : MethodName := ⟨RX11, "isLetter", "(I)Z"⟩
abbrev cX11_word : ByteArray := prog_13_method_8_code
def yX11_word : MethodName := ⟨RX11, "word", "(J)I"⟩
abbrev cX11_token : ByteArray := prog_13_method_9_code
def yX11_token : MethodName := ⟨RX11, "token", "()V"⟩
abbrev cX11_stop : ByteArray := prog_13_method_10_code
def yX11_stop : MethodName := ⟨RX11, "stop", "(II)Z"⟩
abbrev cX11_fault : ByteArray := prog_13_method_11_code
def yX11_fault : MethodName := ⟨RX11, "fault", "(II)V"⟩
abbrev cX11_pass : ByteArray := prog_13_method_12_code
def yX11_pass : MethodName := ⟨RX11, "pass", "()Z"⟩
abbrev cX11_isSign : ByteArray := prog_13_method_13_code
def yX11_isSign : MethodName := ⟨RX11, "isSign", "(I)Z"⟩
abbrev cX11_isWord : ByteArray := prog_13_method_14_code
def yX11_isWord : MethodName := ⟨RX11, "isWord", "(I)Z"⟩
abbrev cX11_sign : ByteArray := prog_13_method_15_code
def yX11_sign : MethodName := ⟨RX11, "sign", "(I)Z"⟩
abbrev cX11_emit : ByteArray := prog_13_method_16_code
def yX11_emit : MethodName := ⟨RX11, "emit", "(II)V"⟩
abbrev cX11_trait : ByteArray := prog_13_method_17_code
def yX11_trait : MethodName := ⟨RX11, "trait", "(J)I"⟩
abbrev cX11_isWaiting : ByteArray := prog_13_method_18_code
def yX11_isWaiting : MethodName := ⟨RX11, "isWaiting", "(I)Z"⟩
abbrev cX11_isJudging : ByteArray := prog_13_method_19_code
def yX11_isJudging : MethodName := ⟨RX11, "isJudging", "(I)Z"⟩
abbrev cX11_settle : ByteArray := prog_13_method_20_code
def yX11_settle : MethodName := ⟨RX11, "settle", "()V"⟩
abbrev cX11_unit : ByteArray := prog_13_method_21_code
def yX11_unit : MethodName := ⟨RX11, "unit", "()Z"⟩
abbrev cX11_expression : ByteArray := prog_13_method_22_code
def yX11_expression : MethodName := ⟨RX11, "expression", "()Z"⟩
abbrev cX11_relation : ByteArray := prog_13_method_23_code
def yX11_relation : MethodName := ⟨RX11, "relation", "()Z"⟩
abbrev cX11_judge : ByteArray := prog_13_method_24_code
def yX11_judge : MethodName := ⟨RX11, "judge", "()V"⟩
abbrev cX11_condition : ByteArray := prog_13_method_25_code
def yX11_condition : MethodName := ⟨RX11, "condition", "()Z"⟩
abbrev cX11_read : ByteArray := prog_13_method_26_code
def yX11_read : MethodName := ⟨RX11, "read", "(I)I"⟩
abbrev cX11_text : ByteArray := prog_13_method_27_code
def yX11_text : MethodName := ⟨RX11, "text", "()Z"⟩
abbrev cX11_rule : ByteArray := prog_13_method_28_code
def yX11_rule : MethodName := ⟨RX11, "rule", "()Z"⟩
abbrev cX11_place : ByteArray := prog_13_method_29_code
def yX11_place : MethodName := ⟨RX11, "place", "()I"⟩
abbrev cX11_family : ByteArray := prog_13_method_30_code
def yX11_family : MethodName := ⟨RX11, "family", "()I"⟩
abbrev cX11_isFamily : ByteArray := prog_13_method_31_code
def yX11_isFamily : MethodName := ⟨RX11, "isFamily", "(I)Z"⟩
abbrev cX11_isDay : ByteArray := prog_13_method_32_code
def yX11_isDay : MethodName := ⟨RX11, "isDay", "(I)Z"⟩
abbrev cX11_clock : ByteArray := prog_13_method_33_code
def yX11_clock : MethodName := ⟨RX11, "clock", "(I)Z"⟩
abbrev cX11_term : ByteArray := prog_13_method_34_code
def yX11_term : MethodName := ⟨RX11, "term", "(I)Z"⟩
abbrev cX11_isWhat : ByteArray := prog_13_method_35_code
def yX11_isWhat : MethodName := ⟨RX11, "isWhat", "(I)Z"⟩
abbrev cX11_fits : ByteArray := prog_13_method_36_code
def yX11_fits : MethodName := ⟨RX11, "fits", "(II)Z"⟩
abbrev cX11_tell : ByteArray := prog_13_method_37_code
def yX11_tell : MethodName := ⟨RX11, "tell", "(III)I"⟩
abbrev cX11_latest : ByteArray := prog_13_method_38_code
def yX11_latest : MethodName := ⟨RX11, "latest", "(III)I"⟩
abbrev cX11_known : ByteArray := prog_13_method_39_code
def yX11_known : MethodName := ⟨RX11, "known", "(III)I"⟩
abbrev cX11_learn : ByteArray := prog_13_method_40_code
def yX11_learn : MethodName := ⟨RX11, "learn", "(I)V"⟩
abbrev cX11_worked : ByteArray := prog_13_method_41_code
def yX11_worked : MethodName := ⟨RX11, "worked", "(IIIII)I"⟩
abbrev cX11_two : ByteArray := prog_13_method_42_code
def yX11_two : MethodName := ⟨RX11, "two", "(III)I"⟩
abbrev cX11_holds : ByteArray := prog_13_method_43_code
def yX11_holds : MethodName := ⟨RX11, "holds", "(IIII)Z"⟩
abbrev cX11_reason : ByteArray := prog_13_method_44_code
def yX11_reason : MethodName := ⟨RX11, "reason", "(III)I"⟩
abbrev cX11_price : ByteArray := prog_13_method_45_code
def yX11_price : MethodName := ⟨RX11, "price", "(III)I"⟩
abbrev cX11_isAsked : ByteArray := prog_13_method_46_code
def yX11_isAsked : MethodName := ⟨RX11, "isAsked", "(IIII)Z"⟩
abbrev cX11_why : ByteArray := prog_13_method_47_code
def yX11_why : MethodName := ⟨RX11, "why", "(IIII)I"⟩
abbrev cX11_cost : ByteArray := prog_13_method_48_code
def yX11_cost : MethodName := ⟨RX11, "cost", "(IIII)I"⟩
abbrev cX11_weigh : ByteArray := prog_13_method_49_code
def yX11_weigh : MethodName := ⟨RX11, "weigh", "(II)V"⟩
abbrev cX11_counts : ByteArray := prog_13_method_50_code
def yX11_counts : MethodName := ⟨RX11, "counts", "(II)I"⟩
abbrev cX11_mayGo : ByteArray := prog_13_method_51_code
def yX11_mayGo : MethodName := ⟨RX11, "mayGo", "(II)Z"⟩
abbrev cX11_mayStay : ByteArray := prog_13_method_52_code
def yX11_mayStay : MethodName := ⟨RX11, "mayStay", "(II)Z"⟩
abbrev cX11_fill : ByteArray := prog_13_method_53_code
def yX11_fill : MethodName := ⟨RX11, "fill", "(I)V"⟩
abbrev cX11_best : ByteArray := prog_13_method_54_code
def yX11_best : MethodName := ⟨RX11, "best", "(III)I"⟩
abbrev cX11_sum : ByteArray := prog_13_method_55_code
def yX11_sum : MethodName := ⟨RX11, "sum", "(II)I"⟩
abbrev cX11_follow : ByteArray := prog_13_method_56_code
def yX11_follow : MethodName := ⟨RX11, "follow", "(I)V"⟩
abbrev cX11_isAhead : ByteArray := prog_13_method_57_code
def yX11_isAhead : MethodName := ⟨RX11, "isAhead", "()Z"⟩
abbrev cX11_bits : ByteArray := prog_13_method_58_code
def yX11_bits : MethodName := ⟨RX11, "bits", "(I)I"⟩
abbrev cX11_against : ByteArray := prog_13_method_59_code
def yX11_against : MethodName := ⟨RX11, "against", "(II)I"⟩
abbrev cX11_search : ByteArray := prog_13_method_60_code
def yX11_search : MethodName := ⟨RX11, "search", "()V"⟩
abbrev cX11_round : ByteArray := prog_13_method_61_code
def yX11_round : MethodName := ⟨RX11, "round", "(II)I"⟩
abbrev cX11_goes : ByteArray := prog_13_method_62_code
def yX11_goes : MethodName := ⟨RX11, "goes", "(I)I"⟩
abbrev cX11_costs : ByteArray := prog_13_method_63_code
def yX11_costs : MethodName := ⟨RX11, "costs", "()I"⟩
abbrev cX11_guest : ByteArray := prog_13_method_64_code
def yX11_guest : MethodName := ⟨RX11, "guest", "([II)I"⟩
abbrev cX11_isClosed : ByteArray := prog_13_method_65_code
def yX11_isClosed : MethodName := ⟨RX11, "isClosed", "()Z"⟩
abbrev cX11_going : ByteArray := prog_13_method_66_code
def yX11_going : MethodName := ⟨RX11, "going", "()I"⟩
abbrev cX11_take : ByteArray := prog_13_method_67_code
def yX11_take : MethodName := ⟨RX11, "take", "()I"⟩
abbrev cX11_fall : ByteArray := prog_13_method_68_code
def yX11_fall : MethodName := ⟨RX11, "fall", "(I)I"⟩
abbrev cX11_moved : ByteArray := prog_13_method_69_code
def yX11_moved : MethodName := ⟨RX11, "moved", "(I)I"⟩
abbrev cX11_close : ByteArray := prog_13_method_70_code
def yX11_close : MethodName := ⟨RX11, "close", "()I"⟩
abbrev cX11_link : ByteArray := prog_13_method_71_code
def yX11_link : MethodName := ⟨RX11, "link", "(II)I"⟩
abbrev cX11_of : ByteArray := prog_13_method_72_code
def yX11_of : MethodName := ⟨RX11, "of", "(II)I"⟩
abbrev cX11_count : ByteArray := prog_13_method_73_code
def yX11_count : MethodName := ⟨RX11, "count", "(I)I"⟩
def RJ9 : String := "java/lang/Math"
def TJ9 : u_T := fun k => match k with
  | _ => ("", "", "", false)
def tyJ9 : Nat → FieldType := fun k => match k with
  | _ => .int
abbrev wsJ90 : List Cond := u_ws RJ9 TJ9 0
theorem nmJ9 : ∀ a, a < 0 → ∀ b, b < 0 → a ≠ b → (TJ9 a).2.1 ≠ (TJ9 b).2.1 := by decide +kernel
theorem tyJ9_ok : ∀ k, k < 0 → parseFieldDescriptor (TJ9 k).2.2.1 = some (tyJ9 k) := by decide +kernel
abbrev cJ9_max_7cf53 : ByteArray := prog_14_method_65_code
def yJ9_max_7cf53 : MethodName := ⟨RJ9, "max", "(II)I"⟩
abbrev cJ9_min_7cf53 : ByteArray := prog_14_method_69_code
def yJ9_min_7cf53 : MethodName := ⟨RJ9, "min", "(II)I"⟩
def RL : String := "HostYearLaw"
abbrev cL_law : ByteArray := code
def yL_law : MethodName := ⟨RL, "law", "([I)Z"⟩
abbrev vwCl : List vw_C := [(RX0, TX0, 4), (RX1, TX1, 2), (RX2, TX2, 3), (RX3, TX3, 7), (RX4, TX4, 8), (RX5, TX5, 8), (RX6, TX6, 2), (RX7, TX7, 9), (RX8, TX8, 3), (RX9, TX9, 5), (RX10, TX10, 16), (RX11, TX11, 58)]
